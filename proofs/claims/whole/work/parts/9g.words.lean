def R_law : String := "TellFirstLaw"
def lw_P (b : Addr) (xs : List Int32) (args : Array Value) (s : State) : Prop := args = #[.ref b] ∧ s.IntsAt b xs ∧ xs.length ≤ 3072 ∧ (Jvm.Cond.and given_1 narrow_1).before args s = true
def lw_Q (_ : Array Value) (s : State) (o : Outcome) (t : State) : Prop := o = .returned (some (.int 1)) ∧ Framed s o t [] 600000 7302250
def lw_Z (below : List Frame) (a : Array Value) (s : State) : State → Prop := fun t => ∃ o, t.status = .running ∧ Ended t below o ∧ lw_Q a s o t
/-- the law's own end, with 1 on the stack, nothing written that was there before, its room as the claim has it -/
theorem lw_ret {p : Program} {l : Launch} {e : Env} {s : State} {m : MethodId} {below : List Frame} {meth : Method} {c : Code} {b : Nat} (hx : p.tables.exec = Jvm.exec) (hb : c.code = code) (hr : meth.sig.returnType = ret) (hlocks : meth.locks = false) {pc : Nat} {H : Heap} {ls : Array Slot} (hdg : decode code pc = .ok (.ireturn, 1)) : W p l e room_1 s m #[Value.ref b] below meth c H [] 600000 7302250 (lw_Z below #[Value.ref b] s) (F0 m pc ls [.int 1]) := by
  intro T hT X
  obtain ⟨fs, hret, hrun, hended, hW, hframe⟩ := X.leave (v := some (.int 1)) (hlocks := hlocks) (fun h => by rw [hr] at h; cases h)
  have hmeth' : T.vm.method? m = some meth := X.method'
  refine ⟨T.setFrames fs, ?_, .returned (some (.int 1)), hrun, hended, rfl, ⟨_, rfl⟩, hW, hframe⟩
  jvm_step X.here [X.here.top, hx, hb, hdg, hmeth', hr, ret, narrow_b1]
  (try refine ⟨rfl, ?_⟩); (try refine ⟨rfl, ?_⟩)
  first | (intro acts; rw [hret _ acts rfl rfl rfl]) | rw [hret _ _ rfl rfl rfl]
  exact Steps.refl _
/-- what holds at the law's entry: the machine, the code, the tables' words (any of lw_tbl by 'hts w (by decide +kernel)'), the script of L ints xs at the cell b, what the Statement gives of the start (any of its parts by flat_of_before) -/
def lw_At (p : Program) (s : State) (m : MethodId) (meth : Method) (c : Code) (b L : Nat) (xs : Nat → Int32) : Prop :=
  p.tables.exec = Jvm.exec ∧ c.code = code ∧ meth.sig.returnType = ret ∧ c.maxLocals = 4 ∧ s.vm.findClass R_law = some m.cls ∧ (∀ w ∈ lw_tbl, w.before #[Value.ref b] s = true) ∧ va_X b L xs s s.heap ∧ b < s.heap.size ∧ meth.locks = false ∧ (Jvm.Cond.and given_1 narrow_1).before #[Value.ref b] s = true
theorem ws_T {args : Array Value} {s : State} (hts : ∀ w ∈ lw_tbl, w.before args s = true) : ∀ w ∈ kw_T, w.before args s = true := fun w hw => hts w (List.mem_filter.mp hw).1
theorem ws_i0 : Cond.instantiable RX0 4 ∈ kw_T := kw_in 362 (by decide +kernel) rfl
theorem ws_i1 : Cond.instantiable RX1 2 ∈ kw_T := kw_in 133 (by decide +kernel) rfl
theorem ws_i2 : Cond.instantiable RX2 2 ∈ kw_T := kw_in 346 (by decide +kernel) rfl
theorem ws_i3 : Cond.instantiable RX3 5 ∈ kw_T := kw_in 459 (by decide +kernel) rfl
theorem ws_i4 : Cond.instantiable RX4 14 ∈ kw_T := kw_in 149 (by decide +kernel) rfl
theorem ws_i5 : Cond.instantiable RX5 13 ∈ kw_T := kw_in 248 (by decide +kernel) rfl
theorem ws_i6 : Cond.instantiable RX6 4 ∈ kw_T := kw_in 483 (by decide +kernel) rfl
theorem ws_i7 : Cond.instantiable RX7 11 ∈ kw_T := kw_in 415 (by decide +kernel) rfl
theorem ws_i8 : Cond.instantiable RX8 3 ∈ kw_T := kw_in 504 (by decide +kernel) rfl
theorem ws_i9 : Cond.instantiable RX9 8 ∈ kw_T := kw_in 382 (by decide +kernel) rfl
theorem ws_i10 : Cond.instantiable RX10 16 ∈ kw_T := kw_in 123 (by decide +kernel) rfl
theorem ws_i11 : Cond.instantiable RX11 52 ∈ kw_T := kw_in 1185 (by decide +kernel) rfl
theorem ws_K1 {args : Array Value} {s : State} (hT : ∀ w ∈ kw_T, w.before args s = true) : ∃ D : va_G, ∀ (c : Nat) (q : vw_C), kf_cl[c]? = some q → u_Kn s q.1 q.2.1 q.2.2 (D.1 c) (D.2 c) := by
  obtain ⟨c0, i0, k0⟩ := u_known (N := 4) hT ku_0 (hT _ ws_i0)
  obtain ⟨c1, i1, k1⟩ := u_known (N := 2) hT ku_1 (hT _ ws_i1)
  obtain ⟨c2, i2, k2⟩ := u_known (N := 2) hT ku_2 (hT _ ws_i2)
  obtain ⟨c3, i3, k3⟩ := u_known (N := 5) hT ku_3 (hT _ ws_i3)
  obtain ⟨c4, i4, k4⟩ := u_known (N := 14) hT ku_4 (hT _ ws_i4)
  obtain ⟨c5, i5, k5⟩ := u_known (N := 13) hT ku_5 (hT _ ws_i5)
  obtain ⟨c6, i6, k6⟩ := u_known (N := 4) hT ku_6 (hT _ ws_i6)
  obtain ⟨c7, i7, k7⟩ := u_known (N := 11) hT ku_7 (hT _ ws_i7)
  obtain ⟨c8, i8, k8⟩ := u_known (N := 3) hT ku_8 (hT _ ws_i8)
  obtain ⟨c9, i9, k9⟩ := u_known (N := 8) hT ku_9 (hT _ ws_i9)
  obtain ⟨c10, i10, k10⟩ := u_known (N := 16) hT ku_10 (hT _ ws_i10)
  obtain ⟨c11, i11, k11⟩ := u_known (N := 52) hT ku_11 (hT _ ws_i11)
  refine ⟨(fun c => ([c0, c1, c2, c3, c4, c5, c6, c7, c8, c9, c10, c11] : List ClassId).getD c c0, fun c => ([i0, i1, i2, i3, i4, i5, i6, i7, i8, i9, i10, i11] : List (Nat → Nat)).getD c i0), fun c q hq => ?_⟩
  have hc : c < 12 := (List.getElem?_eq_some_iff.mp hq).1
  match c, hc, hq with
  | 0, _, hq => obtain rfl := Option.some.inj (show some ((RX0, TX0, 4) : vw_C) = some q from hq); exact k0
  | 1, _, hq => obtain rfl := Option.some.inj (show some ((RX1, TX1, 2) : vw_C) = some q from hq); exact k1
  | 2, _, hq => obtain rfl := Option.some.inj (show some ((RX2, TX2, 2) : vw_C) = some q from hq); exact k2
  | 3, _, hq => obtain rfl := Option.some.inj (show some ((RX3, TX3, 5) : vw_C) = some q from hq); exact k3
  | 4, _, hq => obtain rfl := Option.some.inj (show some ((RX4, TX4, 14) : vw_C) = some q from hq); exact k4
  | 5, _, hq => obtain rfl := Option.some.inj (show some ((RX5, TX5, 13) : vw_C) = some q from hq); exact k5
  | 6, _, hq => obtain rfl := Option.some.inj (show some ((RX6, TX6, 4) : vw_C) = some q from hq); exact k6
  | 7, _, hq => obtain rfl := Option.some.inj (show some ((RX7, TX7, 11) : vw_C) = some q from hq); exact k7
  | 8, _, hq => obtain rfl := Option.some.inj (show some ((RX8, TX8, 3) : vw_C) = some q from hq); exact k8
  | 9, _, hq => obtain rfl := Option.some.inj (show some ((RX9, TX9, 8) : vw_C) = some q from hq); exact k9
  | 10, _, hq => obtain rfl := Option.some.inj (show some ((RX10, TX10, 16) : vw_C) = some q from hq); exact k10
  | 11, _, hq => obtain rfl := Option.some.inj (show some ((RX11, TX11, 52) : vw_C) = some q from hq); exact k11
theorem ws_p {s : State} {cA comp : ClassId} {kA : Class} {ty : FieldType} (h2 : s.vm.classes[cA]? = some kA) (h3 : kA.kind = .array comp ty) : ArrOfT s cA ty := fun n z => ⟨fun k h => (by cases h), kA, h2, comp, h3⟩
theorem ws_K {args : Array Value} {s : State} (hts : ∀ w ∈ lw_tbl, w.before args s = true) : ∃ (D : va_G) (tys : List (ClassId × FieldType)), va_K D kf_cl tys s ∧ tys.map (fun q => q.2) = [.int, .long, .byte, .boolean, .object "TellFirst$Tray", .array .int] := by
  have hT := ws_T hts
  obtain ⟨D, hD⟩ := ws_K1 hT
  obtain ⟨a0, b0, c0, e0, f0, g0⟩ := Cond.arrayClass_spec (hT _ ow_int)
  obtain ⟨a1, b1, c1, e1, f1, g1⟩ := Cond.arrayClass_spec (hT _ ow_long)
  obtain ⟨a2, b2, c2, e2, f2, g2⟩ := Cond.arrayClass_spec (hT _ ow_byte)
  obtain ⟨a3, b3, c3, e3, f3, g3⟩ := Cond.arrayClass_spec (hT _ ow_boolean)
  obtain ⟨c4, a4, b4, d4, -, f4, g4, e4⟩ := Cond.arrayOver_spec (hts (Cond.arrayOver (.object "TellFirst$Tray")) (List.mem_of_getElem? (i := 131) (by decide +kernel)))
  obtain ⟨c5, a5, b5, d5, -, f5, g5, e5⟩ := arrayOverA_spec (hts (Cond.arrayOver (.array .int)) (List.mem_of_getElem? (i := 489) (by decide +kernel)))
  refine ⟨D, [(a0, .int), (a1, .long), (a2, .byte), (a3, .boolean), (a4, .object "TellFirst$Tray"), (a5, .array .int)], ⟨hD, fun k q hq => ?_⟩, rfl⟩
  have hk : k < 6 := (List.getElem?_eq_some_iff.mp hq).1
  match k, hk, hq with
  | 0, _, hq => obtain rfl := Option.some.inj (show some ((a0, .int) : ClassId × FieldType) = some q from hq); exact ⟨ws_p f0 g0, e0⟩
  | 1, _, hq => obtain rfl := Option.some.inj (show some ((a1, .long) : ClassId × FieldType) = some q from hq); exact ⟨ws_p f1 g1, e1⟩
  | 2, _, hq => obtain rfl := Option.some.inj (show some ((a2, .byte) : ClassId × FieldType) = some q from hq); exact ⟨ws_p f2 g2, e2⟩
  | 3, _, hq => obtain rfl := Option.some.inj (show some ((a3, .boolean) : ClassId × FieldType) = some q from hq); exact ⟨ws_p f3 g3, e3⟩
  | 4, _, hq => obtain rfl := Option.some.inj (show some ((a4, .object "TellFirst$Tray") : ClassId × FieldType) = some q from hq); exact ⟨ws_p f4 g4, ⟨b4, c4, f4, g4, d4, e4⟩⟩
  | 5, _, hq => obtain rfl := Option.some.inj (show some ((a5, .array .int) : ClassId × FieldType) = some q from hq); exact ⟨ws_p f5 g5, e5⟩
set_option maxRecDepth 100000 in
theorem ws_el : ∀ j, j < 71 → Cond.eq (.elem (.field (.string "TellFirst$NetReader" 26) "java/lang/String" "value" "[B") (.int (Int32.ofNat j))) (.int (ks_b.getD j 0)) ∈ flatC (Jvm.Cond.and given_1 narrow_1) := by decide +kernel
theorem ws_E {b : Nat} {s : State} (hts : ∀ w ∈ lw_tbl, w.before #[Value.ref b] s = true) (hgv : (Jvm.Cond.and given_1 narrow_1).before #[Value.ref b] s = true) : ∃ aK aV : Nat, kE s.heap.size aK aV s := by
  have hs := flat_of_before _ hgv
  have hA : ∀ a : Nat, a < s.heap.size → ¬ s.heap.size ≤ a := fun a h => by omega
  have h0 : ∀ {i : Nat}, i < 1 → i = 0 := fun h => by omega
  obtain ⟨adK, adV, hS, he⟩ := vk_Sof (args := #[Value.ref b]) (s := s) (N := 1) (tm := fun _ => .string "TellFirst$NetReader" 26) (len := [71]) (byt := [ks_b]) (A := fun q => s.heap.size ≤ q)
    (fun i hi => by cases h0 hi; decide)
    (fun i hi => hs _ (by decide +kernel)) (fun i hi => hs _ (by decide +kernel)) (fun i hi => hs _ (by decide +kernel))
    (fun i hi => by cases h0 hi; exact hs _ (by decide +kernel))
    (fun i hi j hj => by cases h0 hi; exact hs _ (ws_el j hj))
    (fun i j hi hj h => absurd ((h0 hi).trans (h0 hj).symm) h) hA
  refine ⟨adK 0, adV 0, Nat.le_refl _, ⟨fun i hi => ?_, fun i j hi hj _ => (h0 hi).trans (h0 hj).symm⟩, ?_, ?_, ?_, ?_, ?_⟩
  · cases h0 hi
    exact hS.1 0 hi
  · exact va_Zof (hts _ (List.mem_of_getElem? (i := 263) (by decide +kernel))) (hts _ (List.mem_of_getElem? (i := 106) (by decide +kernel))) (va_eqi (hs _ (by decide +kernel))) hA
  · exact va_Zqof (hts _ (List.mem_of_getElem? (i := 279) (by decide +kernel))) (hts _ (List.mem_of_getElem? (i := 108) (by decide +kernel))) (hs _ (by decide +kernel)) hA
  · exact vk_R.of (hts _ (List.mem_of_getElem? (i := 253) (by decide +kernel))) (he 0 (by decide))
  · exact va_AO.of (hts _ (List.mem_of_getElem? (i := 131) (by decide +kernel)))
  · exact (hts (Cond.arrayOver (.array .int)) (List.mem_of_getElem? (i := 489) (by decide +kernel)))
