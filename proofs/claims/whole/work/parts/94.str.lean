/-! the one text of the program; methods of the JDK that read it -/
def ks_b : List Int32 := [112, 101, 114, 115, 111, 110, 32, 116, 105, 101, 32, 116, 111, 32, 111, 100, 100, 115, 32, 118, 97, 108, 108, 101, 121, 32, 109, 111, 115, 116, 32, 105, 110, 32, 110, 101, 101, 100, 115, 32, 108, 97, 116, 101, 32, 115, 116, 117, 98, 98, 111, 114, 110, 32, 99, 111, 115, 116, 115, 32, 104, 111, 117, 114, 115, 32, 98, 97, 99, 107, 32]
def kE (B aK aV : Nat) (U : State) : Prop := B ≤ U.heap.size ∧ vk_S 1 [71] [ks_b] (fun _ => aK) (fun _ => aV) (fun q => B ≤ q) U U.heap ∧ va_Z "java/lang/String" "COMPACT_STRINGS" "Z" (.int 1) (fun q => B ≤ q) U U.heap ∧ va_Zq "jdk/internal/util/Preconditions" "SIOOBE_FORMATTER" "Ljava/util/function/BiFunction;" (fun q => B ≤ q) U U.heap ∧ vk_R "TellFirst$NetReader" 26 "person tie to odds valley most in needs late stubborn costs hours back " aK U ∧ va_AO "TellFirst$Tray" U ∧ (Cond.arrayOver (.array .int)).before #[] U = true
theorem kE_to {B aK aV : Nat} {s U : State} {A : Nat → Prop} {locs : List Loc} (h : kE B aK aV s) (hS : va_S A s.heap U.heap locs) (hA : ∀ q, A q → B ≤ q) (hW : s.WarmedH U.vm) : kE B aK aV U := by
  obtain ⟨h1, h2, h3, h4, h5, h6, h7⟩ := h
  have hk : ∀ a : Nat, a < s.heap.size → ¬ B ≤ a → U.heap[a]? = s.heap[a]? := fun a q1 q2 => hS.2.1 a q1 (fun q => q2 (hA a q))
  exact ⟨Nat.le_trans h1 hS.1, vk_S.moved hW.alike (h2.kept hk), va_Z.moved hW.alike (h3.kept hk), va_Zq.moved hW.alike (h4.kept hk), h5.warm hW, va_AO.moved hW.alike h6, over_moved hW.alike h7⟩
theorem kE_bl {B aK aV : Nat} : kj_bl (kE B aK aV) := by
  intro a U g' mk h
  obtain ⟨h1, h2, h3, h4, h5, h6, h7⟩ := h
  have hr : U.vm.Alike (U.calling g' mk a).vm := Vm.Alike.refl U.vm
  exact ⟨h1, vk_S.moved hr h2, va_Z.moved hr h3, va_Zq.moved hr h4, h5.same rfl, va_AO.moved hr h6, over_moved hr h7⟩
def kr_C (g : kf_G) (y : MethodName) (b : ByteArray) (mL : Nat) (ret : Option FieldType) (fr lc B : Nat) (E : State → Prop) (av : List Value) (Post : Option Value → Prop) : Prop := ∀ sz : Nat, B ≤ sz → Met g.1 y (kf_W y b mL ret) { frames := fr, cells := 0, slots := 0, locals := lc } (va_Pc av (fun U => U.heap.size = sz ∧ va_K g.2.1 kf_cl g.2.2.1 U ∧ E U)) (fun _ st oc t => (∃ r : Option Value, oc = .returned r ∧ Post r) ∧ va_F (va_A [] sz) st t) 0 0 (va_A [] sz)
theorem kr_in {sz q : Nat} (h : va_A [] sz q) : sz ≤ q := by
  rcases h with ⟨k, e, h⟩ | h
  · cases h
  · exact h
theorem kr_ent {g : kf_G} {y : MethodName} {b : ByteArray} {nL fr lc B : Nat} {ret : Option FieldType} {E : State → Prop} {av : List Value} {Post : Option Value → Prop} (hg : g.2.2.1.map (fun q => q.2) = [.int, .long, .byte, .boolean, .object "TellFirst$Tray", .array .int]) (hy : plainName y.cls = true) (hn : (lg_sl av).length ≤ nL)
    (body : ∀ x : kj_X, B ≤ kj_sz x → kj_ok g x y.cls b nL fr lc 0 0 → E (kj_st x) → (∀ q, kj_A x q → kj_sz x ≤ q) → (∀ (pc : Nat) (lv : List (Nat × Value)) (v : Int32) (ty : FieldType), ret = some ty → narrow ty (.int v) = .int v → decode b pc = .ok (.ireturn, 1) → Post (some (.int v)) → kj_M g x nL pc lv [.int v] 0 0 []) → (∀ (pc : Nat) (lv : List (Nat × Value)), ret = none → decode b pc = .ok (.return_, 1) → Post none → kj_M g x nL pc lv [] 0 0 []) → kj_M g x nL 0 (lv_args 0 av) [] 0 0 []) : kr_C g y b nL ret fr lc B E av Post := by
  intro sz hB
  refine Met.ofW (cc := b) (maxL := nL) (ret := ret) hy rfl ?_
  intro p e s m args' below meth c s₁ Bd hml hv
  obtain ⟨rfl, hsz, hK, hE⟩ := hv
  subst hsz
  have hts := atoms_spec (ws := kf_W y b nL ret) Bd.pre
  have hown : s.vm.findClass y.cls = some m.cls := findClass_of_methodNamed Bd.named
  have hlocks := Bd.notSynchronized
  have hl := lv_entry av (n := nL) hn
  rw [lg_entry_eq]
  generalize (lg_sl av ++ List.replicate (nL - (lg_sl av).length) Slot.unset).toArray = ls at hl ⊢
  refine body (p, e, { frames := fr, cells := 0, slots := 0, locals := lc }, s, m, av.toArray, below, meth, c, va_A [] s.heap.size, MQ below (fun _ st oc t => (∃ r : Option Value, oc = .returned r ∧ Post r) ∧ va_F (va_A [] s.heap.size) st t) av.toArray s 0 0 (va_A [] s.heap.size)) hB ?_ hE (fun q h => kr_in h) ?_ ?_ s.heap [] ls hl (Nat.le_refl _) (fun k q h => by cases h) ⟨fun i j p q h => by (cases h), fun k q h => by cases h⟩ va_S.rf
  · exact ⟨Bd.exec, Bd.bytes, hml, hown, fun w hw => hts w (List.mem_cons_of_mem _ hw), hK, hg, fun q h => Or.inr h, Nat.le_refl _, Nat.le_refl _, Nat.le_refl _, Nat.le_refl _⟩
  · intro pc lv v ty hr hna hd hPo H locs ls' hl' hz' hP' hD' hS'
    exact W.zret (ty := ty) Bd.exec Bd.bytes (Bd.returns.trans hr) hna (fun t ht hW => ⟨⟨_, rfl, hPo⟩, hS'.F ht⟩) hS'.2.2 hd
  · intro pc lv hr hd hPo H locs ls' hl' hz' hP' hD' hS'
    exact W.vret Bd.exec Bd.bytes (Bd.returns.trans hr) (fun t ht hW => ⟨⟨_, rfl, hPo⟩, hS'.F ht⟩) hS'.2.2 hd
section KR
variable {g : kf_G} {x : kj_X} {own : String} {cc : ByteArray} {nL fr lc mc ms pc k n : Nat} {lv lv' : List (Nat × Value)} {st : List Value} {ws ws' : va_W}
theorem kr_aft {p : Program} {e : Env} {R : Room} {s : State} {m : MethodId} {args : Array Value} {below : List Frame} {meth : Method} {cM : Code} {A : Nat → Prop} {Q : State → Prop} {rest : List Value} {ls : Array Slot} {H : Heap} {locs : List Loc} {st0 : List Value} {aa : Array Value} {Post : Option Value → Prop}
    (hz : ∀ q : Nat, s.heap.size ≤ q → A q) (hlv : lv_has ls nL lv) (hsz : s.heap.size + k ≤ H.size) (hP : va_P g.2.1 kf_cl ws H) (hD : va_D A ws) (hS : va_S A s.heap H locs)
    (hrun : va_Run p g.1 e R s m args below meth cM H locs k n 0 0 (F0 m pc ls st0) rest ((fun _ st oc t => (∃ r : Option Value, oc = .returned r ∧ Post r) ∧ va_F (va_A [] H.size) st t : Array Value → State → Outcome → State → Prop) aa) (va_A [] H.size))
    (kk : ∀ r : Option Value, Post r → kj_M g (p, e, R, s, m, args, below, meth, cM, A, Q) nL (pc + 3) lv (r.toList ++ rest) k n ws) :
    W p g.1 e R s m args below meth cM H locs k n Q (F0 m pc ls st0) := by
  intro T hT X
  obtain ⟨v, st₀, t, T', L, e0, X', hL, e1, e2, hq, go⟩ := hrun T hT X
  obtain ⟨⟨r, er, hPr⟩, hF⟩ := hq
  cases er
  have hF1 : H.size ≤ t.heap.size := by have := hF.1; rw [e0] at this; exact this
  have hsame : ∀ q, q < H.size → t.heap[q]? = H[q]? := fun q h1 => by
    have h3 : q < st₀.heap.size := by rw [e0]; exact h1
    rw [hF.2 q h3 (fun h => by have := kr_in h; omega), e0]
  have hS' : va_S A s.heap t.heap (locs ++ L) := by
    refine ⟨Nat.le_trans hS.1 hF1, fun q h1 h2 => ?_, fun q hq => ?_⟩
    · rw [hsame q (Nat.lt_of_lt_of_le h1 hS.1)]
      exact hS.2.1 q h1 h2
    · rcases List.mem_append.mp hq with h | h
      · exact hS.2.2 q h
      · exact hz _ (Nat.le_trans hS.1 (kr_in (hL q h)))
  have hP' : va_P g.2.1 kf_cl ws t.heap := hP.kept (fun k x hx => hsame x.1 ((hP k x hx).lt))
  obtain ⟨tt, a1, b1⟩ := kk v hPr t.heap (locs ++ L) ls hlv (Nat.le_trans hsz hF1) hP' hD hS' T' e1 X'
  exact ⟨tt, go tt a1, b1⟩
theorem kr_callS (hx : kj_ok g x own cc nL fr lc mc ms) {idx mL n' fr' lc' B : Nat} {y : MethodName} {b : ByteArray} {ret : Option FieldType} {E : State → Prop} {As : List Value} {Post : Option Value → Prop} (hC : kr_C g y b mL ret fr' lc' B E As Post) (hl : Cond.methodLink own idx y ∈ kw_T) (hm : kf_ms y b mL ret n') (hn : As.length = n') (hB : B ≤ kj_sz x) (hEb : kj_bl E) (hE : ∀ (H : Heap) (locs : List Loc), va_S (kj_A x) (kj_st x).heap H locs → ∀ U : State, U.heap = H → (kj_st x).WarmedH U.vm → E U) (hR : fr' + 1 ≤ fr ∧ 8 + (mL + 11) + lc' ≤ lc) (hk : k ≤ mc) (hs : n ≤ ms) {st0 : List Value} (he : st0 = As.reverse ++ st) (hst : (st.map fun v => v.category).sum ≤ 8) (hd : decode cc pc = .ok (.invokestatic idx, 3)) (kk : ∀ r : Option Value, Post r → kj_M g x nL (pc + 3) lv (r.toList ++ st) k n ws) : kj_M g x nL pc lv st0 k n ws := by
  obtain ⟨p, e, R, s, m, args, below, meth, c, A, Q⟩ := x
  obtain ⟨h1, h2, h3, h4, h5, h6, h7, h8, h9, h10, h11, h12⟩ := hx
  obtain ⟨m1, m2, m3, m4, m5, m6⟩ := hm
  subst he
  intro H locs ls hlv hz0 hP hD hS
  have hpre : PreS s H (va_Pc As (fun U => U.heap.size = H.size ∧ va_K g.2.1 kf_cl g.2.2.1 U ∧ E U)) As := by
    refine ⟨?_, fun U hU hW => ⟨rfl, by rw [hU], va_K.moved hW.alike h6, hE H locs hS U hU hW⟩⟩
    intro a U g' mk q
    obtain ⟨q0, q1, q3, q4⟩ := q
    exact ⟨q0, q1, va_K.moved (u := U) (U := U.calling g' mk a) (Vm.Alike.refl U.vm) q3, hEb a U g' mk q4⟩
  have hlen : ∀ sig, parseMethodDescriptor y.desc = some sig → n' = sig.parameters.length := fun sig h => by
    rw [h] at m6
    exact (Option.some.inj m6).symm
  have hall : ∀ w ∈ kf_W y b mL ret, ∀ (a' : Array Value) (U : State), s.WarmedH U.vm → w.before a' U = true := by
    intro w hw
    rcases List.mem_cons.mp hw with h | h
    · rw [h]; exact kw_pay h5 _ m3
    · exact kw_pay h5 _ h
  have hcw : Cond.code y b mL ret ∈ kf_W y b mL ret := List.mem_cons_self
  exact kr_aft (aa := As.toArray) (Post := Post) h8 hlv hz0 hP hD hS (va_runS (Ts := kw_T) ⟨h1, h2, h3, h4, h5⟩ (hC H.size (Nat.le_trans hB hS.1)) ⟨⟨rfl, rfl, Nat.le_trans hR.1 h9, Nat.le_trans hR.2 h10, hall, hcw, h5 _ m3, h5 _ m2, ⟨m4, m5⟩, hlen, h5 _ hl⟩, h5 _ m1⟩ hpre rfl hn hlv.1 rfl (lv_room hst) hd ⟨Nat.le_trans hk h11, Nat.le_trans hs h12⟩) kk
theorem kr_callV (hx : kj_ok g x own cc nL fr lc mc ms) {idx mL n' fr' lc' B q : Nat} {y : MethodName} {b : ByteArray} {ret : Option FieldType} {E : State → Prop} {As : List Value} {Post : Option Value → Prop} (hC : kr_C g y b mL ret fr' lc' B E (.ref q :: As) Post) (hl : Cond.methodLink own idx y ∈ kw_T) (hm : kf_mv y b mL ret n') (hr : ∀ (H : Heap) (locs : List Loc), va_S (kj_A x) (kj_st x).heap H locs → ∃ cellB : Cell, H[q]? = some cellB ∧ cellB.vm.isStatics = false ∧ (kj_st x).vm.findClass y.cls = some cellB.cls) (hn : As.length = n') (hB : B ≤ kj_sz x) (hEb : kj_bl E) (hE : ∀ (H : Heap) (locs : List Loc), va_S (kj_A x) (kj_st x).heap H locs → ∀ U : State, U.heap = H → (kj_st x).WarmedH U.vm → E U) (hR : fr' + 1 ≤ fr ∧ 8 + (mL + 11) + lc' ≤ lc) (hk : k ≤ mc) (hs : n ≤ ms) {st0 : List Value} (he : st0 = As.reverse ++ .ref q :: st) (hst : (st.map fun v => v.category).sum ≤ 8) (hd : decode cc pc = .ok (.invokevirtual idx, 3)) (kk : ∀ r : Option Value, Post r → kj_M g x nL (pc + 3) lv (r.toList ++ st) k n ws) : kj_M g x nL pc lv st0 k n ws := by
  obtain ⟨p, e, R, s, m, args, below, meth, c, A, Q⟩ := x
  obtain ⟨h1, h2, h3, h4, h5, h6, h7, h8, h9, h10, h11, h12⟩ := hx
  obtain ⟨⟨m0, m1⟩, m2, m3, m4, m5, m6⟩ := hm
  subst he
  intro H locs ls hlv hz0 hP hD hS
  have hpre : PreV s H y.cls q (va_Pc (.ref q :: As) (fun U => U.heap.size = H.size ∧ va_K g.2.1 kf_cl g.2.2.1 U ∧ E U)) As := by
    refine ⟨?_, hr H locs hS, fun U hU hW => ⟨rfl, by rw [hU], va_K.moved hW.alike h6, hE H locs hS U hU hW⟩⟩
    intro a U g' mk q
    obtain ⟨q0, q1, q3, q4⟩ := q
    exact ⟨q0, q1, va_K.moved (u := U) (U := U.calling g' mk a) (Vm.Alike.refl U.vm) q3, hEb a U g' mk q4⟩
  have hlen : ∀ sig, parseMethodDescriptor y.desc = some sig → n' = sig.parameters.length := fun sig h => by
    rw [h] at m6
    exact (Option.some.inj m6).symm
  have hall : ∀ w ∈ kf_W y b mL ret, ∀ (a' : Array Value) (U : State), s.WarmedH U.vm → w.before a' U = true := by
    intro w hw
    rcases List.mem_cons.mp hw with h | h
    · rw [h]; exact kw_pay h5 _ m3
    · exact kw_pay h5 _ h
  have hcw : Cond.code y b mL ret ∈ kf_W y b mL ret := List.mem_cons_self
  exact kr_aft (aa := (Value.ref q :: As).toArray) (Post := Post) h8 hlv hz0 hP hD hS (va_runV (Ts := kw_T) ⟨h1, h2, h3, h4, h5⟩ (hC H.size (Nat.le_trans hB hS.1)) ⟨⟨rfl, rfl, Nat.le_trans hR.1 h9, Nat.le_trans hR.2 h10, hall, hcw, h5 _ m3, h5 _ m2, ⟨m4, m5⟩, hlen, h5 _ hl⟩, h5 _ m0, h5 _ m1⟩ hpre rfl hn hlv.1 rfl (lv_room hst) hd ⟨Nat.le_trans hk h11, Nat.le_trans hs h12⟩) kk
theorem kr_ishr (hx : kj_ok g x own cc nL fr lc mc ms) {a b : Int32} (hd : decode cc pc = .ok (.ishr, 1))  (kk : kj_M g x nL (pc + 1) lv (.int (a >>> (b &&& 31)) :: st) k n ws) : kj_M g x nL pc lv (.int b :: .int a :: st) k n ws := by
  obtain ⟨p, e, R, s, m, args, below, meth, c, A, Q⟩ := x
  obtain ⟨h1, h2, h3, h4, h5, -⟩ := hx
  intro H locs ls hl hz hP hD hS
  exact lv_ishr h1 h2 hd (kk H locs ls hl hz hP hD hS)
theorem kr_iand (hx : kj_ok g x own cc nL fr lc mc ms) {a b : Int32} (hd : decode cc pc = .ok (.iand, 1))  (kk : kj_M g x nL (pc + 1) lv (.int (a &&& b) :: st) k n ws) : kj_M g x nL pc lv (.int b :: .int a :: st) k n ws := by
  obtain ⟨p, e, R, s, m, args, below, meth, c, A, Q⟩ := x
  obtain ⟨h1, h2, h3, h4, h5, -⟩ := hx
  intro H locs ls hl hz hP hD hS
  exact lv_iand h1 h2 hd (kk H locs ls hl hz hP hD hS)
theorem kr_iadd (hx : kj_ok g x own cc nL fr lc mc ms) {a b : Int32} (hd : decode cc pc = .ok (.iadd, 1))  (kk : kj_M g x nL (pc + 1) lv (.int (a + b) :: st) k n ws) : kj_M g x nL pc lv (.int b :: .int a :: st) k n ws := by
  obtain ⟨p, e, R, s, m, args, below, meth, c, A, Q⟩ := x
  obtain ⟨h1, h2, h3, h4, h5, -⟩ := hx
  intro H locs ls hl hz hP hD hS
  exact lv_iadd h1 h2 hd (kk H locs ls hl hz hP hD hS)
theorem kr_isub (hx : kj_ok g x own cc nL fr lc mc ms) {a b : Int32} (hd : decode cc pc = .ok (.isub, 1))  (kk : kj_M g x nL (pc + 1) lv (.int (a - b) :: st) k n ws) : kj_M g x nL pc lv (.int b :: .int a :: st) k n ws := by
  obtain ⟨p, e, R, s, m, args, below, meth, c, A, Q⟩ := x
  obtain ⟨h1, h2, h3, h4, h5, -⟩ := hx
  intro H locs ls hl hz hP hD hS
  exact lv_isub h1 h2 hd (kk H locs ls hl hz hP hD hS)
theorem kr_i2l (hx : kj_ok g x own cc nL fr lc mc ms) {a : Int32} (hd : decode cc pc = .ok (.i2l, 1))  (kk : kj_M g x nL (pc + 1) lv (.long a.toInt64 :: st) k n ws) : kj_M g x nL pc lv (.int a :: st) k n ws := by
  obtain ⟨p, e, R, s, m, args, below, meth, c, A, Q⟩ := x
  obtain ⟨h1, h2, h3, h4, h5, -⟩ := hx
  intro H locs ls hl hz hP hD hS
  exact lv_i2l h1 h2 hd rfl (kk H locs ls hl hz hP hD hS)
theorem kr_lor (hx : kj_ok g x own cc nL fr lc mc ms) {a b : Int64} (hd : decode cc pc = .ok (.lor, 1))  (kk : kj_M g x nL (pc + 1) lv (.long (a ||| b) :: st) k n ws) : kj_M g x nL pc lv (.long b :: .long a :: st) k n ws := by
  obtain ⟨p, e, R, s, m, args, below, meth, c, A, Q⟩ := x
  obtain ⟨h1, h2, h3, h4, h5, -⟩ := hx
  intro H locs ls hl hz hP hD hS
  exact lv_lor h1 h2 hd (kk H locs ls hl hz hP hD hS)
theorem kr_lshl (hx : kj_ok g x own cc nL fr lc mc ms) {a : Int64} {b : Int32} (hd : decode cc pc = .ok (.lshl, 1))  (kk : kj_M g x nL (pc + 1) lv (.long (a <<< (b.toInt64 &&& 63)) :: st) k n ws) : kj_M g x nL pc lv (.int b :: .long a :: st) k n ws := by
  obtain ⟨p, e, R, s, m, args, below, meth, c, A, Q⟩ := x
  obtain ⟨h1, h2, h3, h4, h5, -⟩ := hx
  intro H locs ls hl hz hP hD hS
  exact lv_lshl h1 h2 hd rfl (kk H locs ls hl hz hP hD hS)
theorem kr_i2c (hx : kj_ok g x own cc nL fr lc mc ms) {a v : Int32} (hd : decode cc pc = .ok (.i2c, 1)) (hv : (a.toUInt32 % 65536).toInt32 = v) (kk : kj_M g x nL (pc + 1) lv (.int v :: st) k n ws) : kj_M g x nL pc lv (.int a :: st) k n ws := by
  obtain ⟨p, e, R, s, m, args, below, meth, c, A, Q⟩ := x
  obtain ⟨h1, h2, h3, h4, h5, -⟩ := hx
  intro H locs ls hl hz hP hD hS
  exact lv_i2c h1 h2 hd hv (kk H locs ls hl hz hP hD hS)
theorem kr_pop (hx : kj_ok g x own cc nL fr lc mc ms) {va : Value} (hd : decode cc pc = .ok (.pop, 1)) (hv : va.category = 1) (kk : kj_M g x nL (pc + 1) lv (st) k n ws) : kj_M g x nL pc lv (va :: st) k n ws := by
  obtain ⟨p, e, R, s, m, args, below, meth, c, A, Q⟩ := x
  obtain ⟨h1, h2, h3, h4, h5, -⟩ := hx
  intro H locs ls hl hz hP hD hS
  exact lv_pop h1 h2 hd hv (kk H locs ls hl hz hP hD hS)
theorem kr_if_eq (hx : kj_ok g x own cc nL fr lc mc ms) {a : Int32} {off : Int} (tgt : Nat) (hd : decode cc pc = .ok (.ifCond .eq off, 3)) (ht : (pc : Int) + off = (tgt : Int)) (kt : a = 0 → kj_M g x nL tgt lv st k n ws) (ke : ¬ a = 0 → kj_M g x nL (pc + 3) lv st k n ws) : kj_M g x nL pc lv (.int a :: st) k n ws := by
  obtain ⟨p, e, R, s, m, args, below, meth, c, A, Q⟩ := x
  obtain ⟨h1, h2, h3, h4, h5, -⟩ := hx
  intro H locs ls hl hz hP hD hS
  exact lv_if_eq h1 h2 hd ht (fun z => kt z H locs ls hl hz hP hD hS) (fun z => ke z H locs ls hl hz hP hD hS)
theorem kr_if_lt (hx : kj_ok g x own cc nL fr lc mc ms) {a : Int32} {off : Int} (tgt : Nat) (hd : decode cc pc = .ok (.ifCond .lt off, 3)) (ht : (pc : Int) + off = (tgt : Int)) (kt : a < 0 → kj_M g x nL tgt lv st k n ws) (ke : ¬ a < 0 → kj_M g x nL (pc + 3) lv st k n ws) : kj_M g x nL pc lv (.int a :: st) k n ws := by
  obtain ⟨p, e, R, s, m, args, below, meth, c, A, Q⟩ := x
  obtain ⟨h1, h2, h3, h4, h5, -⟩ := hx
  intro H locs ls hl hz hP hD hS
  exact lv_if_lt h1 h2 hd ht (fun z => kt z H locs ls hl hz hP hD hS) (fun z => ke z H locs ls hl hz hP hD hS)
theorem kr_icmp_lt (hx : kj_ok g x own cc nL fr lc mc ms) {a b : Int32} {off : Int} (tgt : Nat) (hd : decode cc pc = .ok (.if_icmp .lt off, 3)) (ht : (pc : Int) + off = (tgt : Int)) (kt : a < b → kj_M g x nL tgt lv st k n ws) (ke : ¬ a < b → kj_M g x nL (pc + 3) lv st k n ws) : kj_M g x nL pc lv (.int b :: .int a :: st) k n ws := by
  obtain ⟨p, e, R, s, m, args, below, meth, c, A, Q⟩ := x
  obtain ⟨h1, h2, h3, h4, h5, -⟩ := hx
  intro H locs ls hl hz hP hD hS
  exact lv_icmp_lt h1 h2 hd ht (fun z => kt z H locs ls hl hz hP hD hS) (fun z => ke z H locs ls hl hz hP hD hS)
theorem kr_if_ne (hx : kj_ok g x own cc nL fr lc mc ms) {a : Int32} {off : Int} (tgt : Nat) (hd : decode cc pc = .ok (.ifCond .ne off, 3)) (ht : (pc : Int) + off = (tgt : Int)) (kt : ¬ a = 0 → kj_M g x nL tgt lv st k n ws) (ke : a = 0 → kj_M g x nL (pc + 3) lv st k n ws) : kj_M g x nL pc lv (.int a :: st) k n ws := by
  obtain ⟨p, e, R, s, m, args, below, meth, c, A, Q⟩ := x
  obtain ⟨h1, h2, h3, h4, h5, -⟩ := hx
  intro H locs ls hl hz hP hD hS
  exact lv_if_ne h1 h2 hd ht (fun z => kt z H locs ls hl hz hP hD hS) (fun z => ke z H locs ls hl hz hP hD hS)
theorem kr_icmp_ne (hx : kj_ok g x own cc nL fr lc mc ms) {a b : Int32} {off : Int} (tgt : Nat) (hd : decode cc pc = .ok (.if_icmp .ne off, 3)) (ht : (pc : Int) + off = (tgt : Int)) (kt : ¬ a = b → kj_M g x nL tgt lv st k n ws) (ke : a = b → kj_M g x nL (pc + 3) lv st k n ws) : kj_M g x nL pc lv (.int b :: .int a :: st) k n ws := by
  obtain ⟨p, e, R, s, m, args, below, meth, c, A, Q⟩ := x
  obtain ⟨h1, h2, h3, h4, h5, -⟩ := hx
  intro H locs ls hl hz hP hD hS
  exact lv_icmp_ne h1 h2 hd ht (fun z => kt z H locs ls hl hz hP hD hS) (fun z => ke z H locs ls hl hz hP hD hS)
/-- the text's facts in a walk: nothing from B on is in the text -/
def ks_ok (x : kj_X) (B aK aV : Nat) : Prop := kE B aK aV (kj_st x) ∧ ∀ q, kj_A x q → B ≤ q
theorem kr_gs (hx : kj_ok g x own cc nL fr lc mc ms) {B aK aV idx : Nat} (hs : ks_ok x B aK aV) (hl : Cond.fieldLink own idx "java/lang/String" "COMPACT_STRINGS" "Z" ∈ kw_T) (hd : decode cc pc = .ok (.getstatic idx, 3)) (kk : kj_M g x nL (pc + 3) lv (.int 1 :: st) k n ws) : kj_M g x nL pc lv st k n ws := by
  obtain ⟨p, e, R, s, m, args, below, meth, c, A, Q⟩ := x
  obtain ⟨h1, h2, h3, h4, h5, -⟩ := hx
  obtain ⟨⟨-, -, q3, -⟩, qA⟩ := hs
  intro H locs ls hl' hz hP hD hS
  exact va_gets h1 h2 (q3.narrow qA) hS h4 (h5 _ hl) (fun _ h => h) hd (kk H locs ls hl' hz hP hD hS)
theorem kr_gf (hx : kj_ok g x own cc nL fr lc mc ms) {B aK aV idx : Nat} (hs : ks_ok x B aK aV) (hl : Cond.fieldLink own idx "jdk/internal/util/Preconditions" "SIOOBE_FORMATTER" "Ljava/util/function/BiFunction;" ∈ kw_T) (hd : decode cc pc = .ok (.getstatic idx, 3)) (kk : ∀ v : Value, (v = .null ∨ ∃ t : Nat, v = .ref t) → kj_M g x nL (pc + 3) lv (v :: st) k n ws) : kj_M g x nL pc lv st k n ws := by
  obtain ⟨p, e, R, s, m, args, below, meth, c, A, Q⟩ := x
  obtain ⟨h1, h2, h3, h4, h5, -⟩ := hx
  obtain ⟨⟨-, -, -, q4, -⟩, qA⟩ := hs
  intro H locs ls hl' hz hP hD hS
  rcases q4 with q4 | ⟨t, q4⟩
  · exact va_gets h1 h2 (q4.narrow qA) hS h4 (h5 _ hl) (fun _ h => h) hd (kk _ (Or.inl rfl) H locs ls hl' hz hP hD hS)
  · exact va_gets h1 h2 (q4.narrow qA) hS h4 (h5 _ hl) (fun _ h => h) hd (kk _ (Or.inr ⟨t, rfl⟩) H locs ls hl' hz hP hD hS)
theorem kr_coder (hx : kj_ok g x own cc nL fr lc mc ms) {B aK aV idx : Nat} (hs : ks_ok x B aK aV) (hl : Cond.fieldLink own idx "java/lang/String" "coder" "B" ∈ kw_T) (hd : decode cc pc = .ok (.getfield idx, 3)) (kk : kj_M g x nL (pc + 3) lv (.int 0 :: st) k n ws) : kj_M g x nL pc lv (.ref aK :: st) k n ws := by
  obtain ⟨p, e, R, s, m, args, below, meth, c, A, Q⟩ := x
  obtain ⟨h1, h2, h3, h4, h5, -⟩ := hx
  obtain ⟨⟨-, q2, -⟩, qA⟩ := hs
  intro H locs ls hl' hz hP hD hS
  exact vk_getf h1 h2 (((q2.narrow qA).1 0 (by decide)).2.1) hS h4 (h5 _ hl) (fun _ h => h) hd (kk H locs ls hl' hz hP hD hS)
theorem kr_value (hx : kj_ok g x own cc nL fr lc mc ms) {B aK aV idx : Nat} (hs : ks_ok x B aK aV) (hl : Cond.fieldLink own idx "java/lang/String" "value" "[B" ∈ kw_T) (hd : decode cc pc = .ok (.getfield idx, 3)) (kk : kj_M g x nL (pc + 3) lv (.ref aV :: st) k n ws) : kj_M g x nL pc lv (.ref aK :: st) k n ws := by
  obtain ⟨p, e, R, s, m, args, below, meth, c, A, Q⟩ := x
  obtain ⟨h1, h2, h3, h4, h5, -⟩ := hx
  obtain ⟨⟨-, q2, -⟩, qA⟩ := hs
  intro H locs ls hl' hz hP hD hS
  exact vk_getf h1 h2 (((q2.narrow qA).1 0 (by decide)).2.2.1) hS h4 (h5 _ hl) (fun _ h => h) hd (kk H locs ls hl' hz hP hD hS)
theorem kr_vlen (hx : kj_ok g x own cc nL fr lc mc ms) {B aK aV : Nat} (hs : ks_ok x B aK aV) (hd : decode cc pc = .ok (.arraylength, 1)) (kk : kj_M g x nL (pc + 1) lv (.int 71 :: st) k n ws) : kj_M g x nL pc lv (.ref aV :: st) k n ws := by
  obtain ⟨p, e, R, s, m, args, below, meth, c, A, Q⟩ := x
  obtain ⟨h1, h2, h3, h4, h5, -⟩ := hx
  obtain ⟨⟨-, q2, -⟩, qA⟩ := hs
  intro H locs ls hl' hz hP hD hS
  exact va_tlen h1 h2 (((q2.narrow qA).1 0 (by decide)).2.2.2) hS rfl hd (kk H locs ls hl' hz hP hD hS)
theorem kr_vld (hx : kj_ok g x own cc nL fr lc mc ms) {B aK aV j : Nat} (hs : ks_ok x B aK aV) (hj : j < 71) (hd : decode cc pc = .ok (.baload, 1)) (kk : kj_M g x nL (pc + 1) lv (.int (ks_b.getD j 0) :: st) k n ws) : kj_M g x nL pc lv (.int (nI j) :: .ref aV :: st) k n ws := by
  obtain ⟨p, e, R, s, m, args, below, meth, c, A, Q⟩ := x
  obtain ⟨h1, h2, h3, h4, h5, -⟩ := hx
  obtain ⟨⟨-, q2, -⟩, qA⟩ := hs
  intro H locs ls hl' hz hP hD hS
  exact va_tb h1 h2 (((q2.narrow qA).1 0 (by decide)).2.2.2) hS (nI_in (show j < 71 from hj) (by decide)) (by rw [nI_clamp (by omega)]; rfl) hd (kk H locs ls hl' hz hP hD hS)
theorem kr_str {B aK aV : Nat} (hs : ks_ok x B aK aV) (H : Heap) (locs : List Loc) (hS : va_S (kj_A x) (kj_st x).heap H locs) : ∃ cellB : Cell, H[aK]? = some cellB ∧ cellB.vm.isStatics = false ∧ (kj_st x).vm.findClass "java/lang/String" = some cellB.cls := by
  obtain ⟨⟨-, q2, -⟩, qA⟩ := hs
  exact vk_recv (q2.narrow qA) (i := 0) (by decide) hS
theorem kr_E {B aK aV : Nat} (hs : ks_ok x B aK aV) (H : Heap) (locs : List Loc) (hS : va_S (kj_A x) (kj_st x).heap H locs) (U : State) (hU : U.heap = H) (hW : (kj_st x).WarmedH U.vm) : kE B aK aV U := by
  subst hU
  exact kE_to hs.1 hS hs.2 hW
end KR
