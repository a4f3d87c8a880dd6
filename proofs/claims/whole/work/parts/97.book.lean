theorem dX6_init_0 : decode cX6_init 0 = .ok (.aload_n 0, 1) := by decide +kernel
theorem dX6_init_1 : decode cX6_init 1 = .ok (.invokespecial 3, 3) := by decide +kernel
theorem dX6_init_4 : decode cX6_init 4 = .ok (.aload_n 0, 1) := by decide +kernel
theorem dX6_init_5 : decode cX6_init 5 = .ok (.bipush 15, 2) := by decide +kernel
theorem dX6_init_7 : decode cX6_init 7 = .ok (.bipush 12, 2) := by decide +kernel
theorem dX6_init_9 : decode cX6_init 9 = .ok (.multianewarray 11 2, 4) := by decide +kernel
theorem dX6_init_13 : decode cX6_init 13 = .ok (.putfield 13, 3) := by decide +kernel
theorem dX6_init_16 : decode cX6_init 16 = .ok (.aload_n 0, 1) := by decide +kernel
theorem dX6_init_17 : decode cX6_init 17 = .ok (.bipush 12, 2) := by decide +kernel
theorem dX6_init_19 : decode cX6_init 19 = .ok (.newarray .int, 2) := by decide +kernel
theorem dX6_init_21 : decode cX6_init 21 = .ok (.putfield 16, 3) := by decide +kernel
theorem dX6_init_24 : decode cX6_init 24 = .ok (.aload_n 0, 1) := by decide +kernel
theorem dX6_init_25 : decode cX6_init 25 = .ok (.aload_n 1, 1) := by decide +kernel
theorem dX6_init_26 : decode cX6_init 26 = .ok (.putfield 20, 3) := by decide +kernel
theorem dX6_init_29 : decode cX6_init 29 = .ok (.return_, 1) := by decide +kernel
theorem kl_6_13 : kj_L RX6 13 6 1 := ⟨_, _, _, rfl, by decide, ku_6, (kw_in 491 (by decide +kernel) rfl)⟩
theorem kn_6_1 : kj_F RX6 6 1 := ⟨_, _, _, rfl, tyX6_ok, nmX6, rfl, rfl⟩
theorem kl_6_16 : kj_L RX6 16 6 2 := ⟨_, _, _, rfl, by decide, ku_6, (kw_in 492 (by decide +kernel) rfl)⟩
theorem kn_6_2 : kj_F RX6 6 2 := ⟨_, _, _, rfl, tyX6_ok, nmX6, rfl, rfl⟩
theorem kl_6_20 : kj_L RX6 20 6 0 := ⟨_, _, _, rfl, by decide, ku_6, (kw_in 490 (by decide +kernel) rfl)⟩
theorem kn_6_0 : kj_F RX6 6 0 := ⟨_, _, _, rfl, tyX6_ok, nmX6, rfl, rfl⟩
/-! fifteen rows of twelve in one instruction -/
def kq_r (h i j : Nat) : Value := if j < i then .ref (h + 1 + j) else .null
def kq (T : State) (cA comp : ClassId) : Nat → State
  | 0 => T.pushCell (arrV cA 15 (kq_r T.heap.size 0))
  | i + 1 => ((kq T cA comp i).pushCell (arrV comp 12 (fun _ => .int 0))).setCell T.heap.size (arrV cA 15 (kq_r T.heap.size (i + 1)))
theorem kq_st (cA : ClassId) (h i : Nat) : (arrV cA 15 (kq_r h i)).setSlot i (.ref (h + 1 + i)) = arrV cA 15 (kq_r h (i + 1)) := by
  rw [arrV_store]
  congr 1
  funext j
  unfold updV kq_r
  by_cases hj : j = i
  · subst hj
    simp
  · rw [if_neg hj]
    by_cases h2 : j < i
    · rw [if_pos h2, if_pos (by omega)]
    · rw [if_neg h2, if_neg (by omega)]
theorem kq_f (T : State) (cA comp : ClassId) (i : Nat) : (kq T cA comp i).heap.size = T.heap.size + 1 + i ∧ (kq T cA comp i).heap[T.heap.size]? = some (arrV cA 15 (kq_r T.heap.size i)) ∧ (kq T cA comp i).vm = T.vm ∧ (kq T cA comp i).slotsUsed = T.slotsUsed + 15 + 12 * i ∧ (∀ a, a < T.heap.size → (kq T cA comp i).heap[a]? = T.heap[a]?) ∧ ∀ j, j < i → (kq T cA comp i).heap[T.heap.size + 1 + j]? = some (arrV comp 12 (fun _ => .int 0)) := by
  induction i with
  | zero =>
    refine ⟨by simp [kq], by simp [kq], rfl, by simp [kq, arrV_size], fun a ha => ?_, fun j hj => absurd hj (Nat.not_lt_zero _)⟩
    show (T.pushCell _).heap[a]? = _
    rw [State.heap_pushCell_of_lt (h := ha)]
  | succ i ih =>
    obtain ⟨f1, f2, f3, f4, f5, f6⟩ := ih
    have hlt : T.heap.size < (kq T cA comp i).heap.size := by omega
    have hb : ((kq T cA comp i).pushCell (arrV comp 12 (fun _ => .int 0))).heap[T.heap.size]? = some (arrV cA 15 (kq_r T.heap.size i)) := by rw [State.heap_pushCell_of_lt (h := hlt)]; exact f2
    refine ⟨by simp [kq, f1]; omega, State.heap_setCell_self hb, f3, ?_, fun a ha => ?_, fun j hj => ?_⟩
    · show (kq T cA comp i).slotsUsed + (arrV comp 12 (fun _ => .int 0)).slots.size = _
      rw [arrV_size, f4]; omega
    · have hne : T.heap.size ≠ a := by omega
      have hl2 : a < (kq T cA comp i).heap.size := by omega
      show (State.setCell _ _ _).heap[a]? = _
      rw [State.heap_setCell_other hne, State.heap_pushCell_of_lt (h := hl2)]
      exact f5 a ha
    · have hne : T.heap.size ≠ T.heap.size + 1 + j := by omega
      show (State.setCell _ _ _).heap[_]? = _
      rw [State.heap_setCell_other hne]
      by_cases h2 : j < i
      · have hl2 : T.heap.size + 1 + j < (kq T cA comp i).heap.size := by omega
        rw [State.heap_pushCell_of_lt (h := hl2)]
        exact f6 j h2
      · have : T.heap.size + 1 + j = (kq T cA comp i).heap.size := by omega
        rw [this]
        simp
theorem kq_top (T : State) (f : JFrame) (cA comp : ClassId) (i : Nat) : kq (T.setTop f) cA comp i = (kq T cA comp i).setTop f := by
  induction i with
  | zero => rfl
  | succ i ih => simp only [kq, ih, State.heap_setTop, State.pushCell_setTop, State.setCell_setTop]
theorem kq_stand {p : Program} {l : Launch} {e : Env} {R : Room} {s : State} {m : MethodId} {args : Array Value} {below : List Frame} {meth : Method} {c : Code} {T : State} {locs : List Loc} {cells slots : Nat} (X : Stand p l e R s m args below meth c T locs cells slots) (cA comp : ClassId) (i : Nat) : ∃ L : List Loc, (∀ q ∈ L, q.base = T.heap.size) ∧ Stand p l e R s m args below meth c (kq T cA comp i) (locs ++ L) (cells + 1 + i) (slots + 15 + 12 * i) := by
  induction i with
  | zero =>
    have h := X.pushed (arrV cA 15 (kq_r T.heap.size 0))
    rw [arrV_size] at h
    exact ⟨[], (fun q h => absurd h List.not_mem_nil), by rw [List.append_nil]; exact h⟩
  | succ i ih =>
    obtain ⟨L, hL, Xi⟩ := ih
    obtain ⟨f1, f2, -⟩ := kq_f T cA comp i
    have hlt : T.heap.size < (kq T cA comp i).heap.size := by omega
    have hb : ((kq T cA comp i).pushCell (arrV comp 12 (fun _ => .int 0))).heap[T.heap.size]? = some (arrV cA 15 (kq_r T.heap.size i)) := by rw [State.heap_pushCell_of_lt (h := hlt)]; exact f2
    have h := (Xi.pushed (arrV comp 12 (fun _ => .int 0))).stored hb i (.ref (T.heap.size + 1 + i))
    rw [arrV_size, kq_st, List.append_assoc] at h
    refine ⟨L ++ [⟨T.heap.size, i⟩], fun q hq => ?_, ?_⟩
    · rcases List.mem_append.mp hq with h1 | h1
      · exact hL q h1
      · rw [List.mem_singleton.mp h1]
    · have e3 : slots + 15 + 12 * (i + 1) = slots + 15 + 12 * i + 12 := by omega
      rw [e3]
      exact h
theorem kq_wp {E : CtlPost} {e : Env} {d : Bool} {acts : List Action} {s : State} {cA comp cc : ClassId} {kA kC : Class} (hkA : s.vm.classes[cA]? = some kA) (hA : kA.kind = .array comp (.array .int)) (hkC : s.vm.classes[comp]? = some kC) (hC : kC.kind = .array cc .int) (hl : 15 ≤ e.platform.arrayLengthLimit) (hh : 60 ≤ e.platform.maxHeapBytes) (hc : s.heap.size + 16 ≤ e.platform.maxCells) (hs : s.slotsUsed + 195 ≤ e.platform.maxSlots) {Q : Addr → Pre} (hq : ∀ d' acts', Q s.heap.size d' acts' (kq s cA comp 15)) : wp (multianewarray.make cA [15, 12]) Q E e d acts s := by
  have n15 : ¬ (15 : Int32) < 0 := by decide
  have n12 : ¬ (12 : Int32) < 0 := by decide
  have m15 : (15 : Int32).toNatClampNeg = 15 := by decide
  have m12 : (12 : Int32).toNatClampNeg = 12 := by decide
  have hfind : (([12] : List Int32).find? (· < 0)) = none := by decide
  rw [multianewarray.make]
  simp only [wp_bind', W.ite, n15, if_false, wp_pure', W.theClass, hkA, hA, Option.some.injEq, exists_eq_left', m15]
  refine W.newArray_of hkA hA (by omega) (by show ¬ 15 * 4 > _; omega) (by omega) (by omega) rfl (fun acts' => ?_)
  simp only [hfind]
  rw [ite_self, wp_bind', Std.Legacy.Range.forIn_eq_forIn_range']
  have h0 : s.pushCell ({ cls := cA, slots := Array.replicate 15 .null } : Cell) = kq s cA comp 0 := by
    show _ = s.pushCell _
    congr 1
  rw [h0]
  have hsz : ([:15] : Std.Legacy.Range).size = 15 := by simp [Std.Legacy.Range.size]
  rw [hsz]
  refine wp_forIn_inv (fun rest s' => ∃ i, i ≤ 15 ∧ rest = List.range' i (15 - i) ∧ s' = kq s cA comp i) _ _ ⟨0, by omega, rfl, rfl⟩ ?_ ?_
  · rintro y rest s' d' acts' Q' ⟨i, hi, hr, rfl⟩ hn
    have hi15 : i < 15 := by
      rcases Nat.lt_or_ge i 15 with h | h
      · exact h
      · rw [show 15 - i = 0 by omega] at hr
        cases hr
    rw [show 15 - i = (15 - (i + 1)) + 1 by omega, List.range'_succ] at hr
    obtain ⟨rfl, hr⟩ := List.cons.inj hr
    obtain ⟨f1, f2, f3, f4, f5, f6⟩ := kq_f s cA comp y
    simp only [wp_bind']
    rw [multianewarray.make]
    simp only [wp_bind', W.ite, n12, if_false, wp_pure', W.theClass, f3, hkC, hC, Option.some.injEq, exists_eq_left', m12]
    refine W.newArray_of (by rw [f3]; exact hkC) hC (by omega) (by show ¬ 12 * 4 > _; omega) (by omega) (by omega) rfl (fun acts2 => ?_)
    have e1 : ({ cls := comp, slots := Array.replicate 12 (defaultValue .int) } : Cell) = arrV comp 12 (fun _ => .int 0) := arrV_new comp 12 (.int 0)
    rw [e1]
    have hlt : s.heap.size < (kq s cA comp y).heap.size := by omega
    simp only [wp_bind', W.writeLoc, wp_pure']
    refine ⟨arrV cA 15 (kq_r s.heap.size y), by rw [State.heap_pushCell_of_lt (h := hlt)]; exact f2, by (show (arrV _ _ _).vm ≠ _); simp [arrV], by rw [arrV_size]; exact hi15, ?_, hn _ _ _ ⟨y + 1, by omega, hr, ?_⟩⟩
    · show State.fitsSlot _ cA .none y _ = true
      simp [State.fitsSlot, State.slotType?, f3, hkA, hA]
      rfl
    · rw [f1, kq_st]
      rfl
  · rintro s' d' acts' ⟨i, hi, hr, rfl⟩
    have : i = 15 := by
      rcases Nat.lt_or_ge i 15 with h | h
      · rw [show 15 - i = (15 - (i + 1)) + 1 by omega, List.range'_succ] at hr
        cases hr
      · omega
    subst this
    simp only [wp_pure']
    exact hq _ _
theorem kq_fin (cA : ClassId) (h : Nat) : arrV cA 15 (kq_r h 15) = arrV cA 15 (fun q => va_rf (some (h + 1 + q))) := by
  unfold arrV
  congr 2
  funext j
  show kq_r h 15 j.val = _
  unfold kq_r
  rw [if_pos j.isLt]
  rfl
def kj_ro (g : kf_G) (z : Nat) : va_E := .inl (kf_cA g 5, 15, .inr (.inr (.inr (.inr (fun q => some (z + 1 + q))))))
def kj_ri (g : kf_G) : va_E := .inl (kf_cA g 0, 12, .inl (fun _ => 0))
def kj_rows (g : kf_G) (z : Nat) : va_W := [(z + 0, kj_ro g z), (z + 1, kj_ri g), (z + 2, kj_ri g), (z + 3, kj_ri g), (z + 4, kj_ri g), (z + 5, kj_ri g), (z + 6, kj_ri g), (z + 7, kj_ri g), (z + 8, kj_ri g), (z + 9, kj_ri g), (z + 10, kj_ri g), (z + 11, kj_ri g), (z + 12, kj_ri g), (z + 13, kj_ri g), (z + 14, kj_ri g), (z + 15, kj_ri g)]
theorem kj_rows_at {g : kf_G} {z j : Nat} {q : Nat × va_E} (h : (kj_rows g z)[j]? = some q) : q.1 = z + j ∧ j < 16 ∧ (q.2 = if j = 0 then kj_ro g z else kj_ri g) := by
  have hj : j < 16 := (List.getElem?_eq_some_iff.mp h).1
  match j, hj with
  | 0, _ => cases h; exact ⟨rfl, by decide, rfl⟩
  | 1, _ => cases h; exact ⟨rfl, by decide, rfl⟩
  | 2, _ => cases h; exact ⟨rfl, by decide, rfl⟩
  | 3, _ => cases h; exact ⟨rfl, by decide, rfl⟩
  | 4, _ => cases h; exact ⟨rfl, by decide, rfl⟩
  | 5, _ => cases h; exact ⟨rfl, by decide, rfl⟩
  | 6, _ => cases h; exact ⟨rfl, by decide, rfl⟩
  | 7, _ => cases h; exact ⟨rfl, by decide, rfl⟩
  | 8, _ => cases h; exact ⟨rfl, by decide, rfl⟩
  | 9, _ => cases h; exact ⟨rfl, by decide, rfl⟩
  | 10, _ => cases h; exact ⟨rfl, by decide, rfl⟩
  | 11, _ => cases h; exact ⟨rfl, by decide, rfl⟩
  | 12, _ => cases h; exact ⟨rfl, by decide, rfl⟩
  | 13, _ => cases h; exact ⟨rfl, by decide, rfl⟩
  | 14, _ => cases h; exact ⟨rfl, by decide, rfl⟩
  | 15, _ => cases h; exact ⟨rfl, by decide, rfl⟩
section KR
variable {g : kf_G} {x : kj_X} {own : String} {cc : ByteArray} {nL fr lc mc ms pc k n : Nat} {lv lv' : List (Nat × Value)} {st : List Value} {ws ws' : va_W}
theorem kr_multi (hx : kj_ok g x own cc nL fr lc mc ms) {idx : Nat} (hover : (Cond.arrayOver (.array .int)).before #[] (kj_st x) = true) (hcl : Cond.classLink own idx "[[I" ∈ kw_T) (harr : Cond.arrayClass .int ∈ kw_T) (hk : k + 16 ≤ mc) (hn : n + 195 ≤ ms) (hd : decode cc pc = .ok (.multianewarray idx 2, 4)) (kk : kj_M g x nL (pc + 4) lv (.ref (kj_sz x + k) :: st) (k + 16) (n + 195) (ws ++ kj_rows g (kj_sz x + k))) : kj_M g x nL pc lv (.int 12 :: .int 15 :: st) k n ws := by
  obtain ⟨p, e, R, s, m, args, below, meth, c, A, Q⟩ := x
  obtain ⟨h1, h2, h3, h4, h5, h6, h7, h8, h9, h10, h11, h12⟩ := hx
  intro H locs ls hlv hz0 hP hD hS T hT X
  have hz : H.size = s.heap.size + k := by have := X.heapSize; rw [hT] at this; omega
  have hsz : kj_sz (p, e, R, s, m, args, below, meth, c, A, Q) + k = H.size := hz.symm
  have e2 : "[" ++ (FieldType.array .int).toString = "[[I" := by decide +kernel
  have hpl : e.platform.magicAccessors = ({} : Platform).magicAccessors := by rw [X.admits.platform]
  obtain ⟨comp, cA, kA, hcomp, -, hkA, hkindA, hnameA⟩ := arrayOverA_spec hover
  obtain ⟨comp', kC, cI, hcomp', hkC, hkindC⟩ := Cond.arrayClass_spec (h5 _ harr)
  have ecomp : comp' = comp := Option.some.inj (hcomp'.symm.trans hcomp)
  subst ecomp
  obtain ⟨c0, hfc0, hcl0⟩ := Cond.classLink_spec h4 (h5 _ hcl) e.platform hpl
  have hnameA : s.vm.findClass ("[" ++ (FieldType.array .int).toString) = some cA := hnameA
  rw [e2] at hnameA
  cases hnameA.symm.trans hfc0
  obtain ⟨hg1, hwarm1, hready1⟩ := State.classEntry (e := e) X.warmed hcl0
  generalize T.vm.noted m.cls idx (.cls cA) = vm₁ at hg1 hwarm1 hready1
  obtain ⟨kA1, hkA1, heA⟩ := hwarm1.alike.2.2 _ _ hkA
  obtain ⟨kC1, hkC1, heC⟩ := hwarm1.alike.2.2 _ _ hkC
  have hkindA1 : kA1.kind = .array comp' (.array .int) := by rw [heA]; exact hkindA
  have hkindC1 : kC1.kind = .array cI .int := by rw [heC]; exact hkindC
  obtain ⟨hr1, hr2⟩ := X.roomAbove (a := 16) (b := 195) (Nat.le_trans hk h11) (Nat.le_trans hn h12)
  have hcA : kf_cA g 5 = cA := by
    have h := (h6.2 5 _ (kj_ty h7 (t := 5) rfl)).2
    have h : s.vm.findClass ("[" ++ (FieldType.array .int).toString) = some (kf_cA g 5) := h
    rw [e2] at h
    exact Option.some.inj (h.symm.trans hnameA)
  have hcI : kf_cA g 0 = comp' := by
    have h := (h6.2 0 _ (kj_ty h7 (t := 0) rfl)).2
    exact Option.some.inj ((h : s.vm.findClass ("[" ++ (FieldType.int).toString) = some (kf_cA g 0)).symm.trans hcomp)
  obtain ⟨L, hL, XF⟩ := kq_stand (X.noted hwarm1) cA comp' 15
  have hTz : (T.setVm vm₁).heap.size = H.size := by show T.heap.size = _; rw [hT]
  have XF := Stand.dropFresh (J := L) XF (fun q hq => by rw [hL q hq, hTz]; exact hS.1)
  obtain ⟨f1, f2, f3, f4, f5, f6⟩ := kq_f (T.setVm vm₁) cA comp' 15
  rw [hTz] at f1 f2 f5 f6
  have fo : ∀ a, a < H.size → (kq (T.setVm vm₁) cA comp' 15).heap[a]? = H[a]? := fun a ha => by
    rw [f5 a ha]
    show T.heap[a]? = _
    rw [hT]
  rw [hsz] at kk
  have hP1 : va_P g.2.1 kf_cl (ws ++ kj_rows g H.size) (kq (T.setVm vm₁) cA comp' 15).heap := by
    refine (hP.kept (fun k x hx => fo x.1 ((hP k x hx).lt))).app (fun j q hq => ?_)
    obtain ⟨q1, q2, q3⟩ := kj_rows_at hq
    obtain ⟨qa, qe⟩ := q
    have q1 : qa = H.size + j := q1
    have q3 : qe = _ := q3
    subst q1
    subst q3
    by_cases hj : j = 0
    · subst hj
      rw [if_pos rfl]
      show (kq (T.setVm vm₁) cA comp' 15).heap[H.size + 0]? = some (vp_cell _ _)
      rw [vp_cell_q, hcA, Nat.add_zero, f2]
      exact congrArg some (kq_fin cA H.size)
    · rw [if_neg hj]
      show (kq (T.setVm vm₁) cA comp' 15).heap[H.size + j]? = some (vp_cell _ _)
      rw [vp_cell_i, hcI]
      have := f6 (j - 1) (by omega)
      rw [show H.size + 1 + (j - 1) = H.size + j by omega] at this
      exact this
  have hD1 : va_D A (ws ++ kj_rows g H.size) := by
    refine hD.app ⟨fun i j p q hi hj hpq => ?_, fun k q hq => ?_⟩ (fun i j p q hi hj hpq => ?_)
    · have a1 := (kj_rows_at hi).1
      have a2 := (kj_rows_at hj).1
      omega
    · have a1 := (kj_rows_at hq).1
      exact h8 _ (by have := hS.1; omega)
    · have a1 := (kj_rows_at hj).1
      have a2 : p.1 < H.size := (hP i p hi).lt
      omega
  have hS1 : va_S A s.heap (kq (T.setVm vm₁) cA comp' 15).heap locs := ⟨by have := hS.1; omega, fun q q1 q2 => (fo q (Nat.lt_of_lt_of_le q1 hS.1)).trans (hS.2.1 q q1 q2), hS.2.2⟩
  obtain ⟨t, a1, b1⟩ := kk (kq (T.setVm vm₁) cA comp' 15).heap locs ls hlv (by omega) hP1 hD1 hS1 (kq (T.setVm vm₁) cA comp' 15) rfl (stand_widen XF (by omega) (by omega))
  refine ⟨t, ?_, b1⟩
  have hgd : decode c.code (F0 m pc ls (.int 12 :: .int 15 :: st)).pc = .ok (.multianewarray idx 2, 4) := by rw [h2]; exact hd
  jvm_step X.here [h1, hgd]
  simp only [multianewarray.sem, wp_bind', W.resolveClassAt_links (State.method?_setTop (F0 m pc ls (.int 12 :: .int 15 :: st)) X.here.top) hg1]
  rw [W.popN, if_neg (by decide)]
  refine ⟨F0 m pc ls (.int 12 :: .int 15 :: st), State.topJava?_setTop' (s := T.setVm vm₁) _ X.here.top, [.int 15, .int 12], st, rfl, rfl, ?_⟩
  simp only [List.mapM_cons, List.mapM_nil, wp_bind', wp_pure']
  refine kq_wp (kA := kA1) (kC := kC1) (comp := comp') (cc := cI) hkA1 hkindA1 hkC1 hkindC1 (by rw [Launch.admits_arrayLengthLimit X.admits]; omega) (by rw [Launch.admits_maxHeapBytes X.admits]; omega) (by show T.heap.size + 16 ≤ _; omega) (by show T.slotsUsed + 195 ≤ _; omega) (fun d' acts' => ?_)
  have eS : ((T.setTop (F0 m pc ls (.int 12 :: .int 15 :: st))).setVm vm₁).setTop { F0 m pc ls (.int 12 :: .int 15 :: st) with stack := st } = (T.setVm vm₁).setTop { F0 m pc ls (.int 12 :: .int 15 :: st) with stack := st } := by
    show ((T.setVm vm₁).setTop _).setTop _ = _
    rw [State.setTop_setTop]
  rw [eS, kq_top]
  simp only [wp_bind', W.mark, W.pushRef, State.topJava?_setTop' _ XF.here.top, Option.some.injEq, exists_eq_left', State.setTop_setTop, State.heap_setTop]
  intro acts
  simp [jvm, XF.here.top]
  rw [show T.heap.size = H.size by rw [hT]]
  exact a1
end KR
def w1_X6_init (g : kf_G) (p1 : Nat) : Nat → Nat → va_W := fun h z => (h, .inr (6, [.ref p1, .ref (z + 0), .ref (z + 16), .int 0])) :: (kj_rows g (z + 0) ++ [(z + 16, kj_ri g)])
theorem kc_11 : Cond.classLink RX6 11 "[[I" ∈ kw_T := (kw_in 488 (by decide +kernel) rfl)
theorem c_X6_init (g : kf_G) (hg : g.2.2.1.map (fun q => q.2) = [.int, .long, .byte, .boolean, .object "TellFirst$Tray", .array .int]) (B aK aV p1 : Nat) : kj_C g yX6_init cX6_init 2 1 12 17 207 B (kE B aK aV) [.ref p1] (.inr (6, [.null, .null, .null, .int 0])) (w1_X6_init g p1) := by
  refine kj_ent hg (by decide +kernel) rfl (fun _ => Nat.le_of_ble_eq_true rfl) (fun x h hB hlt hx hi hE hA ret => ?_)
  show kj_M g x 2 0 [(0, .ref h), (1, .ref p1)] [] 0 0 _
  refine kj_aload_n hx dX6_init_0 rfl 0 rfl ?_
  refine kj_objInit hx (kw_in 487 (by decide +kernel) rfl) ow_i ow_c (by decide) (by decide) dX6_init_1 ?_
  refine kj_aload_n hx dX6_init_4 rfl 0 rfl ?_
  refine kj_bipush hx dX6_init_5 (v := 15) (by decide) ?_
  refine kj_bipush hx dX6_init_7 (v := 12) (by decide) ?_
  refine kr_multi hx hE.2.2.2.2.2.2 kc_11 ow_int (Nat.le_of_ble_eq_true rfl) (Nat.le_of_ble_eq_true rfl) dX6_init_9 ?_
  refine kj_pf hx hi kl_6_13 kn_6_1 0 rfl rfl rfl (Nat.le_of_ble_eq_true rfl) dX6_init_13 rfl ?_
  refine kj_aload_n hx dX6_init_16 rfl 0 rfl ?_
  refine kj_bipush hx dX6_init_17 (v := 12) (by decide) ?_
  refine kj_newa hx (ty := .int) rfl ow_int rfl (by decide) (t := 0) (N := 12) (a0 := (12, .inl (fun _ => 0))) (fun _ => rfl) (by decide) (by decide) (by decide) (Nat.le_of_ble_eq_true rfl) (Nat.le_of_ble_eq_true rfl) dX6_init_19 rfl ?_
  refine kj_pf hx hi kl_6_16 kn_6_2 0 rfl rfl rfl (Nat.le_of_ble_eq_true rfl) dX6_init_21 rfl ?_
  refine kj_aload_n hx dX6_init_24 rfl 0 rfl ?_
  refine kj_aload_n hx dX6_init_25 rfl 1 rfl ?_
  refine kj_pf hx hi kl_6_20 kn_6_0 0 rfl rfl rfl (Nat.le_of_ble_eq_true rfl) dX6_init_26 rfl ?_
  exact ret _ _ dX6_init_29
