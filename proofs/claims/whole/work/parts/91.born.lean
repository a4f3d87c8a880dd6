/-! a constructor's contract: its own cell in, its own cell and the cells that come out -/
def kj_pre (g : kf_G) (E : State → Prop) (av : List Value) (h : Nat) (e0 : va_E) (sz : Nat) : Array Value → State → Prop := va_Pc (.ref h :: av) (fun U => U.heap.size = sz ∧ va_P g.2.1 kf_cl [(h, e0)] U.heap ∧ va_K g.2.1 kf_cl g.2.2.1 U ∧ E U)
def kj_post (g : kf_G) (mc h : Nat) (e0 : va_E) (sz : Nat) (w1 : va_W) : Array Value → State → Outcome → State → Prop := va_Qv (S := Unit) (fun _ => True) (fun _ t => sz + mc ≤ t.heap.size ∧ va_P g.2.1 kf_cl w1 t.heap ∧ va_D (va_A [(h, e0)] sz) w1) (va_A [(h, e0)] sz)
def kj_C (g : kf_G) (y : MethodName) (b : ByteArray) (mL fr lc mc ms B : Nat) (E : State → Prop) (av : List Value) (e0 : va_E) (w1 : Nat → Nat → va_W) : Prop := ∀ h sz : Nat, B ≤ h → Met g.1 y (kf_W y b mL none) { frames := fr, cells := mc, slots := ms, locals := lc } (kj_pre g E av h e0 sz) (kj_post g mc h e0 sz (w1 h sz)) mc ms (va_A [(h, e0)] sz)
def kj_mi (y : MethodName) (b : ByteArray) (mL n : Nat) : Prop := Cond.instanceMethod y ∈ kw_T ∧ Cond.initialized y.cls ∈ kw_T ∧ Cond.code y b mL none ∈ kw_T ∧ y.cls ≠ "java/lang/invoke/MethodHandle" ∧ y.cls ≠ "java/lang/invoke/VarHandle" ∧ (parseMethodDescriptor y.desc).map (fun d => d.parameters.length) = some n ∧ y.name = "<init>"
def kj_bl (E : State → Prop) : Prop := FrameBlind (fun _ U => E U)
theorem kj_one {A : Nat → Prop} {h : Nat} {e0 : va_E} (hA : A h) : va_D A [(h, e0)] := by
  have h1 : ∀ (k : Nat) (q : Nat × va_E), ([(h, e0)] : va_W)[k]? = some q → k = 0 ∧ q = (h, e0) := by
    intro k q hq
    have hz : k < 1 := (List.getElem?_eq_some_iff.mp hq).1
    have : k = 0 := by omega
    subst this
    exact ⟨rfl, (Option.some.inj hq).symm⟩
  refine ⟨fun i j p q hi hj _ => ?_, fun k q hk => ?_⟩
  · rw [(h1 i p hi).1, (h1 j q hj).1]
  · rw [(h1 k q hk).2]; exact hA
theorem kj_ent {g : kf_G} {y : MethodName} {b : ByteArray} {nL fr lc mc ms B : Nat} {E : State → Prop} {av : List Value} {e0 : va_E} {w1 : Nat → Nat → va_W} (hg : g.2.2.1.map (fun q => q.2) = [.int, .long, .byte, .boolean, .object "TellFirst$Tray", .array .int]) (hy : plainName y.cls = true) (hi : y.name = "<init>") (hn : ∀ h : Nat, (lg_sl (.ref h :: av)).length ≤ nL)
    (body : ∀ (x : kj_X) (h : Nat), B ≤ h → h < kj_sz x → kj_ok g x y.cls b nL fr lc mc ms → kj_in x → E (kj_st x) → (∀ q, kj_A x q → q = h ∨ kj_sz x ≤ q) → (∀ (pc : Nat) (lv : List (Nat × Value)), decode b pc = .ok (.return_, 1) → kj_M g x nL pc lv [] mc ms (w1 h (kj_sz x))) → kj_M g x nL 0 (lv_args 0 (.ref h :: av)) [] 0 0 [(h, e0)]) : kj_C g y b nL fr lc mc ms B E av e0 w1 := by
  intro h sz hB
  refine Met.ofW (cc := b) (maxL := nL) (ret := none) hy rfl ?_
  intro p e s m args' below meth c s₁ Bd hml hv
  obtain ⟨rfl, hsz, hP, hK, hE⟩ := hv
  subst hsz
  have hts := atoms_spec (ws := kf_W y b nL none) Bd.pre
  have hown : s.vm.findClass y.cls = some m.cls := findClass_of_methodNamed Bd.named
  have hlocks := Bd.notSynchronized
  have hl := lv_entry (.ref h :: av) (n := nL) (hn h)
  rw [lg_entry_eq]
  generalize (lg_sl (.ref h :: av) ++ List.replicate (nL - (lg_sl (.ref h :: av)).length) Slot.unset).toArray = ls at hl ⊢
  have hlt : h < s.heap.size := (hP 0 _ rfl).lt
  have hin : va_A [(h, e0)] s.heap.size h := Or.inl ⟨0, e0, rfl⟩
  refine body (p, e, { frames := fr, cells := mc, slots := ms, locals := lc }, s, m, (.ref h :: av : List Value).toArray, below, meth, c, va_A [(h, e0)] s.heap.size, MQ below (kj_post g mc h e0 s.heap.size (w1 h s.heap.size)) (.ref h :: av : List Value).toArray s mc ms (va_A [(h, e0)] s.heap.size)) h hB hlt ?_ ?_ hE ?_ ?_ s.heap [] ls hl (Nat.le_refl _) hP (kj_one hin) va_S.rf
  · exact ⟨Bd.exec, Bd.bytes, hml, hown, fun w hw => hts w (List.mem_cons_of_mem _ hw), hK, hg, fun q h => Or.inr h, Nat.le_refl _, Nat.le_refl _, Nat.le_refl _, Nat.le_refl _⟩
  · exact (name_of_methodNamed Bd.named Bd.method).1.trans hi
  · intro q hq
    rcases hq with ⟨k, e, hk⟩ | hq
    · have hz : k < 1 := (List.getElem?_eq_some_iff.mp hk).1
      have : k = 0 := by omega
      subst this
      cases hk
      exact Or.inl rfl
    · exact Or.inr hq
  · intro pc lv hd H locs ls' hl' hz' hP' hD' hS'
    exact W.vret Bd.exec Bd.bytes Bd.returns (fun t ht hW => ⟨⟨(), rfl, trivial, by rw [ht]; exact hz', by rw [ht]; exact hP', hD'⟩, hS'.F ht⟩) hS'.2.2 hd
theorem kj_rng {α : Type} (wr : List α) (z : List α) : (List.range wr.length).map (fun i => (wr ++ z)[i]?) = wr.map some := by
  apply List.ext_getElem?
  intro i
  rw [List.getElem?_map, List.getElem?_map]
  by_cases h : i < wr.length
  · rw [List.getElem?_range h]
    show some ((wr ++ z)[i]?) = _
    rw [List.getElem?_append_left h, List.getElem?_eq_getElem h]
    rfl
  · rw [List.getElem?_eq_none (by rw [List.length_range]; omega), List.getElem?_eq_none (l := wr) (by omega)]
    rfl
theorem kj_ndr : ∀ (l : List Nat), l.Nodup → va_nd l = true := by
  intro l
  induction l with
  | nil => intro _; rfl
  | cons a l ih =>
    intro h
    obtain ⟨h1, h2⟩ := List.nodup_cons.mp h
    simp [va_nd, ih h2, h1]
section KJ
variable {g : kf_G} {x : kj_X} {own : String} {cc : ByteArray} {nL fr lc mc ms pc k n : Nat} {lv lv' : List (Nat × Value)} {st : List Value} {ws ws' : va_W}
theorem kj_call (hx : kj_ok g x own cc nL fr lc mc ms) {idx mL n' fr' lc' mc' ms' B h : Nat} {y : MethodName} {b : ByteArray} {E : State → Prop} {As : List Value} {e0 : va_E} {w1 : Nat → Nat → va_W} (hC : kj_C g y b mL fr' lc' mc' ms' B E As e0 w1) (hl : kf_lk own idx y) (hm : kj_mi y b mL n') (hn : As.length = n') (hB : B ≤ h) (hEb : kj_bl E) (hE : ∀ (H : Heap) (locs : List Loc), va_S (kj_A x) (kj_st x).heap H locs → ∀ U : State, U.heap = H → (kj_st x).WarmedH U.vm → E U) (hR : fr' + 1 ≤ fr ∧ 8 + (mL + 11) + lc' ≤ lc) (hk : k + mc' ≤ mc) (hs : n + ms' ≤ ms) (wr : va_W) (hw : ws = wr ++ [(h, e0)]) {st0 : List Value} (he : st0 = As.reverse ++ .ref h :: st) (hst : (st.map fun v => v.category).sum ≤ 8) (hd : decode cc pc = .ok (.invokespecial idx, 3)) (hw' : wr ++ w1 h (kj_sz x + k) = ws') (kk : kj_M g x nL (pc + 3) lv st (k + mc') (n + ms') ws') : kj_M g x nL pc lv st0 k n ws := by
  obtain ⟨p, e, R, s, m, args, below, meth, c, A, Q⟩ := x
  obtain ⟨h1, h2, h3, h4, h5, h6, h7, h8, h9, h10, h11, h12⟩ := hx
  obtain ⟨m1, m2, m3, m4, m5, m6, m7⟩ := hm
  subst hw'
  subst he
  subst hw
  intro H locs ls hlv hz0 hP hD hS
  refine kj_exact hz0 fun hz => ?_
  have hat : (wr ++ [(h, e0)])[wr.length]? = some (h, e0) := by simp
  have hC1 : [wr.length].map (fun i => (wr ++ [(h, e0)])[i]?) = ([(h, e0)] : va_W).map some := by
    show [(wr ++ [(h, e0)])[wr.length]?] = [some (h, e0)]
    rw [hat]
  have hPc : va_P g.2.1 kf_cl [(h, e0)] H := by
    intro k q hq
    have hz : k < 1 := (List.getElem?_eq_some_iff.mp hq).1
    have : k = 0 := by omega
    subst this
    cases hq
    exact hP _ _ hat
  have hFc := va_free (wc := [(h, e0)]) hD hS h8 [wr.length] hC1
  have hpre : PreS s H (kj_pre g E As h e0 H.size) (.ref h :: As) := by
    refine ⟨?_, fun U hU hW => ⟨rfl, by rw [hU], by rw [hU]; exact hPc, va_K.moved hW.alike h6, hE H locs hS U hU hW⟩⟩
    intro a U g' mk q
    obtain ⟨q0, q1, q2, q3, q4⟩ := q
    exact ⟨q0, q1, q2, va_K.moved (u := U) (U := U.calling g' mk a) (Vm.Alike.refl U.vm) q3, hEb a U g' mk q4⟩
  have hlen : ∀ sig, parseMethodDescriptor y.desc = some sig → n' = sig.parameters.length := fun sig h => by
    rw [h] at m6
    exact (Option.some.inj m6).symm
  have hall : ∀ w ∈ kf_W y b mL none, ∀ (a' : Array Value) (U : State), s.WarmedH U.vm → w.before a' U = true := by
    intro w hw
    rcases List.mem_cons.mp hw with h | h
    · rw [h]; exact kw_pay h5 _ m3
    · exact kw_pay h5 _ h
  have hcw : Cond.code y b mL none ∈ kf_W y b mL none := List.mem_cons_self
  have hRf : fr' + 1 ≤ R.frames := Nat.le_trans hR.1 h9
  have hRl : 8 + (mL + 11) + lc' ≤ R.locals := Nat.le_trans hR.2 h10
  have hcs : k + mc' ≤ R.cells ∧ n + ms' ≤ R.slots := ⟨Nat.le_trans hk h11, Nat.le_trans hs h12⟩
  have hrun : va_Run p g.1 e R s m args below meth c H locs k n mc' ms' (F0 m pc ls (As.reverse ++ .ref h :: st)) st (kj_post g mc' h e0 H.size (w1 h H.size) (Value.ref h :: As).toArray) (va_A [(h, e0)] H.size) := by
    rcases hl with hl | ⟨host, hl⟩
    · exact va_runI (Ts := kw_T) ⟨h1, h2, h3, h4, h5⟩ (hC h H.size hB) ⟨⟨rfl, rfl, hRf, hRl, hall, hcw, h5 _ m3, h5 _ m2, ⟨m4, m5⟩, hlen, h5 _ hl⟩, m7, h5 _ m1⟩ hpre rfl hn hlv.1 rfl (lv_room hst) hd hcs
    · exact va_runIN (Ts := kw_T) ⟨h1, h2, h3, h4, h5⟩ (hC h H.size hB) ⟨⟨⟨rfl, rfl, hRf, hRl, hall, hcw⟩, h5 _ m3, h5 _ m2, ⟨m4, m5⟩, hlen, h5 _ hl⟩, m7, h5 _ m1⟩ hpre rfl hn hlv.1 rfl (lv_room hst) hd hcs
  refine va_callv (S := Unit) hrun hS (fun q _ h => hFc q h) hFc (fun u t H1 locs1 ht hvm _ hB' hz1 hk1 hS1 => ?_)
  obtain ⟨hz', hP1, hD1⟩ := hB'
  rw [ht] at hP1 hz'
  have hsz : kj_sz (p, e, R, s, m, args, below, meth, c, A, Q) + k = H.size := hz.symm
  rw [hsz] at kk
  obtain ⟨hP2, hD2⟩ := va_join (wr := wr) (w1 := w1 h H.size) hP hD [wr.length] (List.range wr.length) hC1 (kj_rng _ _) (kj_ndr _ List.nodup_range) (fun i hi => by
    have := List.mem_range.mp hi
    simp; omega) hk1 hFc hP1 hD1
  exact kk H1 locs1 ls hlv (by omega) hP2 hD2 hS1
end KJ
/-- what a first store into a final field needs of the tables -/
def kj_F (own : String) (ci k : Nat) : Prop := ∃ (C : String) (T : u_T) (N : Nat), kf_cl[ci]? = some (C, T, N) ∧ (∀ a, a < N → parseFieldDescriptor (T a).2.2.1 = some (kf_ty ci a)) ∧ (∀ a, a < N → ∀ b, b < N → a ≠ b → (T a).2.1 ≠ (T b).2.1) ∧ (T k).2.2.2 = true ∧ (T k).1 = own
def kj_L (own : String) (idx ci k : Nat) : Prop := ∃ (C : String) (T : u_T) (N : Nat), kf_cl[ci]? = some (C, T, N) ∧ k < N ∧ (∀ w ∈ u_ws C T N, w ∈ kw_T) ∧ Cond.fieldLink own idx (T k).1 (T k).2.1 (T k).2.2.1 ∈ kw_T
def kj_N (ci : Nat) (fs : List Value) (own : String) (idx N : Nat) : Prop := ∃ (C : String) (T : u_T), kf_cl[ci]? = some (C, T, N) ∧ (∀ w ∈ u_ws C T N, w ∈ kw_T) ∧ (∀ a, a < N → parseFieldDescriptor (T a).2.2.1 = some (kf_ty ci a)) ∧ Cond.classLink own idx C ∈ kw_T ∧ Cond.instantiable C N ∈ kw_T ∧ Cond.initialized C ∈ kw_T ∧ ∀ j, j < N → defaultValue (kf_ty ci j) = vp_V fs j
section KJ
variable {g : kf_G} {x : kj_X} {own : String} {cc : ByteArray} {nL fr lc mc ms pc k n : Nat} {lv lv' : List (Nat × Value)} {st : List Value} {ws ws' : va_W}
theorem kj_nw (hx : kj_ok g x own cc nL fr lc mc ms) {ci idx N : Nat} {fs : List Value} (h : kj_N ci fs own idx N) (hk : k + 1 ≤ mc) (hn : n + N ≤ ms) (hd : decode cc pc = .ok (.new idx, 3)) (he : ws ++ [(kj_sz x + k, .inr (ci, fs))] = ws') (kk : kj_M g x nL (pc + 3) lv (.ref (kj_sz x + k) :: st) (k + 1) (n + N) ws') : kj_M g x nL pc lv st k n ws := by
  obtain ⟨C, T, q1, q2, q3, q4, q5, q6, q7⟩ := h
  exact kj_new hx q1 q2 _ q3 q4 q5 q6 q7 hk hn hd he kk
theorem kj_pf (hx : kj_ok g x own cc nL fr lc mc ms) (hi : kj_in x) {ci idx j a : Nat} (hL : kj_L own idx ci j) (hF : kj_F own ci j) (q0 : Nat) {fs : List Value} (hq : ws[q0]? = some (a, .inr (ci, fs))) {v : Value} (hna : narrow (kf_ty ci j) v = v) (hfit : fits (kf_ty ci j) v = true) (hlen : j < fs.length) (hd : decode cc pc = .ok (.putfield idx, 3)) (he : ws.set q0 (a, .inr (ci, fs.set j v)) = ws') (kk : kj_M g x nL (pc + 3) lv st k n ws') : kj_M g x nL pc lv (v :: .ref a :: st) k n ws := by
  obtain ⟨C, T, N, hc, hj, hw, hL⟩ := hL
  obtain ⟨C', T', N', hc', q1, q2, q3, q4⟩ := hF
  cases (hc.symm.trans hc' : some (C, T, N) = some (C', T', N'))
  obtain ⟨p, e, R, s, m, args, below, meth, c, A, Q⟩ := x
  obtain ⟨h1, h2, h3, h4, h5, h6, h7, h8, h9, h10, h11, h12⟩ := hx
  subst he
  intro H locs ls hlv hz hP hD hS
  exact va_putF (ref := (T j).1) h1 h2 h5 hw _ q1 q2 h4 h6 hP hD (kj_self hS) q0 hq hc j hj (h5 _ hL) (fun _ h9 => h9) q3 hi q4 (q1 j hj) hna hfit hlen hd (fun H1 locs1 hP1 hD1 hS1 => kk H1 locs1 ls hlv (Nat.le_trans hz hS1.1) hP1 hD1 (kj_comp hS hS1))
theorem kj_pt (hx : kj_ok g x own cc nL fr lc mc ms) {ci idx j a : Nat} {ty : FieldType} (hL : kj_L own idx ci j) (hF : kf_P ci j ty) (q0 : Nat) {fs : List Value} (hq : ws[q0]? = some (a, .inr (ci, fs))) {v : Value} (hna : narrow ty v = v) (hfit : fits ty v = true) (hlen : j < fs.length) (hd : decode cc pc = .ok (.putfield idx, 3)) (he : ws.set q0 (a, .inr (ci, fs.set j v)) = ws') (kk : kj_M g x nL (pc + 3) lv st k n ws') : kj_M g x nL pc lv (v :: .ref a :: st) k n ws := by
  obtain ⟨C, T, N, hc, hj, hw, hL⟩ := hL
  obtain ⟨C', T', N', hc', q1, q2, q3, q4⟩ := hF
  cases (hc.symm.trans hc' : some (C, T, N) = some (C', T', N'))
  obtain ⟨p, e, R, s, m, args, below, meth, c, A, Q⟩ := x
  obtain ⟨h1, h2, h3, h4, h5, h6, h7, h8, h9, h10, h11, h12⟩ := hx
  subst he
  intro H locs ls hlv hz hP hD hS
  exact va_put (ref := (T j).1) h1 h2 h5 hw _ q1 q2 h4 h6 hP hD (kj_self hS) q0 hq hc j hj (h5 _ hL) (fun _ h9 => h9) q3 q4 hna hfit hlen hd (fun H1 locs1 hP1 hD1 hS1 => kk H1 locs1 ls hlv (Nat.le_trans hz hS1.1) hP1 hD1 (kj_comp hS hS1))
theorem kj_gt (hx : kj_ok g x own cc nL fr lc mc ms) {ci idx j a : Nat} (hL : kj_L own idx ci j) (q0 : Nat) {fs : List Value} (hq : ws[q0]? = some (a, .inr (ci, fs))) {v : Value} (hv : fs[j]? = some v) (hd : decode cc pc = .ok (.getfield idx, 3)) (kk : kj_M g x nL (pc + 3) lv (v :: st) k n ws) : kj_M g x nL pc lv (.ref a :: st) k n ws := by
  obtain ⟨C, T, N, hc, hj, hw, hL⟩ := hL
  obtain ⟨p, e, R, s, m, args, below, meth, c, A, Q⟩ := x
  obtain ⟨h1, h2, h3, h4, h5, h6, h7, h8, h9, h10, h11, h12⟩ := hx
  intro H locs ls hlv hz hP hD hS
  exact va_get (ref := (T j).1) h1 h2 h5 hw h4 h6 hP q0 hq hc j hj (h5 _ hL) (fun _ h9 => h9) hv hd (kk H locs ls hlv hz hP hD hS)
theorem kj_iinc (hx : kj_ok g x own cc nL fr lc mc ms) {i : Nat} {z : Int} {v w : Int32} (hd : decode cc pc = .ok (.iinc i z, 3)) (q : Nat) (hq : lv[q]? = some (i, .int v)) (hv : v + Int32.ofInt z = w) (hn : i < nL) (hf : (i, Value.int w) :: lv.filter (fun q => !(q.1 == i) && !(q.1 + 1 == i && q.2.category == 2)) = lv') (kk : kj_M g x nL (pc + 3) lv' st k n ws) : kj_M g x nL pc lv st k n ws := by
  obtain ⟨p, e, R, s, m, args, below, meth, c, A, Q⟩ := x
  obtain ⟨h1, h2, -⟩ := hx
  intro H locs ls hl hz hP hD hS
  exact lv_iinc h1 h2 hd hl hq hv hn hf (fun ls' hl' => kk H locs ls' hl' hz hP hD hS)
theorem kj_istore (hx : kj_ok g x own cc nL fr lc mc ms) {i : Nat} {v : Int32} (hd : decode cc pc = .ok (.istore i, 2)) (hn : i < nL) (hf : (i, Value.int v) :: lv.filter (fun q => !(q.1 == i) && !(q.1 + 1 == i && q.2.category == 2)) = lv') (kk : kj_M g x nL (pc + 2) lv' st k n ws) : kj_M g x nL pc lv (Value.int v :: st) k n ws := by
  obtain ⟨p, e, R, s, m, args, below, meth, c, A, Q⟩ := x
  obtain ⟨h1, h2, -⟩ := hx
  intro H locs ls hl hz hP hD hS
  exact lv_istore h1 h2 hd hl hn hf (fun ls' hl' => kk H locs ls' hl' hz hP hD hS)
theorem kj_goto (hx : kj_ok g x own cc nL fr lc mc ms) {off : Int} (tgt : Nat) (hd : decode cc pc = .ok (.goto off, 3)) (ht : (pc : Int) + off = (tgt : Int)) (kk : kj_M g x nL tgt lv st k n ws) : kj_M g x nL pc lv st k n ws := by
  obtain ⟨p, e, R, s, m, args, below, meth, c, A, Q⟩ := x
  obtain ⟨h1, h2, -⟩ := hx
  intro H locs ls hl hz hP hD hS
  exact lv_goto h1 h2 hd ht (kk H locs ls hl hz hP hD hS)
theorem kj_icmp_ge (hx : kj_ok g x own cc nL fr lc mc ms) {a b : Int32} {off : Int} (tgt : Nat) (hd : decode cc pc = .ok (.if_icmp .ge off, 3)) (ht : (pc : Int) + off = (tgt : Int)) (kt : b ≤ a → kj_M g x nL tgt lv st k n ws) (ke : ¬ b ≤ a → kj_M g x nL (pc + 3) lv st k n ws) : kj_M g x nL pc lv (.int b :: .int a :: st) k n ws := by
  obtain ⟨p, e, R, s, m, args, below, meth, c, A, Q⟩ := x
  obtain ⟨h1, h2, -⟩ := hx
  intro H locs ls hl hz hP hD hS
  exact lv_icmp_ge h1 h2 hd ht (fun z => kt z H locs ls hl hz hP hD hS) (fun z => ke z H locs ls hl hz hP hD hS)
theorem kj_ldc (hx : kj_ok g x own cc nL fr lc mc ms) {idx : Nat} {v : Int32} (hc : Cond.constant own idx v ∈ kw_T) (hd : decode cc pc = .ok (.ldc idx, 2)) (kk : kj_M g x nL (pc + 2) lv (.int v :: st) k n ws) : kj_M g x nL pc lv st k n ws := by
  obtain ⟨p, e, R, s, m, args, below, meth, c, A, Q⟩ := x
  obtain ⟨h1, h2, h3, h4, h5, -⟩ := hx
  intro H locs ls hl hz hP hD hS
  exact lv_ldc h1 h2 h4 (h5 _ hc) hd (kk H locs ls hl hz hP hD hS)
end KJ
theorem kj_nil : kj_bl (fun _ => True) := fun _ _ _ _ _ => trivial
