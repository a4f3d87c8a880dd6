/-! constructors: worlds that grow; a cell that comes has the heap's size as its address -/
abbrev kj_X : Type := Program × Env × Room × State × MethodId × Array Value × List Frame × Method × Code × (Nat → Prop) × (State → Prop)
def kj_sz (x : kj_X) : Nat := match x with
  | (_, _, _, s, _) => s.heap.size
def kj_st (x : kj_X) : State := match x with
  | (_, _, _, s, _) => s
def kj_A (x : kj_X) : Nat → Prop := match x with
  | (_, _, _, _, _, _, _, _, _, A, _) => A
def kj_in (x : kj_X) : Prop := match x with
  | (_, _, _, _, _, _, _, meth, _) => meth.name = "<init>"
def kj_ok (g : kf_G) (x : kj_X) (own : String) (cc : ByteArray) (nL fr lc mc ms : Nat) : Prop := match x with
  | (p, _, R, s, m, args, _, _, c, A, _) => p.tables.exec = Jvm.exec ∧ c.code = cc ∧ c.maxLocals = nL ∧ s.vm.findClass own = some m.cls ∧ (∀ w ∈ kw_T, w.before args s = true) ∧ va_K g.2.1 kf_cl g.2.2.1 s ∧ g.2.2.1.map (fun q => q.2) = [.int, .long, .byte, .boolean, .object "TellFirst$Tray", .array .int] ∧ (∀ q : Nat, s.heap.size ≤ q → A q) ∧ fr ≤ R.frames ∧ lc ≤ R.locals ∧ mc ≤ R.cells ∧ ms ≤ R.slots
def kj_M (g : kf_G) (x : kj_X) (nL pc : Nat) (lv : List (Nat × Value)) (st : List Value) (k n : Nat) (ws : va_W) : Prop := match x with
  | (p, e, R, s, m, args, below, meth, c, A, Q) => ∀ (H : Heap) (locs : List Loc) (ls : Array Slot), lv_has ls nL lv → s.heap.size + k ≤ H.size → va_P g.2.1 kf_cl ws H → va_D A ws → va_S A s.heap H locs → W p g.1 e R s m args below meth c H locs k n Q (F0 m pc ls st)
theorem kj_ty {g : kf_G} (hg : g.2.2.1.map (fun q => q.2) = [.int, .long, .byte, .boolean, .object "TellFirst$Tray", .array .int]) {t : Nat} {ty : FieldType} (h : ([.int, .long, .byte, .boolean, .object "TellFirst$Tray", .array .int] : List FieldType)[t]? = some ty) : g.2.2.1[t]? = some (kf_cA g t, ty) := by
  rw [← hg, List.getElem?_map] at h
  unfold kf_cA
  rw [List.getD_eq_getElem?_getD]
  cases hs : g.2.2.1[t]? with
  | none => rw [hs] at h; cases h
  | some q =>
    rw [hs] at h
    have : q.2 = ty := Option.some.inj h
    rw [← this]
    rfl
theorem kj_exact {p : Program} {l : Launch} {e : Env} {R : Room} {s : State} {m : MethodId} {args : Array Value} {below : List Frame} {meth : Method} {c : Code} {H : Heap} {locs : List Loc} {k n : Nat} {Q : State → Prop} {f : JFrame} (hz : s.heap.size + k ≤ H.size) (kk : H.size = s.heap.size + k → W p l e R s m args below meth c H locs k n Q f) : W p l e R s m args below meth c H locs k n Q f := fun T hT X => kk (by have := X.heapSize; rw [hT] at this; omega) T hT X
theorem kj_self {A : Nat → Prop} {H0 H : Heap} {locs : List Loc} (hS : va_S A H0 H locs) : va_S A H H locs := ⟨Nat.le_refl _, fun _ _ _ => rfl, hS.2.2⟩
theorem kj_comp {A : Nat → Prop} {H0 H H1 : Heap} {locs locs1 : List Loc} (hS : va_S A H0 H locs) (h : va_S A H H1 locs1) : va_S A H0 H1 locs1 := ⟨Nat.le_trans hS.1 h.1, fun q h1 h2 => (h.2.1 q (Nat.lt_of_lt_of_le h1 hS.1) h2).trans (hS.2.1 q h1 h2), h.2.2⟩
section KJ
variable {g : kf_G} {x : kj_X} {own : String} {cc : ByteArray} {nL fr lc mc ms pc k n : Nat} {lv lv' : List (Nat × Value)} {st : List Value} {ws ws' : va_W}
theorem kj_iconst (hx : kj_ok g x own cc nL fr lc mc ms) {z : Int} {v : Int32} (hd : decode cc pc = .ok (.iconst z, 1)) (hv : Int32.ofInt z = v) (kk : kj_M g x nL (pc + 1) lv (.int v :: st) k n ws) : kj_M g x nL pc lv st k n ws := by
  obtain ⟨p, e, R, s, m, args, below, meth, c, A, Q⟩ := x
  obtain ⟨h1, h2, -⟩ := hx
  intro H locs ls hl hz hP hD hS
  exact lv_iconst h1 h2 hd hv (kk H locs ls hl hz hP hD hS)
theorem kj_bipush (hx : kj_ok g x own cc nL fr lc mc ms) {z : Int} {v : Int32} (hd : decode cc pc = .ok (.bipush z, 2)) (hv : (Int8.ofInt z).toInt32 = v) (kk : kj_M g x nL (pc + 2) lv (.int v :: st) k n ws) : kj_M g x nL pc lv st k n ws := by
  obtain ⟨p, e, R, s, m, args, below, meth, c, A, Q⟩ := x
  obtain ⟨h1, h2, -⟩ := hx
  intro H locs ls hl hz hP hD hS
  exact lv_bipush h1 h2 hd hv (kk H locs ls hl hz hP hD hS)
theorem kj_sipush (hx : kj_ok g x own cc nL fr lc mc ms) {z : Int} {v : Int32} (hd : decode cc pc = .ok (.sipush z, 3)) (hv : (Int16.ofInt z).toInt32 = v) (kk : kj_M g x nL (pc + 3) lv (.int v :: st) k n ws) : kj_M g x nL pc lv st k n ws := by
  obtain ⟨p, e, R, s, m, args, below, meth, c, A, Q⟩ := x
  obtain ⟨h1, h2, -⟩ := hx
  intro H locs ls hl hz hP hD hS
  exact lv_sipush h1 h2 hd hv (kk H locs ls hl hz hP hD hS)
theorem kj_lconst (hx : kj_ok g x own cc nL fr lc mc ms) {z : Fin 2} {v : Int64} (hd : decode cc pc = .ok (.lconst z, 1)) (hv : Int64.ofNat (z : Nat) = v) (kk : kj_M g x nL (pc + 1) lv (.long v :: st) k n ws) : kj_M g x nL pc lv st k n ws := by
  obtain ⟨p, e, R, s, m, args, below, meth, c, A, Q⟩ := x
  obtain ⟨h1, h2, -⟩ := hx
  intro H locs ls hl hz hP hD hS
  exact lv_lconst h1 h2 hd hv (kk H locs ls hl hz hP hD hS)
theorem kj_aload_n (hx : kj_ok g x own cc nL fr lc mc ms) {z : Fin 4} {i : Nat} {v : Nat} (hd : decode cc pc = .ok (.aload_n z, 1)) (hi : (z : Nat) = i) (q : Nat) (hq : lv[q]? = some (i, .ref v)) (kk : kj_M g x nL (pc + 1) lv (.ref v :: st) k n ws) : kj_M g x nL pc lv st k n ws := by
  obtain ⟨p, e, R, s, m, args, below, meth, c, A, Q⟩ := x
  obtain ⟨h1, h2, -⟩ := hx
  intro H locs ls hl hz hP hD hS
  exact lv_aload_n h1 h2 hd hi (lv_at hl q hq) (kk H locs ls hl hz hP hD hS)
theorem kj_iload_n (hx : kj_ok g x own cc nL fr lc mc ms) {z : Fin 4} {i : Nat} {v : Int32} (hd : decode cc pc = .ok (.iload_n z, 1)) (hi : (z : Nat) = i) (q : Nat) (hq : lv[q]? = some (i, .int v)) (kk : kj_M g x nL (pc + 1) lv (.int v :: st) k n ws) : kj_M g x nL pc lv st k n ws := by
  obtain ⟨p, e, R, s, m, args, below, meth, c, A, Q⟩ := x
  obtain ⟨h1, h2, -⟩ := hx
  intro H locs ls hl hz hP hD hS
  exact lv_iload_n h1 h2 hd hi (lv_at hl q hq) (kk H locs ls hl hz hP hD hS)
theorem kj_iload (hx : kj_ok g x own cc nL fr lc mc ms) {i : Nat} {v : Int32} (hd : decode cc pc = .ok (.iload i, 2)) (q : Nat) (hq : lv[q]? = some (i, .int v)) (kk : kj_M g x nL (pc + 2) lv (.int v :: st) k n ws) : kj_M g x nL pc lv st k n ws := by
  obtain ⟨p, e, R, s, m, args, below, meth, c, A, Q⟩ := x
  obtain ⟨h1, h2, -⟩ := hx
  intro H locs ls hl hz hP hD hS
  exact lv_iload h1 h2 hd (lv_at hl q hq) (kk H locs ls hl hz hP hD hS)
theorem kj_dup (hx : kj_ok g x own cc nL fr lc mc ms) {v : Nat} (hd : decode cc pc = .ok (.dup, 1)) (kk : kj_M g x nL (pc + 1) lv (.ref v :: .ref v :: st) k n ws) : kj_M g x nL pc lv (.ref v :: st) k n ws := by
  obtain ⟨p, e, R, s, m, args, below, meth, c, A, Q⟩ := x
  obtain ⟨h1, h2, -⟩ := hx
  intro H locs ls hl hz hP hD hS
  exact lv_dup h1 h2 hd rfl (kk H locs ls hl hz hP hD hS)
theorem kj_objInit (hx : kj_ok g x own cc nL fr lc mc ms) {idx a : Nat} (hl0 : Cond.methodLink own idx objectInit ∈ kw_T) (hi0 : Cond.instanceMethod objectInit ∈ kw_T) (hc0 : Cond.code objectInit ⟨#[0xb1]⟩ 1 none ∈ kw_T) (hf : 1 ≤ fr) (hlc : 12 ≤ lc) (hd : decode cc pc = .ok (.invokespecial idx, 3)) (kk : kj_M g x nL (pc + 3) lv [] k n ws) : kj_M g x nL pc lv [.ref a] k n ws := by
  obtain ⟨p, e, R, s, m, args, below, meth, c, A, Q⟩ := x
  obtain ⟨h1, h2, h3, h4, h5, h6, h7, h8, h9, h10, h11, h12⟩ := hx
  intro H locs ls hl hz hP hD hS
  refine W.objInit h1 h2 h4 (h5 _ hl0) (h5 _ hi0) (h5 _ hc0) rfl (by rw [h3]; exact hl.1) rfl hd (Nat.le_trans hf h9) (show 12 ≤ R.locals from Nat.le_trans hlc h10) ?_
  exact kk H locs ls hl hz hP hD hS
theorem kj_new (hx : kj_ok g x own cc nL fr lc mc ms) {ci idx N : Nat} {C : String} {T : u_T} (hc : kf_cl[ci]? = some (C, T, N)) (hin : ∀ w ∈ u_ws C T N, w ∈ kw_T) (ty : Nat → FieldType) (hty : ∀ k, k < N → parseFieldDescriptor (T k).2.2.1 = some (ty k)) (hl : Cond.classLink own idx C ∈ kw_T) (hi : Cond.instantiable C N ∈ kw_T) (hini : Cond.initialized C ∈ kw_T) {fs : List Value} (hfs : ∀ j, j < N → defaultValue (ty j) = vp_V fs j) (hk : k + 1 ≤ mc) (hn : n + N ≤ ms) (hd : decode cc pc = .ok (.new idx, 3)) (he : ws ++ [(kj_sz x + k, .inr (ci, fs))] = ws') (kk : kj_M g x nL (pc + 3) lv (.ref (kj_sz x + k) :: st) (k + 1) (n + N) ws') : kj_M g x nL pc lv st k n ws := by
  obtain ⟨p, e, R, s, m, args, below, meth, c, A, Q⟩ := x
  obtain ⟨h1, h2, h3, h4, h5, h6, h7, h8, h9, h10, h11, h12⟩ := hx
  subst he
  intro H locs ls hlv hz0 hP hD hS
  refine kj_exact hz0 fun hz => ?_
  have hKn := h6.1 ci _ hc
  refine W.newcK h1 h2 h4 (h5 _ hl) (h5 _ hi) (h5 _ hini) rfl hd (Nat.le_trans hk h11) (Nat.le_trans hn h12) hKn.2.1 rfl fun H1 kC hkC e1 z1 o1 => ?_
  have hk2 : ∀ (k : Nat) (x : Nat × va_E), ws[k]? = some x → H1[x.1]? = H[x.1]? := fun k x hx => o1 x.1 ((hP k x hx).lt)
  have hsz : kj_sz (p, e, R, s, m, args, below, meth, c, A, Q) + k = H.size := hz.symm
  rw [hsz] at kk
  refine kk H1 locs ls hlv (by omega) ((hP.kept hk2).app (fun k x hx => ?_)) (hD.push hP rfl (h8 _ hS.1)) ⟨Nat.le_trans hS.1 (by omega), fun x h1 h2 => (o1 x (Nat.lt_of_lt_of_le h1 hS.1)).trans (hS.2.1 x h1 h2), hS.2.2⟩
  have hz : k < 1 := (List.getElem?_eq_some_iff.mp hx).1
  rw [show k = 0 by omega] at hx
  cases hx
  exact ⟨_, hc, (u_born ty h5 hin hKn hkC e1 hty).to hfs⟩
theorem kj_newa (hx : kj_ok g x own cc nL fr lc mc ms) {atype : ArrayType} {ty : FieldType} (hat : newarray.typeOf atype = ty) (harr : Cond.arrayClass ty ∈ kw_T) {t : Nat} (ht : ([.int, .long, .byte, .boolean, .object "TellFirst$Tray", .array .int] : List FieldType)[t]? = some ty) (hp : t < 4) {v : Int32} {N : Nat} {a0 : vp_A} (ha : ∀ cA : ClassId, vp_cell cA a0 = arrV cA N (fun _ => defaultValue ty)) (hv : ¬ v < 0) (hN : v.toNatClampNeg = N) (hby : N * componentBytes ty ≤ 536870912) (hk : k + 1 ≤ mc) (hn : n + N ≤ ms) (hd : decode cc pc = .ok (.newarray atype, 2)) (he : ws ++ [(kj_sz x + k, .inl (kf_cA g t, a0))] = ws') (kk : kj_M g x nL (pc + 2) lv (.ref (kj_sz x + k) :: st) (k + 1) (n + N) ws') : kj_M g x nL pc lv (.int v :: st) k n ws := by
  obtain ⟨p, e, R, s, m, args, below, meth, c, A, Q⟩ := x
  obtain ⟨h1, h2, h3, h4, h5, h6, h7, h8, h9, h10, h11, h12⟩ := hx
  subst he
  subst hat
  intro H locs ls hlv hz0 hP hD hS
  refine kj_exact hz0 fun hz => ?_
  refine va_newaK h1 h2 (h5 _ harr) rfl hd rfl hv hN hby (Nat.le_trans hk h11) (Nat.le_trans hn h12) rfl fun H1 cA e1 z1 o1 hAr hNm => ?_
  have hk2 : ∀ (k : Nat) (x : Nat × va_E), ws[k]? = some x → H1[x.1]? = H[x.1]? := fun k x hx => o1 x.1 ((hP k x hx).lt)
  have hsz : kj_sz (p, e, R, s, m, args, below, meth, c, A, Q) + k = H.size := hz.symm
  have hcA : kf_cA g t = cA := by
    have h := (h6.2 t _ (kj_ty h7 ht)).2
    have h' : s.vm.findClass ("[" ++ (newarray.typeOf atype).toString) = some (kf_cA g t) := by
      cases atype <;> exact h
    exact Option.some.inj (h'.symm.trans hNm)
  rw [hsz, hcA] at kk
  refine kk H1 locs ls hlv (by omega) ((hP.kept hk2).app (fun k x hx => ?_)) (hD.push hP rfl (h8 _ hS.1)) ⟨Nat.le_trans hS.1 (by omega), fun x h1 h2 => (o1 x (Nat.lt_of_lt_of_le h1 hS.1)).trans (hS.2.1 x h1 h2), hS.2.2⟩
  have hz : k < 1 := (List.getElem?_eq_some_iff.mp hx).1
  rw [show k = 0 by omega] at hx
  cases hx
  show H1[H.size]? = some (vp_cell _ _)
  rw [ha]
  exact e1
theorem kj_putF (hx : kj_ok g x own cc nL fr lc mc ms) (hi : kj_in x) {ci idx N a : Nat} {C : String} {T : u_T} (hc : kf_cl[ci]? = some (C, T, N)) (hin : ∀ w ∈ u_ws C T N, w ∈ kw_T) (ty0 : Nat → FieldType) (hty : ∀ k, k < N → parseFieldDescriptor (T k).2.2.1 = some (ty0 k)) (hnm : ∀ a, a < N → ∀ b, b < N → a ≠ b → (T a).2.1 ≠ (T b).2.1) (q0 : Nat) {fs : List Value} (hq : ws[q0]? = some (a, .inr (ci, fs))) (j : Nat) (hj : j < N) (hl : Cond.fieldLink own idx C (T j).2.1 (T j).2.2.1 ∈ kw_T) (hC : (T j).1 = C) (hfin : (T j).2.2.2 = true) (hdecl : (T j).1 = own) {v : Value} (hna : narrow (ty0 j) v = v) (hfit : fits (ty0 j) v = true) (hlen : j < fs.length) (hd : decode cc pc = .ok (.putfield idx, 3)) (he : ws.set q0 (a, .inr (ci, fs.set j v)) = ws') (kk : kj_M g x nL (pc + 3) lv st k n ws') : kj_M g x nL pc lv (v :: .ref a :: st) k n ws := by
  obtain ⟨p, e, R, s, m, args, below, meth, c, A, Q⟩ := x
  obtain ⟨h1, h2, h3, h4, h5, h6, h7, h8, h9, h10, h11, h12⟩ := hx
  subst he
  intro H locs ls hlv hz hP hD hS
  exact va_putF (ref := C) h1 h2 h5 hin ty0 hty hnm h4 h6 hP hD (kj_self hS) q0 hq hc j hj (h5 _ hl) (fun _ h9 => by rw [hC] at h9; exact h9) hfin hi hdecl (hty j hj) hna hfit hlen hd (fun H1 locs1 hP1 hD1 hS1 => kk H1 locs1 ls hlv (Nat.le_trans hz hS1.1) hP1 hD1 (kj_comp hS hS1))
theorem kj_put (hx : kj_ok g x own cc nL fr lc mc ms) {ci idx N a : Nat} {C : String} {T : u_T} (hc : kf_cl[ci]? = some (C, T, N)) (hin : ∀ w ∈ u_ws C T N, w ∈ kw_T) (ty0 : Nat → FieldType) (hty : ∀ k, k < N → parseFieldDescriptor (T k).2.2.1 = some (ty0 k)) (hnm : ∀ a, a < N → ∀ b, b < N → a ≠ b → (T a).2.1 ≠ (T b).2.1) (q0 : Nat) {fs : List Value} (hq : ws[q0]? = some (a, .inr (ci, fs))) (j : Nat) (hj : j < N) (hl : Cond.fieldLink own idx C (T j).2.1 (T j).2.2.1 ∈ kw_T) (hC : (T j).1 = C) (hfin : (T j).2.2.2 = false) {v : Value} (hna : narrow (ty0 j) v = v) (hfit : fits (ty0 j) v = true) (hlen : j < fs.length) (hd : decode cc pc = .ok (.putfield idx, 3)) (he : ws.set q0 (a, .inr (ci, fs.set j v)) = ws') (kk : kj_M g x nL (pc + 3) lv st k n ws') : kj_M g x nL pc lv (v :: .ref a :: st) k n ws := by
  obtain ⟨p, e, R, s, m, args, below, meth, c, A, Q⟩ := x
  obtain ⟨h1, h2, h3, h4, h5, h6, h7, h8, h9, h10, h11, h12⟩ := hx
  subst he
  intro H locs ls hlv hz hP hD hS
  exact va_put (ref := C) h1 h2 h5 hin ty0 hty hnm h4 h6 hP hD (kj_self hS) q0 hq hc j hj (h5 _ hl) (fun _ h9 => by rw [hC] at h9; exact h9) hfin (hty j hj) hna hfit hlen hd (fun H1 locs1 hP1 hD1 hS1 => kk H1 locs1 ls hlv (Nat.le_trans hz hS1.1) hP1 hD1 (kj_comp hS hS1))
theorem kj_get (hx : kj_ok g x own cc nL fr lc mc ms) {ci idx N a : Nat} {C : String} {T : u_T} (hc : kf_cl[ci]? = some (C, T, N)) (hin : ∀ w ∈ u_ws C T N, w ∈ kw_T) (q0 : Nat) {fs : List Value} (hq : ws[q0]? = some (a, .inr (ci, fs))) (j : Nat) (hj : j < N) (hl : Cond.fieldLink own idx C (T j).2.1 (T j).2.2.1 ∈ kw_T) (hC : (T j).1 = C) {v : Value} (hv : fs[j]? = some v) (hd : decode cc pc = .ok (.getfield idx, 3)) (kk : kj_M g x nL (pc + 3) lv (v :: st) k n ws) : kj_M g x nL pc lv (.ref a :: st) k n ws := by
  obtain ⟨p, e, R, s, m, args, below, meth, c, A, Q⟩ := x
  obtain ⟨h1, h2, h3, h4, h5, h6, h7, h8, h9, h10, h11, h12⟩ := hx
  intro H locs ls hlv hz hP hD hS
  exact va_get (ref := C) h1 h2 h5 hin h4 h6 hP q0 hq hc j hj (h5 _ hl) (fun _ h9 => by rw [hC] at h9; exact h9) hv hd (kk H locs ls hlv hz hP hD hS)
theorem kj_iast (hx : kj_ok g x own cc nL fr lc mc ms) (q0 : Nat) {a N : Nat} {f : Nat → Int32} (hq : ws[q0]? = some (a, .inl (kf_cA g 0, N, .inl f))) {i v : Int32} (hin : vp_in i N) (hd : decode cc pc = .ok (.iastore, 1)) (he : ws.set q0 (a, .inl (kf_cA g 0, N, .inl (upd f i.toNatClampNeg v))) = ws') (kk : kj_M g x nL (pc + 1) lv st k n ws') : kj_M g x nL pc lv (.int v :: .int i :: .ref a :: st) k n ws := by
  obtain ⟨p, e, R, s, m, args, below, meth, c, A, Q⟩ := x
  obtain ⟨h1, h2, h3, h4, h5, h6, h7, h8, h9, h10, h11, h12⟩ := hx
  subst he
  intro H locs ls hlv hz hP hD hS
  exact va_iast h1 h2 h6 hP hD (kj_self hS) q0 0 hq (kj_ty h7 rfl) hin hd (fun H1 locs1 hP1 hD1 hS1 => kk H1 locs1 ls hlv (Nat.le_trans hz hS1.1) hP1 hD1 (kj_comp hS hS1))
theorem kj_last (hx : kj_ok g x own cc nL fr lc mc ms) (q0 : Nat) {a N : Nat} {f : Nat → Int64} (hq : ws[q0]? = some (a, .inl (kf_cA g 1, N, .inr (.inl f)))) {i : Int32} {v : Int64} (hin : vp_in i N) (hd : decode cc pc = .ok (.lastore, 1)) (he : ws.set q0 (a, .inl (kf_cA g 1, N, .inr (.inl (vp_updL f i.toNatClampNeg v)))) = ws') (kk : kj_M g x nL (pc + 1) lv st k n ws') : kj_M g x nL pc lv (.long v :: .int i :: .ref a :: st) k n ws := by
  obtain ⟨p, e, R, s, m, args, below, meth, c, A, Q⟩ := x
  obtain ⟨h1, h2, h3, h4, h5, h6, h7, h8, h9, h10, h11, h12⟩ := hx
  subst he
  intro H locs ls hlv hz hP hD hS
  exact va_last h1 h2 h6 hP hD (kj_self hS) q0 1 hq (kj_ty h7 rfl) hin hd (fun H1 locs1 hP1 hD1 hS1 => kk H1 locs1 ls hlv (Nat.le_trans hz hS1.1) hP1 hD1 (kj_comp hS hS1))
theorem kj_istore_n (hx : kj_ok g x own cc nL fr lc mc ms) {z : Fin 4} {i : Nat} {v : Int32} (hd : decode cc pc = .ok (.istore_n z, 1)) (hi : (z : Nat) = i) (hn : i < nL) (hf : (i, Value.int v) :: lv.filter (fun q => !(q.1 == i) && !(q.1 + 1 == i && q.2.category == 2)) = lv') (kk : kj_M g x nL (pc + 1) lv' st k n ws) : kj_M g x nL pc lv (Value.int v :: st) k n ws := by
  obtain ⟨p, e, R, s, m, args, below, meth, c, A, Q⟩ := x
  obtain ⟨h1, h2, -⟩ := hx
  intro H locs ls hl hz hP hD hS
  exact lv_istore_n h1 h2 hd hi hl hn hf (fun ls' hl' => kk H locs ls' hl' hz hP hD hS)
theorem kj_astore_n (hx : kj_ok g x own cc nL fr lc mc ms) {z : Fin 4} {i : Nat} {v : Nat} (hd : decode cc pc = .ok (.astore_n z, 1)) (hi : (z : Nat) = i) (hn : i < nL) (hf : (i, Value.ref v) :: lv.filter (fun q => !(q.1 == i) && !(q.1 + 1 == i && q.2.category == 2)) = lv') (kk : kj_M g x nL (pc + 1) lv' st k n ws) : kj_M g x nL pc lv (Value.ref v :: st) k n ws := by
  obtain ⟨p, e, R, s, m, args, below, meth, c, A, Q⟩ := x
  obtain ⟨h1, h2, -⟩ := hx
  intro H locs ls hl hz hP hD hS
  exact lv_astore_n h1 h2 hd hi hl hn hf (fun ls' hl' => kk H locs ls' hl' hz hP hD hS)
end KJ
