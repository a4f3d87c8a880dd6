/-! words: what every method's contract asks of the tables -/
def kw_ok : Cond → Bool
  | .arrayClass _ => true
  | w => w.onTables && w.keepsH
theorem kw_of {w : Cond} (h : kw_ok w = true) : (w.onTables && w.keepsH) = true ∨ ∃ ty, w = .arrayClass ty := by
  cases w <;> first | exact Or.inr ⟨_, rfl⟩ | exact Or.inl h
theorem kw_warm {args a' : Array Value} {s U : State} (hW : s.WarmedH U.vm) {c : Cond} (hc : kw_ok c = true) (h : c.before args s = true) : c.before a' U = true := by
  rcases kw_of hc with h1 | ⟨ty, rfl⟩
  · simp only [Bool.and_eq_true] at h1
    have h2 := Cond.onTables_warmH (T := U) (args' := a') hW h1.1 h1.2 h
    rwa [State.setVm_self] at h2
  · exact word_at hW (Or.inr ⟨ty, rfl⟩) h
def kw_T : List Cond := lw_tbl.filter kw_ok
theorem kw_pay {args : Array Value} {s : State} (ht : ∀ w ∈ kw_T, w.before args s = true) : ∀ w ∈ kw_T, ∀ (a' : Array Value) (U : State), s.WarmedH U.vm → w.before a' U = true :=
  fun w hw a' U hW => kw_warm hW (List.mem_filter.mp hw).2 (ht w hw)
theorem kw_in {w : Cond} (i : Nat) (h : lw_tbl[i]? = some w) (ho : kw_ok w = true) : w ∈ kw_T := List.mem_filter.mpr ⟨List.mem_of_getElem? h, ho⟩
/-! the world: cells by number, ints in I, longs in J, references fixed -/
abbrev HI : Type := Nat → Nat → Int32
abbrev HJ : Type := Nat → Nat → Int64
abbrev kf_S : Type := Nat × Nat × List Nat
abbrev kf_G : Type := Launch × va_G × List (ClassId × FieldType) × (Nat → Nat)
def sI (I : HI) (c : Nat) (f : Nat → Int32) : HI := fun a => if a = c then f else I a
def sJ (J : HJ) (c : Nat) (f : Nat → Int64) : HJ := fun a => if a = c then f else J a
def hI (I : HI) (c k : Nat) (v : Int32) : HI := sI I c (upd (I c) k v)
def hJ (J : HJ) (c k : Nat) (v : Int64) : HJ := sJ J c (vp_updL (J c) k v)
theorem sI_eq (I : HI) (c : Nat) (f : Nat → Int32) : sI I c f c = f := if_pos rfl
theorem sI_ne {I : HI} {c a : Nat} {f : Nat → Int32} (h : a ≠ c) : sI I c f a = I a := if_neg h
theorem sJ_eq (J : HJ) (c : Nat) (f : Nat → Int64) : sJ J c f c = f := if_pos rfl
theorem sJ_ne {J : HJ} {c a : Nat} {f : Nat → Int64} (h : a ≠ c) : sJ J c f a = J a := if_neg h
def kf_vl (al : Nat → Nat) (i : Nat → Int32) (j : Nat → Int64) (k t : Nat) : Value := match t with
  | 0 => .int (i k)
  | 1 => .long (j k)
  | n + 2 => .ref (al n)
def kf_cA (g : kf_G) (t : Nat) : ClassId := (g.2.2.1.getD t (0, .int)).1
def kf_ce (g : kf_G) (sh : kf_S) (i : Nat → Int32) (j : Nat → Int64) : va_E := match sh with
  | (0, ci, sl) => .inr (ci, sl.mapIdx (kf_vl g.2.2.2 i j))
  | (1, n, t) => .inl (kf_cA g (t.getD 0 0), n, .inl i)
  | (2, n, t) => .inl (kf_cA g (t.getD 0 0), n, .inr (.inl j))
  | (_, n, t) => .inl (kf_cA g (t.getD 0 0), n, .inr (.inr (.inr (.inr (fun q => some (g.2.2.2 (t.getD 1 0 + t.getD 2 0 * q)))))))
def kf_cl : List vw_C := [(RX0, TX0, 4), (RX1, TX1, 2), (RX2, TX2, 2), (RX3, TX3, 5), (RX4, TX4, 14), (RX5, TX5, 13), (RX6, TX6, 4), (RX7, TX7, 11), (RX8, TX8, 3), (RX9, TX9, 8), (RX10, TX10, 16), (RX11, TX11, 52)]
def kf_ty : Nat → Nat → FieldType := fun c => match c with
  | 0 => tyX0
  | 1 => tyX1
  | 2 => tyX2
  | 3 => tyX3
  | 4 => tyX4
  | 5 => tyX5
  | 6 => tyX6
  | 7 => tyX7
  | 8 => tyX8
  | 9 => tyX9
  | 10 => tyX10
  | _ => tyX11
def kf_SH : List kf_S := [(0, 10, [3, 12, 13, 14, 26, 38, 41, 43, 45, 50, 54, 56, 0, 0, 0, 0]), (3, 4, [4, 2, 2]), (0, 8, [5, 0, 0]), (2, 40, [1]), (0, 8, [7, 0, 0]), (2, 40, [1]), (0, 8, [9, 0, 0]), (2, 40, [1]), (0, 8, [11, 0, 0]), (2, 40, [1]), (1, 600, [2]), (0, 1, [1, 1]), (0, 4, [15, 16, 17, 18, 19, 20, 21, 22, 23, 24, 25, 0, 0, 0]), (1, 12, [0]), (1, 12, [0]), (1, 12, [0]), (1, 12, [0]), (1, 12, [0]), (1, 12, [0]), (1, 10, [0]), (1, 10, [0]), (1, 10, [0]), (1, 10, [0]), (1, 4, [0]), (0, 4, [27, 28, 29, 30, 31, 32, 33, 34, 35, 36, 37, 0, 0, 0]), (1, 12, [0]), (1, 12, [0]), (1, 12, [0]), (1, 12, [0]), (1, 12, [0]), (1, 12, [0]), (1, 10, [0]), (1, 10, [0]), (1, 10, [0]), (1, 10, [0]), (1, 4, [0]), (0, 5, [39, 40, 12, 26, 0, 0, 0, 0, 0, 1, 0, 0, 0]), (2, 13, [1]), (2, 12, [1]), (0, 2, [14, 42]), (2, 1024, [1]), (0, 0, [14, 41, 44, 1]), (2, 12, [1]), (0, 9, [14, 41, 46, 47, 48, 49, 1, 1]), (1, 1024, [0]), (1, 1024, [0]), (2, 1024, [1]), (2, 1024, [1]), (0, 7, [14, 51, 52, 53, 0, 0, 0, 0, 0, 0, 0]), (1, 12, [0]), (1, 8, [0]), (1, 8, [0]), (0, 3, [14, 41, 50, 55, 1]), (2, 12, [1]), (0, 6, [14, 57, 73, 0]), (3, 15, [5, 56, 1]), (1, 12, [0]), (1, 12, [0]), (1, 12, [0]), (1, 12, [0]), (1, 12, [0]), (1, 12, [0]), (1, 12, [0]), (1, 12, [0]), (1, 12, [0]), (1, 12, [0]), (1, 12, [0]), (1, 12, [0]), (1, 12, [0]), (1, 12, [0]), (1, 12, [0]), (1, 12, [0]), (0, 11, [0, 0, 1, 1, 75, 76, 77, 78, 0, 0, 0, 0, 0, 0, 0, 0, 0, 0, 0, 1, 0, 0, 0, 0, 79, 80, 81, 82, 83, 84, 85, 86, 87, 88, 89, 90, 91, 92, 0, 93, 94, 95, 96, 97, 1, 1, 98, 99, 100, 101, 1, 1]), (1, 4, [0]), (1, 4, [0]), (2, 160, [1]), (1, 600, [2]), (1, 60, [0]), (1, 60, [0]), (1, 10, [0]), (1, 10, [0]), (1, 10, [0]), (1, 10, [0]), (1, 10, [0]), (1, 10, [0]), (1, 10, [0]), (1, 10, [0]), (1, 4, [0]), (1, 4, [0]), (2, 12, [1]), (1, 4, [3]), (1, 180, [0]), (1, 12, [0]), (1, 12, [0]), (1, 12, [0]), (1, 10, [0]), (2, 12, [1]), (2, 49152, [1]), (1, 12, [0]), (1, 12, [0])]
def kf_ws (g : kf_G) (I : HI) (J : HJ) : va_W := kf_SH.mapIdx (fun c sh => (g.2.2.2 c, kf_ce g sh (I c) (J c)))
theorem kf_at {g : kf_G} {I : HI} {J : HJ} {c : Nat} {sh : kf_S} (h : kf_SH[c]? = some sh) : (kf_ws g I J)[c]? = some (g.2.2.2 c, kf_ce g sh (I c) (J c)) := by
  unfold kf_ws
  rw [List.getElem?_mapIdx, h]
  rfl
theorem kf_back {g : kf_G} {I : HI} {J : HJ} {c : Nat} {q : Nat × va_E} (h : (kf_ws g I J)[c]? = some q) : q.1 = g.2.2.2 c ∧ c < kf_SH.length := by
  unfold kf_ws at h
  rw [List.getElem?_mapIdx] at h
  cases hs : kf_SH[c]? with
  | none => rw [hs] at h; cases h
  | some sh =>
    rw [hs] at h
    cases h
    exact ⟨rfl, (List.getElem?_eq_some_iff.mp hs).1⟩
theorem kf_setI {g : kf_G} {I : HI} {J : HJ} {c : Nat} {sh : kf_S} {e : va_E} (f : Nat → Int32) (h : kf_SH[c]? = some sh) (he : e = kf_ce g sh f (J c)) : (kf_ws g I J).set c (g.2.2.2 c, e) = kf_ws g (sI I c f) J := by
  subst he
  apply List.ext_getElem?
  intro k
  have hl : c < (kf_ws g I J).length := (List.getElem?_eq_some_iff.mp (kf_at (g := g) (I := I) (J := J) h)).1
  by_cases hk : k = c
  · subst hk
    rw [List.getElem?_set_self hl, kf_at h, sI_eq]
  · rw [List.getElem?_set_ne (Ne.symm hk)]
    unfold kf_ws
    rw [List.getElem?_mapIdx, List.getElem?_mapIdx, sI_ne hk]
theorem kf_setJ {g : kf_G} {I : HI} {J : HJ} {c : Nat} {sh : kf_S} {e : va_E} (f : Nat → Int64) (h : kf_SH[c]? = some sh) (he : e = kf_ce g sh (I c) f) : (kf_ws g I J).set c (g.2.2.2 c, e) = kf_ws g I (sJ J c f) := by
  subst he
  apply List.ext_getElem?
  intro k
  have hl : c < (kf_ws g I J).length := (List.getElem?_eq_some_iff.mp (kf_at (g := g) (I := I) (J := J) h)).1
  by_cases hk : k = c
  · subst hk
    rw [List.getElem?_set_self hl, kf_at h, sJ_eq]
  · rw [List.getElem?_set_ne (Ne.symm hk)]
    unfold kf_ws
    rw [List.getElem?_mapIdx, List.getElem?_mapIdx, sJ_ne hk]
theorem kf_fI {al : Nat → Nat} {i : Nat → Int32} {j : Nat → Int64} {sl : List Nat} {k : Nat} {v : Int32} (h : sl[k]? = some 0) : (sl.mapIdx (kf_vl al i j)).set k (.int v) = sl.mapIdx (kf_vl al (upd i k v) j) := by
  apply List.ext_getElem?
  intro a
  have hl : k < (sl.mapIdx (kf_vl al i j)).length := by rw [List.length_mapIdx]; exact (List.getElem?_eq_some_iff.mp h).1
  by_cases ha : a = k
  · subst ha
    rw [List.getElem?_set_self hl, List.getElem?_mapIdx, h]
    simp [kf_vl, upd]
  · rw [List.getElem?_set_ne (Ne.symm ha), List.getElem?_mapIdx, List.getElem?_mapIdx]
    cases sl[a]? with
    | none => rfl
    | some t =>
      match t with
      | 0 => simp [kf_vl, upd, ha]
      | 1 => simp [kf_vl]
      | n + 2 => simp [kf_vl]
theorem kf_fJ {al : Nat → Nat} {i : Nat → Int32} {j : Nat → Int64} {sl : List Nat} {k : Nat} {v : Int64} (h : sl[k]? = some 1) : (sl.mapIdx (kf_vl al i j)).set k (.long v) = sl.mapIdx (kf_vl al i (vp_updL j k v)) := by
  apply List.ext_getElem?
  intro a
  have hl : k < (sl.mapIdx (kf_vl al i j)).length := by rw [List.length_mapIdx]; exact (List.getElem?_eq_some_iff.mp h).1
  by_cases ha : a = k
  · subst ha
    rw [List.getElem?_set_self hl, List.getElem?_mapIdx, h]
    simp [kf_vl, vp_updL]
  · rw [List.getElem?_set_ne (Ne.symm ha), List.getElem?_mapIdx, List.getElem?_mapIdx]
    cases sl[a]? with
    | none => rfl
    | some t =>
      match t with
      | 0 => simp [kf_vl]
      | 1 => simp [kf_vl, vp_updL, ha]
      | n + 2 => simp [kf_vl]
/-- the fixed part: array classes by number, addresses apart -/
def kf_g (g : kf_G) : Prop := g.2.2.1.map (fun q => q.2) = [.int, .long, .byte, .boolean, .object "TellFirst$Tray", .array .int] ∧ ∀ i j : Nat, i < kf_SH.length → j < kf_SH.length → g.2.2.2 i = g.2.2.2 j → i = j
theorem kf_tys {g : kf_G} (hg : kf_g g) {t : Nat} {ty : FieldType} (h : ([.int, .long, .byte, .boolean, .object "TellFirst$Tray", .array .int] : List FieldType)[t]? = some ty) : g.2.2.1[t]? = some (kf_cA g t, ty) := by
  rw [← hg.1, List.getElem?_map] at h
  unfold kf_cA
  rw [List.getD_eq_getElem?_getD]
  cases hs : g.2.2.1[t]? with
  | none => rw [hs] at h; cases h
  | some q =>
    rw [hs] at h
    have : q.2 = ty := Option.some.inj h
    rw [← this]
    rfl
theorem kf_D {g : kf_G} (hg : kf_g g) {A : Nat → Prop} (hA : ∀ c : Nat, c < kf_SH.length → A (g.2.2.2 c)) (I : HI) (J : HJ) : va_D A (kf_ws g I J) := by
  refine ⟨fun i j p q hi hj hpq => ?_, fun k q hk => ?_⟩
  · obtain ⟨h1, h2⟩ := kf_back hi
    obtain ⟨h3, h4⟩ := kf_back hj
    exact hg.2 i j h2 h4 (h1.symm.trans (hpq.trans h3))
  · obtain ⟨h1, h2⟩ := kf_back hk
    rw [h1]
    exact hA k h2
/-- a walk's fixed things -/
abbrev kf_X : Type := Program × Env × Room × State × MethodId × Array Value × List Frame × Method × Code × (Nat → Prop) × Nat × Nat × (State → Prop)
def kf_ok (g : kf_G) (x : kf_X) (own : String) (cc : ByteArray) (nL fr lc : Nat) : Prop := match x with
  | (p, _, R, s, m, args, _, meth, c, A, cells, slots, _) => p.tables.exec = Jvm.exec ∧ c.code = cc ∧ c.maxLocals = nL ∧ s.vm.findClass own = some m.cls ∧ (∀ w ∈ kw_T, w.before args s = true) ∧ va_K g.2.1 kf_cl g.2.2.1 s ∧ kf_g g ∧ (∀ c : Nat, c < kf_SH.length → A (g.2.2.2 c)) ∧ (∀ q : Nat, s.heap.size ≤ q → A q) ∧ fr ≤ R.frames ∧ lc ≤ R.locals ∧ meth.locks = false ∧ cells ≤ R.cells ∧ slots ≤ R.slots
def kf_M (g : kf_G) (x : kf_X) (nL pc : Nat) (lv : List (Nat × Value)) (st : List Value) (I : HI) (J : HJ) : Prop := match x with
  | (p, e, R, s, m, args, below, meth, c, A, cells, slots, Q) => ∀ (H : Heap) (locs : List Loc) (ls : Array Slot), lv_has ls nL lv → va_P g.2.1 kf_cl (kf_ws g I J) H → va_S A s.heap H locs → W p g.1 e R s m args below meth c H locs cells slots Q (F0 m pc ls st)
section KF
variable {g : kf_G} {x : kf_X} {own : String} {cc : ByteArray} {nL fr lc pc : Nat} {lv lv' : List (Nat × Value)} {st : List Value} {I : HI} {J : HJ}
theorem kf_sub (ks : List Nat) (h : lv_pick lv ks = lv') (k : kf_M g x nL pc lv' st I J) : kf_M g x nL pc lv st I J := by
  obtain ⟨p, e, R, s, m, args, below, meth, c, A, cells, slots, Q⟩ := x
  intro H locs ls hl hP hS
  exact k H locs ls (lv_sub hl ks h) hP hS
theorem kf_iconst (hx : kf_ok g x own cc nL fr lc) {n : Int} {v : Int32} (hd : decode cc pc = .ok (.iconst n, 1)) (hv : Int32.ofInt n = v) (k : kf_M g x nL (pc + 1) lv (.int v :: st) I J) : kf_M g x nL pc lv (st) I J := by
  obtain ⟨p, e, R, s, m, args, below, meth, c, A, cells, slots, Q⟩ := x
  obtain ⟨h1, h2, h3, h4, h5, -⟩ := hx
  intro H locs ls hl hP hS
  exact lv_iconst h1 h2 hd hv (k H locs ls hl hP hS)
theorem kf_bipush (hx : kf_ok g x own cc nL fr lc) {n : Int} {v : Int32} (hd : decode cc pc = .ok (.bipush n, 2)) (hv : (Int8.ofInt n).toInt32 = v) (k : kf_M g x nL (pc + 2) lv (.int v :: st) I J) : kf_M g x nL pc lv (st) I J := by
  obtain ⟨p, e, R, s, m, args, below, meth, c, A, cells, slots, Q⟩ := x
  obtain ⟨h1, h2, h3, h4, h5, -⟩ := hx
  intro H locs ls hl hP hS
  exact lv_bipush h1 h2 hd hv (k H locs ls hl hP hS)
theorem kf_sipush (hx : kf_ok g x own cc nL fr lc) {n : Int} {v : Int32} (hd : decode cc pc = .ok (.sipush n, 3)) (hv : (Int16.ofInt n).toInt32 = v) (k : kf_M g x nL (pc + 3) lv (.int v :: st) I J) : kf_M g x nL pc lv (st) I J := by
  obtain ⟨p, e, R, s, m, args, below, meth, c, A, cells, slots, Q⟩ := x
  obtain ⟨h1, h2, h3, h4, h5, -⟩ := hx
  intro H locs ls hl hP hS
  exact lv_sipush h1 h2 hd hv (k H locs ls hl hP hS)
theorem kf_lconst (hx : kf_ok g x own cc nL fr lc) {n : Fin 2} {v : Int64} (hd : decode cc pc = .ok (.lconst n, 1)) (hv : Int64.ofNat (n : Nat) = v) (k : kf_M g x nL (pc + 1) lv (.long v :: st) I J) : kf_M g x nL pc lv (st) I J := by
  obtain ⟨p, e, R, s, m, args, below, meth, c, A, cells, slots, Q⟩ := x
  obtain ⟨h1, h2, h3, h4, h5, -⟩ := hx
  intro H locs ls hl hP hS
  exact lv_lconst h1 h2 hd hv (k H locs ls hl hP hS)
theorem kf_iload_n (hx : kf_ok g x own cc nL fr lc) {n : Fin 4} {i : Nat} {v : Int32} (hd : decode cc pc = .ok (.iload_n n, 1)) (hi : (n : Nat) = i) (q : Nat) (hq : lv[q]? = some (i, .int v)) (k : kf_M g x nL (pc + 1) lv (.int v :: st) I J) : kf_M g x nL pc lv (st) I J := by
  obtain ⟨p, e, R, s, m, args, below, meth, c, A, cells, slots, Q⟩ := x
  obtain ⟨h1, h2, h3, h4, h5, -⟩ := hx
  intro H locs ls hl hP hS
  exact lv_iload_n h1 h2 hd hi (lv_at hl q hq) (k H locs ls hl hP hS)
theorem kf_iload (hx : kf_ok g x own cc nL fr lc) {i : Nat} {v : Int32} (hd : decode cc pc = .ok (.iload i, 2)) (q : Nat) (hq : lv[q]? = some (i, .int v)) (k : kf_M g x nL (pc + 2) lv (.int v :: st) I J) : kf_M g x nL pc lv (st) I J := by
  obtain ⟨p, e, R, s, m, args, below, meth, c, A, cells, slots, Q⟩ := x
  obtain ⟨h1, h2, h3, h4, h5, -⟩ := hx
  intro H locs ls hl hP hS
  exact lv_iload h1 h2 hd (lv_at hl q hq) (k H locs ls hl hP hS)
theorem kf_lload_n (hx : kf_ok g x own cc nL fr lc) {n : Fin 4} {i : Nat} {v : Int64} (hd : decode cc pc = .ok (.lload_n n, 1)) (hi : (n : Nat) = i) (q : Nat) (hq : lv[q]? = some (i, .long v)) (k : kf_M g x nL (pc + 1) lv (.long v :: st) I J) : kf_M g x nL pc lv (st) I J := by
  obtain ⟨p, e, R, s, m, args, below, meth, c, A, cells, slots, Q⟩ := x
  obtain ⟨h1, h2, h3, h4, h5, -⟩ := hx
  intro H locs ls hl hP hS
  exact lv_lload_n h1 h2 hd hi (lv_at hl q hq) (k H locs ls hl hP hS)
theorem kf_lload (hx : kf_ok g x own cc nL fr lc) {i : Nat} {v : Int64} (hd : decode cc pc = .ok (.lload i, 2)) (q : Nat) (hq : lv[q]? = some (i, .long v)) (k : kf_M g x nL (pc + 2) lv (.long v :: st) I J) : kf_M g x nL pc lv (st) I J := by
  obtain ⟨p, e, R, s, m, args, below, meth, c, A, cells, slots, Q⟩ := x
  obtain ⟨h1, h2, h3, h4, h5, -⟩ := hx
  intro H locs ls hl hP hS
  exact lv_lload h1 h2 hd (lv_at hl q hq) (k H locs ls hl hP hS)
theorem kf_aload_n (hx : kf_ok g x own cc nL fr lc) {n : Fin 4} {i : Nat} {v : Nat} (hd : decode cc pc = .ok (.aload_n n, 1)) (hi : (n : Nat) = i) (q : Nat) (hq : lv[q]? = some (i, .ref v)) (k : kf_M g x nL (pc + 1) lv (.ref v :: st) I J) : kf_M g x nL pc lv (st) I J := by
  obtain ⟨p, e, R, s, m, args, below, meth, c, A, cells, slots, Q⟩ := x
  obtain ⟨h1, h2, h3, h4, h5, -⟩ := hx
  intro H locs ls hl hP hS
  exact lv_aload_n h1 h2 hd hi (lv_at hl q hq) (k H locs ls hl hP hS)
theorem kf_aload (hx : kf_ok g x own cc nL fr lc) {i : Nat} {v : Nat} (hd : decode cc pc = .ok (.aload i, 2)) (q : Nat) (hq : lv[q]? = some (i, .ref v)) (k : kf_M g x nL (pc + 2) lv (.ref v :: st) I J) : kf_M g x nL pc lv (st) I J := by
  obtain ⟨p, e, R, s, m, args, below, meth, c, A, cells, slots, Q⟩ := x
  obtain ⟨h1, h2, h3, h4, h5, -⟩ := hx
  intro H locs ls hl hP hS
  exact lv_aload h1 h2 hd (lv_at hl q hq) (k H locs ls hl hP hS)
theorem kf_istore_n (hx : kf_ok g x own cc nL fr lc) {n : Fin 4} {i : Nat} {v : Int32} (hd : decode cc pc = .ok (.istore_n n, 1)) (hi : (n : Nat) = i) (hn : i < nL) (hf : (i, Value.int v) :: lv.filter (fun q => !(q.1 == i) && !(q.1 + 1 == i && q.2.category == 2)) = lv') (k : kf_M g x nL (pc + 1) lv' st I J) : kf_M g x nL pc lv (Value.int v :: st) I J := by
  obtain ⟨p, e, R, s, m, args, below, meth, c, A, cells, slots, Q⟩ := x
  obtain ⟨h1, h2, h3, h4, h5, -⟩ := hx
  intro H locs ls hl hP hS
  exact lv_istore_n h1 h2 hd hi hl hn hf (fun ls' hl' => k H locs ls' hl' hP hS)
theorem kf_istore (hx : kf_ok g x own cc nL fr lc) {i : Nat} {v : Int32} (hd : decode cc pc = .ok (.istore i, 2)) (hn : i < nL) (hf : (i, Value.int v) :: lv.filter (fun q => !(q.1 == i) && !(q.1 + 1 == i && q.2.category == 2)) = lv') (k : kf_M g x nL (pc + 2) lv' st I J) : kf_M g x nL pc lv (Value.int v :: st) I J := by
  obtain ⟨p, e, R, s, m, args, below, meth, c, A, cells, slots, Q⟩ := x
  obtain ⟨h1, h2, h3, h4, h5, -⟩ := hx
  intro H locs ls hl hP hS
  exact lv_istore h1 h2 hd hl hn hf (fun ls' hl' => k H locs ls' hl' hP hS)
theorem kf_lstore_n (hx : kf_ok g x own cc nL fr lc) {n : Fin 4} {i : Nat} {v : Int64} (hd : decode cc pc = .ok (.lstore_n n, 1)) (hi : (n : Nat) = i) (hn : i + 1 < nL) (hf : (i, Value.long v) :: lv.filter (fun q => !(q.1 == i) && (!(q.1 == i + 1) && !(q.1 + 1 == i && q.2.category == 2))) = lv') (k : kf_M g x nL (pc + 1) lv' st I J) : kf_M g x nL pc lv (Value.long v :: st) I J := by
  obtain ⟨p, e, R, s, m, args, below, meth, c, A, cells, slots, Q⟩ := x
  obtain ⟨h1, h2, h3, h4, h5, -⟩ := hx
  intro H locs ls hl hP hS
  exact lv_lstore_n h1 h2 hd hi hl hn hf (fun ls' hl' => k H locs ls' hl' hP hS)
theorem kf_lstore (hx : kf_ok g x own cc nL fr lc) {i : Nat} {v : Int64} (hd : decode cc pc = .ok (.lstore i, 2)) (hn : i + 1 < nL) (hf : (i, Value.long v) :: lv.filter (fun q => !(q.1 == i) && (!(q.1 == i + 1) && !(q.1 + 1 == i && q.2.category == 2))) = lv') (k : kf_M g x nL (pc + 2) lv' st I J) : kf_M g x nL pc lv (Value.long v :: st) I J := by
  obtain ⟨p, e, R, s, m, args, below, meth, c, A, cells, slots, Q⟩ := x
  obtain ⟨h1, h2, h3, h4, h5, -⟩ := hx
  intro H locs ls hl hP hS
  exact lv_lstore h1 h2 hd hl hn hf (fun ls' hl' => k H locs ls' hl' hP hS)
theorem kf_astore_n (hx : kf_ok g x own cc nL fr lc) {n : Fin 4} {i : Nat} {v : Nat} (hd : decode cc pc = .ok (.astore_n n, 1)) (hi : (n : Nat) = i) (hn : i < nL) (hf : (i, Value.ref v) :: lv.filter (fun q => !(q.1 == i) && !(q.1 + 1 == i && q.2.category == 2)) = lv') (k : kf_M g x nL (pc + 1) lv' st I J) : kf_M g x nL pc lv (Value.ref v :: st) I J := by
  obtain ⟨p, e, R, s, m, args, below, meth, c, A, cells, slots, Q⟩ := x
  obtain ⟨h1, h2, h3, h4, h5, -⟩ := hx
  intro H locs ls hl hP hS
  exact lv_astore_n h1 h2 hd hi hl hn hf (fun ls' hl' => k H locs ls' hl' hP hS)
theorem kf_astore (hx : kf_ok g x own cc nL fr lc) {i : Nat} {v : Nat} (hd : decode cc pc = .ok (.astore i, 2)) (hn : i < nL) (hf : (i, Value.ref v) :: lv.filter (fun q => !(q.1 == i) && !(q.1 + 1 == i && q.2.category == 2)) = lv') (k : kf_M g x nL (pc + 2) lv' st I J) : kf_M g x nL pc lv (Value.ref v :: st) I J := by
  obtain ⟨p, e, R, s, m, args, below, meth, c, A, cells, slots, Q⟩ := x
  obtain ⟨h1, h2, h3, h4, h5, -⟩ := hx
  intro H locs ls hl hP hS
  exact lv_astore h1 h2 hd hl hn hf (fun ls' hl' => k H locs ls' hl' hP hS)
theorem kf_iinc (hx : kf_ok g x own cc nL fr lc) {i : Nat} {n : Int} {v w : Int32} (hd : decode cc pc = .ok (.iinc i n, 3)) (q : Nat) (hq : lv[q]? = some (i, .int v)) (hv : v + Int32.ofInt n = w) (hn : i < nL) (hf : (i, Value.int w) :: lv.filter (fun q => !(q.1 == i) && !(q.1 + 1 == i && q.2.category == 2)) = lv') (k : kf_M g x nL (pc + 3) lv' st I J) : kf_M g x nL pc lv st I J := by
  obtain ⟨p, e, R, s, m, args, below, meth, c, A, cells, slots, Q⟩ := x
  obtain ⟨h1, h2, h3, h4, h5, -⟩ := hx
  intro H locs ls hl hP hS
  exact lv_iinc h1 h2 hd hl hq hv hn hf (fun ls' hl' => k H locs ls' hl' hP hS)
theorem kf_iadd (hx : kf_ok g x own cc nL fr lc) {a b : Int32} (hd : decode cc pc = .ok (.iadd, 1)) (k : kf_M g x nL (pc + 1) lv (.int (a + b) :: st) I J) : kf_M g x nL pc lv (.int b :: .int a :: st) I J := by
  obtain ⟨p, e, R, s, m, args, below, meth, c, A, cells, slots, Q⟩ := x
  obtain ⟨h1, h2, h3, h4, h5, -⟩ := hx
  intro H locs ls hl hP hS
  exact lv_iadd h1 h2 hd (k H locs ls hl hP hS)
theorem kf_isub (hx : kf_ok g x own cc nL fr lc) {a b : Int32} (hd : decode cc pc = .ok (.isub, 1)) (k : kf_M g x nL (pc + 1) lv (.int (a - b) :: st) I J) : kf_M g x nL pc lv (.int b :: .int a :: st) I J := by
  obtain ⟨p, e, R, s, m, args, below, meth, c, A, cells, slots, Q⟩ := x
  obtain ⟨h1, h2, h3, h4, h5, -⟩ := hx
  intro H locs ls hl hP hS
  exact lv_isub h1 h2 hd (k H locs ls hl hP hS)
theorem kf_imul (hx : kf_ok g x own cc nL fr lc) {a b : Int32} (hd : decode cc pc = .ok (.imul, 1)) (k : kf_M g x nL (pc + 1) lv (.int (a * b) :: st) I J) : kf_M g x nL pc lv (.int b :: .int a :: st) I J := by
  obtain ⟨p, e, R, s, m, args, below, meth, c, A, cells, slots, Q⟩ := x
  obtain ⟨h1, h2, h3, h4, h5, -⟩ := hx
  intro H locs ls hl hP hS
  exact lv_imul h1 h2 hd (k H locs ls hl hP hS)
theorem kf_iand (hx : kf_ok g x own cc nL fr lc) {a b : Int32} (hd : decode cc pc = .ok (.iand, 1)) (k : kf_M g x nL (pc + 1) lv (.int (a &&& b) :: st) I J) : kf_M g x nL pc lv (.int b :: .int a :: st) I J := by
  obtain ⟨p, e, R, s, m, args, below, meth, c, A, cells, slots, Q⟩ := x
  obtain ⟨h1, h2, h3, h4, h5, -⟩ := hx
  intro H locs ls hl hP hS
  exact lv_iand h1 h2 hd (k H locs ls hl hP hS)
theorem kf_ior (hx : kf_ok g x own cc nL fr lc) {a b : Int32} (hd : decode cc pc = .ok (.ior, 1)) (k : kf_M g x nL (pc + 1) lv (.int (a ||| b) :: st) I J) : kf_M g x nL pc lv (.int b :: .int a :: st) I J := by
  obtain ⟨p, e, R, s, m, args, below, meth, c, A, cells, slots, Q⟩ := x
  obtain ⟨h1, h2, h3, h4, h5, -⟩ := hx
  intro H locs ls hl hP hS
  exact lv_ior h1 h2 hd (k H locs ls hl hP hS)
theorem kf_ixor (hx : kf_ok g x own cc nL fr lc) {a b : Int32} (hd : decode cc pc = .ok (.ixor, 1)) (k : kf_M g x nL (pc + 1) lv (.int (a ^^^ b) :: st) I J) : kf_M g x nL pc lv (.int b :: .int a :: st) I J := by
  obtain ⟨p, e, R, s, m, args, below, meth, c, A, cells, slots, Q⟩ := x
  obtain ⟨h1, h2, h3, h4, h5, -⟩ := hx
  intro H locs ls hl hP hS
  exact lv_ixor h1 h2 hd (k H locs ls hl hP hS)
theorem kf_idiv (hx : kf_ok g x own cc nL fr lc) {a b : Int32} (hd : decode cc pc = .ok (.idiv, 1)) (hne : ¬ b = 0) (k : kf_M g x nL (pc + 1) lv (.int (a / b) :: st) I J) : kf_M g x nL pc lv (.int b :: .int a :: st) I J := by
  obtain ⟨p, e, R, s, m, args, below, meth, c, A, cells, slots, Q⟩ := x
  obtain ⟨h1, h2, h3, h4, h5, -⟩ := hx
  intro H locs ls hl hP hS
  exact lv_idiv h1 h2 hd hne (k H locs ls hl hP hS)
theorem kf_irem (hx : kf_ok g x own cc nL fr lc) {a b : Int32} (hd : decode cc pc = .ok (.irem, 1)) (hne : ¬ b = 0) (k : kf_M g x nL (pc + 1) lv (.int (a - a / b * b) :: st) I J) : kf_M g x nL pc lv (.int b :: .int a :: st) I J := by
  obtain ⟨p, e, R, s, m, args, below, meth, c, A, cells, slots, Q⟩ := x
  obtain ⟨h1, h2, h3, h4, h5, -⟩ := hx
  intro H locs ls hl hP hS
  exact lv_irem h1 h2 hd hne (k H locs ls hl hP hS)
theorem kf_ladd (hx : kf_ok g x own cc nL fr lc) {a b : Int64} (hd : decode cc pc = .ok (.ladd, 1)) (k : kf_M g x nL (pc + 1) lv (.long (a + b) :: st) I J) : kf_M g x nL pc lv (.long b :: .long a :: st) I J := by
  obtain ⟨p, e, R, s, m, args, below, meth, c, A, cells, slots, Q⟩ := x
  obtain ⟨h1, h2, h3, h4, h5, -⟩ := hx
  intro H locs ls hl hP hS
  exact lv_ladd h1 h2 hd (k H locs ls hl hP hS)
theorem kf_lsub (hx : kf_ok g x own cc nL fr lc) {a b : Int64} (hd : decode cc pc = .ok (.lsub, 1)) (k : kf_M g x nL (pc + 1) lv (.long (a - b) :: st) I J) : kf_M g x nL pc lv (.long b :: .long a :: st) I J := by
  obtain ⟨p, e, R, s, m, args, below, meth, c, A, cells, slots, Q⟩ := x
  obtain ⟨h1, h2, h3, h4, h5, -⟩ := hx
  intro H locs ls hl hP hS
  exact lv_lsub h1 h2 hd (k H locs ls hl hP hS)
theorem kf_lmul (hx : kf_ok g x own cc nL fr lc) {a b : Int64} (hd : decode cc pc = .ok (.lmul, 1)) (k : kf_M g x nL (pc + 1) lv (.long (a * b) :: st) I J) : kf_M g x nL pc lv (.long b :: .long a :: st) I J := by
  obtain ⟨p, e, R, s, m, args, below, meth, c, A, cells, slots, Q⟩ := x
  obtain ⟨h1, h2, h3, h4, h5, -⟩ := hx
  intro H locs ls hl hP hS
  exact lv_lmul h1 h2 hd (k H locs ls hl hP hS)
theorem kf_land (hx : kf_ok g x own cc nL fr lc) {a b : Int64} (hd : decode cc pc = .ok (.land, 1)) (k : kf_M g x nL (pc + 1) lv (.long (a &&& b) :: st) I J) : kf_M g x nL pc lv (.long b :: .long a :: st) I J := by
  obtain ⟨p, e, R, s, m, args, below, meth, c, A, cells, slots, Q⟩ := x
  obtain ⟨h1, h2, h3, h4, h5, -⟩ := hx
  intro H locs ls hl hP hS
  exact lv_land h1 h2 hd (k H locs ls hl hP hS)
theorem kf_lor (hx : kf_ok g x own cc nL fr lc) {a b : Int64} (hd : decode cc pc = .ok (.lor, 1)) (k : kf_M g x nL (pc + 1) lv (.long (a ||| b) :: st) I J) : kf_M g x nL pc lv (.long b :: .long a :: st) I J := by
  obtain ⟨p, e, R, s, m, args, below, meth, c, A, cells, slots, Q⟩ := x
  obtain ⟨h1, h2, h3, h4, h5, -⟩ := hx
  intro H locs ls hl hP hS
  exact lv_lor h1 h2 hd (k H locs ls hl hP hS)
theorem kf_lxor (hx : kf_ok g x own cc nL fr lc) {a b : Int64} (hd : decode cc pc = .ok (.lxor, 1)) (k : kf_M g x nL (pc + 1) lv (.long (a ^^^ b) :: st) I J) : kf_M g x nL pc lv (.long b :: .long a :: st) I J := by
  obtain ⟨p, e, R, s, m, args, below, meth, c, A, cells, slots, Q⟩ := x
  obtain ⟨h1, h2, h3, h4, h5, -⟩ := hx
  intro H locs ls hl hP hS
  exact lv_lxor h1 h2 hd (k H locs ls hl hP hS)
theorem kf_ldiv (hx : kf_ok g x own cc nL fr lc) {a b : Int64} (hd : decode cc pc = .ok (.ldiv, 1)) (hne : ¬ b = 0) (k : kf_M g x nL (pc + 1) lv (.long (a / b) :: st) I J) : kf_M g x nL pc lv (.long b :: .long a :: st) I J := by
  obtain ⟨p, e, R, s, m, args, below, meth, c, A, cells, slots, Q⟩ := x
  obtain ⟨h1, h2, h3, h4, h5, -⟩ := hx
  intro H locs ls hl hP hS
  exact lv_ldiv h1 h2 hd hne (k H locs ls hl hP hS)
theorem kf_lrem (hx : kf_ok g x own cc nL fr lc) {a b : Int64} (hd : decode cc pc = .ok (.lrem, 1)) (hne : ¬ b = 0) (k : kf_M g x nL (pc + 1) lv (.long (a - a / b * b) :: st) I J) : kf_M g x nL pc lv (.long b :: .long a :: st) I J := by
  obtain ⟨p, e, R, s, m, args, below, meth, c, A, cells, slots, Q⟩ := x
  obtain ⟨h1, h2, h3, h4, h5, -⟩ := hx
  intro H locs ls hl hP hS
  exact lv_lrem h1 h2 hd hne (k H locs ls hl hP hS)
theorem kf_ishl (hx : kf_ok g x own cc nL fr lc) {a b : Int32} (hd : decode cc pc = .ok (.ishl, 1)) (k : kf_M g x nL (pc + 1) lv (.int (a <<< (b &&& 31)) :: st) I J) : kf_M g x nL pc lv (.int b :: .int a :: st) I J := by
  obtain ⟨p, e, R, s, m, args, below, meth, c, A, cells, slots, Q⟩ := x
  obtain ⟨h1, h2, h3, h4, h5, -⟩ := hx
  intro H locs ls hl hP hS
  exact lv_ishl h1 h2 hd (k H locs ls hl hP hS)
theorem kf_ishr (hx : kf_ok g x own cc nL fr lc) {a b : Int32} (hd : decode cc pc = .ok (.ishr, 1)) (k : kf_M g x nL (pc + 1) lv (.int (a >>> (b &&& 31)) :: st) I J) : kf_M g x nL pc lv (.int b :: .int a :: st) I J := by
  obtain ⟨p, e, R, s, m, args, below, meth, c, A, cells, slots, Q⟩ := x
  obtain ⟨h1, h2, h3, h4, h5, -⟩ := hx
  intro H locs ls hl hP hS
  exact lv_ishr h1 h2 hd (k H locs ls hl hP hS)
theorem kf_iushr (hx : kf_ok g x own cc nL fr lc) {a b : Int32} (hd : decode cc pc = .ok (.iushr, 1))  (k : kf_M g x nL (pc + 1) lv (.int ((a.toUInt32 >>> (b.toUInt32 &&& Int32.toUInt32 31)).toInt32) :: st) I J) : kf_M g x nL pc lv (.int b :: .int a :: st) I J := by
  obtain ⟨p, e, R, s, m, args, below, meth, c, A, cells, slots, Q⟩ := x
  obtain ⟨h1, h2, h3, h4, h5, -⟩ := hx
  intro H locs ls hl hP hS
  exact lv_iushr h1 h2 hd rfl (k H locs ls hl hP hS)
theorem kf_i2l (hx : kf_ok g x own cc nL fr lc) {a : Int32} (hd : decode cc pc = .ok (.i2l, 1))  (k : kf_M g x nL (pc + 1) lv (.long a.toInt64 :: st) I J) : kf_M g x nL pc lv (.int a :: st) I J := by
  obtain ⟨p, e, R, s, m, args, below, meth, c, A, cells, slots, Q⟩ := x
  obtain ⟨h1, h2, h3, h4, h5, -⟩ := hx
  intro H locs ls hl hP hS
  exact lv_i2l h1 h2 hd rfl (k H locs ls hl hP hS)
theorem kf_l2i (hx : kf_ok g x own cc nL fr lc) {a : Int64} (hd : decode cc pc = .ok (.l2i, 1))  (k : kf_M g x nL (pc + 1) lv (.int a.toInt32 :: st) I J) : kf_M g x nL pc lv (.long a :: st) I J := by
  obtain ⟨p, e, R, s, m, args, below, meth, c, A, cells, slots, Q⟩ := x
  obtain ⟨h1, h2, h3, h4, h5, -⟩ := hx
  intro H locs ls hl hP hS
  exact lv_l2i h1 h2 hd rfl (k H locs ls hl hP hS)
theorem kf_i2b (hx : kf_ok g x own cc nL fr lc) {a : Int32} (hd : decode cc pc = .ok (.i2b, 1))  (k : kf_M g x nL (pc + 1) lv (.int a.toInt8.toInt32 :: st) I J) : kf_M g x nL pc lv (.int a :: st) I J := by
  obtain ⟨p, e, R, s, m, args, below, meth, c, A, cells, slots, Q⟩ := x
  obtain ⟨h1, h2, h3, h4, h5, -⟩ := hx
  intro H locs ls hl hP hS
  exact lv_i2b h1 h2 hd rfl (k H locs ls hl hP hS)
theorem kf_i2s (hx : kf_ok g x own cc nL fr lc) {a : Int32} (hd : decode cc pc = .ok (.i2s, 1))  (k : kf_M g x nL (pc + 1) lv (.int a.toInt16.toInt32 :: st) I J) : kf_M g x nL pc lv (.int a :: st) I J := by
  obtain ⟨p, e, R, s, m, args, below, meth, c, A, cells, slots, Q⟩ := x
  obtain ⟨h1, h2, h3, h4, h5, -⟩ := hx
  intro H locs ls hl hP hS
  exact lv_i2s h1 h2 hd rfl (k H locs ls hl hP hS)
theorem kf_lneg (hx : kf_ok g x own cc nL fr lc) {a : Int64} (hd : decode cc pc = .ok (.lneg, 1)) (k : kf_M g x nL (pc + 1) lv (.long (-a) :: st) I J) : kf_M g x nL pc lv (.long a :: st) I J := by
  obtain ⟨p, e, R, s, m, args, below, meth, c, A, cells, slots, Q⟩ := x
  obtain ⟨h1, h2, h3, h4, h5, -⟩ := hx
  intro H locs ls hl hP hS
  exact lv_lneg h1 h2 hd (k H locs ls hl hP hS)
theorem kf_lshl (hx : kf_ok g x own cc nL fr lc) {a : Int64} {b : Int32} (hd : decode cc pc = .ok (.lshl, 1))  (k : kf_M g x nL (pc + 1) lv (.long (a <<< (b.toInt64 &&& 63)) :: st) I J) : kf_M g x nL pc lv (.int b :: .long a :: st) I J := by
  obtain ⟨p, e, R, s, m, args, below, meth, c, A, cells, slots, Q⟩ := x
  obtain ⟨h1, h2, h3, h4, h5, -⟩ := hx
  intro H locs ls hl hP hS
  exact lv_lshl h1 h2 hd rfl (k H locs ls hl hP hS)
theorem kf_dup (hx : kf_ok g x own cc nL fr lc) {u : Value} (hd : decode cc pc = .ok (.dup, 1)) (hu : u.category = 1) (k : kf_M g x nL (pc + 1) lv (u :: u :: st) I J) : kf_M g x nL pc lv (u :: st) I J := by
  obtain ⟨p, e, R, s, m, args, below, meth, c, A, cells, slots, Q⟩ := x
  obtain ⟨h1, h2, h3, h4, h5, -⟩ := hx
  intro H locs ls hl hP hS
  exact lv_dup h1 h2 hd hu (k H locs ls hl hP hS)
theorem kf_pop (hx : kf_ok g x own cc nL fr lc) {u : Value} (hd : decode cc pc = .ok (.pop, 1)) (hu : u.category = 1) (k : kf_M g x nL (pc + 1) lv (st) I J) : kf_M g x nL pc lv (u :: st) I J := by
  obtain ⟨p, e, R, s, m, args, below, meth, c, A, cells, slots, Q⟩ := x
  obtain ⟨h1, h2, h3, h4, h5, -⟩ := hx
  intro H locs ls hl hP hS
  exact lv_pop h1 h2 hd hu (k H locs ls hl hP hS)
theorem kf_dup2 (hx : kf_ok g x own cc nL fr lc) {u w : Value} (hd : decode cc pc = .ok (.dup2, 1)) (hu : u.category = 1) (hw : w.category = 1) (k : kf_M g x nL (pc + 1) lv (u :: w :: u :: w :: st) I J) : kf_M g x nL pc lv (u :: w :: st) I J := by
  obtain ⟨p, e, R, s, m, args, below, meth, c, A, cells, slots, Q⟩ := x
  obtain ⟨h1, h2, h3, h4, h5, -⟩ := hx
  intro H locs ls hl hP hS
  exact lv_dup2_11 h1 h2 hd hu hw (k H locs ls hl hP hS)
theorem kf_dup_x1 (hx : kf_ok g x own cc nL fr lc) {u w : Value} (hd : decode cc pc = .ok (.dup_x1, 1)) (hu : u.category = 1) (hw : w.category = 1) (k : kf_M g x nL (pc + 1) lv (u :: w :: u :: st) I J) : kf_M g x nL pc lv (u :: w :: st) I J := by
  obtain ⟨p, e, R, s, m, args, below, meth, c, A, cells, slots, Q⟩ := x
  obtain ⟨h1, h2, h3, h4, h5, -⟩ := hx
  intro H locs ls hl hP hS
  exact lv_dup_x1 h1 h2 hd hu hw (k H locs ls hl hP hS)
theorem kf_icmp_eq (hx : kf_ok g x own cc nL fr lc) {a b : Int32} {off : Int} (tgt : Nat) (hd : decode cc pc = .ok (.if_icmp .eq off, 3)) (ht : (pc : Int) + off = (tgt : Int)) (kt : a = b → kf_M g x nL tgt lv st I J) (ke : ¬ a = b → kf_M g x nL (pc + 3) lv st I J) : kf_M g x nL pc lv (.int b :: .int a :: st) I J := by
  obtain ⟨p, e, R, s, m, args, below, meth, c, A, cells, slots, Q⟩ := x
  obtain ⟨h1, h2, h3, h4, h5, -⟩ := hx
  intro H locs ls hl hP hS
  exact lv_icmp_eq h1 h2 hd ht (fun z => kt z H locs ls hl hP hS) (fun z => ke z H locs ls hl hP hS)
theorem kf_if_eq (hx : kf_ok g x own cc nL fr lc) {a : Int32} {off : Int} (tgt : Nat) (hd : decode cc pc = .ok (.ifCond .eq off, 3)) (ht : (pc : Int) + off = (tgt : Int)) (kt : a = 0 → kf_M g x nL tgt lv st I J) (ke : ¬ a = 0 → kf_M g x nL (pc + 3) lv st I J) : kf_M g x nL pc lv (.int a :: st) I J := by
  obtain ⟨p, e, R, s, m, args, below, meth, c, A, cells, slots, Q⟩ := x
  obtain ⟨h1, h2, h3, h4, h5, -⟩ := hx
  intro H locs ls hl hP hS
  exact lv_if_eq h1 h2 hd ht (fun z => kt z H locs ls hl hP hS) (fun z => ke z H locs ls hl hP hS)
theorem kf_icmp_lt (hx : kf_ok g x own cc nL fr lc) {a b : Int32} {off : Int} (tgt : Nat) (hd : decode cc pc = .ok (.if_icmp .lt off, 3)) (ht : (pc : Int) + off = (tgt : Int)) (kt : a < b → kf_M g x nL tgt lv st I J) (ke : ¬ a < b → kf_M g x nL (pc + 3) lv st I J) : kf_M g x nL pc lv (.int b :: .int a :: st) I J := by
  obtain ⟨p, e, R, s, m, args, below, meth, c, A, cells, slots, Q⟩ := x
  obtain ⟨h1, h2, h3, h4, h5, -⟩ := hx
  intro H locs ls hl hP hS
  exact lv_icmp_lt h1 h2 hd ht (fun z => kt z H locs ls hl hP hS) (fun z => ke z H locs ls hl hP hS)
theorem kf_if_lt (hx : kf_ok g x own cc nL fr lc) {a : Int32} {off : Int} (tgt : Nat) (hd : decode cc pc = .ok (.ifCond .lt off, 3)) (ht : (pc : Int) + off = (tgt : Int)) (kt : a < 0 → kf_M g x nL tgt lv st I J) (ke : ¬ a < 0 → kf_M g x nL (pc + 3) lv st I J) : kf_M g x nL pc lv (.int a :: st) I J := by
  obtain ⟨p, e, R, s, m, args, below, meth, c, A, cells, slots, Q⟩ := x
  obtain ⟨h1, h2, h3, h4, h5, -⟩ := hx
  intro H locs ls hl hP hS
  exact lv_if_lt h1 h2 hd ht (fun z => kt z H locs ls hl hP hS) (fun z => ke z H locs ls hl hP hS)
theorem kf_icmp_ge (hx : kf_ok g x own cc nL fr lc) {a b : Int32} {off : Int} (tgt : Nat) (hd : decode cc pc = .ok (.if_icmp .ge off, 3)) (ht : (pc : Int) + off = (tgt : Int)) (kt : b ≤ a → kf_M g x nL tgt lv st I J) (ke : ¬ b ≤ a → kf_M g x nL (pc + 3) lv st I J) : kf_M g x nL pc lv (.int b :: .int a :: st) I J := by
  obtain ⟨p, e, R, s, m, args, below, meth, c, A, cells, slots, Q⟩ := x
  obtain ⟨h1, h2, h3, h4, h5, -⟩ := hx
  intro H locs ls hl hP hS
  exact lv_icmp_ge h1 h2 hd ht (fun z => kt z H locs ls hl hP hS) (fun z => ke z H locs ls hl hP hS)
theorem kf_if_ge (hx : kf_ok g x own cc nL fr lc) {a : Int32} {off : Int} (tgt : Nat) (hd : decode cc pc = .ok (.ifCond .ge off, 3)) (ht : (pc : Int) + off = (tgt : Int)) (kt : 0 ≤ a → kf_M g x nL tgt lv st I J) (ke : ¬ 0 ≤ a → kf_M g x nL (pc + 3) lv st I J) : kf_M g x nL pc lv (.int a :: st) I J := by
  obtain ⟨p, e, R, s, m, args, below, meth, c, A, cells, slots, Q⟩ := x
  obtain ⟨h1, h2, h3, h4, h5, -⟩ := hx
  intro H locs ls hl hP hS
  exact lv_if_ge h1 h2 hd ht (fun z => kt z H locs ls hl hP hS) (fun z => ke z H locs ls hl hP hS)
theorem kf_icmp_gt (hx : kf_ok g x own cc nL fr lc) {a b : Int32} {off : Int} (tgt : Nat) (hd : decode cc pc = .ok (.if_icmp .gt off, 3)) (ht : (pc : Int) + off = (tgt : Int)) (kt : b < a → kf_M g x nL tgt lv st I J) (ke : ¬ b < a → kf_M g x nL (pc + 3) lv st I J) : kf_M g x nL pc lv (.int b :: .int a :: st) I J := by
  obtain ⟨p, e, R, s, m, args, below, meth, c, A, cells, slots, Q⟩ := x
  obtain ⟨h1, h2, h3, h4, h5, -⟩ := hx
  intro H locs ls hl hP hS
  exact lv_icmp_gt h1 h2 hd ht (fun z => kt z H locs ls hl hP hS) (fun z => ke z H locs ls hl hP hS)
theorem kf_if_gt (hx : kf_ok g x own cc nL fr lc) {a : Int32} {off : Int} (tgt : Nat) (hd : decode cc pc = .ok (.ifCond .gt off, 3)) (ht : (pc : Int) + off = (tgt : Int)) (kt : 0 < a → kf_M g x nL tgt lv st I J) (ke : ¬ 0 < a → kf_M g x nL (pc + 3) lv st I J) : kf_M g x nL pc lv (.int a :: st) I J := by
  obtain ⟨p, e, R, s, m, args, below, meth, c, A, cells, slots, Q⟩ := x
  obtain ⟨h1, h2, h3, h4, h5, -⟩ := hx
  intro H locs ls hl hP hS
  exact lv_if_gt h1 h2 hd ht (fun z => kt z H locs ls hl hP hS) (fun z => ke z H locs ls hl hP hS)
theorem kf_icmp_le (hx : kf_ok g x own cc nL fr lc) {a b : Int32} {off : Int} (tgt : Nat) (hd : decode cc pc = .ok (.if_icmp .le off, 3)) (ht : (pc : Int) + off = (tgt : Int)) (kt : a ≤ b → kf_M g x nL tgt lv st I J) (ke : ¬ a ≤ b → kf_M g x nL (pc + 3) lv st I J) : kf_M g x nL pc lv (.int b :: .int a :: st) I J := by
  obtain ⟨p, e, R, s, m, args, below, meth, c, A, cells, slots, Q⟩ := x
  obtain ⟨h1, h2, h3, h4, h5, -⟩ := hx
  intro H locs ls hl hP hS
  exact lv_icmp_le h1 h2 hd ht (fun z => kt z H locs ls hl hP hS) (fun z => ke z H locs ls hl hP hS)
theorem kf_if_le (hx : kf_ok g x own cc nL fr lc) {a : Int32} {off : Int} (tgt : Nat) (hd : decode cc pc = .ok (.ifCond .le off, 3)) (ht : (pc : Int) + off = (tgt : Int)) (kt : a ≤ 0 → kf_M g x nL tgt lv st I J) (ke : ¬ a ≤ 0 → kf_M g x nL (pc + 3) lv st I J) : kf_M g x nL pc lv (.int a :: st) I J := by
  obtain ⟨p, e, R, s, m, args, below, meth, c, A, cells, slots, Q⟩ := x
  obtain ⟨h1, h2, h3, h4, h5, -⟩ := hx
  intro H locs ls hl hP hS
  exact lv_if_le h1 h2 hd ht (fun z => kt z H locs ls hl hP hS) (fun z => ke z H locs ls hl hP hS)
theorem kf_icmp_ne (hx : kf_ok g x own cc nL fr lc) {a b : Int32} {off : Int} (tgt : Nat) (hd : decode cc pc = .ok (.if_icmp .ne off, 3)) (ht : (pc : Int) + off = (tgt : Int)) (kt : ¬ a = b → kf_M g x nL tgt lv st I J) (ke : a = b → kf_M g x nL (pc + 3) lv st I J) : kf_M g x nL pc lv (.int b :: .int a :: st) I J := by
  obtain ⟨p, e, R, s, m, args, below, meth, c, A, cells, slots, Q⟩ := x
  obtain ⟨h1, h2, h3, h4, h5, -⟩ := hx
  intro H locs ls hl hP hS
  exact lv_icmp_ne h1 h2 hd ht (fun z => kt z H locs ls hl hP hS) (fun z => ke z H locs ls hl hP hS)
theorem kf_if_ne (hx : kf_ok g x own cc nL fr lc) {a : Int32} {off : Int} (tgt : Nat) (hd : decode cc pc = .ok (.ifCond .ne off, 3)) (ht : (pc : Int) + off = (tgt : Int)) (kt : ¬ a = 0 → kf_M g x nL tgt lv st I J) (ke : a = 0 → kf_M g x nL (pc + 3) lv st I J) : kf_M g x nL pc lv (.int a :: st) I J := by
  obtain ⟨p, e, R, s, m, args, below, meth, c, A, cells, slots, Q⟩ := x
  obtain ⟨h1, h2, h3, h4, h5, -⟩ := hx
  intro H locs ls hl hP hS
  exact lv_if_ne h1 h2 hd ht (fun z => kt z H locs ls hl hP hS) (fun z => ke z H locs ls hl hP hS)
/-- a truth value on the stack -/
def kb (b : Bool) : Int32 := if b = true then 1 else 0
theorem kf_ifB_eq (hx : kf_ok g x own cc nL fr lc) {b : Bool} {off : Int} (tgt : Nat) (hd : decode cc pc = .ok (.ifCond .eq off, 3)) (ht : (pc : Int) + off = (tgt : Int)) (kt : b = false → kf_M g x nL tgt lv st I J) (ke : b = true → kf_M g x nL (pc + 3) lv st I J) : kf_M g x nL pc lv (.int (kb b) :: st) I J := by
  refine kf_if_eq hx tgt hd ht (fun h => kt ?_) (fun h => ke ?_)
  · cases b
    · rfl
    · exact absurd h (by decide)
  · cases b
    · exact absurd rfl h
    · rfl
theorem kf_ifB_ne (hx : kf_ok g x own cc nL fr lc) {b : Bool} {off : Int} (tgt : Nat) (hd : decode cc pc = .ok (.ifCond .ne off, 3)) (ht : (pc : Int) + off = (tgt : Int)) (kt : b = true → kf_M g x nL tgt lv st I J) (ke : b = false → kf_M g x nL (pc + 3) lv st I J) : kf_M g x nL pc lv (.int (kb b) :: st) I J := by
  refine kf_if_ne hx tgt hd ht (fun h => kt ?_) (fun h => ke ?_)
  · cases b
    · exact absurd rfl h
    · rfl
  · cases b
    · rfl
    · exact absurd h (by decide)
theorem kf_goto (hx : kf_ok g x own cc nL fr lc) {off : Int} (tgt : Nat) (hd : decode cc pc = .ok (.goto off, 3)) (ht : (pc : Int) + off = (tgt : Int)) (k : kf_M g x nL tgt lv st I J) : kf_M g x nL pc lv st I J := by
  obtain ⟨p, e, R, s, m, args, below, meth, c, A, cells, slots, Q⟩ := x
  obtain ⟨h1, h2, h3, h4, h5, -⟩ := hx
  intro H locs ls hl hP hS
  exact lv_goto h1 h2 hd ht (k H locs ls hl hP hS)
theorem kf_lcmp (hx : kf_ok g x own cc nL fr lc) {a b : Int64} (hd : decode cc pc = .ok (.lcmp, 1)) (k : kf_M g x nL (pc + 1) lv (.int (lg_cmp a b) :: st) I J) : kf_M g x nL pc lv (.long b :: .long a :: st) I J := by
  obtain ⟨p, e, R, s, m, args, below, meth, c, A, cells, slots, Q⟩ := x
  obtain ⟨h1, h2, h3, h4, h5, -⟩ := hx
  intro H locs ls hl hP hS
  exact W.lcmp h1 h2 hd (k H locs ls hl hP hS)
theorem kf_c_lt {a b : Int64} : lg_cmp a b < 0 ↔ a < b := by
  unfold lg_cmp
  by_cases h : a > b
  · rw [if_pos h]
    exact ⟨fun q => absurd q (by decide), fun q => absurd (Int64.lt_trans q h) Int64.lt_irrefl⟩
  · rw [if_neg h]
    by_cases h2 : a = b
    · rw [if_pos h2]
      subst h2
      exact ⟨fun q => absurd q (by decide), fun q => absurd q Int64.lt_irrefl⟩
    · rw [if_neg h2]
      exact ⟨fun _ => Int64.lt_of_le_of_ne (Int64.not_lt.mp h) h2, fun _ => by decide⟩
theorem kf_c_gt {a b : Int64} : 0 < lg_cmp a b ↔ b < a := by
  unfold lg_cmp
  by_cases h : a > b
  · rw [if_pos h]
    exact ⟨fun _ => h, fun _ => by decide⟩
  · rw [if_neg h]
    refine ⟨fun q => absurd q ?_, fun q => absurd q h⟩
    by_cases h2 : a = b
    · rw [if_pos h2]; decide
    · rw [if_neg h2]; decide
theorem kf_c_eq {a b : Int64} : lg_cmp a b = 0 ↔ a = b := by
  unfold lg_cmp
  by_cases h : a > b
  · rw [if_pos h]
    refine ⟨fun q => absurd q (by decide), fun q => ?_⟩
    subst q
    exact absurd h Int64.lt_irrefl
  · rw [if_neg h]
    by_cases h2 : a = b
    · rw [if_pos h2]; exact ⟨fun _ => h2, fun _ => rfl⟩
    · rw [if_neg h2]; exact ⟨fun q => absurd q (by decide), fun q => absurd q h2⟩
theorem kf_c_le {a b : Int64} : lg_cmp a b ≤ 0 ↔ a ≤ b := by
  rw [← Int32.not_lt, kf_c_gt, Int64.not_lt]
theorem kf_c_ge {a b : Int64} : 0 ≤ lg_cmp a b ↔ b ≤ a := by
  rw [← Int32.not_lt, kf_c_lt, Int64.not_lt]
theorem kf_l_lt (hx : kf_ok g x own cc nL fr lc) {a b : Int64} {off : Int} (tgt : Nat) (h0 : decode cc pc = .ok (.lcmp, 1)) (hd : decode cc (pc + 1) = .ok (.ifCond .lt off, 3)) (ht : ((pc + 1 : Nat) : Int) + off = (tgt : Int)) (kt : a < b → kf_M g x nL tgt lv st I J) (ke : ¬ a < b → kf_M g x nL (pc + 4) lv st I J) : kf_M g x nL pc lv (.long b :: .long a :: st) I J :=
  kf_lcmp hx h0 (kf_if_lt hx tgt hd ht (fun z => kt (kf_c_lt.mp z)) (fun z => ke (fun q => z (kf_c_lt.mpr q))))
theorem kf_l_ge (hx : kf_ok g x own cc nL fr lc) {a b : Int64} {off : Int} (tgt : Nat) (h0 : decode cc pc = .ok (.lcmp, 1)) (hd : decode cc (pc + 1) = .ok (.ifCond .ge off, 3)) (ht : ((pc + 1 : Nat) : Int) + off = (tgt : Int)) (kt : b ≤ a → kf_M g x nL tgt lv st I J) (ke : ¬ b ≤ a → kf_M g x nL (pc + 4) lv st I J) : kf_M g x nL pc lv (.long b :: .long a :: st) I J :=
  kf_lcmp hx h0 (kf_if_ge hx tgt hd ht (fun z => kt (kf_c_ge.mp z)) (fun z => ke (fun q => z (kf_c_ge.mpr q))))
theorem kf_l_gt (hx : kf_ok g x own cc nL fr lc) {a b : Int64} {off : Int} (tgt : Nat) (h0 : decode cc pc = .ok (.lcmp, 1)) (hd : decode cc (pc + 1) = .ok (.ifCond .gt off, 3)) (ht : ((pc + 1 : Nat) : Int) + off = (tgt : Int)) (kt : b < a → kf_M g x nL tgt lv st I J) (ke : ¬ b < a → kf_M g x nL (pc + 4) lv st I J) : kf_M g x nL pc lv (.long b :: .long a :: st) I J :=
  kf_lcmp hx h0 (kf_if_gt hx tgt hd ht (fun z => kt (kf_c_gt.mp z)) (fun z => ke (fun q => z (kf_c_gt.mpr q))))
theorem kf_l_le (hx : kf_ok g x own cc nL fr lc) {a b : Int64} {off : Int} (tgt : Nat) (h0 : decode cc pc = .ok (.lcmp, 1)) (hd : decode cc (pc + 1) = .ok (.ifCond .le off, 3)) (ht : ((pc + 1 : Nat) : Int) + off = (tgt : Int)) (kt : a ≤ b → kf_M g x nL tgt lv st I J) (ke : ¬ a ≤ b → kf_M g x nL (pc + 4) lv st I J) : kf_M g x nL pc lv (.long b :: .long a :: st) I J :=
  kf_lcmp hx h0 (kf_if_le hx tgt hd ht (fun z => kt (kf_c_le.mp z)) (fun z => ke (fun q => z (kf_c_le.mpr q))))
theorem kf_l_eq (hx : kf_ok g x own cc nL fr lc) {a b : Int64} {off : Int} (tgt : Nat) (h0 : decode cc pc = .ok (.lcmp, 1)) (hd : decode cc (pc + 1) = .ok (.ifCond .eq off, 3)) (ht : ((pc + 1 : Nat) : Int) + off = (tgt : Int)) (kt : a = b → kf_M g x nL tgt lv st I J) (ke : ¬ a = b → kf_M g x nL (pc + 4) lv st I J) : kf_M g x nL pc lv (.long b :: .long a :: st) I J :=
  kf_lcmp hx h0 (kf_if_eq hx tgt hd ht (fun z => kt (kf_c_eq.mp z)) (fun z => ke (fun q => z (kf_c_eq.mpr q))))
theorem kf_l_ne (hx : kf_ok g x own cc nL fr lc) {a b : Int64} {off : Int} (tgt : Nat) (h0 : decode cc pc = .ok (.lcmp, 1)) (hd : decode cc (pc + 1) = .ok (.ifCond .ne off, 3)) (ht : ((pc + 1 : Nat) : Int) + off = (tgt : Int)) (kt : ¬ a = b → kf_M g x nL tgt lv st I J) (ke : a = b → kf_M g x nL (pc + 4) lv st I J) : kf_M g x nL pc lv (.long b :: .long a :: st) I J :=
  kf_lcmp hx h0 (kf_if_ne hx tgt hd ht (fun z => kt (fun q => z (kf_c_eq.mpr q))) (fun z => ke (kf_c_eq.mp z)))
theorem kf_ldc (hx : kf_ok g x own cc nL fr lc) {idx : Nat} {v : Int32} (hc : Cond.constant own idx v ∈ kw_T) (hd : decode cc pc = .ok (.ldc idx, 2)) (k : kf_M g x nL (pc + 2) lv (.int v :: st) I J) : kf_M g x nL pc lv st I J := by
  obtain ⟨p, e, R, s, m, args, below, meth, c, A, cells, slots, Q⟩ := x
  obtain ⟨h1, h2, h3, h4, h5, -⟩ := hx
  intro H locs ls hl hP hS
  exact lv_ldc h1 h2 h4 (h5 _ hc) hd (k H locs ls hl hP hS)
theorem kf_ldcw (hx : kf_ok g x own cc nL fr lc) {idx : Nat} {v : Int32} (hc : Cond.constant own idx v ∈ kw_T) (hd : decode cc pc = .ok (.ldc_w idx, 3)) (k : kf_M g x nL (pc + 3) lv (.int v :: st) I J) : kf_M g x nL pc lv st I J := by
  obtain ⟨p, e, R, s, m, args, below, meth, c, A, cells, slots, Q⟩ := x
  obtain ⟨h1, h2, h3, h4, h5, -⟩ := hx
  intro H locs ls hl hP hS
  exact lv_ldcw h1 h2 h4 (h5 _ hc) hd (k H locs ls hl hP hS)
theorem kf_ldc2 (hx : kf_ok g x own cc nL fr lc) {idx : Nat} {v : Int64} (hc : Cond.constantLong own idx v ∈ kw_T) (hd : decode cc pc = .ok (.ldc2_w idx, 3)) (k : kf_M g x nL (pc + 3) lv (.long v :: st) I J) : kf_M g x nL pc lv st I J := by
  obtain ⟨p, e, R, s, m, args, below, meth, c, A, cells, slots, Q⟩ := x
  obtain ⟨h1, h2, h3, h4, h5, -⟩ := hx
  intro H locs ls hl hP hS
  exact lv_ldc2 h1 h2 h4 (h5 _ hc) hd (k H locs ls hl hP hS)
theorem kf_tabOut (hx : kf_ok g x own cc nL fr lc) {dflt lo hi : Int} {offs : Array Int} {len : Nat} {a : Int32} (tgt : Nat) (hd : decode cc pc = .ok (.tableswitch dflt lo hi offs, len)) (h : a.toInt < lo ∨ hi < a.toInt) (ht : (pc : Int) + dflt = (tgt : Int)) (k : kf_M g x nL tgt lv st I J) : kf_M g x nL pc lv (.int a :: st) I J := by
  obtain ⟨p, e, R, s, m, args, below, meth, c, A, cells, slots, Q⟩ := x
  obtain ⟨h1, h2, h3, h4, h5, -⟩ := hx
  intro H locs ls hl hP hS
  exact lv_tableOut h1 h2 hd h ht (k H locs ls hl hP hS)
theorem kf_tabIn (hx : kf_ok g x own cc nL fr lc) {dflt lo hi : Int} {offs : Array Int} {len : Nat} {a : Int32} {off : Int} (tgt : Nat) (hd : decode cc pc = .ok (.tableswitch dflt lo hi offs, len)) (g1 : ¬ a.toInt < lo) (g2 : ¬ hi < a.toInt) (ho : offs[(a.toInt - lo).toNat]? = some off) (ht : (pc : Int) + off = (tgt : Int)) (k : kf_M g x nL tgt lv st I J) : kf_M g x nL pc lv (.int a :: st) I J := by
  obtain ⟨p, e, R, s, m, args, below, meth, c, A, cells, slots, Q⟩ := x
  obtain ⟨h1, h2, h3, h4, h5, -⟩ := hx
  intro H locs ls hl hP hS
  exact lv_tableIn h1 h2 hd g1 g2 ho ht (k H locs ls hl hP hS)
/-! fields -/
/-- the link of own's entry idx: field k of class ci -/
def kf_L (own : String) (idx ci k : Nat) : Prop := ∃ (C : String) (T : u_T) (N : Nat), kf_cl[ci]? = some (C, T, N) ∧ k < N ∧ (∀ w ∈ u_ws C T N, w ∈ kw_T) ∧ (Cond.fieldLink own idx (T k).1 (T k).2.1 (T k).2.2.1 ∈ kw_T ∨ ∃ host : String, Cond.fieldLinkNest own idx (T k).1 (T k).2.1 (T k).2.2.1 host ∈ kw_T)
/-- cell c is of class ci, its slot k of sort t -/
def kf_s (c ci k t : Nat) : Prop := ∃ sl : List Nat, kf_SH[c]? = some (0, ci, sl) ∧ sl[k]? = some t
theorem kf_get (hx : kf_ok g x own cc nL fr lc) {idx c ci k t : Nat} (hs : kf_s c ci k t) (hL : kf_L own idx ci k) (hd : decode cc pc = .ok (.getfield idx, 3)) (kk : kf_M g x nL (pc + 3) lv (kf_vl g.2.2.2 (I c) (J c) k t :: st) I J) : kf_M g x nL pc lv (.ref (g.2.2.2 c) :: st) I J := by
  obtain ⟨p, e, R, s, m, args, below, meth, cM, A, cells, slots, Q⟩ := x
  obtain ⟨h1, h2, h3, h4, h5, h6, -⟩ := hx
  intro H locs ls hl hP hS
  obtain ⟨sl, hs, ht⟩ := hs
  obtain ⟨C, T, N, hc, hk, hw, hL⟩ := hL
  have he := kf_at (g := g) (I := I) (J := J) hs
  have hv : (sl.mapIdx (kf_vl g.2.2.2 (I c) (J c)))[k]? = some (kf_vl g.2.2.2 (I c) (J c) k t) := by rw [List.getElem?_mapIdx, ht]; rfl
  rcases hL with hL | ⟨host, hL⟩
  · exact va_get (D := g.2.1) (cl := kf_cl) (ci := ci) (C := C) (T := T) (N := N) h1 h2 h5 hw h4 h6 hP c he hc k hk (h5 _ hL) (fun _ z => z) hv hd (kk H locs ls hl hP hS)
  · exact va_getN (D := g.2.1) (cl := kf_cl) (ci := ci) (C := C) (T := T) (N := N) h1 h2 h5 hw h4 h6 hP c he hc k hk (h5 _ hL) (fun _ z => z) hv hd (kk H locs ls hl hP hS)
theorem kf_getI (hx : kf_ok g x own cc nL fr lc) {idx c ci k : Nat} (hs : kf_s c ci k 0) (hL : kf_L own idx ci k) (hd : decode cc pc = .ok (.getfield idx, 3)) (kk : kf_M g x nL (pc + 3) lv (.int (I c k) :: st) I J) : kf_M g x nL pc lv (.ref (g.2.2.2 c) :: st) I J := kf_get hx hs hL hd kk
theorem kf_getJ (hx : kf_ok g x own cc nL fr lc) {idx c ci k : Nat} (hs : kf_s c ci k 1) (hL : kf_L own idx ci k) (hd : decode cc pc = .ok (.getfield idx, 3)) (kk : kf_M g x nL (pc + 3) lv (.long (J c k) :: st) I J) : kf_M g x nL pc lv (.ref (g.2.2.2 c) :: st) I J := kf_get hx hs hL hd kk
theorem kf_getR (hx : kf_ok g x own cc nL fr lc) {idx c ci k n : Nat} (hs : kf_s c ci k (n + 2)) (hL : kf_L own idx ci k) (hd : decode cc pc = .ok (.getfield idx, 3)) (kk : kf_M g x nL (pc + 3) lv (.ref (g.2.2.2 n) :: st) I J) : kf_M g x nL pc lv (.ref (g.2.2.2 c) :: st) I J := kf_get hx hs hL hd kk
/-- what a store needs of the tables: the field's type, its names apart, not final -/
def kf_P (ci k : Nat) (ty : FieldType) : Prop := ∃ (C : String) (T : u_T) (N : Nat), kf_cl[ci]? = some (C, T, N) ∧ (∀ a, a < N → parseFieldDescriptor (T a).2.2.1 = some (kf_ty ci a)) ∧ (∀ a, a < N → ∀ b, b < N → a ≠ b → (T a).2.1 ≠ (T b).2.1) ∧ (T k).2.2.2 = false ∧ parseFieldDescriptor (T k).2.2.1 = some ty
theorem kf_putI (hx : kf_ok g x own cc nL fr lc) {idx c ci k : Nat} {v : Int32} (hs : kf_s c ci k 0) (hL : kf_L own idx ci k) (hp : kf_P ci k .int) (hd : decode cc pc = .ok (.putfield idx, 3)) (kk : kf_M g x nL (pc + 3) lv st (hI I c k v) J) : kf_M g x nL pc lv (.int v :: .ref (g.2.2.2 c) :: st) I J := by
  obtain ⟨p, e, R, s, m, args, below, meth, cM, A, cells, slots, Q⟩ := x
  obtain ⟨h1, h2, h3, h4, h5, h6, h7, h8, -⟩ := hx
  intro H locs ls hl hP hS
  obtain ⟨sl, hs, ht⟩ := hs
  obtain ⟨C, T, N, hc, hk, hw, hL⟩ := hL
  obtain ⟨C', T', N', hc', hty, hnm, hfin, hde⟩ := hp
  cases hc.symm.trans hc'
  have he := kf_at (g := g) (I := I) (J := J) hs
  have hD := kf_D h7 h8 I J
  have hlen : k < (sl.mapIdx (kf_vl g.2.2.2 (I c) (J c))).length := by rw [List.length_mapIdx]; exact (List.getElem?_eq_some_iff.mp ht).1
  have hset : (kf_ws g I J).set c (g.2.2.2 c, .inr (ci, (sl.mapIdx (kf_vl g.2.2.2 (I c) (J c))).set k (.int v))) = kf_ws g (hI I c k v) J := kf_setI (upd (I c) k v) hs (by rw [kf_fI ht]; rfl)
  rcases hL with hL | ⟨host, hL⟩
  · exact va_put (D := g.2.1) (cl := kf_cl) (ci := ci) (C := C) (T := T) (N := N) (ty := .int) h1 h2 h5 hw (kf_ty ci) hty hnm h4 h6 hP hD hS c he hc k hk (h5 _ hL) (fun _ z => z) hfin hde rfl rfl hlen hd (fun H1 locs1 hP1 _ hS1 => kk H1 locs1 ls hl (by rw [← hset]; exact hP1) hS1)
  · exact va_putN (D := g.2.1) (cl := kf_cl) (ci := ci) (C := C) (T := T) (N := N) (ty := .int) h1 h2 h5 hw (kf_ty ci) hty hnm h4 h6 hP hD hS c he hc k hk (h5 _ hL) (fun _ z => z) hfin hde rfl rfl hlen hd (fun H1 locs1 hP1 _ hS1 => kk H1 locs1 ls hl (by rw [← hset]; exact hP1) hS1)
theorem kf_putJ (hx : kf_ok g x own cc nL fr lc) {idx c ci k : Nat} {v : Int64} (hs : kf_s c ci k 1) (hL : kf_L own idx ci k) (hp : kf_P ci k .long) (hd : decode cc pc = .ok (.putfield idx, 3)) (kk : kf_M g x nL (pc + 3) lv st I (hJ J c k v)) : kf_M g x nL pc lv (.long v :: .ref (g.2.2.2 c) :: st) I J := by
  obtain ⟨p, e, R, s, m, args, below, meth, cM, A, cells, slots, Q⟩ := x
  obtain ⟨h1, h2, h3, h4, h5, h6, h7, h8, -⟩ := hx
  intro H locs ls hl hP hS
  obtain ⟨sl, hs, ht⟩ := hs
  obtain ⟨C, T, N, hc, hk, hw, hL⟩ := hL
  obtain ⟨C', T', N', hc', hty, hnm, hfin, hde⟩ := hp
  cases hc.symm.trans hc'
  have he := kf_at (g := g) (I := I) (J := J) hs
  have hD := kf_D h7 h8 I J
  have hlen : k < (sl.mapIdx (kf_vl g.2.2.2 (I c) (J c))).length := by rw [List.length_mapIdx]; exact (List.getElem?_eq_some_iff.mp ht).1
  have hset : (kf_ws g I J).set c (g.2.2.2 c, .inr (ci, (sl.mapIdx (kf_vl g.2.2.2 (I c) (J c))).set k (.long v))) = kf_ws g I (hJ J c k v) := kf_setJ (vp_updL (J c) k v) hs (by rw [kf_fJ ht]; rfl)
  rcases hL with hL | ⟨host, hL⟩
  · exact va_put (D := g.2.1) (cl := kf_cl) (ci := ci) (C := C) (T := T) (N := N) (ty := .long) h1 h2 h5 hw (kf_ty ci) hty hnm h4 h6 hP hD hS c he hc k hk (h5 _ hL) (fun _ z => z) hfin hde rfl rfl hlen hd (fun H1 locs1 hP1 _ hS1 => kk H1 locs1 ls hl (by rw [← hset]; exact hP1) hS1)
  · exact va_putN (D := g.2.1) (cl := kf_cl) (ci := ci) (C := C) (T := T) (N := N) (ty := .long) h1 h2 h5 hw (kf_ty ci) hty hnm h4 h6 hP hD hS c he hc k hk (h5 _ hL) (fun _ z => z) hfin hde rfl rfl hlen hd (fun H1 locs1 hP1 _ hS1 => kk H1 locs1 ls hl (by rw [← hset]; exact hP1) hS1)
/-! arrays -/
theorem kf_iald (hx : kf_ok g x own cc nL fr lc) {c n : Nat} (hs : kf_SH[c]? = some (1, n, [0])) {i : Int32} (hin : vp_in i n) (hd : decode cc pc = .ok (.iaload, 1)) (kk : kf_M g x nL (pc + 1) lv (.int (I c i.toNatClampNeg) :: st) I J) : kf_M g x nL pc lv (.int i :: .ref (g.2.2.2 c) :: st) I J := by
  obtain ⟨p, e, R, s, m, args, below, meth, cM, A, cells, slots, Q⟩ := x
  obtain ⟨h1, h2, h3, h4, h5, h6, h7, h8, -⟩ := hx
  intro H locs ls hl hP hS
  exact va_iald h1 h2 h6 hP c 0 (kf_at hs) (kf_tys h7 rfl) hin hd (kk H locs ls hl hP hS)
theorem kf_bald (hx : kf_ok g x own cc nL fr lc) {c n : Nat} (hs : kf_SH[c]? = some (1, n, [2])) {i : Int32} (hin : vp_in i n) (hd : decode cc pc = .ok (.baload, 1)) (kk : kf_M g x nL (pc + 1) lv (.int (I c i.toNatClampNeg) :: st) I J) : kf_M g x nL pc lv (.int i :: .ref (g.2.2.2 c) :: st) I J := by
  obtain ⟨p, e, R, s, m, args, below, meth, cM, A, cells, slots, Q⟩ := x
  obtain ⟨h1, h2, h3, h4, h5, h6, h7, h8, -⟩ := hx
  intro H locs ls hl hP hS
  exact va_bald h1 h2 h6 hP c 2 (kf_at hs) (kf_tys h7 rfl) hin hd (kk H locs ls hl hP hS)
theorem kf_zald (hx : kf_ok g x own cc nL fr lc) {c n : Nat} (hs : kf_SH[c]? = some (1, n, [3])) {i : Int32} (hin : vp_in i n) (hd : decode cc pc = .ok (.baload, 1)) (kk : kf_M g x nL (pc + 1) lv (.int (I c i.toNatClampNeg) :: st) I J) : kf_M g x nL pc lv (.int i :: .ref (g.2.2.2 c) :: st) I J := by
  obtain ⟨p, e, R, s, m, args, below, meth, cM, A, cells, slots, Q⟩ := x
  obtain ⟨h1, h2, h3, h4, h5, h6, h7, h8, -⟩ := hx
  intro H locs ls hl hP hS
  exact va_zald h1 h2 h6 hP c 3 (kf_at hs) (kf_tys h7 rfl) hin hd (kk H locs ls hl hP hS)
theorem kf_lald (hx : kf_ok g x own cc nL fr lc) {c n : Nat} (hs : kf_SH[c]? = some (2, n, [1])) {i : Int32} (hin : vp_in i n) (hd : decode cc pc = .ok (.laload, 1)) (kk : kf_M g x nL (pc + 1) lv (.long (J c i.toNatClampNeg) :: st) I J) : kf_M g x nL pc lv (.int i :: .ref (g.2.2.2 c) :: st) I J := by
  obtain ⟨p, e, R, s, m, args, below, meth, cM, A, cells, slots, Q⟩ := x
  obtain ⟨h1, h2, h3, h4, h5, h6, h7, h8, -⟩ := hx
  intro H locs ls hl hP hS
  exact va_lald h1 h2 h6 hP c 1 (kf_at hs) (kf_tys h7 rfl) hin hd (kk H locs ls hl hP hS)
theorem kf_aald (hx : kf_ok g x own cc nL fr lc) {c n t b w : Nat} (hs : kf_SH[c]? = some (3, n, [t, b, w])) {ty : FieldType} (hty : ([.int, .long, .byte, .boolean, .object "TellFirst$Tray", .array .int] : List FieldType)[t]? = some ty) (hr : ty.isReference = true) {i : Int32} (hin : vp_in i n) (hd : decode cc pc = .ok (.aaload, 1)) (kk : kf_M g x nL (pc + 1) lv (.ref (g.2.2.2 (b + w * i.toNatClampNeg)) :: st) I J) : kf_M g x nL pc lv (.int i :: .ref (g.2.2.2 c) :: st) I J := by
  obtain ⟨p, e, R, s, m, args, below, meth, cM, A, cells, slots, Q⟩ := x
  obtain ⟨h1, h2, h3, h4, h5, h6, h7, h8, -⟩ := hx
  intro H locs ls hl hP hS
  have hlt : i.toNatClampNeg < n := Nat.not_le.mp fun q => hin (Or.inr q)
  have hce : H[g.2.2.2 c]? = some (vp_cell (kf_cA g t) (n, .inr (.inr (.inr (.inr (fun q => some (g.2.2.2 (b + w * q)))))))) := hP c _ (kf_at hs)
  exact W.aald (v := .ref (g.2.2.2 (b + w * i.toNatClampNeg))) (ty := ty) h1 h2 hce ((h6.2 t _ (kf_tys h7 hty)).1 n (fun j => va_rf (some (g.2.2.2 (b + w * j))))) hr (fun q => by cases q) (by show ¬ (i < 0 ∨ (arrV _ _ _).slots.size ≤ _); rw [arrV_size]; exact hin) (by show (arrV _ _ _).slots[_]? = _; rw [arrV_read _ _ hlt]; rfl) rfl rfl hd (kk H locs ls hl hP hS)
theorem kf_iast (hx : kf_ok g x own cc nL fr lc) {c n : Nat} (hs : kf_SH[c]? = some (1, n, [0])) {i v : Int32} (hin : vp_in i n) (hd : decode cc pc = .ok (.iastore, 1)) (kk : kf_M g x nL (pc + 1) lv st (hI I c i.toNatClampNeg v) J) : kf_M g x nL pc lv (.int v :: .int i :: .ref (g.2.2.2 c) :: st) I J := by
  obtain ⟨p, e, R, s, m, args, below, meth, cM, A, cells, slots, Q⟩ := x
  obtain ⟨h1, h2, h3, h4, h5, h6, h7, h8, -⟩ := hx
  intro H locs ls hl hP hS
  exact va_iast h1 h2 h6 hP (kf_D h7 h8 I J) hS c 0 (kf_at hs) (kf_tys h7 rfl) hin hd (fun H1 locs1 hP1 _ hS1 => kk H1 locs1 ls hl (by rw [← (show (kf_ws g I J).set c (g.2.2.2 c, .inl (kf_cA g 0, n, .inl (upd (I c) i.toNatClampNeg v))) = kf_ws g (hI I c i.toNatClampNeg v) J from kf_setI (upd (I c) i.toNatClampNeg v) hs rfl)]; exact hP1) hS1)
theorem kf_bast (hx : kf_ok g x own cc nL fr lc) {c n : Nat} (hs : kf_SH[c]? = some (1, n, [2])) {i v : Int32} (hin : vp_in i n) (hd : decode cc pc = .ok (.bastore, 1)) (kk : kf_M g x nL (pc + 1) lv st (hI I c i.toNatClampNeg (vp_nar .byte v)) J) : kf_M g x nL pc lv (.int v :: .int i :: .ref (g.2.2.2 c) :: st) I J := by
  obtain ⟨p, e, R, s, m, args, below, meth, cM, A, cells, slots, Q⟩ := x
  obtain ⟨h1, h2, h3, h4, h5, h6, h7, h8, -⟩ := hx
  intro H locs ls hl hP hS
  exact va_bast h1 h2 h6 hP (kf_D h7 h8 I J) hS c 2 (kf_at hs) (kf_tys h7 rfl) hin hd (fun H1 locs1 hP1 _ hS1 => kk H1 locs1 ls hl (by rw [← (show (kf_ws g I J).set c (g.2.2.2 c, .inl (kf_cA g 2, n, .inl (upd (I c) i.toNatClampNeg (vp_nar .byte v)))) = kf_ws g (hI I c i.toNatClampNeg (vp_nar .byte v)) J from kf_setI (upd (I c) i.toNatClampNeg (vp_nar .byte v)) hs rfl)]; exact hP1) hS1)
theorem kf_zast (hx : kf_ok g x own cc nL fr lc) {c n : Nat} (hs : kf_SH[c]? = some (1, n, [3])) {i v : Int32} (hin : vp_in i n) (hd : decode cc pc = .ok (.bastore, 1)) (kk : kf_M g x nL (pc + 1) lv st (hI I c i.toNatClampNeg (vp_nar .boolean v)) J) : kf_M g x nL pc lv (.int v :: .int i :: .ref (g.2.2.2 c) :: st) I J := by
  obtain ⟨p, e, R, s, m, args, below, meth, cM, A, cells, slots, Q⟩ := x
  obtain ⟨h1, h2, h3, h4, h5, h6, h7, h8, -⟩ := hx
  intro H locs ls hl hP hS
  exact va_zast h1 h2 h6 hP (kf_D h7 h8 I J) hS c 3 (kf_at hs) (kf_tys h7 rfl) hin hd (fun H1 locs1 hP1 _ hS1 => kk H1 locs1 ls hl (by rw [← (show (kf_ws g I J).set c (g.2.2.2 c, .inl (kf_cA g 3, n, .inl (upd (I c) i.toNatClampNeg (vp_nar .boolean v)))) = kf_ws g (hI I c i.toNatClampNeg (vp_nar .boolean v)) J from kf_setI (upd (I c) i.toNatClampNeg (vp_nar .boolean v)) hs rfl)]; exact hP1) hS1)
theorem kf_last (hx : kf_ok g x own cc nL fr lc) {c n : Nat} (hs : kf_SH[c]? = some (2, n, [1])) {i : Int32} {v : Int64} (hin : vp_in i n) (hd : decode cc pc = .ok (.lastore, 1)) (kk : kf_M g x nL (pc + 1) lv st I (hJ J c i.toNatClampNeg v)) : kf_M g x nL pc lv (.long v :: .int i :: .ref (g.2.2.2 c) :: st) I J := by
  obtain ⟨p, e, R, s, m, args, below, meth, cM, A, cells, slots, Q⟩ := x
  obtain ⟨h1, h2, h3, h4, h5, h6, h7, h8, -⟩ := hx
  intro H locs ls hl hP hS
  exact va_last h1 h2 h6 hP (kf_D h7 h8 I J) hS c 1 (kf_at hs) (kf_tys h7 rfl) hin hd (fun H1 locs1 hP1 _ hS1 => kk H1 locs1 ls hl (by rw [← (show (kf_ws g I J).set c (g.2.2.2 c, .inl (kf_cA g 1, n, .inr (.inl (vp_updL (J c) i.toNatClampNeg v)))) = kf_ws g I (hJ J c i.toNatClampNeg v) from kf_setJ (vp_updL (J c) i.toNatClampNeg v) hs rfl)]; exact hP1) hS1)
theorem kf_alenI (hx : kf_ok g x own cc nL fr lc) {c n t : Nat} (hs : kf_SH[c]? = some (1, n, [t])) {ty : FieldType} (hty : ([.int, .long, .byte, .boolean, .object "TellFirst$Tray", .array .int] : List FieldType)[t]? = some ty) {v : Int32} (hv : Int32.ofNat n = v) (hd : decode cc pc = .ok (.arraylength, 1)) (kk : kf_M g x nL (pc + 1) lv (.int v :: st) I J) : kf_M g x nL pc lv (.ref (g.2.2.2 c) :: st) I J := by
  obtain ⟨p, e, R, s, m, args, below, meth, cM, A, cells, slots, Q⟩ := x
  obtain ⟨h1, h2, h3, h4, h5, h6, h7, h8, -⟩ := hx
  intro H locs ls hl hP hS
  exact va_alen h1 h2 h6 hP c t (kf_at hs) (kf_tys h7 hty) hv hd (kk H locs ls hl hP hS)
theorem kf_alenJ (hx : kf_ok g x own cc nL fr lc) {c n : Nat} (hs : kf_SH[c]? = some (2, n, [1])) {v : Int32} (hv : Int32.ofNat n = v) (hd : decode cc pc = .ok (.arraylength, 1)) (kk : kf_M g x nL (pc + 1) lv (.int v :: st) I J) : kf_M g x nL pc lv (.ref (g.2.2.2 c) :: st) I J := by
  obtain ⟨p, e, R, s, m, args, below, meth, cM, A, cells, slots, Q⟩ := x
  obtain ⟨h1, h2, h3, h4, h5, h6, h7, h8, -⟩ := hx
  intro H locs ls hl hP hS
  exact va_alen h1 h2 h6 hP c 1 (kf_at hs) (kf_tys h7 rfl) hv hd (kk H locs ls hl hP hS)
/-! copies -/
theorem kf_cpyI (hx : kf_ok g x own cc nL fr lc) {idx c0 c1 n0 n1 : Nat} (hL : Cond.methodLink own idx arraycopyName ∈ kw_T) (hw : Cond.native arraycopyName ∈ kw_T ∧ Cond.static arraycopyName ∈ kw_T ∧ Cond.initialized "java/lang/System" ∈ kw_T) (hs0 : kf_SH[c0]? = some (1, n0, [0])) (hs1 : kf_SH[c1]? = some (1, n1, [0])) {sp dp n : Int32} (g1 : ¬ sp < 0) (g2 : ¬ dp < 0) (g3 : ¬ n < 0) (g4 : sp.toNatClampNeg + n.toNatClampNeg ≤ n0) (g5 : dp.toNatClampNeg + n.toNatClampNeg ≤ n1) (hfr : 1 ≤ fr) (hlo : (st.map fun v => v.category).sum + (nativeFrameWords "java/lang/System" "arraycopy" 5 + 11) ≤ lc) (hd : decode cc pc = .ok (.invokestatic idx, 3)) (kk : kf_M g x nL (pc + 3) lv st (sI I c1 (va_cpy (I c0) (I c1) sp.toNatClampNeg dp.toNatClampNeg n.toNatClampNeg)) J) : kf_M g x nL pc lv (.int n :: .int dp :: .ref (g.2.2.2 c1) :: .int sp :: .ref (g.2.2.2 c0) :: st) I J := by
  obtain ⟨p, e, R, s, m, args, below, meth, cM, A, cells, slots, Q⟩ := x
  obtain ⟨h1, h2, h3, h4, h5, h6, h7, h8, h9, h10, h11, -⟩ := hx
  intro H locs ls hl hP hS
  exact va_copyi h1 h2 (h3.trans hl.1.symm) h4 (h5 _ hL) (h5 _ hw.1) (h5 _ hw.2.1) (h5 _ hw.2.2) h6 hP (kf_D h7 h8 I J) hS c0 c1 0 0 (ty := .int) (kf_at hs0) (kf_at hs1) (kf_tys h7 rfl) (kf_tys h7 rfl) rfl g1 g2 g3 g4 g5 (fun _ _ => rfl) (Nat.le_trans hfr h10) (Nat.le_trans hlo h11) hd (fun H1 locs1 hP1 _ hS1 => kk H1 locs1 ls hl (by rw [← (show (kf_ws g I J).set c1 (g.2.2.2 c1, .inl (kf_cA g 0, n1, .inl (va_cpy (I c0) (I c1) sp.toNatClampNeg dp.toNatClampNeg n.toNatClampNeg))) = kf_ws g (sI I c1 (va_cpy (I c0) (I c1) sp.toNatClampNeg dp.toNatClampNeg n.toNatClampNeg)) J from kf_setI _ hs1 rfl)]; exact hP1) hS1)
theorem kf_cpyJ (hx : kf_ok g x own cc nL fr lc) {idx c0 c1 n0 n1 : Nat} (hL : Cond.methodLink own idx arraycopyName ∈ kw_T) (hw : Cond.native arraycopyName ∈ kw_T ∧ Cond.static arraycopyName ∈ kw_T ∧ Cond.initialized "java/lang/System" ∈ kw_T) (hs0 : kf_SH[c0]? = some (2, n0, [1])) (hs1 : kf_SH[c1]? = some (2, n1, [1])) {sp dp n : Int32} (g1 : ¬ sp < 0) (g2 : ¬ dp < 0) (g3 : ¬ n < 0) (g4 : sp.toNatClampNeg + n.toNatClampNeg ≤ n0) (g5 : dp.toNatClampNeg + n.toNatClampNeg ≤ n1) (hfr : 1 ≤ fr) (hlo : (st.map fun v => v.category).sum + (nativeFrameWords "java/lang/System" "arraycopy" 5 + 11) ≤ lc) (hd : decode cc pc = .ok (.invokestatic idx, 3)) (kk : kf_M g x nL (pc + 3) lv st I (sJ J c1 (va_cpy (J c0) (J c1) sp.toNatClampNeg dp.toNatClampNeg n.toNatClampNeg))) : kf_M g x nL pc lv (.int n :: .int dp :: .ref (g.2.2.2 c1) :: .int sp :: .ref (g.2.2.2 c0) :: st) I J := by
  obtain ⟨p, e, R, s, m, args, below, meth, cM, A, cells, slots, Q⟩ := x
  obtain ⟨h1, h2, h3, h4, h5, h6, h7, h8, h9, h10, h11, -⟩ := hx
  intro H locs ls hl hP hS
  exact va_copyl h1 h2 (h3.trans hl.1.symm) h4 (h5 _ hL) (h5 _ hw.1) (h5 _ hw.2.1) (h5 _ hw.2.2) h6 hP (kf_D h7 h8 I J) hS c0 c1 1 1 (ty := .long) (kf_at hs0) (kf_at hs1) (kf_tys h7 rfl) (kf_tys h7 rfl) rfl g1 g2 g3 g4 g5 (fun _ _ => rfl) (Nat.le_trans hfr h10) (Nat.le_trans hlo h11) hd (fun H1 locs1 hP1 _ hS1 => kk H1 locs1 ls hl (by rw [← (show (kf_ws g I J).set c1 (g.2.2.2 c1, .inl (kf_cA g 1, n1, .inr (.inl (va_cpy (J c0) (J c1) sp.toNatClampNeg dp.toNatClampNeg n.toNatClampNeg)))) = kf_ws g I (sJ J c1 (va_cpy (J c0) (J c1) sp.toNatClampNeg dp.toNatClampNeg n.toNatClampNeg)) from kf_setJ _ hs1 rfl)]; exact hP1) hS1)
/-! contracts -/
def kf_W (y : MethodName) (b : ByteArray) (nL : Nat) (ret : Option FieldType) : List Cond := .code y b nL ret :: kw_T
def kf_Pre (g : kf_G) (args : List Value) (I : HI) (J : HJ) (sz : Nat) : Array Value → State → Prop := va_Pc args (fun U => U.heap.size = sz ∧ va_P g.2.1 kf_cl (kf_ws g I J) U.heap ∧ va_K g.2.1 kf_cl g.2.2.1 U)
def kf_Post (g : kf_G) (I : HI) (J : HJ) (sz : Nat) (P : Option Value → HI → HJ → Prop) : Array Value → State → Outcome → State → Prop := fun _ st oc t => (∃ (r : Option Value) (I' : HI) (J' : HJ), oc = .returned r ∧ P r I' J' ∧ va_P g.2.1 kf_cl (kf_ws g I' J') t.heap) ∧ va_F (va_A (kf_ws g I J) sz) st t
def kf_Mt (g : kf_G) (y : MethodName) (ws : List Cond) (fr lc : Nat) (args : List Value) (I : HI) (J : HJ) (P : Option Value → HI → HJ → Prop) : Prop :=
  ∀ sz : Nat, Met g.1 y ws { frames := fr, cells := 0, slots := 0, locals := lc } (kf_Pre g args I J sz) (kf_Post g I J sz P) 0 0 (va_A (kf_ws g I J) sz)
theorem kf_blind {g : kf_G} {args : List Value} {I : HI} {J : HJ} {sz : Nat} : FrameBlind (kf_Pre g args I J sz) := by
  intro a U g' mk h
  obtain ⟨h0, h1, h2, h3⟩ := h
  exact ⟨h0, h1, h2, va_K.moved (u := U) (U := U.calling g' mk a) (Vm.Alike.refl U.vm) h3⟩
theorem kf_AtoA {g : kf_G} {A : Nat → Prop} {I : HI} {J : HJ} {sz : Nat} (hA : ∀ c : Nat, c < kf_SH.length → A (g.2.2.2 c)) (hz : ∀ q : Nat, sz ≤ q → A q) : ∀ q, va_A (kf_ws g I J) sz q → A q := by
  intro q h
  rcases h with ⟨k, e, h⟩ | h
  · obtain ⟨h1, h2⟩ := kf_back h
    have : q = g.2.2.2 k := h1
    rw [this]
    exact hA k h2
  · exact hz q h
/-- behind a call -/
theorem kf_aft {p : Program} {e : Env} {R : Room} {s : State} {m : MethodId} {args : Array Value} {below : List Frame} {meth : Method} {cM : Code} {A : Nat → Prop} {cells slots : Nat} {Q : State → Prop} {rest : List Value} {ls : Array Slot} {H : Heap} {locs : List Loc} {st0 : List Value} {aa : Array Value} {P : Option Value → HI → HJ → Prop}
    (hA : ∀ c : Nat, c < kf_SH.length → A (g.2.2.2 c)) (hz : ∀ q : Nat, s.heap.size ≤ q → A q) (hl : lv_has ls nL lv) (hS : va_S A s.heap H locs)
    (hrun : va_Run p g.1 e R s m args below meth cM H locs cells slots 0 0 (F0 m pc ls st0) rest (kf_Post g I J H.size P aa) (va_A (kf_ws g I J) H.size))
    (kk : ∀ (r : Option Value) (I' : HI) (J' : HJ), P r I' J' → kf_M g (p, e, R, s, m, args, below, meth, cM, A, cells, slots, Q) nL (pc + 3) lv (r.toList ++ rest) I' J') :
    W p g.1 e R s m args below meth cM H locs cells slots Q (F0 m pc ls st0) := by
  intro T hT X
  obtain ⟨v, st₀, t, T', L, e0, X', hL, e1, e2, hq, go⟩ := hrun T hT X
  obtain ⟨⟨r, I', J', er, hPr, hP'⟩, hF⟩ := hq
  cases er
  have hA' := kf_AtoA (g := g) (A := A) (I := I) (J := J) (sz := H.size) hA (fun q h => hz q (Nat.le_trans hS.1 h))
  have hF1 : H.size ≤ t.heap.size := by have := hF.1; rw [e0] at this; exact this
  have hS' : va_S A s.heap t.heap (locs ++ L) := by
    refine ⟨Nat.le_trans hS.1 hF1, fun q h1 h2 => ?_, fun q hq => ?_⟩
    · have h3 : q < st₀.heap.size := by rw [e0]; exact Nat.lt_of_lt_of_le h1 hS.1
      rw [hF.2 q h3 (fun h => h2 (hA' q h)), e0]
      exact hS.2.1 q h1 h2
    · rcases List.mem_append.mp hq with h | h
      · exact hS.2.2 q h
      · exact hA' _ (hL q h)
  obtain ⟨tt, a1, b1⟩ := kk v I' J' hPr t.heap (locs ++ L) ls hl hP' hS' T' e1 X'
  exact ⟨tt, go tt a1, b1⟩
/-- a static method's link: own's entry idx, n parameters -/
def kf_Ls (own : String) (idx : Nat) (y : MethodName) (b : ByteArray) (mL : Nat) (ret : Option FieldType) (n : Nat) : Prop := (Cond.methodLink own idx y ∈ kw_T ∨ ∃ host : String, Cond.methodLinkNest own idx y host ∈ kw_T) ∧ Cond.static y ∈ kw_T ∧ Cond.initialized y.cls ∈ kw_T ∧ Cond.code y b mL ret ∈ kw_T ∧ y.cls ≠ "java/lang/invoke/MethodHandle" ∧ y.cls ≠ "java/lang/invoke/VarHandle" ∧ (parseMethodDescriptor y.desc).map (fun d => d.parameters.length) = some n
def kf_Lv (own : String) (idx : Nat) (y : MethodName) (b : ByteArray) (mL : Nat) (ret : Option FieldType) (n : Nat) : Prop := (Cond.methodLink own idx y ∈ kw_T ∨ ∃ host : String, Cond.methodLinkNest own idx y host ∈ kw_T) ∧ (Cond.instanceMethod y ∈ kw_T ∧ Cond.selects y.cls y y ∈ kw_T) ∧ Cond.initialized y.cls ∈ kw_T ∧ Cond.code y b mL ret ∈ kw_T ∧ y.cls ≠ "java/lang/invoke/MethodHandle" ∧ y.cls ≠ "java/lang/invoke/VarHandle" ∧ (parseMethodDescriptor y.desc).map (fun d => d.parameters.length) = some n
theorem kf_callS (hx : kf_ok g x own cc nL fr lc) {idx mL n fr' lc' : Nat} {y : MethodName} {b : ByteArray} {ret : Option FieldType} {As : List Value} {P : Option Value → HI → HJ → Prop} (hM : kf_Mt g y (kf_W y b mL ret) fr' lc' As I J P) (hL : kf_Ls own idx y b mL ret n) (hn : As.length = n) (hR : fr' + 1 ≤ fr ∧ 8 + (mL + 11) + lc' ≤ lc) {st0 : List Value} (he : st0 = As.reverse ++ st) (hst : (st.map fun v => v.category).sum ≤ 8) (hd : decode cc pc = .ok (.invokestatic idx, 3))
    (kk : ∀ (r : Option Value) (I' : HI) (J' : HJ), P r I' J' → kf_M g x nL (pc + 3) lv (r.toList ++ st) I' J') : kf_M g x nL pc lv st0 I J := by
  obtain ⟨p, e, R, s, m, args, below, meth, cM, A, cells, slots, Q⟩ := x
  obtain ⟨h1, h2, h3, h4, h5, h6, h7, h8, h9, h10, h11, h12, h13, h14⟩ := hx
  intro H locs ls hl hP hS
  obtain ⟨hl1, hl2, hl3, hl4, hl5, hl6, hl7⟩ := hL
  subst he
  have hpre : PreS s H (kf_Pre g As I J H.size) As := ⟨kf_blind, fun U hU hW => ⟨rfl, by rw [hU], by rw [hU]; exact hP, va_K.moved hW.alike h6⟩⟩
  have hlen : ∀ sig, parseMethodDescriptor y.desc = some sig → n = sig.parameters.length := fun sig h => by
    rw [h] at hl7
    exact (Option.some.inj hl7).symm
  have hall : ∀ w ∈ kf_W y b mL ret, ∀ (a' : Array Value) (U : State), s.WarmedH U.vm → w.before a' U = true := by
    intro w hw
    rcases List.mem_cons.mp hw with h | h
    · rw [h]; exact kw_pay h5 _ hl4
    · exact kw_pay h5 _ h
  have hcw : Cond.code y b mL ret ∈ kf_W y b mL ret := List.mem_cons_self
  have hRf : fr' + 1 ≤ R.frames := Nat.le_trans hR.1 h10
  have hRl : 8 + (mL + 11) + lc' ≤ R.locals := Nat.le_trans hR.2 h11
  refine kf_aft (I := I) (J := J) (rest := st) (aa := As.toArray) (P := P) h8 h9 hl hS ?_ kk
  rcases hl1 with hl1 | ⟨host, hl1⟩
  · exact va_runS (Ts := kw_T) ⟨h1, h2, h3, h4, h5⟩ (hM H.size) ⟨⟨rfl, rfl, hRf, hRl, hall, hcw, h5 _ hl4, h5 _ hl3, ⟨hl5, hl6⟩, hlen, h5 _ hl1⟩, h5 _ hl2⟩ hpre rfl hn hl.1 rfl (lv_room hst) hd ⟨h13, h14⟩
  · exact va_runSN (Ts := kw_T) ⟨h1, h2, h3, h4, h5⟩ (hM H.size) ⟨⟨⟨rfl, rfl, hRf, hRl, hall, hcw⟩, h5 _ hl4, h5 _ hl3, ⟨hl5, hl6⟩, hlen, h5 _ hl1⟩, h5 _ hl2, trivial⟩ hpre rfl hn hl.1 rfl (lv_room hst) hd ⟨h13, h14⟩
theorem kf_callV (hx : kf_ok g x own cc nL fr lc) {idx mL n fr' lc' : Nat} {y : MethodName} {b : ByteArray} {ret : Option FieldType} {As : List Value} {P : Option Value → HI → HJ → Prop} {c ci : Nat} {sl : List Nat} (hM : kf_Mt g y (kf_W y b mL ret) fr' lc' (.ref (g.2.2.2 c) :: As) I J P) (hc : kf_SH[c]? = some (0, ci, sl)) {T : u_T} {N : Nat} (hci : kf_cl[ci]? = some (y.cls, T, N)) (hL : kf_Lv own idx y b mL ret n) (hn : As.length = n) (hR : fr' + 1 ≤ fr ∧ 8 + (mL + 11) + lc' ≤ lc) {st0 : List Value} (he : st0 = As.reverse ++ .ref (g.2.2.2 c) :: st) (hst : (st.map fun v => v.category).sum ≤ 8) (hd : decode cc pc = .ok (.invokevirtual idx, 3))
    (kk : ∀ (r : Option Value) (I' : HI) (J' : HJ), P r I' J' → kf_M g x nL (pc + 3) lv (r.toList ++ st) I' J') : kf_M g x nL pc lv st0 I J := by
  obtain ⟨p, e, R, s, m, args, below, meth, cM, A, cells, slots, Q⟩ := x
  obtain ⟨h1, h2, h3, h4, h5, h6, h7, h8, h9, h10, h11, h12, h13, h14⟩ := hx
  intro H locs ls hl hP hS
  obtain ⟨hl1, ⟨hl2, hl8⟩, hl3, hl4, hl5, hl6, hl7⟩ := hL
  subst he
  have hpre : PreV s H y.cls (g.2.2.2 c) (kf_Pre g (.ref (g.2.2.2 c) :: As) I J H.size) As := ⟨kf_blind, va_recv h6 hP hci (kf_at hc), fun U hU hW => ⟨rfl, by rw [hU], by rw [hU]; exact hP, va_K.moved hW.alike h6⟩⟩
  have hlen : ∀ sig, parseMethodDescriptor y.desc = some sig → n = sig.parameters.length := fun sig h => by
    rw [h] at hl7
    exact (Option.some.inj hl7).symm
  have hall : ∀ w ∈ kf_W y b mL ret, ∀ (a' : Array Value) (U : State), s.WarmedH U.vm → w.before a' U = true := by
    intro w hw
    rcases List.mem_cons.mp hw with h | h
    · rw [h]; exact kw_pay h5 _ hl4
    · exact kw_pay h5 _ h
  have hcw : Cond.code y b mL ret ∈ kf_W y b mL ret := List.mem_cons_self
  have hRf : fr' + 1 ≤ R.frames := Nat.le_trans hR.1 h10
  have hRl : 8 + (mL + 11) + lc' ≤ R.locals := Nat.le_trans hR.2 h11
  refine kf_aft (I := I) (J := J) (rest := st) (aa := (Value.ref (g.2.2.2 c) :: As).toArray) (P := P) h8 h9 hl hS ?_ kk
  rcases hl1 with hl1 | ⟨host, hl1⟩
  · exact va_runV (Ts := kw_T) ⟨h1, h2, h3, h4, h5⟩ (hM H.size) ⟨⟨rfl, rfl, hRf, hRl, hall, hcw, h5 _ hl4, h5 _ hl3, ⟨hl5, hl6⟩, hlen, h5 _ hl1⟩, h5 _ hl2, h5 _ hl8⟩ hpre rfl hn hl.1 rfl (lv_room hst) hd ⟨h13, h14⟩
  · exact va_runVN (Ts := kw_T) ⟨h1, h2, h3, h4, h5⟩ (hM H.size) ⟨⟨⟨rfl, rfl, hRf, hRl, hall, hcw⟩, h5 _ hl4, h5 _ hl3, ⟨hl5, hl6⟩, hlen, h5 _ hl1⟩, h5 _ hl2, h5 _ hl8⟩ hpre rfl hn hl.1 rfl (lv_room hst) hd ⟨h13, h14⟩
/-! typed contracts -/
def kf_Mi (g : kf_G) (y : MethodName) (ws : List Cond) (fr lc : Nat) (args : List Value) (I : HI) (J : HJ) (P : Int32 → HI → HJ → Prop) : Prop := kf_Mt g y ws fr lc args I J (fun r I' J' => ∃ v : Int32, r = some (.int v) ∧ P v I' J')
def kf_Mb (g : kf_G) (y : MethodName) (ws : List Cond) (fr lc : Nat) (args : List Value) (I : HI) (J : HJ) (P : Bool → HI → HJ → Prop) : Prop := kf_Mt g y ws fr lc args I J (fun r I' J' => ∃ v : Bool, r = some (.int (kb v)) ∧ P v I' J')
def kf_Ml (g : kf_G) (y : MethodName) (ws : List Cond) (fr lc : Nat) (args : List Value) (I : HI) (J : HJ) (P : Int64 → HI → HJ → Prop) : Prop := kf_Mt g y ws fr lc args I J (fun r I' J' => ∃ v : Int64, r = some (.long v) ∧ P v I' J')
def kf_Mv (g : kf_G) (y : MethodName) (ws : List Cond) (fr lc : Nat) (args : List Value) (I : HI) (J : HJ) (P : HI → HJ → Prop) : Prop := kf_Mt g y ws fr lc args I J (fun r I' J' => r = none ∧ P I' J')
end KF
/-- a method out of its walk -/
theorem kf_ent {g : kf_G} {y : MethodName} {b : ByteArray} {nL fr lc : Nat} {ret : Option FieldType} {args : List Value} {I : HI} {J : HJ} {P : Option Value → HI → HJ → Prop} (hg : kf_g g) (hy : plainName y.cls = true) (hn : (lg_sl args).length ≤ nL)
    (body : ∀ x : kf_X, kf_ok g x y.cls b nL fr lc → (∀ (pc : Nat) (lv : List (Nat × Value)) (v : Value) (I' : HI) (J' : HJ), ((ret = some .int ∨ (ret = some .boolean ∧ ∃ z : Bool, v = .int (kb z))) ∧ (∃ w : Int32, v = .int w) ∧ decode b pc = .ok (.ireturn, 1)) ∨ (ret = some .long ∧ (∃ w : Int64, v = .long w) ∧ decode b pc = .ok (.lreturn, 1)) → P (some v) I' J' → kf_M g x nL pc lv [v] I' J') →
      (∀ (pc : Nat) (lv : List (Nat × Value)) (I' : HI) (J' : HJ), ret = none → decode b pc = .ok (.return_, 1) → P none I' J' → kf_M g x nL pc lv [] I' J') → kf_M g x nL 0 (lv_args 0 args) [] I J) : kf_Mt g y (kf_W y b nL ret) fr lc args I J P := by
  intro sz
  refine Met.ofW (cc := b) (maxL := nL) (ret := ret) hy rfl ?_
  intro p e s m args' below meth c s₁ B hml hv
  obtain ⟨rfl, hsz, hP, hK⟩ := hv
  subst hsz
  have hts := atoms_spec (ws := kf_W y b nL ret) B.pre
  have hown : s.vm.findClass y.cls = some m.cls := findClass_of_methodNamed B.named
  have hlocks := B.notSynchronized
  have hl := lv_entry args (n := nL) hn
  rw [lg_entry_eq]
  generalize (lg_sl args ++ List.replicate (nL - (lg_sl args).length) Slot.unset).toArray = ls at hl ⊢
  have hW : ∀ c : Nat, c < kf_SH.length → va_A (kf_ws g I J) s.heap.size (g.2.2.2 c) := fun c hc => by
    have := kf_at (g := g) (I := I) (J := J) (List.getElem?_eq_getElem hc)
    exact Or.inl ⟨c, _, this⟩
  refine body (p, e, { frames := fr, cells := 0, slots := 0, locals := lc }, s, m, args.toArray, below, meth, c, va_A (kf_ws g I J) s.heap.size, 0, 0, MQ below (kf_Post g I J s.heap.size P) args.toArray s 0 0 (va_A (kf_ws g I J) s.heap.size)) ?_ ?_ ?_ s.heap [] ls hl hP va_S.rf
  · exact ⟨B.exec, B.bytes, hml, hown, fun w hw => hts w (List.mem_cons_of_mem _ hw), hK, hg, hW, fun q h => Or.inr h, Nat.le_refl _, Nat.le_refl _, hlocks, Nat.le_refl _, Nat.le_refl _⟩
  · intro pc lv v I' J' hc hPv H locs ls' hl' hP' hS'
    rcases hc with ⟨hret, ⟨w, rfl⟩, hd⟩ | ⟨hret, ⟨w, rfl⟩, hd⟩
    · rcases hret with hret | ⟨hret, z, hz⟩
      · exact W.zret (ty := .int) B.exec B.bytes (B.returns.trans hret) rfl (fun t ht hW => ⟨⟨_, I', J', rfl, hPv, by rw [ht]; exact hP'⟩, hS'.F ht⟩) hS'.2.2 hd
      · refine W.zret (ty := .boolean) B.exec B.bytes (B.returns.trans hret) ?_ (fun t ht hW => ⟨⟨_, I', J', rfl, hPv, by rw [ht]; exact hP'⟩, hS'.F ht⟩) hS'.2.2 hd
        cases hz
        cases z <;> rfl
    · exact W.lret B.exec B.bytes (B.returns.trans hret) (fun t ht hW => ⟨⟨_, I', J', rfl, hPv, by rw [ht]; exact hP'⟩, hS'.F ht⟩) hS'.2.2 hd
  · intro pc lv I' J' hret hd hPv H locs ls' hl' hP' hS'
    exact W.vret B.exec B.bytes (B.returns.trans hret) (fun t ht hW => ⟨⟨_, I', J', rfl, hPv, by rw [ht]; exact hP'⟩, hS'.F ht⟩) hS'.2.2 hd
/-! typed calls and entries -/
def kf_ms (y : MethodName) (b : ByteArray) (mL : Nat) (ret : Option FieldType) (n : Nat) : Prop := Cond.static y ∈ kw_T ∧ Cond.initialized y.cls ∈ kw_T ∧ Cond.code y b mL ret ∈ kw_T ∧ y.cls ≠ "java/lang/invoke/MethodHandle" ∧ y.cls ≠ "java/lang/invoke/VarHandle" ∧ (parseMethodDescriptor y.desc).map (fun d => d.parameters.length) = some n
def kf_mv (y : MethodName) (b : ByteArray) (mL : Nat) (ret : Option FieldType) (n : Nat) : Prop := (Cond.instanceMethod y ∈ kw_T ∧ Cond.selects y.cls y y ∈ kw_T) ∧ Cond.initialized y.cls ∈ kw_T ∧ Cond.code y b mL ret ∈ kw_T ∧ y.cls ≠ "java/lang/invoke/MethodHandle" ∧ y.cls ≠ "java/lang/invoke/VarHandle" ∧ (parseMethodDescriptor y.desc).map (fun d => d.parameters.length) = some n
def kf_lk (own : String) (idx : Nat) (y : MethodName) : Prop := Cond.methodLink own idx y ∈ kw_T ∨ ∃ host : String, Cond.methodLinkNest own idx y host ∈ kw_T
def kf_ob (c : Nat) (C : String) : Prop := ∃ (ci : Nat) (sl : List Nat) (T : u_T) (N : Nat), kf_SH[c]? = some (0, ci, sl) ∧ kf_cl[ci]? = some (C, T, N)
theorem kw_ins (ws : List Cond) (ps : List Nat) (h : ws = ps.filterMap (fun i => lw_tbl[i]?)) (ho : ws.all kw_ok = true) : ∀ w ∈ ws, w ∈ kw_T := by
  intro w hw
  have h1 := List.all_eq_true.mp ho w hw
  rw [h] at hw
  obtain ⟨i, -, hi⟩ := List.mem_filterMap.mp hw
  exact kw_in i hi h1
section KG
variable {g : kf_G} {x : kf_X} {own : String} {cc : ByteArray} {nL fr lc pc : Nat} {lv lv' : List (Nat × Value)} {st : List Value} {I : HI} {J : HJ}
theorem kf_nmI {I0 : HI} (k : ∀ z : HI, z = I0 → kf_M g x nL pc lv st z J) : kf_M g x nL pc lv st I0 J := k _ rfl
theorem kf_nmJ {J0 : HJ} (k : ∀ z : HJ, z = J0 → kf_M g x nL pc lv st I z) : kf_M g x nL pc lv st I J0 := k _ rfl
theorem kf_topi {v : Int32} (k : ∀ z : Int32, z = v → kf_M g x nL pc lv (.int z :: st) I J) : kf_M g x nL pc lv (.int v :: st) I J := k _ rfl
theorem kf_topl {v : Int64} (k : ∀ z : Int64, z = v → kf_M g x nL pc lv (.long z :: st) I J) : kf_M g x nL pc lv (.long v :: st) I J := k _ rfl
theorem kf_callSi (hx : kf_ok g x own cc nL fr lc) {idx mL n fr' lc' : Nat} {y : MethodName} {b : ByteArray} {ret : Option FieldType} {As : List Value} {P : Int32 → HI → HJ → Prop} (hM : kf_Mi g y (kf_W y b mL ret) fr' lc' As I J P) (hl : kf_lk own idx y) (hm : kf_ms y b mL ret n) (hn : As.length = n) (hR : fr' + 1 ≤ fr ∧ 8 + (mL + 11) + lc' ≤ lc) {st0 : List Value} (he : st0 = As.reverse ++ st) (hst : (st.map fun v => v.category).sum ≤ 8) (hd : decode cc pc = .ok (.invokestatic idx, 3)) (kk : ∀ (v : Int32) (I' : HI) (J' : HJ), P v I' J' → kf_M g x nL (pc + 3) lv (.int v :: st) I' J') : kf_M g x nL pc lv st0 I J := kf_callS hx hM ⟨hl, hm⟩ hn hR he hst hd (fun r I' J' h => by obtain ⟨v, rfl, h⟩ := h; exact kk v I' J' h)
theorem kf_callSiP (hx : kf_ok g x own cc nL fr lc) {idx mL n fr' lc' : Nat} {y : MethodName} {b : ByteArray} {ret : Option FieldType} {As : List Value} {P : Int32 → Prop} (hM : kf_Mi g y (kf_W y b mL ret) fr' lc' As I J (fun v I' J' => P v ∧ I' = I ∧ J' = J)) (hl : kf_lk own idx y) (hm : kf_ms y b mL ret n) (hn : As.length = n) (hR : fr' + 1 ≤ fr ∧ 8 + (mL + 11) + lc' ≤ lc) {st0 : List Value} (he : st0 = As.reverse ++ st) (hst : (st.map fun v => v.category).sum ≤ 8) (hd : decode cc pc = .ok (.invokestatic idx, 3)) (kk : ∀ v : Int32, P v → kf_M g x nL (pc + 3) lv (.int v :: st) I J) : kf_M g x nL pc lv st0 I J := kf_callS hx hM ⟨hl, hm⟩ hn hR he hst hd (fun r I' J' h => by obtain ⟨v, rfl, h, rfl, rfl⟩ := h; exact kk v h)
theorem kf_callSb (hx : kf_ok g x own cc nL fr lc) {idx mL n fr' lc' : Nat} {y : MethodName} {b : ByteArray} {ret : Option FieldType} {As : List Value} {P : Bool → HI → HJ → Prop} (hM : kf_Mb g y (kf_W y b mL ret) fr' lc' As I J P) (hl : kf_lk own idx y) (hm : kf_ms y b mL ret n) (hn : As.length = n) (hR : fr' + 1 ≤ fr ∧ 8 + (mL + 11) + lc' ≤ lc) {st0 : List Value} (he : st0 = As.reverse ++ st) (hst : (st.map fun v => v.category).sum ≤ 8) (hd : decode cc pc = .ok (.invokestatic idx, 3)) (kk : ∀ (v : Bool) (I' : HI) (J' : HJ), P v I' J' → kf_M g x nL (pc + 3) lv (.int (kb v) :: st) I' J') : kf_M g x nL pc lv st0 I J := kf_callS hx hM ⟨hl, hm⟩ hn hR he hst hd (fun r I' J' h => by obtain ⟨v, rfl, h⟩ := h; exact kk v I' J' h)
theorem kf_callSbP (hx : kf_ok g x own cc nL fr lc) {idx mL n fr' lc' : Nat} {y : MethodName} {b : ByteArray} {ret : Option FieldType} {As : List Value} {P : Bool → Prop} (hM : kf_Mb g y (kf_W y b mL ret) fr' lc' As I J (fun v I' J' => P v ∧ I' = I ∧ J' = J)) (hl : kf_lk own idx y) (hm : kf_ms y b mL ret n) (hn : As.length = n) (hR : fr' + 1 ≤ fr ∧ 8 + (mL + 11) + lc' ≤ lc) {st0 : List Value} (he : st0 = As.reverse ++ st) (hst : (st.map fun v => v.category).sum ≤ 8) (hd : decode cc pc = .ok (.invokestatic idx, 3)) (kk : ∀ v : Bool, P v → kf_M g x nL (pc + 3) lv (.int (kb v) :: st) I J) : kf_M g x nL pc lv st0 I J := kf_callS hx hM ⟨hl, hm⟩ hn hR he hst hd (fun r I' J' h => by obtain ⟨v, rfl, h, rfl, rfl⟩ := h; exact kk v h)
theorem kf_callSl (hx : kf_ok g x own cc nL fr lc) {idx mL n fr' lc' : Nat} {y : MethodName} {b : ByteArray} {ret : Option FieldType} {As : List Value} {P : Int64 → HI → HJ → Prop} (hM : kf_Ml g y (kf_W y b mL ret) fr' lc' As I J P) (hl : kf_lk own idx y) (hm : kf_ms y b mL ret n) (hn : As.length = n) (hR : fr' + 1 ≤ fr ∧ 8 + (mL + 11) + lc' ≤ lc) {st0 : List Value} (he : st0 = As.reverse ++ st) (hst : (st.map fun v => v.category).sum ≤ 8) (hd : decode cc pc = .ok (.invokestatic idx, 3)) (kk : ∀ (v : Int64) (I' : HI) (J' : HJ), P v I' J' → kf_M g x nL (pc + 3) lv (.long v :: st) I' J') : kf_M g x nL pc lv st0 I J := kf_callS hx hM ⟨hl, hm⟩ hn hR he hst hd (fun r I' J' h => by obtain ⟨v, rfl, h⟩ := h; exact kk v I' J' h)
theorem kf_callSlP (hx : kf_ok g x own cc nL fr lc) {idx mL n fr' lc' : Nat} {y : MethodName} {b : ByteArray} {ret : Option FieldType} {As : List Value} {P : Int64 → Prop} (hM : kf_Ml g y (kf_W y b mL ret) fr' lc' As I J (fun v I' J' => P v ∧ I' = I ∧ J' = J)) (hl : kf_lk own idx y) (hm : kf_ms y b mL ret n) (hn : As.length = n) (hR : fr' + 1 ≤ fr ∧ 8 + (mL + 11) + lc' ≤ lc) {st0 : List Value} (he : st0 = As.reverse ++ st) (hst : (st.map fun v => v.category).sum ≤ 8) (hd : decode cc pc = .ok (.invokestatic idx, 3)) (kk : ∀ v : Int64, P v → kf_M g x nL (pc + 3) lv (.long v :: st) I J) : kf_M g x nL pc lv st0 I J := kf_callS hx hM ⟨hl, hm⟩ hn hR he hst hd (fun r I' J' h => by obtain ⟨v, rfl, h, rfl, rfl⟩ := h; exact kk v h)
theorem kf_callSv (hx : kf_ok g x own cc nL fr lc) {idx mL n fr' lc' : Nat} {y : MethodName} {b : ByteArray} {ret : Option FieldType} {As : List Value} {P : HI → HJ → Prop} (hM : kf_Mv g y (kf_W y b mL ret) fr' lc' As I J P) (hl : kf_lk own idx y) (hm : kf_ms y b mL ret n) (hn : As.length = n) (hR : fr' + 1 ≤ fr ∧ 8 + (mL + 11) + lc' ≤ lc) {st0 : List Value} (he : st0 = As.reverse ++ st) (hst : (st.map fun v => v.category).sum ≤ 8) (hd : decode cc pc = .ok (.invokestatic idx, 3)) (kk : ∀ (I' : HI) (J' : HJ), P I' J' → kf_M g x nL (pc + 3) lv st I' J') : kf_M g x nL pc lv st0 I J := kf_callS hx hM ⟨hl, hm⟩ hn hR he hst hd (fun r I' J' h => by obtain ⟨rfl, h⟩ := h; exact kk I' J' h)
theorem kf_callSvP (hx : kf_ok g x own cc nL fr lc) {idx mL n fr' lc' : Nat} {y : MethodName} {b : ByteArray} {ret : Option FieldType} {As : List Value} {P : Prop} (hM : kf_Mv g y (kf_W y b mL ret) fr' lc' As I J (fun I' J' => P ∧ I' = I ∧ J' = J)) (hl : kf_lk own idx y) (hm : kf_ms y b mL ret n) (hn : As.length = n) (hR : fr' + 1 ≤ fr ∧ 8 + (mL + 11) + lc' ≤ lc) {st0 : List Value} (he : st0 = As.reverse ++ st) (hst : (st.map fun v => v.category).sum ≤ 8) (hd : decode cc pc = .ok (.invokestatic idx, 3)) (kk : P → kf_M g x nL (pc + 3) lv st I J) : kf_M g x nL pc lv st0 I J := kf_callS hx hM ⟨hl, hm⟩ hn hR he hst hd (fun r I' J' h => by obtain ⟨rfl, h, rfl, rfl⟩ := h; exact kk h)
theorem kf_callVi (hx : kf_ok g x own cc nL fr lc) {idx mL n fr' lc' : Nat} {y : MethodName} {b : ByteArray} {ret : Option FieldType} {As : List Value} {c : Nat} {P : Int32 → HI → HJ → Prop} (hM : kf_Mi g y (kf_W y b mL ret) fr' lc' (.ref (g.2.2.2 c) :: As) I J P) (hl : kf_lk own idx y) (hm : kf_mv y b mL ret n) (hc : kf_ob c y.cls) (hn : As.length = n) (hR : fr' + 1 ≤ fr ∧ 8 + (mL + 11) + lc' ≤ lc) {st0 : List Value} (he : st0 = As.reverse ++ .ref (g.2.2.2 c) :: st) (hst : (st.map fun v => v.category).sum ≤ 8) (hd : decode cc pc = .ok (.invokevirtual idx, 3)) (kk : ∀ (v : Int32) (I' : HI) (J' : HJ), P v I' J' → kf_M g x nL (pc + 3) lv (.int v :: st) I' J') : kf_M g x nL pc lv st0 I J := by
  obtain ⟨ci, sl, T, N, hc1, hc2⟩ := hc
  exact kf_callV hx hM hc1 hc2 ⟨hl, hm⟩ hn hR he hst hd (fun r I' J' h => by obtain ⟨v, rfl, h⟩ := h; exact kk v I' J' h)
theorem kf_callViP (hx : kf_ok g x own cc nL fr lc) {idx mL n fr' lc' : Nat} {y : MethodName} {b : ByteArray} {ret : Option FieldType} {As : List Value} {c : Nat} {P : Int32 → Prop} (hM : kf_Mi g y (kf_W y b mL ret) fr' lc' (.ref (g.2.2.2 c) :: As) I J (fun v I' J' => P v ∧ I' = I ∧ J' = J)) (hl : kf_lk own idx y) (hm : kf_mv y b mL ret n) (hc : kf_ob c y.cls) (hn : As.length = n) (hR : fr' + 1 ≤ fr ∧ 8 + (mL + 11) + lc' ≤ lc) {st0 : List Value} (he : st0 = As.reverse ++ .ref (g.2.2.2 c) :: st) (hst : (st.map fun v => v.category).sum ≤ 8) (hd : decode cc pc = .ok (.invokevirtual idx, 3)) (kk : ∀ v : Int32, P v → kf_M g x nL (pc + 3) lv (.int v :: st) I J) : kf_M g x nL pc lv st0 I J := by
  obtain ⟨ci, sl, T, N, hc1, hc2⟩ := hc
  exact kf_callV hx hM hc1 hc2 ⟨hl, hm⟩ hn hR he hst hd (fun r I' J' h => by obtain ⟨v, rfl, h, rfl, rfl⟩ := h; exact kk v h)
theorem kf_callVb (hx : kf_ok g x own cc nL fr lc) {idx mL n fr' lc' : Nat} {y : MethodName} {b : ByteArray} {ret : Option FieldType} {As : List Value} {c : Nat} {P : Bool → HI → HJ → Prop} (hM : kf_Mb g y (kf_W y b mL ret) fr' lc' (.ref (g.2.2.2 c) :: As) I J P) (hl : kf_lk own idx y) (hm : kf_mv y b mL ret n) (hc : kf_ob c y.cls) (hn : As.length = n) (hR : fr' + 1 ≤ fr ∧ 8 + (mL + 11) + lc' ≤ lc) {st0 : List Value} (he : st0 = As.reverse ++ .ref (g.2.2.2 c) :: st) (hst : (st.map fun v => v.category).sum ≤ 8) (hd : decode cc pc = .ok (.invokevirtual idx, 3)) (kk : ∀ (v : Bool) (I' : HI) (J' : HJ), P v I' J' → kf_M g x nL (pc + 3) lv (.int (kb v) :: st) I' J') : kf_M g x nL pc lv st0 I J := by
  obtain ⟨ci, sl, T, N, hc1, hc2⟩ := hc
  exact kf_callV hx hM hc1 hc2 ⟨hl, hm⟩ hn hR he hst hd (fun r I' J' h => by obtain ⟨v, rfl, h⟩ := h; exact kk v I' J' h)
theorem kf_callVbP (hx : kf_ok g x own cc nL fr lc) {idx mL n fr' lc' : Nat} {y : MethodName} {b : ByteArray} {ret : Option FieldType} {As : List Value} {c : Nat} {P : Bool → Prop} (hM : kf_Mb g y (kf_W y b mL ret) fr' lc' (.ref (g.2.2.2 c) :: As) I J (fun v I' J' => P v ∧ I' = I ∧ J' = J)) (hl : kf_lk own idx y) (hm : kf_mv y b mL ret n) (hc : kf_ob c y.cls) (hn : As.length = n) (hR : fr' + 1 ≤ fr ∧ 8 + (mL + 11) + lc' ≤ lc) {st0 : List Value} (he : st0 = As.reverse ++ .ref (g.2.2.2 c) :: st) (hst : (st.map fun v => v.category).sum ≤ 8) (hd : decode cc pc = .ok (.invokevirtual idx, 3)) (kk : ∀ v : Bool, P v → kf_M g x nL (pc + 3) lv (.int (kb v) :: st) I J) : kf_M g x nL pc lv st0 I J := by
  obtain ⟨ci, sl, T, N, hc1, hc2⟩ := hc
  exact kf_callV hx hM hc1 hc2 ⟨hl, hm⟩ hn hR he hst hd (fun r I' J' h => by obtain ⟨v, rfl, h, rfl, rfl⟩ := h; exact kk v h)
theorem kf_callVl (hx : kf_ok g x own cc nL fr lc) {idx mL n fr' lc' : Nat} {y : MethodName} {b : ByteArray} {ret : Option FieldType} {As : List Value} {c : Nat} {P : Int64 → HI → HJ → Prop} (hM : kf_Ml g y (kf_W y b mL ret) fr' lc' (.ref (g.2.2.2 c) :: As) I J P) (hl : kf_lk own idx y) (hm : kf_mv y b mL ret n) (hc : kf_ob c y.cls) (hn : As.length = n) (hR : fr' + 1 ≤ fr ∧ 8 + (mL + 11) + lc' ≤ lc) {st0 : List Value} (he : st0 = As.reverse ++ .ref (g.2.2.2 c) :: st) (hst : (st.map fun v => v.category).sum ≤ 8) (hd : decode cc pc = .ok (.invokevirtual idx, 3)) (kk : ∀ (v : Int64) (I' : HI) (J' : HJ), P v I' J' → kf_M g x nL (pc + 3) lv (.long v :: st) I' J') : kf_M g x nL pc lv st0 I J := by
  obtain ⟨ci, sl, T, N, hc1, hc2⟩ := hc
  exact kf_callV hx hM hc1 hc2 ⟨hl, hm⟩ hn hR he hst hd (fun r I' J' h => by obtain ⟨v, rfl, h⟩ := h; exact kk v I' J' h)
theorem kf_callVlP (hx : kf_ok g x own cc nL fr lc) {idx mL n fr' lc' : Nat} {y : MethodName} {b : ByteArray} {ret : Option FieldType} {As : List Value} {c : Nat} {P : Int64 → Prop} (hM : kf_Ml g y (kf_W y b mL ret) fr' lc' (.ref (g.2.2.2 c) :: As) I J (fun v I' J' => P v ∧ I' = I ∧ J' = J)) (hl : kf_lk own idx y) (hm : kf_mv y b mL ret n) (hc : kf_ob c y.cls) (hn : As.length = n) (hR : fr' + 1 ≤ fr ∧ 8 + (mL + 11) + lc' ≤ lc) {st0 : List Value} (he : st0 = As.reverse ++ .ref (g.2.2.2 c) :: st) (hst : (st.map fun v => v.category).sum ≤ 8) (hd : decode cc pc = .ok (.invokevirtual idx, 3)) (kk : ∀ v : Int64, P v → kf_M g x nL (pc + 3) lv (.long v :: st) I J) : kf_M g x nL pc lv st0 I J := by
  obtain ⟨ci, sl, T, N, hc1, hc2⟩ := hc
  exact kf_callV hx hM hc1 hc2 ⟨hl, hm⟩ hn hR he hst hd (fun r I' J' h => by obtain ⟨v, rfl, h, rfl, rfl⟩ := h; exact kk v h)
theorem kf_callVv (hx : kf_ok g x own cc nL fr lc) {idx mL n fr' lc' : Nat} {y : MethodName} {b : ByteArray} {ret : Option FieldType} {As : List Value} {c : Nat} {P : HI → HJ → Prop} (hM : kf_Mv g y (kf_W y b mL ret) fr' lc' (.ref (g.2.2.2 c) :: As) I J P) (hl : kf_lk own idx y) (hm : kf_mv y b mL ret n) (hc : kf_ob c y.cls) (hn : As.length = n) (hR : fr' + 1 ≤ fr ∧ 8 + (mL + 11) + lc' ≤ lc) {st0 : List Value} (he : st0 = As.reverse ++ .ref (g.2.2.2 c) :: st) (hst : (st.map fun v => v.category).sum ≤ 8) (hd : decode cc pc = .ok (.invokevirtual idx, 3)) (kk : ∀ (I' : HI) (J' : HJ), P I' J' → kf_M g x nL (pc + 3) lv st I' J') : kf_M g x nL pc lv st0 I J := by
  obtain ⟨ci, sl, T, N, hc1, hc2⟩ := hc
  exact kf_callV hx hM hc1 hc2 ⟨hl, hm⟩ hn hR he hst hd (fun r I' J' h => by obtain ⟨rfl, h⟩ := h; exact kk I' J' h)
theorem kf_callVvP (hx : kf_ok g x own cc nL fr lc) {idx mL n fr' lc' : Nat} {y : MethodName} {b : ByteArray} {ret : Option FieldType} {As : List Value} {c : Nat} {P : Prop} (hM : kf_Mv g y (kf_W y b mL ret) fr' lc' (.ref (g.2.2.2 c) :: As) I J (fun I' J' => P ∧ I' = I ∧ J' = J)) (hl : kf_lk own idx y) (hm : kf_mv y b mL ret n) (hc : kf_ob c y.cls) (hn : As.length = n) (hR : fr' + 1 ≤ fr ∧ 8 + (mL + 11) + lc' ≤ lc) {st0 : List Value} (he : st0 = As.reverse ++ .ref (g.2.2.2 c) :: st) (hst : (st.map fun v => v.category).sum ≤ 8) (hd : decode cc pc = .ok (.invokevirtual idx, 3)) (kk : P → kf_M g x nL (pc + 3) lv st I J) : kf_M g x nL pc lv st0 I J := by
  obtain ⟨ci, sl, T, N, hc1, hc2⟩ := hc
  exact kf_callV hx hM hc1 hc2 ⟨hl, hm⟩ hn hR he hst hd (fun r I' J' h => by obtain ⟨rfl, h, rfl, rfl⟩ := h; exact kk h)
end KG
theorem kf_enti {g : kf_G} {y : MethodName} {b : ByteArray} {nL fr lc : Nat} {args : List Value} {lv0 : List (Nat × Value)} {I : HI} {J : HJ} {P : Int32 → HI → HJ → Prop} (hg : kf_g g) (hy : plainName y.cls = true) (hn : (lg_sl args).length ≤ nL) (ha : lv_args 0 args = lv0)
    (body : ∀ x : kf_X, kf_ok g x y.cls b nL fr lc → (∀ (pc : Nat) (lv : List (Nat × Value)) (v : Int32) (I' : HI) (J' : HJ), decode b pc = .ok (.ireturn, 1) → P v I' J' → kf_M g x nL pc lv [.int v] I' J') → kf_M g x nL 0 lv0 [] I J) : kf_Mi g y (kf_W y b nL (some .int)) fr lc args I J P :=
  kf_ent hg hy hn (fun x hx hr _ => by rw [ha]; exact body x hx (fun pc lv v I' J' hd hP => hr pc lv _ I' J' (Or.inl ⟨Or.inl rfl, ⟨v, rfl⟩, hd⟩) ⟨v, rfl, hP⟩))
theorem kf_entb {g : kf_G} {y : MethodName} {b : ByteArray} {nL fr lc : Nat} {args : List Value} {lv0 : List (Nat × Value)} {I : HI} {J : HJ} {P : Bool → HI → HJ → Prop} (hg : kf_g g) (hy : plainName y.cls = true) (hn : (lg_sl args).length ≤ nL) (ha : lv_args 0 args = lv0)
    (body : ∀ x : kf_X, kf_ok g x y.cls b nL fr lc → (∀ (pc : Nat) (lv : List (Nat × Value)) (v : Bool) (I' : HI) (J' : HJ), decode b pc = .ok (.ireturn, 1) → P v I' J' → kf_M g x nL pc lv [.int (kb v)] I' J') → kf_M g x nL 0 lv0 [] I J) : kf_Mb g y (kf_W y b nL (some .boolean)) fr lc args I J P :=
  kf_ent hg hy hn (fun x hx hr _ => by rw [ha]; exact body x hx (fun pc lv v I' J' hd hP => hr pc lv _ I' J' (Or.inl ⟨Or.inr ⟨rfl, ⟨v, rfl⟩⟩, ⟨_, rfl⟩, hd⟩) ⟨v, rfl, hP⟩))
theorem kf_entl {g : kf_G} {y : MethodName} {b : ByteArray} {nL fr lc : Nat} {args : List Value} {lv0 : List (Nat × Value)} {I : HI} {J : HJ} {P : Int64 → HI → HJ → Prop} (hg : kf_g g) (hy : plainName y.cls = true) (hn : (lg_sl args).length ≤ nL) (ha : lv_args 0 args = lv0)
    (body : ∀ x : kf_X, kf_ok g x y.cls b nL fr lc → (∀ (pc : Nat) (lv : List (Nat × Value)) (v : Int64) (I' : HI) (J' : HJ), decode b pc = .ok (.lreturn, 1) → P v I' J' → kf_M g x nL pc lv [.long v] I' J') → kf_M g x nL 0 lv0 [] I J) : kf_Ml g y (kf_W y b nL (some .long)) fr lc args I J P :=
  kf_ent hg hy hn (fun x hx hr _ => by rw [ha]; exact body x hx (fun pc lv v I' J' hd hP => hr pc lv _ I' J' (Or.inr ⟨rfl, ⟨v, rfl⟩, hd⟩) ⟨v, rfl, hP⟩))
theorem kf_entv {g : kf_G} {y : MethodName} {b : ByteArray} {nL fr lc : Nat} {args : List Value} {lv0 : List (Nat × Value)} {I : HI} {J : HJ} {P : HI → HJ → Prop} (hg : kf_g g) (hy : plainName y.cls = true) (hn : (lg_sl args).length ≤ nL) (ha : lv_args 0 args = lv0)
    (body : ∀ x : kf_X, kf_ok g x y.cls b nL fr lc → (∀ (pc : Nat) (lv : List (Nat × Value)) (I' : HI) (J' : HJ), decode b pc = .ok (.return_, 1) → P I' J' → kf_M g x nL pc lv [] I' J') → kf_M g x nL 0 lv0 [] I J) : kf_Mv g y (kf_W y b nL none) fr lc args I J P :=
  kf_ent hg hy hn (fun x hx _ hr => by rw [ha]; exact body x hx (fun pc lv I' J' hd hP => hr pc lv I' J' rfl hd ⟨rfl, hP⟩))
/-! loops as predicates -/
def lp {S : Type} (b : (S → Prop) → S → Prop) : Nat → S → Prop
  | 0, _ => False
  | n + 1, s => b (lp b n) s
theorem lp_by {S : Type} {b : (S → Prop) → S → Prop} (Inv : S → Prop) (mu : S → Nat) (h : ∀ s K, Inv s → (∀ s', Inv s' → mu s' < mu s → K s') → b K s) (s : S) (hs : Inv s) : ∃ n, lp b n s := by
  have key : ∀ n s, Inv s → mu s < n → lp b n s := by
    intro n
    induction n with
    | zero => intro s _ hn; exact absurd hn (Nat.not_lt_zero _)
    | succ n ih =>
      intro s hs hn
      exact h s _ hs (fun s' hs' hm => ih s' hs' (by omega))
  exact ⟨mu s + 1, key _ s hs (Nat.lt_succ_self _)⟩
