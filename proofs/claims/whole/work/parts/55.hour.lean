/-! an hour of the class is an hour of the story -/
def bt (s p : Nat) : Nat := if s.testBit p = true then 1 else 0
theorem bt_t {s p : Nat} : s.testBit p = true ↔ bt s p = 1 := by
  unfold bt
  by_cases c : s.testBit p = true
  · rw [if_pos c]; exact ⟨fun _ => rfl, fun _ => c⟩
  · rw [if_neg c]; exact ⟨fun z => absurd z c, fun z => (by omega)⟩
theorem sA_c (N : NT) (rd bl bh h : Nat) (s : ST) (p : Nat) : (s.1 p = 1000 ∧ s.2.1 p = 1000 ∧ h = 0 ∧ bt rd p = 1 ∧ (sA N rd bl bh h s).1 p = h ∧ (sA N rd bl bh h s).2.2 p = 0) ∨ (s.1 p = 1000 ∧ s.2.1 p = 1000 ∧ ¬ (h = 0 ∧ bt rd p = 1) ∧ h = bh ∧ bt bl p = 1 ∧ (sA N rd bl bh h s).1 p = h ∧ (sA N rd bl bh h s).2.2 p = 1) ∨ (s.1 p = 1000 ∧ s.2.1 p < 1000 ∧ s.2.1 p + nLt N p = h ∧ (sA N rd bl bh h s).1 p = h ∧ (sA N rd bl bh h s).2.2 p = s.2.2 p) ∨ (¬ (s.1 p = 1000 ∧ s.2.1 p = 1000 ∧ h = 0 ∧ bt rd p = 1) ∧ ¬ (s.1 p = 1000 ∧ s.2.1 p = 1000 ∧ h = bh ∧ bt bl p = 1) ∧ ¬ (s.1 p = 1000 ∧ s.2.1 p < 1000 ∧ s.2.1 p + nLt N p = h) ∧ (sA N rd bl bh h s).1 p = s.1 p ∧ (sA N rd bl bh h s).2.2 p = s.2.2 p) := by
  have e1 : (sA N rd bl bh h s).1 p = p1t N rd bl bh h s.1 s.2.1 p := rfl
  have e2 : (sA N rd bl bh h s).2.2 p = p1w rd bl bh h s.1 s.2.1 s.2.2 p := rfl
  rw [e1, e2]
  unfold p1t p1w
  simp only [bt_t]
  split <;> split <;> (try split) <;> omega
theorem sB_c (N : NT) (lot h : Nat) (a : ST) (p : Nat) : (dcs N lot h a.1 a.2.1 p = true ∧ a.1 p = 1000 ∧ a.2.1 p = 1000 ∧ (sB N lot h a).2.1 p = h ∧ ((nLt N p = 0 ∧ (sB N lot h a).1 p = h) ∨ (¬ nLt N p = 0 ∧ (sB N lot h a).1 p = 1000)) ∧ (((sB N lot h a).2.2 p = 0 ∧ hn N lot a.1 (h + 1) p ≤ 2 * hrd N lot a.1 a.2.2 (h + 1) p) ∨ ((sB N lot h a).2.2 p = 1 ∧ ¬ hn N lot a.1 (h + 1) p ≤ 2 * hrd N lot a.1 a.2.2 (h + 1) p))) ∨ (dcs N lot h a.1 a.2.1 p = false ∧ (sB N lot h a).1 p = a.1 p ∧ (sB N lot h a).2.1 p = a.2.1 p ∧ (sB N lot h a).2.2 p = a.2.2 p) := by
  have e1 : (sB N lot h a).1 p = p2t N lot h a.1 a.2.1 p := rfl
  have e2 : (sB N lot h a).2.1 p = p2m N lot h a.1 a.2.1 p := rfl
  have e3 : (sB N lot h a).2.2 p = p2w N lot h a.1 a.2.1 a.2.2 p := rfl
  rw [e1, e2, e3]
  unfold p2t p2m p2w
  cases c : dcs N lot h a.1 a.2.1 p
  · refine Or.inr ⟨rfl, ?_, ?_, ?_⟩
    · rw [if_neg (fun z => by cases z.1)]
    · rw [if_neg (by decide)]
    · rw [if_neg (by decide)]
  · obtain ⟨d1, d2, d3, d4⟩ := dcs_t.mp c
    refine Or.inl ⟨rfl, d2, d3, if_pos rfl, ?_, ?_⟩
    · by_cases z : nLt N p = 0
      · exact Or.inl ⟨z, if_pos ⟨rfl, z⟩⟩
      · exact Or.inr ⟨z, by rw [if_neg (fun y => z y.2)]; exact d2⟩
    · rw [if_pos rfl]
      by_cases z : hn N lot a.1 (h + 1) p ≤ 2 * hrd N lot a.1 a.2.2 (h + 1) p
      · exact Or.inl ⟨if_pos z, z⟩
      · exact Or.inr ⟨if_neg z, z⟩
def mWh (N : NT) (rd h : Nat) (s : ST) : Prop := ∀ p, p < nP N → (s.1 p = 1000 → s.2.1 p = 1000 → s.2.2 p = 2) ∧ (s.1 p < 1000 ∨ s.2.1 p < 1000 → s.2.2 p ≤ 1) ∧ (1 ≤ h → bt rd p = 1 → s.2.2 p = 0)
theorem mWh_s {N : NT} (hN : okN N) {rd bl bh lot h : Nat} {s : ST} (hh : h < 150) (hm : mOk N rd bl lot h s) (hw : mWh N rd h s) : mWh N rd (h + 1) (sB N lot h (sA N rd bl bh h s)) := by
  intro p hp
  obtain ⟨h1, h2, h3, h4, h5, h6, h7, h8⟩ := hm p hp
  obtain ⟨w1, w2, w3⟩ := hw p hp
  rw [bt_t] at h7
  clear h3 h4 h5 h6 h8
  have e : (sA N rd bl bh h s).2.1 p = s.2.1 p := rfl
  have aw : ((sA N rd bl bh h s).1 p = 1000 → s.2.1 p = 1000 → (sA N rd bl bh h s).2.2 p = 2) ∧ ((sA N rd bl bh h s).1 p < 1000 ∨ s.2.1 p < 1000 → (sA N rd bl bh h s).2.2 p ≤ 1) ∧ (bt rd p = 1 → (sA N rd bl bh h s).2.2 p = 0 ∧ (sA N rd bl bh h s).1 p < 1000) := by
    rcases sA_c N rd bl bh h s p with ⟨c1, c2, c3, c4, c5, c6⟩ | ⟨c1, c2, c3, c4, c5, c6, c7⟩ | ⟨c1, c2, c3, c4, c5⟩ | ⟨n1, -, -, c4, c5⟩
    · rw [c5, c6]; exact ⟨by omega, by omega, by omega⟩
    · rw [c6, c7]
      refine ⟨by omega, by omega, fun r => ?_⟩
      rcases Nat.eq_zero_or_pos h with z | z
      · exact absurd ⟨z, r⟩ c3
      · have := (h7 z r).1; omega
    · rw [c4, c5]
      refine ⟨by omega, fun _ => w2 (Or.inr c2), fun r => ?_⟩
      rcases Nat.eq_zero_or_pos h with z | z
      · omega
      · have := (h7 z r).1; omega
    · rw [c4, c5]
      refine ⟨w1, w2, fun r => ?_⟩
      rcases Nat.eq_zero_or_pos h with z | z
      · exact absurd ⟨by omega, by omega, z, r⟩ n1
      · exact ⟨w3 z r, by have := (h7 z r).1; omega⟩
  obtain ⟨a1, a2, a3⟩ := aw
  rcases sB_c N lot h (sA N rd bl bh h s) p with ⟨-, z1, z2, z3, z4, z5⟩ | ⟨-, z1, z2, z3⟩
  · refine ⟨fun _ y => ?_, fun _ => ?_, fun _ r => ?_⟩
    · rw [z3] at y; omega
    · rcases z5 with z | z <;> omega
    · have := (a3 r).2; omega
  · rw [z1, z2, z3, e]
    exact ⟨a1, a2, fun _ r => (a3 r).1⟩
theorem mWh_all {N : NT} (hN : okN N) (rd bl bh lot : Nat) {h : Nat} (hh : h ≤ 150) : mWh N rd h (sts N rd bl bh lot h) := by
  induction h with
  | zero => exact fun p hp => ⟨fun _ _ => rfl, fun z => (by have e1 : (sts N rd bl bh lot 0).1 p = 1000 := rfl; have e2 : (sts N rd bl bh lot 0).2.1 p = 1000 := rfl; omega), fun z => (by omega)⟩
  | succ h ih => exact mWh_s hN (by omega) (mOk_all hN rd bl bh lot (by omega)) (ih (by omega))
def fDec (rd : Nat) (s : ST) (p : Nat) : Bool := rd.testBit p || (decide (s.1 p < 1000) || decide (s.2.1 p < 1000))
def fRed (rd : Nat) (s : ST) (p : Nat) : Bool := rd.testBit p || decide (s.2.2 p = 0)
def fTok (s : ST) (p : Nat) : Bool := decide (s.1 p < 1000)
def fTold (N : NT) (lot h : Nat) (tk : Nat → Nat) (t : Nat) : Bool := lot.testBit t && decide (tel N tk t < h)
def fSent (N : NT) (lot : Nat) (tk : Nat → Nat) (t : Nat) : Bool := lot.testBit t && decide (tk (nFr N t) < 1000)
def fTa (N : NT) (rd : Nat) (s : ST) (k p : Nat) : Bool := decide (s.1 p = 1000) && ((decide (s.2.1 p < 1000) && decide ((s.2.1 p + nLt N p) % 8 = k)) || (decide (s.2.1 p = 1000) && (rd.testBit p && decide (k = 0))))
def fTi (N : NT) (lot h : Nat) (tk : Nat → Nat) (k t : Nat) : Bool := lot.testBit t && (decide (tk (nFr N t) < 1000) && (decide (h ≤ tel N tk t) && decide (tel N tk t % 8 = k)))
def fTb (N : NT) (h : Nat) (a : ST) (k p : Nat) : Bool := (decide (a.1 p = 1000) && (decide (a.2.1 p < 1000) && decide ((a.2.1 p + nLt N p) % 8 = k))) || (decide (a.1 p = h) && decide (k = h % 8))
def Pst (I I0 : HI) (N : NT) (rd lot h : Nat) (s : ST) : Prop := pic I I0 N lot (fDec rd s) (fRed rd s) (fun t => fRed rd s (nFr N t)) (fTok s) (fTok s) s.1 (fTold N lot h s.1) (fSent N lot s.1) (fTa N rd s) (fTi N lot h s.1)
def Pst1 (I I0 : HI) (N : NT) (rd lot h : Nat) (s a : ST) : Prop := pic I I0 N lot (fDec rd a) (fRed rd a) (fun t => fRed rd a (nFr N t)) (fTok s) (fTok s) s.1 (fTold N lot h s.1) (fSent N lot s.1) (fTb N h a) (fTi N lot h s.1)
theorem bl_eq {x y : Bool} (h : x = true ↔ y = true) : x = y := Bool.eq_iff_iff.mpr h
section
variable {I I0 : HI} {J : HJ} {N : NT} {rd bl bh lot h : Nat} {s : ST}
theorem sA_f (N : NT) (rd bl bh h : Nat) (s : ST) (p : Nat) : ((sA N rd bl bh h s).1 p = h ∧ s.1 p = 1000) ∨ ((sA N rd bl bh h s).1 p = s.1 p ∧ (sA N rd bl bh h s).2.2 p = s.2.2 p) := by
  rcases sA_c N rd bl bh h s p with ⟨c1, -, -, -, c2, -⟩ | ⟨c1, -, -, -, -, c2, -⟩ | ⟨c1, -, -, c2, -⟩ | ⟨-, -, -, c1, c2⟩
  · exact Or.inl ⟨c2, c1⟩
  · exact Or.inl ⟨c2, c1⟩
  · exact Or.inl ⟨c2, c1⟩
  · exact Or.inr ⟨c1, c2⟩
theorem ps_red (hm : mOk N rd bl lot h s) (hw : mWh N rd h s) {p : Nat} (hp : p < nP N) : fRed rd (sA N rd bl bh h s) p = fRed rd s p := by
  obtain ⟨w1, -, -⟩ := hw p hp
  refine bl_eq ?_
  unfold fRed
  simp only [Bool.or_eq_true, decide_eq_true_eq]
  rw [bt_t]
  rcases sA_c N rd bl bh h s p with ⟨c1, c2, c3, c4, c5, c6⟩ | ⟨c1, c2, c3, c4, c5, c6, c7⟩ | ⟨c1, c2, c3, c4, c5⟩ | ⟨-, -, -, c4, c5⟩
  · exact ⟨fun _ => Or.inl c4, fun _ => Or.inl c4⟩
  · have := w1 c1 c2
    rw [c7, this]
    exact ⟨fun z => z.elim Or.inl (fun z => (by omega)), fun z => z.elim Or.inl (fun z => (by omega))⟩
  · rw [c5]
  · rw [c5]
theorem ps_no (hN : okN N) (hh : h < 150) (hb : ¬ h = bh) (hm : mOk N rd bl lot h s) (hw : mWh N rd h s) (hp : Pst I I0 N rd lot h s) : Pst1 I I0 N rd lot h s (sA N rd bl bh h s) := by
  refine pi_congr hp (fun p hp => ⟨?_, ps_red hm hw hp, rfl, fun z => ⟨z, rfl⟩, fun k hk => ?_⟩) (fun t ht => ⟨ps_red hm hw (hN.2.2.2.1 t ht).1, rfl, rfl, fun _ _ => rfl⟩)
  · have e : (sA N rd bl bh h s).2.1 p = s.2.1 p := rfl
    refine bl_eq ?_
    unfold fDec
    simp only [Bool.or_eq_true, decide_eq_true_eq]
    rw [bt_t, e]
    rcases sA_c N rd bl bh h s p with ⟨c1, c2, c3, c4, c5, c6⟩ | ⟨c1, c2, c3, c4, c5, c6, c7⟩ | ⟨c1, c2, c3, c4, c5⟩ | ⟨-, -, -, c4, c5⟩
    · exact ⟨fun _ => Or.inl c4, fun _ => Or.inl c4⟩
    · exact absurd c4 hb
    · exact ⟨fun _ => Or.inr (Or.inr c2), fun _ => Or.inr (Or.inr c2)⟩
    · rw [c4]
  · obtain ⟨h1, -, -, -, -, -, h7, -⟩ := hm p hp
    have hl := (hN.2.2.2.2.1 p hp).2.2.2.1
    have e : (sA N rd bl bh h s).2.1 p = s.2.1 p := rfl
    refine bl_eq ?_
    unfold fTa fTb
    simp only [Bool.or_eq_true, Bool.and_eq_true, decide_eq_true_eq]
    rw [bt_t] at h7
    rw [bt_t, e]
    rcases sA_c N rd bl bh h s p with ⟨c1, c2, c3, c4, c5, c6⟩ | ⟨c1, c2, c3, c4, c5, c6, c7⟩ | ⟨c1, c2, c3, c4, c5⟩ | ⟨n1, -, -, c4, c5⟩
    · clear h1 h7
      rw [c1, c2, c4, c5, c3]
      omega
    · exact absurd c4 hb
    · clear h1 h7
      rw [c1, c4, c3]
      omega
    · rw [c4]
      constructor
      · rintro (⟨t, m, x⟩ | ⟨t, kk⟩)
        · exact ⟨t, Or.inl ⟨m, x⟩⟩
        · exfalso; omega
      · rintro ⟨t, ⟨m, x⟩ | ⟨m, r, k0⟩⟩
        · exact Or.inl ⟨t, m, x⟩
        · exfalso
          rcases Nat.eq_zero_or_pos h with z | z
          · exact n1 ⟨t, m, z, r⟩
          · have := (h7 z r).1; omega
theorem ps_blue (hN : okN N) (hbl : bl < 2 ^ nP N) (hh : h < 150) (hb : h = bh) (hm : mOk N rd bl lot h s) (hw : mWh N rd h s) (hp : Pst I I0 N rd lot h s) : Pst1 (hI (hI I 50 (h % 8) (I 50 (h % 8) ||| (nI bl &&& ((I 48 5) ^^^ (-1))))) 48 5 ((hI I 50 (h % 8) (I 50 (h % 8) ||| (nI bl &&& ((I 48 5) ^^^ (-1))))) 48 5 ||| nI bl)) I0 N rd lot h s (sA N rd bl bh h s) := by
  have p1 := pi_ta hp (h % 8) (fun p => fTa N rd s (h % 8) p || (bl.testBit p && !fDec rd s p))
  have e1 : I 50 (h % 8) ||| (nI bl &&& ((I 48 5) ^^^ (-1))) = nI (mk (fun p => fTa N rd s (h % 8) p || (bl.testBit p && !fDec rd s p)) (nP N)) := by
    have eb : nI bl = nI (mk (fun i => bl.testBit i) (nP N)) := congrArg nI (mk_of hbl)
    rw [hp.2.2.2.1 _ (by omega : h % 8 < 8), hp.2.1.2.1, eb, nb_not, mk_sd, nb_or, mk_or]
  rw [e1]
  have e2 : hI I 50 (h % 8) (nI (mk (fun p => fTa N rd s (h % 8) p || (bl.testBit p && !fDec rd s p)) (nP N))) 48 5 ||| nI bl = nI (mk (fun p => fDec rd s p || bl.testBit p) (nP N)) := by
    have eb : nI bl = nI (mk (fun i => bl.testBit i) (nP N)) := congrArg nI (mk_of hbl)
    rw [p1.2.1.2.1, eb, nb_or, mk_or]
  rw [e2]
  refine pi_congr (pi_dec p1 (fun p => fDec rd s p || bl.testBit p)) (fun p hp => ⟨?_, ps_red hm hw hp, rfl, fun z => ⟨z, rfl⟩, fun k hk => ?_⟩) (fun t ht => ⟨ps_red hm hw (hN.2.2.2.1 t ht).1, rfl, rfl, fun _ _ => rfl⟩)
  · obtain ⟨h1, h2, -, -, -, -, -, -⟩ := hm p hp
    have e : (sA N rd bl bh h s).2.1 p = s.2.1 p := rfl
    refine bl_eq ?_
    unfold fDec
    simp only [Bool.or_eq_true, decide_eq_true_eq]
    rw [bt_t, bt_t, e]
    rcases sA_c N rd bl bh h s p with ⟨c1, c2, c3, c4, c5, c6⟩ | ⟨c1, c2, c3, c4, c5, c6, c7⟩ | ⟨c1, c2, c3, c4, c5⟩ | ⟨n1, n2, -, c4, c5⟩
    · exact ⟨fun _ => Or.inl (Or.inl c4), fun _ => Or.inl c4⟩
    · exact ⟨fun _ => Or.inr c5, fun _ => Or.inr (Or.inl (by omega))⟩
    · exact ⟨fun _ => Or.inl (Or.inr (Or.inr c2)), fun _ => Or.inr (Or.inr c2)⟩
    · rw [c4]
      refine ⟨fun z => Or.inl z, fun z => z.elim id (fun z => ?_)⟩
      rcases h1 with y | y
      · rcases h2 with y2 | y2
        · exact absurd ⟨y, y2, hb, z⟩ n2
        · exact Or.inr (Or.inr (by omega))
      · exact Or.inr (Or.inl (by omega))
  · obtain ⟨h1, h2, -, -, -, -, h7, -⟩ := hm p hp
    have hl := (hN.2.2.2.2.1 p hp).2.2.2.1
    have e : (sA N rd bl bh h s).2.1 p = s.2.1 p := rfl
    have eq : (if k = h % 8 then (fun p => fTa N rd s (h % 8) p || (bl.testBit p && !fDec rd s p)) else fTa N rd s k) p = (fTa N rd s k p || (decide (k = h % 8) && (bl.testBit p && !fDec rd s p))) := by
      by_cases y : k = h % 8
      · rw [if_pos y, y, decide_eq_true (rfl : h % 8 = h % 8), Bool.true_and]
      · rw [if_neg y, decide_eq_false y, Bool.false_and, Bool.or_false]
    try dsimp only
    rw [eq]
    refine bl_eq ?_
    unfold fTa fTb fDec
    simp only [Bool.or_eq_true, Bool.and_eq_true, decide_eq_true_eq, Bool.not_eq_true', Bool.or_eq_false_iff, decide_eq_false_iff_not]
    have q : rd.testBit p = false ↔ ¬ bt rd p = 1 := by rw [← bt_t, Bool.not_eq_true]
    rw [e, q]
    rw [bt_t] at h7
    rw [bt_t, bt_t]
    rcases sA_c N rd bl bh h s p with ⟨c1, c2, c3, c4, c5, c6⟩ | ⟨c1, c2, c3, c4, c5, c6, c7⟩ | ⟨c1, c2, c3, c4, c5⟩ | ⟨n1, n2, -, c4, c5⟩
    · clear h1 h2 h7
      rw [c1, c2, c4, c5, c3]
      omega
    · clear h1 h2
      rw [c1, c2, c5, c6]
      have c3' : h = 0 → ¬ bt rd p = 1 := fun a b => c3 ⟨a, b⟩
      rcases Nat.eq_zero_or_pos h with z | z
      · have := c3' z
        clear h7 c3 c3'
        omega
      · have : ¬ bt rd p = 1 := fun r => by have := (h7 z r).1; omega
        clear h7 c3 c3'
        omega
    · clear h1 h2 h7
      rw [c1, c4, c3]
      omega
    · rw [c4]
      constructor
      · rintro (⟨t, m, x⟩ | ⟨t, kk⟩)
        · exact Or.inl ⟨t, Or.inl ⟨m, x⟩⟩
        · exfalso; omega
      · rintro (⟨t, ⟨m, x⟩ | ⟨m, r, k0⟩⟩ | ⟨k0, b, r, t, m⟩)
        · exact Or.inl ⟨t, m, x⟩
        · exfalso
          rcases Nat.eq_zero_or_pos h with z | z
          · exact n1 ⟨t, m, z, r⟩
          · have := (h7 z r).1; omega
        · exfalso
          exact n2 ⟨by omega, by omega, hb, b⟩
/-- what is told by now -/
def fNow (N : NT) (lot h : Nat) (tk : Nat → Nat) (t : Nat) : Bool := lot.testBit t && decide (tel N tk t = h)
theorem tel1 (hN : okN N) (hh : h < 150) (hm : mOk N rd bl lot h s) {t : Nat} (ht : t < nT N) : (tel N (sA N rd bl bh h s).1 t < h + 1 ↔ tel N s.1 t < h + 1) ∧ (tel N s.1 t < h + 1 → s.1 (nFr N t) < h ∧ (sA N rd bl bh h s).1 (nFr N t) = s.1 (nFr N t) ∧ (sA N rd bl bh h s).2.2 (nFr N t) = s.2.2 (nFr N t)) := by
  have ho := hN.2.2.2.1 t ht
  have q := (hm _ ho.1).1
  have v1 := tel_v N s.1 t
  have v2 := tel_v N (sA N rd bl bh h s).1 t
  have hr := ho.2.2.2.1
  rcases sA_f N rd bl bh h s (nFr N t) with ⟨c1, c2⟩ | ⟨c1, c2⟩
  · exact ⟨by omega, fun z => by omega⟩
  · exact ⟨by omega, fun z => ⟨by omega, c1, c2⟩⟩
theorem hn_eq (hN : okN N) (hh : h < 150) (hm : mOk N rd bl lot h s) (p : Nat) : cnt (fun t => decide (nTo N t = p) && fTold N lot (h + 1) s.1 t) (nT N) = hn N lot (sA N rd bl bh h s).1 (h + 1) p := cnt_congr (fun t ht => by
  unfold fTold hnf
  rw [decide_eq_decide.mpr (tel1 (bh := bh) hN hh hm ht).1])
theorem wr_eq (hN : okN N) (hh : h < 150) (hm : mOk N rd bl lot h s) (hw : mWh N rd h s) (p : Nat) : wr N (fTold N lot (h + 1) s.1) (fun t => fRed rd (sA N rd bl bh h s) (nFr N t)) p = decide (hn N lot (sA N rd bl bh h s).1 (h + 1) p ≤ 2 * hrd N lot (sA N rd bl bh h s).1 (sA N rd bl bh h s).2.2 (h + 1) p) := by
  unfold wr
  rw [hn_eq (bh := bh) hN hh hm p]
  have e : cnt (fun t => decide (nTo N t = p) && (fTold N lot (h + 1) s.1 t && fRed rd (sA N rd bl bh h s) (nFr N t))) (nT N) = hrd N lot (sA N rd bl bh h s).1 (sA N rd bl bh h s).2.2 (h + 1) p := cnt_congr (fun t ht => by
    obtain ⟨z1, z2⟩ := tel1 (bh := bh) hN hh hm ht
    have ho := hN.2.2.2.1 t ht
    obtain ⟨w1, w2, w3⟩ := hw _ ho.1
    unfold hnf fTold
    rw [decide_eq_decide.mpr z1]
    by_cases c : tel N s.1 t < h + 1
    · obtain ⟨y1, y2, y3⟩ := z2 c
      have : fRed rd (sA N rd bl bh h s) (nFr N t) = decide ((sA N rd bl bh h s).2.2 (nFr N t) = 0) := by
        refine bl_eq ?_
        unfold fRed
        simp only [Bool.or_eq_true, decide_eq_true_eq]
        rw [bt_t]
        omega
      rw [this]
      simp only [Bool.and_assoc]
    · rw [decide_eq_false c]; simp)
  rw [e]
theorem dd_dcs (hN : okN N) (hh : h < 150) (hm : mOk N rd bl lot h s) {p : Nat} (hp : p < nP N) : ddi N (fDec rd (sA N rd bl bh h s)) (fTold N lot (h + 1) s.1) (fNow N lot h s.1) (nT N) p = dcs N lot h (sA N rd bl bh h s).1 (sA N rd bl bh h s).2.1 p := by
  have hA := mA_of hN (bh := bh) hh hm
  obtain ⟨h1, h2, -, -, -, -, h7, h8⟩ := hA p hp
  refine bl_eq ?_
  rw [dcs_t]
  unfold ddi cnd fDec
  rw [hn_eq (bh := bh) hN hh hm p]
  simp only [Bool.or_eq_true, Bool.and_eq_true, decide_eq_true_eq, Bool.not_eq_true', Bool.or_eq_false_iff, decide_eq_false_iff_not]
  constructor
  · rintro ⟨⟨⟨y1, y2, y3⟩, y4, y5⟩, y6⟩
    exact ⟨y4, by omega, by omega, y5⟩
  · rintro ⟨y1, y2, y3, y4⟩
    refine ⟨⟨⟨?_, by omega, by omega⟩, y1, y4⟩, ?_⟩
    · cases c : rd.testBit p
      · rfl
      · have := (h7 c).1; omega
    · rcases Nat.eq_zero_or_pos (cnt (fun t => fNow N lot h s.1 t && decide (nTo N t = p)) (nT N)) with z | z
      · exfalso
        have e : hn N lot (sA N rd bl bh h s).1 (h + 1) p = hn N lot (sA N rd bl bh h s).1 h p := cnt_congr (fun t ht => by
          have y := cnt_no z t ht
          obtain ⟨x1, x2⟩ := tel1 (bh := bh) hN hh hm ht
          have v1 := tel_v N s.1 t
          have v2 := tel_v N (sA N rd bl bh h s).1 t
          unfold fNow at y
          unfold hnf
          cases c1 : lot.testBit t
          · rw [Bool.false_and, Bool.false_and]
          · by_cases c2 : nTo N t = p
            · rw [c1, Bool.true_and, decide_eq_true c2, Bool.and_true] at y
              have y2 := of_decide_eq_false y
              rw [decide_eq_decide.mpr (show tel N (sA N rd bl bh h s).1 t < h + 1 ↔ tel N (sA N rd bl bh h s).1 t < h from by omega)]
            · rw [decide_eq_false c2, Bool.false_and, Bool.false_and])
        have := h8 y1 y2 y3
        omega
      · exact z
end
