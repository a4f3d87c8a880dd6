/-! the story: who took when, who decided when, what it holds -/
def tel (N : NT) (tk : Nat → Nat) (t : Nat) : Nat := if tk (nFr N t) = 1000 then 1000 else tk (nFr N t) + nHr N t
theorem tel_v (N : NT) (tk : Nat → Nat) (t : Nat) : (tk (nFr N t) = 1000 ∧ tel N tk t = 1000) ∨ (¬ tk (nFr N t) = 1000 ∧ tel N tk t = tk (nFr N t) + nHr N t) := by
  unfold tel
  by_cases c : tk (nFr N t) = 1000
  · exact Or.inl ⟨c, if_pos c⟩
  · exact Or.inr ⟨c, if_neg c⟩
def p1t (N : NT) (rd bl bh h : Nat) (tk md : Nat → Nat) (p : Nat) : Nat := if tk p = 1000 ∧ ((md p = 1000 ∧ ((h = 0 ∧ rd.testBit p = true) ∨ (h = bh ∧ bl.testBit p = true))) ∨ (md p < 1000 ∧ md p + nLt N p = h)) then h else tk p
def p1w (rd bl bh h : Nat) (tk md wh : Nat → Nat) (p : Nat) : Nat := if tk p = 1000 ∧ md p = 1000 ∧ h = 0 ∧ rd.testBit p = true then 0 else if tk p = 1000 ∧ md p = 1000 ∧ h = bh ∧ bl.testBit p = true then 1 else wh p
def hnf (N : NT) (lot : Nat) (tk : Nat → Nat) (a p t : Nat) : Bool := decide (nTo N t = p) && (lot.testBit t && decide (tel N tk t < a))
def hn (N : NT) (lot : Nat) (tk : Nat → Nat) (a p : Nat) : Nat := cnt (hnf N lot tk a p) (nT N)
def hrd (N : NT) (lot : Nat) (tk wh : Nat → Nat) (a p : Nat) : Nat := cnt (fun t => hnf N lot tk a p t && decide (wh (nFr N t) = 0)) (nT N)
def dcs (N : NT) (lot h : Nat) (tk md : Nat → Nat) (p : Nat) : Bool := (!(nS N).testBit p) && (decide (tk p = 1000) && (decide (md p = 1000) && decide (nNd N p ≤ hn N lot tk (h + 1) p)))
def p2t (N : NT) (lot h : Nat) (tk md : Nat → Nat) (p : Nat) : Nat := if dcs N lot h tk md p = true ∧ nLt N p = 0 then h else tk p
def p2m (N : NT) (lot h : Nat) (tk md : Nat → Nat) (p : Nat) : Nat := if dcs N lot h tk md p = true then h else md p
def p2w (N : NT) (lot h : Nat) (tk md wh : Nat → Nat) (p : Nat) : Nat := if dcs N lot h tk md p = true then (if hn N lot tk (h + 1) p ≤ 2 * hrd N lot tk wh (h + 1) p then 0 else 1) else wh p
abbrev ST : Type := (Nat → Nat) × (Nat → Nat) × (Nat → Nat)
def sA (N : NT) (rd bl bh h : Nat) (s : ST) : ST := (p1t N rd bl bh h s.1 s.2.1, s.2.1, p1w rd bl bh h s.1 s.2.1 s.2.2)
def sB (N : NT) (lot h : Nat) (s : ST) : ST := (p2t N lot h s.1 s.2.1, p2m N lot h s.1 s.2.1, p2w N lot h s.1 s.2.1 s.2.2)
def sts (N : NT) (rd bl bh lot : Nat) : Nat → ST
  | 0 => (fun _ => 1000, fun _ => 1000, fun _ => 2)
  | h + 1 => sB N lot h (sA N rd bl bh h (sts N rd bl bh lot h))
theorem dcs_t {N : NT} {lot h : Nat} {tk md : Nat → Nat} {p : Nat} : dcs N lot h tk md p = true ↔ (nS N).testBit p = false ∧ tk p = 1000 ∧ md p = 1000 ∧ nNd N p ≤ hn N lot tk (h + 1) p := by
  unfold dcs
  rw [Bool.and_eq_true, Bool.and_eq_true, Bool.and_eq_true, Bool.not_eq_true', decide_eq_true_eq, decide_eq_true_eq, decide_eq_true_eq]
/-- what holds before hour h -/
def mOk (N : NT) (rd bl lot h : Nat) (s : ST) : Prop := ∀ p, p < nP N → (s.1 p = 1000 ∨ s.1 p < h) ∧ (s.2.1 p = 1000 ∨ s.2.1 p < h) ∧ (s.1 p = 1000 → s.2.1 p < 1000 → h ≤ s.2.1 p + nLt N p) ∧ s.2.2 p ≤ 2 ∧ (s.2.1 p < 1000 → s.1 p < 1000 → s.1 p = s.2.1 p + nLt N p) ∧ (s.2.1 p = 1000 → s.1 p < 1000 → rd.testBit p = true ∨ bl.testBit p = true) ∧ (1 ≤ h → rd.testBit p = true → s.1 p = 0 ∧ s.2.1 p = 1000) ∧ ((nS N).testBit p = false → s.1 p = 1000 → s.2.1 p = 1000 → hn N lot s.1 h p < nNd N p)
/-- what holds in hour h once its seeds and those due took -/
def mA (N : NT) (rd bl lot h : Nat) (s : ST) : Prop := ∀ p, p < nP N → (s.1 p = 1000 ∨ s.1 p ≤ h) ∧ (s.2.1 p = 1000 ∨ s.2.1 p < h) ∧ (s.1 p = 1000 → s.2.1 p < 1000 → h < s.2.1 p + nLt N p) ∧ s.2.2 p ≤ 2 ∧ (s.2.1 p < 1000 → s.1 p < 1000 → s.1 p = s.2.1 p + nLt N p) ∧ (s.2.1 p = 1000 → s.1 p < 1000 → rd.testBit p = true ∨ bl.testBit p = true) ∧ (rd.testBit p = true → s.1 p = 0 ∧ s.2.1 p = 1000) ∧ ((nS N).testBit p = false → s.1 p = 1000 → s.2.1 p = 1000 → hn N lot s.1 h p < nNd N p)
theorem hn_congr {N : NT} {lot a p : Nat} {tk tk' : Nat → Nat} (h : ∀ t, t < nT N → (tel N tk' t < a ↔ tel N tk t < a)) : hn N lot tk' a p = hn N lot tk a p := cnt_congr (fun t ht => by
  unfold hnf
  rw [decide_eq_decide.mpr (h t ht)])
theorem mA_of {N : NT} (hN : okN N) {rd bl bh lot h : Nat} {s : ST} (hh : h < 150) (hm : mOk N rd bl lot h s) : mA N rd bl lot h (sA N rd bl bh h s) := by
  have tl : ∀ t, t < nT N → (tel N (sA N rd bl bh h s).1 t < h ↔ tel N s.1 t < h) := fun t ht => by
    have ho := hN.2.2.2.1 t ht
    have q := (hm _ ho.1).1
    have v1 := tel_v N s.1 t
    have v2 := tel_v N (sA N rd bl bh h s).1 t
    have e : (sA N rd bl bh h s).1 (nFr N t) = h ∧ s.1 (nFr N t) = 1000 ∨ (sA N rd bl bh h s).1 (nFr N t) = s.1 (nFr N t) := by
      show p1t N rd bl bh h s.1 s.2.1 (nFr N t) = _ ∧ _ ∨ p1t N rd bl bh h s.1 s.2.1 (nFr N t) = _
      unfold p1t
      split
      · rename_i c; exact Or.inl ⟨rfl, c.1⟩
      · exact Or.inr rfl
    omega
  intro p hp
  obtain ⟨h1, h2, h3, h4, h5, h6, h7, h8⟩ := hm p hp
  have hl := (hN.2.2.2.2.1 p hp).2.2.2.1
  have e1 : (sA N rd bl bh h s).2.1 p = s.2.1 p := rfl
  have et : (sA N rd bl bh h s).1 p = h ∧ s.1 p = 1000 ∧ ((s.2.1 p = 1000 ∧ ((h = 0 ∧ rd.testBit p = true) ∨ (h = bh ∧ bl.testBit p = true))) ∨ (s.2.1 p < 1000 ∧ s.2.1 p + nLt N p = h)) ∨ (sA N rd bl bh h s).1 p = s.1 p ∧ ¬ (s.1 p = 1000 ∧ ((s.2.1 p = 1000 ∧ ((h = 0 ∧ rd.testBit p = true) ∨ (h = bh ∧ bl.testBit p = true))) ∨ (s.2.1 p < 1000 ∧ s.2.1 p + nLt N p = h))) := by
    show (p1t N rd bl bh h s.1 s.2.1 p = _ ∧ _) ∨ _
    unfold sA p1t
    dsimp only
    split
    · rename_i c; exact Or.inl ⟨rfl, c.1, c.2⟩
    · rename_i c; exact Or.inr ⟨rfl, c⟩
  have ew : (sA N rd bl bh h s).2.2 p ≤ 2 := by
    show p1w rd bl bh h s.1 s.2.1 s.2.2 p ≤ 2
    unfold p1w
    split
    · omega
    · split <;> omega
  rw [hn_congr tl, e1]
  refine ⟨?_, h2, ?_, ew, ?_, ?_, ?_, ?_⟩
  · rcases et with ⟨q, -⟩ | ⟨q, -⟩ <;> omega
  · rcases et with ⟨q, -⟩ | ⟨q, c⟩ <;> omega
  · rcases et with ⟨q, q2, q3⟩ | ⟨q, c⟩
    · intro z1 z2; omega
    · rw [q]; exact h5
  · rcases et with ⟨q, q2, q3⟩ | ⟨q, c⟩
    · intro z1 z2
      rcases q3 with ⟨-, q3 | q3⟩ | q3
      · exact Or.inl q3.2
      · exact Or.inr q3.2
      · omega
    · rw [q]; exact h6
  · intro hr
    rcases Nat.eq_zero_or_pos h with z | z
    · subst z
      rcases et with ⟨q, q2, q3⟩ | ⟨q, c⟩
      · refine ⟨q, ?_⟩; omega
      · exfalso
        have t1 : s.1 p = 1000 := by omega
        have t2 : s.2.1 p = 1000 := by omega
        exact c ⟨t1, Or.inl ⟨t2, Or.inl ⟨rfl, hr⟩⟩⟩
    · obtain ⟨z1, z2⟩ := h7 z hr
      refine ⟨?_, z2⟩
      rcases et with ⟨q, q2, q3⟩ | ⟨q, c⟩ <;> omega
  · rcases et with ⟨q, q2, q3⟩ | ⟨q, c⟩
    · intro _ z; omega
    · rw [q]; exact h8
theorem tel2 {N : NT} (hN : okN N) {rd bl lot h : Nat} {s : ST} (hh : h < 150) (hm : mA N rd bl lot h s) {t : Nat} (ht : t < nT N) : tel N (sB N lot h s).1 t < h + 1 ↔ tel N s.1 t < h + 1 := by
  have ho := hN.2.2.2.1 t ht
  have q := (hm _ ho.1).1
  have v1 := tel_v N s.1 t
  have v2 := tel_v N (sB N lot h s).1 t
  have e : (sB N lot h s).1 (nFr N t) = h ∧ s.1 (nFr N t) = 1000 ∨ (sB N lot h s).1 (nFr N t) = s.1 (nFr N t) := by
    show p2t N lot h s.1 s.2.1 (nFr N t) = _ ∧ _ ∨ p2t N lot h s.1 s.2.1 (nFr N t) = _
    unfold p2t
    split
    · rename_i c; exact Or.inl ⟨rfl, (dcs_t.mp c.1).2.1⟩
    · exact Or.inr rfl
  omega
theorem mB_of {N : NT} (hN : okN N) {rd bl lot h : Nat} {s : ST} (hh : h < 150) (hm : mA N rd bl lot h s) : mOk N rd bl lot (h + 1) (sB N lot h s) := by
  intro p hp
  obtain ⟨h1, h2, h3, h4, h5, h6, h7, h8⟩ := hm p hp
  have hl := (hN.2.2.2.2.1 p hp).2.2.2.1
  rw [hn_congr (fun t ht => tel2 hN hh hm ht)]
  by_cases c : dcs N lot h s.1 s.2.1 p = true
  · obtain ⟨d1, d2, d3, d4⟩ := dcs_t.mp c
    have em : (sB N lot h s).2.1 p = h := if_pos c
    have ew : (sB N lot h s).2.2 p ≤ 2 := by
      show p2w N lot h s.1 s.2.1 s.2.2 p ≤ 2
      unfold p2w
      rw [if_pos c]
      split <;> omega
    have nr : rd.testBit p = true → False := fun z => by have := (h7 z).1; omega
    rw [em]
    by_cases c2 : nLt N p = 0
    · have et : (sB N lot h s).1 p = h := if_pos ⟨c, c2⟩
      rw [et]
      exact ⟨by omega, by omega, by omega, ew, by omega, by omega, fun _ z => (nr z).elim, by omega⟩
    · have et : (sB N lot h s).1 p = s.1 p := if_neg (fun z => c2 z.2)
      rw [et]
      exact ⟨by omega, by omega, by omega, ew, by omega, by omega, fun _ z => (nr z).elim, by omega⟩
  · have em : (sB N lot h s).2.1 p = s.2.1 p := if_neg c
    have et : (sB N lot h s).1 p = s.1 p := if_neg (fun z => c z.1)
    have ew : (sB N lot h s).2.2 p = s.2.2 p := if_neg c
    rw [em, et, ew]
    refine ⟨by omega, by omega, by omega, h4, h5, h6, fun _ => h7, fun z1 z2 z3 => ?_⟩
    rcases Nat.lt_or_ge (hn N lot s.1 (h + 1) p) (nNd N p) with z | z
    · exact z
    · exact absurd (dcs_t.mpr ⟨z1, z2, z3, z⟩) c
theorem m0_of {N : NT} (hN : okN N) (rd bl bh lot : Nat) : mOk N rd bl lot 0 (sts N rd bl bh lot 0) := by
  intro p hp
  refine ⟨Or.inl rfl, Or.inl rfl, fun _ z => ?_, Nat.le_refl _, fun z => ?_, fun _ z => ?_, fun z => by omega, fun _ _ _ => ?_⟩
  · have : (1000 : Nat) < 1000 := z; omega
  · have : (1000 : Nat) < 1000 := z; omega
  · have : (1000 : Nat) < 1000 := z; omega
  · have : hn N lot (sts N rd bl bh lot 0).1 0 p = 0 := cnt_false (fun t _ => by unfold hnf; simp)
    have := (hN.2.2.2.2.1 p hp).2.1
    omega
theorem mOk_all {N : NT} (hN : okN N) (rd bl bh lot : Nat) {h : Nat} (hh : h ≤ 150) : mOk N rd bl lot h (sts N rd bl bh lot h) := by
  induction h with
  | zero => exact m0_of hN rd bl bh lot
  | succ h ih => exact mB_of hN (by omega) (mA_of hN (by omega) (ih (by omega)))
/-! when nothing lies ahead, nothing happens any more -/
def calm (N : NT) (lot h : Nat) (s : ST) : Prop := (∀ p, p < nP N → s.1 p = 1000 → s.2.1 p = 1000) ∧ ∀ t, t < nT N → lot.testBit t = true → tel N s.1 t < 1000 → tel N s.1 t < h
theorem calm_s {N : NT} (hN : okN N) {rd bl bh lot h : Nat} {s : ST} (hh : h < 150) (hb : bh < h) (hm : mOk N rd bl lot h s) (hc : calm N lot h s) : (∀ p, p < nP N → (sB N lot h (sA N rd bl bh h s)).1 p = s.1 p ∧ (sB N lot h (sA N rd bl bh h s)).2.1 p = s.2.1 p ∧ (sB N lot h (sA N rd bl bh h s)).2.2 p = s.2.2 p) ∧ calm N lot (h + 1) (sB N lot h (sA N rd bl bh h s)) := by
  have a1 : ∀ p, p < nP N → (sA N rd bl bh h s).1 p = s.1 p := fun p hp => by
    have := hc.1 p hp
    show p1t N rd bl bh h s.1 s.2.1 p = _
    unfold p1t
    rw [if_neg]
    rintro ⟨z1, ⟨z2, z3⟩ | ⟨z2, z3⟩⟩
    · omega
    · have := this z1; omega
  have a3 : ∀ p, p < nP N → (sA N rd bl bh h s).2.2 p = s.2.2 p := fun p hp => by
    show p1w rd bl bh h s.1 s.2.1 s.2.2 p = _
    unfold p1w
    rw [if_neg (by omega), if_neg (by omega)]
  have nd : ∀ p, p < nP N → dcs N lot h (sA N rd bl bh h s).1 (sA N rd bl bh h s).2.1 p = false := fun p hp => by
    refine Bool.eq_false_iff.mpr (fun q => ?_)
    obtain ⟨d1, d2, d3, d4⟩ := dcs_t.mp q
    have e : hn N lot (sA N rd bl bh h s).1 (h + 1) p = hn N lot s.1 h p := cnt_congr (fun t ht => by
      have ho := (hN.2.2.2.1 t ht).1
      have et : tel N (sA N rd bl bh h s).1 t = tel N s.1 t := by unfold tel; rw [a1 _ ho]
      unfold hnf
      rw [et]
      cases b : lot.testBit t
      · rfl
      · have := hc.2 t ht b
        rw [decide_eq_decide.mpr (show (tel N s.1 t < h + 1) ↔ (tel N s.1 t < h) from ⟨fun z => this (by omega), fun z => by omega⟩)])
    rw [a1 p hp] at d2
    have := (hm p hp).2.2.2.2.2.2.2 d1 d2 d3
    omega
  have b1 : ∀ p, p < nP N → (sB N lot h (sA N rd bl bh h s)).1 p = s.1 p := fun p hp => by
    rw [← a1 p hp]
    exact if_neg (fun z => by rw [nd p hp] at z; cases z.1)
  have b2 : ∀ p, p < nP N → (sB N lot h (sA N rd bl bh h s)).2.1 p = s.2.1 p := fun p hp => if_neg (fun z => by rw [nd p hp] at z; cases z)
  have b3 : ∀ p, p < nP N → (sB N lot h (sA N rd bl bh h s)).2.2 p = s.2.2 p := fun p hp => by
    rw [← a3 p hp]
    exact if_neg (fun z => by rw [nd p hp] at z; cases z)
  refine ⟨fun p hp => ⟨b1 p hp, b2 p hp, b3 p hp⟩, fun p hp q => ?_, fun t ht b q => ?_⟩
  · rw [b2 p hp]; rw [b1 p hp] at q; exact hc.1 p hp q
  · have et : tel N (sB N lot h (sA N rd bl bh h s)).1 t = tel N s.1 t := by unfold tel; rw [b1 _ (hN.2.2.2.1 t ht).1]
    rw [et] at q ⊢
    have := hc.2 t ht b q
    omega
theorem calm_all {N : NT} (hN : okN N) {rd bl bh lot h : Nat} (hb : bh < h) (hc : calm N lot h (sts N rd bl bh lot h)) : ∀ d, h + d ≤ 150 → calm N lot (h + d) (sts N rd bl bh lot (h + d)) ∧ ∀ p, p < nP N → (sts N rd bl bh lot (h + d)).1 p = (sts N rd bl bh lot h).1 p ∧ (sts N rd bl bh lot (h + d)).2.1 p = (sts N rd bl bh lot h).2.1 p ∧ (sts N rd bl bh lot (h + d)).2.2 p = (sts N rd bl bh lot h).2.2 p := by
  intro d
  induction d with
  | zero => intro _; exact ⟨hc, fun _ _ => ⟨rfl, rfl, rfl⟩⟩
  | succ d ih =>
    intro hd
    obtain ⟨i1, i2⟩ := ih (by omega)
    obtain ⟨j1, j2⟩ := calm_s (bh := bh) (h := h + d) hN (by omega) (by omega) (mOk_all hN rd bl bh lot (by omega : h + d ≤ 150)) i1
    refine ⟨j2, fun p hp => ?_⟩
    obtain ⟨k1, k2, k3⟩ := j1 p hp
    obtain ⟨l1, l2, l3⟩ := i2 p hp
    exact ⟨k1.trans l1, k2.trans l2, k3.trans l3⟩
