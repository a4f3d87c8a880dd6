/-! sums over lots, by what is settled of ties -/
theorem sm_split (f : Nat → Nat) (a b : Nat) : sm f (a + b) = sm f a + sm (fun i => f (a + i)) b := by
  induction b with
  | zero => rfl
  | succ b ih => show sm f (a + b) + f (a + b) = sm f a + (sm (fun i => f (a + i)) b + f (a + b)); rw [ih]; omega
def prd (h : Nat → Bool → Nat) (lot : Nat) : Nat → Nat
  | 0 => 1
  | k + 1 => prd h lot k * h k (lot.testBit k)
def prs (h : Nat → Bool → Nat) : Nat → Nat
  | 0 => 1
  | k + 1 => prs h k * (h k false + h k true)
theorem prd_congr {h : Nat → Bool → Nat} {a b k : Nat} (e : ∀ i, i < k → a.testBit i = b.testBit i) : prd h a k = prd h b k := by
  induction k with
  | zero => rfl
  | succ k ih => show prd h a k * _ = prd h b k * _; rw [ih (fun i hi => e i (by omega)), e k (by omega)]
theorem prd_sum (h : Nat → Bool → Nat) (k : Nat) : sm (fun lot => prd h lot k) (2 ^ k) = prs h k := by
  induction k with
  | zero => rfl
  | succ k ih =>
    rw [Nat.pow_succ, Nat.mul_two, sm_split]
    have e1 : sm (fun lot => prd h lot (k + 1)) (2 ^ k) = sm (fun lot => prd h lot k) (2 ^ k) * h k false := by
      rw [← sm_mul]
      exact sm_congr (fun i hi => by show prd h i k * h k (i.testBit k) = _; rw [Nat.testBit_lt_two_pow hi])
    have e2 : sm (fun i => prd h (2 ^ k + i) (k + 1)) (2 ^ k) = sm (fun lot => prd h lot k) (2 ^ k) * h k true := by
      rw [← sm_mul]
      refine sm_congr (fun i hi => ?_)
      show prd h (2 ^ k + i) k * h k ((2 ^ k + i).testBit k) = _
      rw [Nat.testBit_two_pow_add_eq, Nat.testBit_lt_two_pow hi, prd_congr (fun j hj => Nat.testBit_two_pow_add_gt hj i)]
      rfl
    rw [e1, e2, ih]
    show _ = prs h k * _
    rw [Nat.mul_add]
/-- a lot in which O's ties are open, Z's are not -/
def lam (T O Z lot : Nat) : Bool := (List.range T).all (fun t => (!O.testBit t || lot.testBit t) && (!Z.testBit t || !lot.testBit t))
theorem lam_iff {T O Z lot : Nat} : lam T O Z lot = true ↔ ∀ t, t < T → (O.testBit t = true → lot.testBit t = true) ∧ (Z.testBit t = true → lot.testBit t = false) := by
  unfold lam
  rw [List.all_eq_true]
  refine ⟨fun h t ht => ?_, fun h t ht => ?_⟩
  · have := h t (List.mem_range.mpr ht)
    cases hO : O.testBit t <;> cases hZ : Z.testBit t <;> cases hl : lot.testBit t <;> simp [hO, hZ, hl] at this ⊢
  · have := h t (List.mem_range.mp ht)
    cases hO : O.testBit t <;> cases hZ : Z.testBit t <;> cases hl : lot.testBit t <;> simp [hO, hZ, hl] at this ⊢
def FM (N : NT) (f : Nat → Nat) (O Z : Nat) : Nat := sm (fun lot => if lam (nT N) O Z lot then wt N lot * f lot else 0) (2 ^ nT N)
theorem FM_split {N : NT} {f : Nat → Nat} {O Z t : Nat} (ht : t < nT N) (hO : O.testBit t = false) (hZ : Z.testBit t = false) : FM N f O Z = FM N f (O ||| 2 ^ t) Z + FM N f O (Z ||| 2 ^ t) := by
  unfold FM
  rw [← sm_add]
  refine sm_congr (fun lot _ => ?_)
  have h1 : lam (nT N) (O ||| 2 ^ t) Z lot = (lam (nT N) O Z lot && lot.testBit t) := by
    apply Bool.eq_iff_iff.mpr
    rw [Bool.and_eq_true, lam_iff, lam_iff]
    refine ⟨fun h => ⟨fun u hu => ⟨fun g => (h u hu).1 (by rw [or_bit, g]; rfl), (h u hu).2⟩, (h t ht).1 (by rw [or_bit]; simp)⟩, fun h u hu => ⟨fun g => ?_, (h.1 u hu).2⟩⟩
    rw [or_bit, Bool.or_eq_true, decide_eq_true_eq] at g
    rcases g with g | g
    · exact (h.1 u hu).1 g
    · rw [← g]; exact h.2
  have h2 : lam (nT N) O (Z ||| 2 ^ t) lot = (lam (nT N) O Z lot && !lot.testBit t) := by
    apply Bool.eq_iff_iff.mpr
    rw [Bool.and_eq_true, lam_iff, lam_iff, Bool.not_eq_true']
    refine ⟨fun h => ⟨fun u hu => ⟨(h u hu).1, fun g => (h u hu).2 (by rw [or_bit, g]; rfl)⟩, (h t ht).2 (by rw [or_bit]; simp)⟩, fun h u hu => ⟨(h.1 u hu).1, fun g => ?_⟩⟩
    rw [or_bit, Bool.or_eq_true, decide_eq_true_eq] at g
    rcases g with g | g
    · exact (h.1 u hu).2 g
    · rw [← g]; exact h.2
  rw [h1, h2]
  cases lam (nT N) O Z lot <;> cases lot.testBit t <;> simp
/-- the whole weight of such lots -/
def hf (N : NT) (O Z : Nat) (t : Nat) (b : Bool) : Nat := if O.testBit t && !b then 0 else if Z.testBit t && b then 0 else if b then nOd N t else 16 - nOd N t
def MZ (N : NT) (O Z : Nat) : Nat := prs (hf N O Z) (nT N)
theorem MZ_eq (N : NT) (O Z : Nat) : FM N (fun _ => 1) O Z = MZ N O Z := by
  unfold FM MZ
  rw [← prd_sum]
  refine sm_congr (fun lot _ => ?_)
  rw [Nat.mul_one]
  have key : ∀ k, prd (hf N O Z) lot k = if lam k O Z lot then wtk N lot k else 0 := by
    intro k
    induction k with
    | zero => rfl
    | succ k ih =>
      show prd (hf N O Z) lot k * hf N O Z k (lot.testBit k) = _
      have hl : lam (k + 1) O Z lot = (lam k O Z lot && ((!O.testBit k || lot.testBit k) && (!Z.testBit k || !lot.testBit k))) := by
        unfold lam
        rw [List.range_succ, List.all_append]
        simp
      rw [ih, hl]
      show _ = if _ then wtk N lot k * _ else 0
      unfold hf
      cases lam k O Z lot <;> cases O.testBit k <;> cases Z.testBit k <;> cases lot.testBit k <;> simp
  exact (key (nT N)).symm
theorem prs_congr {h g : Nat → Bool → Nat} {k : Nat} (e : ∀ i, i < k → h i false + h i true = g i false + g i true) : prs h k = prs g k := by
  induction k with
  | zero => rfl
  | succ k ih => show prs h k * _ = prs g k * _; rw [ih (fun i hi => e i (by omega)), e k (by omega)]
theorem prs_one {h g : Nat → Bool → Nat} {k t a b : Nat} (ht : t < k) (e : ∀ i, i < k → i ≠ t → h i false + h i true = g i false + g i true) (ha : h t false + h t true = a) (hb : g t false + g t true = b) : ∃ q, prs h k = q * a ∧ prs g k = q * b := by
  induction k with
  | zero => omega
  | succ k ih =>
    by_cases ek : t = k
    · subst ek
      refine ⟨prs h t, ?_, ?_⟩
      · show prs h t * _ = _; rw [ha]
      · show prs g t * _ = _; rw [hb, prs_congr (fun i hi => e i (by omega) (by omega))]
    · obtain ⟨q, q1, q2⟩ := ih (by omega) (fun i hi hn => e i (by omega) hn)
      refine ⟨q * (h k false + h k true), ?_, ?_⟩
      · show prs h k * _ = _; rw [q1, Nat.mul_right_comm]
      · show prs g k * _ = _; rw [q2, ← e k (by omega) (fun z => ek z.symm), Nat.mul_right_comm]
theorem hf_sum_ne {N : NT} {O Z t i : Nat} (hi : i ≠ t) : hf N (O ||| 2 ^ t) Z i false + hf N (O ||| 2 ^ t) Z i true = hf N O Z i false + hf N O Z i true ∧ hf N O (Z ||| 2 ^ t) i false + hf N O (Z ||| 2 ^ t) i true = hf N O Z i false + hf N O Z i true := by
  have h1 : (O ||| 2 ^ t).testBit i = O.testBit i := by rw [or_bit]; simp; omega
  have h2 : (Z ||| 2 ^ t).testBit i = Z.testBit i := by rw [or_bit]; simp; omega
  unfold hf
  rw [h1, h2]
  exact ⟨rfl, rfl⟩
theorem MZ_parts {N : NT} (hN : okN N) {O Z t : Nat} (ht : t < nT N) (hO : O.testBit t = false) (hZ : Z.testBit t = false) : MZ N (O ||| 2 ^ t) Z = MZ N O Z / 16 * nOd N t ∧ MZ N O (Z ||| 2 ^ t) = MZ N O Z / 16 * (16 - nOd N t) := by
  have ho := (hN.2.2.2.1 t ht).2.2.1
  have e0 : hf N O Z t false + hf N O Z t true = 16 := by unfold hf; rw [hO, hZ]; simp; omega
  have e1 : hf N (O ||| 2 ^ t) Z t false + hf N (O ||| 2 ^ t) Z t true = nOd N t := by unfold hf; rw [or_bit, hO, hZ]; simp
  have e2 : hf N O (Z ||| 2 ^ t) t false + hf N O (Z ||| 2 ^ t) t true = 16 - nOd N t := by unfold hf; rw [or_bit, hO, hZ]; simp
  obtain ⟨q, q1, q2⟩ := prs_one (h := hf N (O ||| 2 ^ t) Z) (g := hf N O Z) ht (fun i _ hi => (hf_sum_ne hi).1) e1 e0
  obtain ⟨r, r1, r2⟩ := prs_one (h := hf N O (Z ||| 2 ^ t)) (g := hf N O Z) ht (fun i _ hi => (hf_sum_ne hi).2) e2 e0
  unfold MZ
  have hq : prs (hf N O Z) (nT N) / 16 = q := by rw [q2, Nat.mul_div_cancel _ (by decide)]
  have hr : prs (hf N O Z) (nT N) / 16 = r := by rw [r2, Nat.mul_div_cancel _ (by decide)]
  refine ⟨?_, ?_⟩
  · rw [hq, q1]
  · rw [hr, r1]
theorem MZ_le {N : NT} (hN : okN N) (O Z : Nat) : MZ N O Z ≤ 16 ^ 10 := by
  have key : ∀ k, k ≤ nT N → prs (hf N O Z) k ≤ 16 ^ k := by
    intro k
    induction k with
    | zero => intro _; exact Nat.le_refl _
    | succ k ih =>
      intro hk
      show prs (hf N O Z) k * _ ≤ _
      rw [Nat.pow_succ]
      refine Nat.mul_le_mul (ih (by omega)) ?_
      have := (hN.2.2.2.1 k (by omega)).2.2.1
      unfold hf
      cases O.testBit k <;> cases Z.testBit k <;> simp <;> omega
  exact Nat.le_trans (key _ (Nat.le_refl _)) (Nat.pow_le_pow_right (by decide) hN.2.1)
theorem FM_le {N : NT} {f : Nat → Nat} {m O Z : Nat} (h : ∀ lot, f lot ≤ m) : FM N f O Z ≤ MZ N O Z * m := by
  rw [← MZ_eq]
  unfold FM
  rw [← sm_mul]
  refine sm_mono (fun lot _ => ?_)
  split
  · rw [Nat.mul_one]; exact Nat.mul_le_mul_left _ (h lot)
  · exact Nat.zero_le _
theorem FM_const {N : NT} {f : Nat → Nat} {m O Z : Nat} (h : ∀ lot, lot < 2 ^ nT N → lam (nT N) O Z lot = true → f lot = m) : FM N f O Z = MZ N O Z * m := by
  rw [← MZ_eq]
  unfold FM
  rw [← sm_mul]
  refine sm_congr (fun lot hl => ?_)
  by_cases q : lam (nT N) O Z lot = true
  · rw [if_pos q, if_pos q, h lot hl q, Nat.mul_one]
  · rw [if_neg q, if_neg q, Nat.zero_mul]
noncomputable def rf (N : NT) (S C : Nat) (lot : Nat) : Nat := pc (rch N S (sd lot C))
/-- where a call stands: taken X, told O, not told Z, waiting W -/
def PT (N : NT) (S C X O Z W : Nat) : Prop := (X < 2 ^ nP N ∧ O < 2 ^ nT N ∧ Z < 2 ^ nT N ∧ W < 2 ^ nT N) ∧ ssb S X ∧ (∀ t, W.testBit t = true → O.testBit t = false ∧ Z.testBit t = false ∧ X.testBit (nFr N t) = true ∧ C.testBit t = false) ∧ (∀ lot, lot < 2 ^ nT N → lam (nT N) O Z lot = true → ssb X (rch N S (sd lot C))) ∧ (∀ t, t < nT N → C.testBit t = false → X.testBit (nFr N t) = true → O.testBit t = true ∨ Z.testBit t = true ∨ W.testBit t = true ∨ X.testBit (nTo N t) = true ∨ (nS N).testBit (nTo N t) = true) ∧ (∀ t, O.testBit t = true → X.testBit (nFr N t) = true ∧ C.testBit t = false) ∧ (∀ t, Z.testBit t = true → X.testBit (nFr N t) = true) ∧ (∀ p, p < nP N → X.testBit p = false → (nS N).testBit p = false → cnt (fun t => decide (nTo N t = p) && O.testBit t) (nT N) < nNd N p)
theorem PT_end {N : NT} {S C X O Z : Nat} (h : PT N S C X O Z 0) : FM N (rf N S C) O Z = MZ N O Z * pc X := by
  obtain ⟨⟨hX, hO, hZ, -⟩, hs, -, h1, h2, h3, -, h4⟩ := h
  refine FM_const (fun lot hl hlam => ?_)
  unfold rf
  congr 1
  refine (rch_eq hX hs (fun p hp hst hn => ?_) (fun Y hY hSY => ?_)).symm
  · cases hb : X.testBit p
    · have g := h4 p hp hb hst
      have : gets N (sd lot C) X p ≤ cnt (fun t => decide (nTo N t = p) && O.testBit t) (nT N) := by
        refine cnt_mono (fun t ht hg => ?_)
        unfold gf at hg
        rw [sd_bit] at hg
        simp only [Bool.and_eq_true, decide_eq_true_eq, Bool.not_eq_true'] at hg ⊢
        refine ⟨hg.1, ?_⟩
        rcases h2 t ht hg.2.1.2 hg.2.2 with q | q | q | q | q
        · exact q
        · rw [(lam_iff.mp hlam t ht).2 q] at hg; exact absurd hg.2.1.1 (by decide)
        · rw [Nat.zero_testBit] at q; cases q
        · rw [hg.1, hb] at q; cases q
        · rw [hg.1, hst] at q; cases q
      omega
    · rfl
  · exact ssb_tr (h1 lot hl hlam) (rch_min hY hSY)
theorem PT_skip {N : NT} {S C X O Z W t : Nat} (h : PT N S C X O Z W) (ht : X.testBit (nTo N t) = true ∨ (nS N).testBit (nTo N t) = true) : PT N S C X O Z (sd W (2 ^ t)) := by
  obtain ⟨⟨hX, hO, hZ, hW⟩, hs, h0, h1, h2, h3, h4, h5⟩ := h
  refine ⟨⟨hX, hO, hZ, sd_lt hW⟩, hs, fun u hu => h0 u ?_, h1, fun u hu a b => ?_, h3, h4, h5⟩
  · rw [sd_bit, Bool.and_eq_true] at hu; exact hu.1
  · rcases h2 u hu a b with q | q | q | q | q
    · exact Or.inl q
    · exact Or.inr (Or.inl q)
    · by_cases e : t = u
      · subst e
        rcases ht with g | g
        · exact Or.inr (Or.inr (Or.inr (Or.inl g)))
        · exact Or.inr (Or.inr (Or.inr (Or.inr g)))
      · refine Or.inr (Or.inr (Or.inl ?_))
        rw [sd_bit, q, Nat.testBit_two_pow]; simp [e]
    · exact Or.inr (Or.inr (Or.inr (Or.inl q)))
    · exact Or.inr (Or.inr (Or.inr (Or.inr q)))
theorem PT_not {N : NT} {S C X O Z W t : Nat} (h : PT N S C X O Z W) (htT : t < nT N) (ht : W.testBit t = true) : PT N S C X O (Z ||| 2 ^ t) (sd W (2 ^ t)) := by
  obtain ⟨⟨hX, hO, hZ, hW⟩, hs, h0, h1, h2, h3, h4, h5⟩ := h
  refine ⟨⟨hX, hO, nb_or_lt hZ (nb_one_lt htT), sd_lt hW⟩, hs, fun u hu => ?_, fun lot hl hlam => h1 lot hl (lam_iff.mpr (fun u hu => ⟨(lam_iff.mp hlam u hu).1, fun g => (lam_iff.mp hlam u hu).2 (by rw [or_bit, g]; rfl)⟩)), fun u hu a b => ?_, h3, fun u hu => ?_, h5⟩
  · rw [sd_bit, Nat.testBit_two_pow, Bool.and_eq_true, Bool.not_eq_true', decide_eq_false_iff_not] at hu
    obtain ⟨a, b, c, d⟩ := h0 u hu.1
    exact ⟨a, by rw [or_bit, b]; simp [hu.2], c, d⟩
  · rcases h2 u hu a b with q | q | q | q | q
    · exact Or.inl q
    · exact Or.inr (Or.inl (by rw [or_bit, q]; rfl))
    · by_cases e : t = u
      · exact Or.inr (Or.inl (by rw [or_bit]; simp [e]))
      · exact Or.inr (Or.inr (Or.inl (by rw [sd_bit, q, Nat.testBit_two_pow]; simp [e])))
    · exact Or.inr (Or.inr (Or.inr (Or.inl q)))
    · exact Or.inr (Or.inr (Or.inr (Or.inr q)))
  · rw [or_bit, Bool.or_eq_true, decide_eq_true_eq] at hu
    rcases hu with g | g
    · exact h4 u g
    · rw [← g]; exact (h0 t ht).2.2.1
theorem PT_told {N : NT} {S C X O Z W t : Nat} (hN : okN N) (h : PT N S C X O Z W) (htT : t < nT N) (ht : W.testBit t = true) (hx : X.testBit (nTo N t) = false) (hst : (nS N).testBit (nTo N t) = false) :
    (cnt (fun u => decide (nTo N u = nTo N t) && (O ||| 2 ^ t).testBit u) (nT N) < nNd N (nTo N t) → PT N S C X (O ||| 2 ^ t) Z (sd W (2 ^ t))) ∧
    (nNd N (nTo N t) ≤ cnt (fun u => decide (nTo N u = nTo N t) && (O ||| 2 ^ t).testBit u) (nT N) → PT N S C (X ||| 2 ^ nTo N t) (O ||| 2 ^ t) Z (sd W (2 ^ t) ||| sd (ouM N (nTo N t)) C)) := by
  obtain ⟨⟨hX, hO, hZ, hW⟩, hs, h0, h1, h2, h3, h4, h5⟩ := h
  have hp := (hN.2.2.2.1 t htT).2.1
  have w0 := h0 t ht
  have hO' := nb_or_lt hO (nb_one_lt htT)
  have lam' : ∀ lot, lam (nT N) (O ||| 2 ^ t) Z lot = true → lam (nT N) O Z lot = true := fun lot hlam => lam_iff.mpr (fun u hu => ⟨fun g => (lam_iff.mp hlam u hu).1 (by rw [or_bit, g]; rfl), (lam_iff.mp hlam u hu).2⟩)
  have rest : ∀ u, (sd W (2 ^ t)).testBit u = true → (O ||| 2 ^ t).testBit u = false ∧ Z.testBit u = false ∧ X.testBit (nFr N u) = true ∧ C.testBit u = false := by
    intro u hu
    rw [sd_bit, Nat.testBit_two_pow, Bool.and_eq_true, Bool.not_eq_true', decide_eq_false_iff_not] at hu
    obtain ⟨a, b, c, d⟩ := h0 u hu.1
    exact ⟨by rw [or_bit, a]; simp [hu.2], b, c, d⟩
  have oldO : ∀ u, (O ||| 2 ^ t).testBit u = true → X.testBit (nFr N u) = true ∧ C.testBit u = false := by
    intro u hu
    rw [or_bit, Bool.or_eq_true, decide_eq_true_eq] at hu
    rcases hu with g | g
    · exact h3 u g
    · rw [← g]; exact ⟨w0.2.2.1, w0.2.2.2⟩
  have cover : ∀ u, u < nT N → C.testBit u = false → X.testBit (nFr N u) = true → (O ||| 2 ^ t).testBit u = true ∨ Z.testBit u = true ∨ (sd W (2 ^ t)).testBit u = true ∨ X.testBit (nTo N u) = true ∨ (nS N).testBit (nTo N u) = true := by
    intro u hu a b
    rcases h2 u hu a b with q | q | q | q | q
    · exact Or.inl (by rw [or_bit, q]; rfl)
    · exact Or.inr (Or.inl q)
    · by_cases e : t = u
      · exact Or.inl (by rw [or_bit]; simp [e])
      · exact Or.inr (Or.inr (Or.inl (by rw [sd_bit, q, Nat.testBit_two_pow]; simp [e])))
    · exact Or.inr (Or.inr (Or.inr (Or.inl q)))
    · exact Or.inr (Or.inr (Or.inr (Or.inr q)))
  have other : ∀ p, ¬ nTo N t = p → cnt (fun u => decide (nTo N u = p) && (O ||| 2 ^ t).testBit u) (nT N) = cnt (fun u => decide (nTo N u = p) && O.testBit u) (nT N) := by
    intro p hp
    refine cnt_congr (fun u _ => ?_)
    rw [or_bit]
    by_cases e : t = u
    · subst e; simp [hp]
    · simp [e]
  refine ⟨fun hlt => ⟨⟨hX, hO', hZ, sd_lt hW⟩, hs, rest, fun lot hl hlam => h1 lot hl (lam' lot hlam), cover, oldO, h4, fun p hpp a b => ?_⟩, fun hge => ⟨⟨nb_or_lt hX (nb_one_lt hp), hO', hZ, nb_or_lt (sd_lt hW) (sd_lt (ouM_lt N _))⟩, ssb_tr hs (ssb_or_l _ _), fun u hu => ?_, fun lot hl hlam q hq => ?_, fun u hu a b => ?_, fun u hu => ⟨ssb_or_l X _ _ (oldO u hu).1, (oldO u hu).2⟩, fun u hu => ssb_or_l X _ _ (h4 u hu), fun p hpp a b => ?_⟩⟩
  · by_cases e : nTo N t = p
    · rw [← e]; exact hlt
    · rw [other p e]; exact h5 p hpp a b
  · rw [Nat.testBit_or, Bool.or_eq_true] at hu
    rcases hu with g | g
    · obtain ⟨a, b, c, d⟩ := rest u g
      exact ⟨a, b, ssb_or_l X _ _ c, d⟩
    · rw [sd_bit, ouM_bit] at g
      simp only [Bool.and_eq_true, decide_eq_true_eq, Bool.not_eq_true'] at g
      refine ⟨?_, ?_, by rw [g.1.2, or_bit]; simp, g.2⟩
      · cases q : (O ||| 2 ^ t).testBit u
        · rfl
        · have := (oldO u q).1; rw [g.1.2, hx] at this; cases this
      · cases q : Z.testBit u
        · rfl
        · have := h4 u q; rw [g.1.2, hx] at this; cases this
  · rw [or_bit, Bool.or_eq_true, decide_eq_true_eq] at hq
    have hxr := h1 lot hl (lam' lot hlam)
    rcases hq with g | g
    · exact hxr q g
    · subst g
      refine rch_clo N S (sd lot C) _ hp hst (Nat.le_trans hge (cnt_mono (fun u hu hg => ?_)))
      simp only [Bool.and_eq_true, decide_eq_true_eq] at hg
      unfold gf
      rw [sd_bit, (lam_iff.mp hlam u hu).1 hg.2, (oldO u hg.2).2, hxr _ (oldO u hg.2).1]
      simp [hg.1]
  · rw [or_bit, Bool.or_eq_true, decide_eq_true_eq] at b
    rcases b with b | b
    · rcases cover u hu a b with q | q | q | q | q
      · exact Or.inl q
      · exact Or.inr (Or.inl q)
      · exact Or.inr (Or.inr (Or.inl (by rw [Nat.testBit_or, q]; rfl)))
      · exact Or.inr (Or.inr (Or.inr (Or.inl (ssb_or_l X _ _ q))))
      · exact Or.inr (Or.inr (Or.inr (Or.inr q)))
    · refine Or.inr (Or.inr (Or.inl ?_))
      rw [Nat.testBit_or, sd_bit (ouM N _), ouM_bit, a]
      simp [hu, b]
  · rw [or_bit, Bool.or_eq_false_iff] at a
    have e : ¬ nTo N t = p := of_decide_eq_false a.2
    rw [other p e]
    exact h5 p hpp a.1 b
