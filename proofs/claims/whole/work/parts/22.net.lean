/-! sets built bit by bit -/
def mk (f : Nat → Bool) : Nat → Nat
  | 0 => 0
  | n + 1 => mk f n ||| (if f n then 2 ^ n else 0)
theorem mk_lt (f : Nat → Bool) (n : Nat) : mk f n < 2 ^ n := by
  induction n with
  | zero => show (0 : Nat) < 1; decide
  | succ n ih =>
    unfold mk
    have h1 : mk f n < 2 ^ (n + 1) := Nat.lt_of_lt_of_le ih (Nat.pow_le_pow_right (by decide) (by omega))
    refine nb_or_lt h1 ?_
    split
    · exact nb_one_lt (by omega)
    · exact Nat.two_pow_pos _
theorem mk_bit (f : Nat → Bool) (n i : Nat) : (mk f n).testBit i = (decide (i < n) && f i) := by
  induction n with
  | zero => simp [mk]
  | succ n ih =>
    unfold mk
    rw [Nat.testBit_or, ih]
    by_cases h : i = n
    · subst h
      by_cases hf : f i <;> simp [hf, Nat.testBit_two_pow_self]
    · have h2 : (if f n then 2 ^ n else 0 : Nat).testBit i = false := by
        split
        · rw [Nat.testBit_two_pow]; simp; omega
        · simp
      rw [h2, Bool.or_false]
      by_cases h3 : i < n
      · simp [h3, show i < n + 1 by omega]
      · simp [h3, show ¬ i < n + 1 by omega]
theorem mk_ext {s t n : Nat} (hs : s < 2 ^ n) (ht : t < 2 ^ n) (h : ∀ i, i < n → s.testBit i = t.testBit i) : s = t := by
  apply Nat.eq_of_testBit_eq
  intro i
  by_cases hi : i < n
  · exact h i hi
  · have hp : 2 ^ n ≤ 2 ^ i := Nat.pow_le_pow_right (by decide) (by omega)
    rw [Nat.testBit_lt_two_pow (Nat.lt_of_lt_of_le hs hp), Nat.testBit_lt_two_pow (Nat.lt_of_lt_of_le ht hp)]
theorem mk_out {s n i : Nat} (hs : s < 2 ^ n) (hi : n ≤ i) : s.testBit i = false :=
  Nat.testBit_lt_two_pow (Nat.lt_of_lt_of_le hs (Nat.pow_le_pow_right (by decide) hi))
theorem or_bit (s k i : Nat) : (s ||| 2 ^ k).testBit i = (s.testBit i || decide (k = i)) := by rw [Nat.testBit_or, Nat.testBit_two_pow]
/-! how many of the first n -/
def cnt (f : Nat → Bool) : Nat → Nat
  | 0 => 0
  | n + 1 => cnt f n + (if f n then 1 else 0)
theorem cnt_le (f : Nat → Bool) (n : Nat) : cnt f n ≤ n := by
  induction n with
  | zero => exact Nat.le_refl _
  | succ n ih => unfold cnt; split <;> omega
theorem cnt_congr {f g : Nat → Bool} {n : Nat} (h : ∀ i, i < n → f i = g i) : cnt f n = cnt g n := by
  induction n with
  | zero => rfl
  | succ n ih => unfold cnt; rw [ih (fun i hi => h i (by omega)), h n (by omega)]
theorem cnt_mono {f g : Nat → Bool} {n : Nat} (h : ∀ i, i < n → f i = true → g i = true) : cnt f n ≤ cnt g n := by
  induction n with
  | zero => exact Nat.le_refl _
  | succ n ih =>
    unfold cnt
    have h1 := ih (fun i hi => h i (by omega))
    have h2 := h n (by omega)
    by_cases hf : f n
    · simp [hf, h2 hf]; exact h1
    · simp [hf]; omega
theorem cnt_false {f : Nat → Bool} {n : Nat} (h : ∀ i, i < n → f i = false) : cnt f n = 0 := by
  induction n with
  | zero => rfl
  | succ n ih => unfold cnt; rw [ih (fun i hi => h i (by omega)), h n (by omega)]; rfl
theorem cnt_ext {f : Nat → Bool} {n m : Nat} (hnm : n ≤ m) (h : ∀ i, n ≤ i → i < m → f i = false) : cnt f m = cnt f n := by
  induction m with
  | zero => rw [show n = 0 by omega]
  | succ m ih =>
    by_cases hm : n = m + 1
    · rw [hm]
    · show cnt f m + (if f m then 1 else 0) = cnt f n
      rw [ih (by omega) (fun i h1 h2 => h i h1 (by omega)), h m (by omega) (by omega)]
      rfl
theorem pcn_cnt (s n : Nat) : pcn s n = cnt (fun i => s.testBit i) n := by
  induction n with
  | zero => rfl
  | succ n ih => unfold pcn cnt; rw [ih]
theorem pc_cnt {s n : Nat} (hs : s < 2 ^ n) (hn : n ≤ 16) : pc s = cnt (fun i => s.testBit i) n := by
  unfold pc
  rw [pcn_cnt]
  exact cnt_ext hn (fun i h1 _ => mk_out hs h1)
/-! a net: people, ties, the stubborn; ties' from, to, odds, hours; people's valley, needs, late, costs; what valleys let -/
abbrev NT : Type := (Nat × Nat × Nat) × ((Nat → Nat) × (Nat → Nat) × (Nat → Nat) × (Nat → Nat)) × ((Nat → Nat) × (Nat → Nat) × (Nat → Nat) × (Nat → Nat)) × (Nat → Nat)
def nP (N : NT) : Nat := N.1.1
def nT (N : NT) : Nat := N.1.2.1
def nS (N : NT) : Nat := N.1.2.2
def nFr (N : NT) : Nat → Nat := N.2.1.1
def nTo (N : NT) : Nat → Nat := N.2.1.2.1
def nOd (N : NT) : Nat → Nat := N.2.1.2.2.1
def nHr (N : NT) : Nat → Nat := N.2.1.2.2.2
def nVl (N : NT) : Nat → Nat := N.2.2.1.1
def nNd (N : NT) : Nat → Nat := N.2.2.1.2.1
def nLt (N : NT) : Nat → Nat := N.2.2.1.2.2.1
def nCo (N : NT) : Nat → Nat := N.2.2.1.2.2.2
def nMo (N : NT) : Nat → Nat := N.2.2.2
def okN (N : NT) : Prop := nP N ≤ 12 ∧ nT N ≤ 10 ∧ nS N < 2 ^ nP N ∧ (∀ t, t < nT N → nFr N t < nP N ∧ nTo N t < nP N ∧ nOd N t ≤ 16 ∧ 1 ≤ nHr N t ∧ nHr N t ≤ 5) ∧ (∀ p, p < nP N → nVl N p < 4 ∧ 1 ≤ nNd N p ∧ nNd N p ≤ 3 ∧ nLt N p ≤ 5 ∧ nCo N p ≤ 99) ∧ ∀ v, v < 4 → nMo N v ≤ 12
/-- ties that lead to p, from p -/
def inM (N : NT) (p : Nat) : Nat := mk (fun t => decide (nTo N t = p)) (nT N)
def ouM (N : NT) (p : Nat) : Nat := mk (fun t => decide (nFr N t = p)) (nT N)
theorem inM_lt (N : NT) (p : Nat) : inM N p < 2 ^ nT N := mk_lt _ _
theorem ouM_lt (N : NT) (p : Nat) : ouM N p < 2 ^ nT N := mk_lt _ _
theorem inM_bit (N : NT) (p t : Nat) : (inM N p).testBit t = (decide (t < nT N) && decide (nTo N t = p)) := mk_bit _ _ _
theorem ouM_bit (N : NT) (p t : Nat) : (ouM N p).testBit t = (decide (t < nT N) && decide (nFr N t = p)) := mk_bit _ _ _
/-- the class's cells hold the net -/
def cNet (I : HI) (N : NT) : Prop := (I 12 11 = nI (nP N) ∧ I 12 12 = nI (nT N) ∧ I 12 13 = nI (nS N)) ∧ (∀ p, p < nP N → I 13 p = nI (nVl N p) ∧ I 14 p = nI (nNd N p) ∧ I 15 p = nI (nLt N p) ∧ I 16 p = nI (nCo N p) ∧ I 17 p = nI (inM N p) ∧ I 18 p = nI (ouM N p)) ∧ (∀ t, t < nT N → I 19 t = nI (nFr N t) ∧ I 20 t = nI (nTo N t) ∧ I 21 t = nI (nOd N t) ∧ I 22 t = nI (nHr N t)) ∧ ∀ v, v < 4 → I 23 v = nI (nMo N v)
/-- the model's cells hold it -/
def mNet (I : HI) (N : NT) : Prop := (I 72 20 = nI (nP N) ∧ I 72 21 = nI (nT N)) ∧ (∀ p, p < nP N → I 77 (5 * p) = nI (nVl N p) ∧ I 77 (5 * p + 1) = nI (nNd N p) ∧ I 77 (5 * p + 2) = nI (nLt N p) ∧ I 77 (5 * p + 3) = nI (if (nS N).testBit p then 1 else 0) ∧ I 77 (5 * p + 4) = nI (nCo N p)) ∧ (∀ t, t < nT N → I 79 t = nI (nFr N t) ∧ I 80 t = nI (nTo N t) ∧ I 81 t = nI (nOd N t) ∧ I 82 t = nI (nHr N t)) ∧ ∀ v, v < 4 → I 87 v = nI (nMo N v)
theorem cNet_of {I I' : HI} {N : NT} (h : cNet I N) (ha : ∀ c, 12 ≤ c → c ≤ 23 → I' c = I c) : cNet I' N := by
  unfold cNet
  rw [ha 12 (by omega) (by omega), ha 13 (by omega) (by omega), ha 14 (by omega) (by omega), ha 15 (by omega) (by omega), ha 16 (by omega) (by omega), ha 17 (by omega) (by omega), ha 18 (by omega) (by omega), ha 19 (by omega) (by omega), ha 20 (by omega) (by omega), ha 21 (by omega) (by omega), ha 22 (by omega) (by omega), ha 23 (by omega) (by omega)]
  exact h
theorem mNet_of {I I' : HI} {N : NT} (h : mNet I N) (h1 : I' 72 20 = I 72 20) (h2 : I' 72 21 = I 72 21) (ha : I' 77 = I 77 ∧ I' 79 = I 79 ∧ I' 80 = I 80 ∧ I' 81 = I 81 ∧ I' 82 = I 82 ∧ I' 87 = I 87) : mNet I' N := by
  unfold mNet
  rw [h1, h2, ha.1, ha.2.1, ha.2.2.1, ha.2.2.2.1, ha.2.2.2.2.1, ha.2.2.2.2.2]
  exact h
/-- all ties from a set -/
def fromM (N : NT) (s : Nat) : Nat := mk (fun t => s.testBit (nFr N t)) (nT N)
theorem fromM_bit (N : NT) (s t : Nat) : (fromM N s).testBit t = (decide (t < nT N) && s.testBit (nFr N t)) := mk_bit _ _ _
/-- the first k people's -/
def orTo (N : NT) (s : Nat) : Nat → Nat
  | 0 => 0
  | k + 1 => if s.testBit k then orTo N s k ||| ouM N k else orTo N s k
theorem orTo_bit (N : NT) (s k t : Nat) : (orTo N s k).testBit t = (decide (t < nT N) && (decide (nFr N t < k) && s.testBit (nFr N t))) := by
  induction k with
  | zero => simp [orTo]
  | succ k ih =>
    unfold orTo
    split
    · rename_i hb
      rw [Nat.testBit_or, ih, ouM_bit]
      by_cases h1 : t < nT N <;> by_cases h2 : nFr N t = k
      · simp [h1, h2, hb]
      · have : (nFr N t < k + 1) = (nFr N t < k) := by apply propext; omega
        simp [h1, h2, this]
      · simp [h1]
      · simp [h1]
    · rename_i hb
      rw [ih]
      by_cases h2 : nFr N t = k
      · rw [h2]; simp [hb]
      · have : (nFr N t < k + 1) = (nFr N t < k) := by apply propext; omega
        simp [this]
theorem orTo_lt (N : NT) (s k : Nat) : orTo N s k < 2 ^ nT N := by
  induction k with
  | zero => exact Nat.two_pow_pos _
  | succ k ih => unfold orTo; split; exact nb_or_lt ih (ouM_lt N k); exact ih
theorem orTo_all {N : NT} (hN : okN N) (s : Nat) : orTo N s (nP N) = fromM N s := by
  refine mk_ext (orTo_lt N s _) (mk_lt _ _) (fun t ht => ?_)
  have h := (hN.2.2.2.1 t ht).1
  rw [orTo_bit, fromM_bit]
  simp [ht, h]
theorem lt31 {n k : Nat} (hk : k ≤ 30) (h : n < 2 ^ k) : n < 2 ^ 31 := Nat.lt_of_lt_of_le h (Nat.pow_le_pow_right (by decide) (by omega))
theorem q_tiesFrom {I : HI} {J : HJ} {N : NT} {s : Nat} (hc : cNet I N) (hN : okN N) (hs : s < 2 ^ 31) {Post : Int32 → Prop} (h : Post (nI (fromM N s))) : w_X4_tiesFrom (nI s) I J Post := by
  have hP := hN.1
  refine lp_seq (fun i => (nI (orTo N s i), nI i)) (nP N) (fun i hi K hK => ?_) (fun K => ?_)
  · refine ⟨fun c => ?_, fun c => q_has hs (by omega) ⟨fun b => ?_, fun b => ⟨vp_in_nI (by omega) (by omega), fun z e => ?_⟩⟩⟩
    · rw [hc.1.1] at c
      exact absurd c (nI_ge hi (by omega))
    · rw [nI_1]
      unfold orTo at hK
      rw [if_neg (by rw [b]; decide)] at hK
      exact hK
    · rw [nI_1]
      rw [nI_clamp (by omega), (hc.2.1 i hi).2.2.2.2.2, nb_or] at e
      unfold orTo at hK
      rw [if_pos b] at hK
      rw [e]
      exact hK
  · refine ⟨fun c => ?_, fun c => ?_⟩
    · show Post (nI (orTo N s (nP N)))
      rw [orTo_all hN]
      exact h
    · rw [hc.1.1] at c
      exact absurd (nI_le (Nat.le_refl _) (by omega)) c
