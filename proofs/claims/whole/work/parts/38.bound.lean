/-! fractions of greater numbers -/
theorem q_gcdL {a b : Nat} (ha : a < 2 ^ 62) (hb : b < 2 ^ 45) (h0 : 0 < b) {Post : Int64 → Prop} (h : Post (lN (Nat.gcd a b))) : w_X1_commonDivisor (lN a) (lN b) Post := by
  refine lp_inv (fun i s => ∃ u v, s = (lN u, lN v, nI i) ∧ Nat.gcd u v = Nat.gcd a b ∧ u < 2 ^ 62 ∧ v < 2 ^ 45 ∧ ((i = 0 ∧ 0 < v) ∨ (v < u ∧ u * v * 2 ^ i ≤ 2 ^ 91))) 100 (fun i s hi hq K hK => ?_) (fun s hq K => ?_) (lN a, lN b, 0) ⟨a, b, rfl, rfl, ha, hb, Or.inl ⟨rfl, h0⟩⟩
  · obtain ⟨u, v, rfl, hg, hu, hv, hor⟩ := hq
    show wb_X1_commonDivisor_9 Post _ K (lN u, lN v, nI i)
    unfold wb_X1_commonDivisor_9
    dsimp only
    rw [show (0 : Int64) = lN 0 from rfl, pk_lEQ (by omega) (by omega), nI_1]
    refine ⟨fun c => absurd c (nI_ge (b := 100) hi (by omega)), fun _ => ⟨fun c => ?_, fun c => ⟨c, ?_⟩⟩⟩
    · subst c
      rw [Nat.gcd_zero_right] at hg
      show Post (lN u)
      rw [hg]; exact h
    · rw [pk_lRem (by omega) (by omega) (by omega)]
      have hv0 : 0 < v := by omega
      have hm : u % v < v := Nat.mod_lt _ hv0
      refine hK _ ⟨v, u % v, rfl, ?_, by omega, by omega, Or.inr ⟨hm, ?_⟩⟩
      · rw [← hg, Nat.gcd_comm v, ← Nat.gcd_rec, Nat.gcd_comm]
      · rcases hor with ⟨rfl, -⟩ | ⟨h1, h2⟩
        · have h3 : v * (u % v) ≤ 2 ^ 45 * 2 ^ 45 := Nat.mul_le_mul (by omega) (by omega)
          calc v * (u % v) * 2 ^ (0 + 1) ≤ 2 ^ 45 * 2 ^ 45 * 2 ^ (0 + 1) := Nat.mul_le_mul_right _ h3
            _ ≤ 2 ^ 91 := by decide
        · have h3 := eu_half hv0 h1
          calc v * (u % v) * 2 ^ (i + 1) = (2 * (u % v)) * v * 2 ^ i := by rw [Nat.pow_succ, Nat.mul_comm v (u % v), Nat.mul_comm 2 (u % v), Nat.mul_right_comm (u % v) 2 v, Nat.mul_assoc (u % v * v) 2 (2 ^ i), Nat.mul_comm 2 (2 ^ i)]
            _ ≤ u * v * 2 ^ i := Nat.mul_le_mul_right _ (Nat.mul_le_mul_right _ h3)
            _ ≤ 2 ^ 91 := h2
  · obtain ⟨u, v, rfl, hg, hu, hv, hor⟩ := hq
    rcases hor with ⟨h1, -⟩ | ⟨h1, h2⟩
    · omega
    · have v0 : v = 0 := by
        rcases Nat.eq_zero_or_pos v with q | q
        · exact q
        · exfalso
          have h3 : 1 ≤ u * v := Nat.mul_pos (by omega) q
          have h4 : 1 * 2 ^ 100 ≤ u * v * 2 ^ 100 := Nat.mul_le_mul_right _ h3
          have h5 : (2 : Nat) ^ 91 < 1 * 2 ^ 100 := by decide
          omega
      subst v0
      rw [Nat.gcd_zero_right] at hg
      show wb_X1_commonDivisor_9 Post _ K (lN u, lN 0, nI 100)
      refine ⟨fun _ => ?_, fun c => absurd (Int32.le_refl _) c⟩
      show Post (lN u)
      rw [hg]; exact h
theorem q_becomeL {I : HI} {J : HJ} {a b : Nat} (ha : a < 2 ^ 62) (hb : b < 2 ^ 45) (h0 : 0 < b) {Post : HJ → Prop} (h : Post (cFr J a b)) : w_X1_become (lN a) (lN b) I J Post := by
  have hg : 0 < Nat.gcd a b := Nat.gcd_pos_of_pos_right a h0
  have hg2 : Nat.gcd a b ≤ b := Nat.gcd_le_right a h0
  refine q_gcdL ha hb h0 ?_
  rw [pk_lDiv (by omega) hg (by omega), pk_lDiv (by omega) hg (by omega)]
  have n0 : ¬ lN (Nat.gcd a b) = 0 := fun q => by have := (pk_lEQ (b := 0) (by omega) (by omega)).mp q; omega
  refine ⟨fun c => ?_, fun _ => ⟨fun c => ?_, fun _ => ⟨n0, fun J2 e2 => ⟨n0, fun J3 e3 => ?_⟩⟩⟩⟩
  · have := (pk_lLE (b := 0) (by omega) (by omega)).mp c; omega
  · have := (pk_lLE (b := 0) (by omega) (by omega)).mp c; omega
  · subst e2 e3; exact h
theorem q_mFracL {I : HI} {J : HJ} {a b : Nat} (ha : a < 2 ^ 62) (hb : b < 2 ^ 62) (h0 : 0 < b) {Post : HJ → Prop} (h : Post (mFr J a b)) : w_X11_fraction (lN a) (lN b) I J Post := by
  have hg : 0 < Nat.gcd a b := Nat.gcd_pos_of_pos_right a h0
  have hg2 : Nat.gcd a b ≤ b := Nat.gcd_le_right a h0
  have hab : (if 0 < lN a then lN a else -lN a) = lN a := by
    by_cases q : 0 < lN a
    · rw [if_pos q]
    · rw [if_neg q]
      have : a = 0 := by
        rcases Nat.eq_zero_or_pos a with z | z
        · exact z
        · exact absurd ((pk_lLT (a := 0) (by omega) (by omega)).mpr z) q
      subst this
      rfl
  unfold w_X11_fraction
  rw [hab]
  refine lp_by (fun s => ∃ u v, s = (lN u, lN v) ∧ Nat.gcd u v = Nat.gcd a b ∧ u < 2 ^ 62 ∧ v < 2 ^ 62) (fun s => s.2.toInt.toNat) (fun s K hs hK => ?_) (lN a, lN b) ⟨a, b, rfl, rfl, ha, hb⟩
  obtain ⟨u, v, rfl, hgu, hu, hv⟩ := hs
  show wb_X11_fraction_9 I J (lN a) (lN b) Post _ K (lN u, lN v)
  unfold wb_X11_fraction_9
  dsimp only
  rw [show (0 : Int64) = lN 0 from rfl, pk_lEQ (by omega) (by omega)]
  refine ⟨fun c => ?_, fun c => ⟨c, ?_⟩⟩
  · subst c
    rw [Nat.gcd_zero_right] at hgu
    subst hgu
    rw [pk_lDiv (by omega) hg (by omega), pk_lDiv (by omega) hg (by omega), pk_lEQ (by omega) (by omega)]
    refine ⟨by omega, fun J2 e2 => ⟨by omega, fun J3 e3 => ?_⟩⟩
    subst e2 e3
    exact h
  · have hv0 : 0 < v := by omega
    have hm : u % v < v := Nat.mod_lt _ hv0
    rw [pk_lRem (by omega) hv0 (by omega)]
    refine hK _ ⟨v, u % v, rfl, ?_, hv, by omega⟩ ?_
    · rw [← hgu, Nat.gcd_comm v, ← Nat.gcd_rec, Nat.gcd_comm]
    · show (lN (u % v)).toInt.toNat < (lN v).toInt.toNat
      rw [pk_lT (by omega), pk_lT (by omega)]
      omega
/-! the greatest, one behind the other -/
def amx (g : Nat → Nat) : Nat → Nat
  | 0 => 0
  | i + 1 => if g (amx g i) < g (i + 1) then i + 1 else amx g i
theorem amx_le (g : Nat → Nat) (i : Nat) : amx g i ≤ i := by
  induction i with
  | zero => exact Nat.le_refl _
  | succ i ih => unfold amx; split <;> omega
theorem amx_max (g : Nat → Nat) (i : Nat) : ∀ p, p ≤ i → g p ≤ g (amx g i) := by
  induction i with
  | zero => intro p hp; rw [show p = 0 by omega]; exact Nat.le_refl _
  | succ i ih =>
    intro p hp
    unfold amx
    split
    · rename_i c
      rcases Nat.lt_or_eq_of_le hp with q | q
      · have := ih p (by omega); omega
      · rw [q]; exact Nat.le_refl _
    · rename_i c
      rcases Nat.lt_or_eq_of_le hp with q | q
      · exact ih p (by omega)
      · rw [q]; omega
def updN (g : Nat → Nat) (k v : Nat) : Nat → Nat := fun p => if p = k then v else g p
def gs (P : Nat) (g : Nat → Nat) : Nat → Nat → Nat
  | 0 => g
  | i + 1 => updN (gs P g i) (amx (gs P g i) (P - 1)) 0
def ex (P : Nat) (g : Nat → Nat) (i : Nat) : Nat := gs P g i (amx (gs P g i) (P - 1))
theorem gs_le (P : Nat) (g : Nat → Nat) (i p : Nat) : gs P g i p ≤ g p := by
  induction i with
  | zero => exact Nat.le_refl _
  | succ i ih =>
    show (if p = amx (gs P g i) (P - 1) then 0 else gs P g i p) ≤ _
    split
    · omega
    · exact ih
theorem cnt_sh (f : Nat → Bool) (n : Nat) : cnt f (n + 1) = (if f 0 then 1 else 0) + cnt (fun j => f (j + 1)) n := by
  induction n with
  | zero => exact Nat.add_comm _ _
  | succ n ih => show cnt f (n + 1) + (if f (n + 1) then 1 else 0) = _ + (cnt (fun j => f (j + 1)) n + (if f (n + 1) then 1 else 0)); rw [ih]; omega
theorem cnt_pos {f : Nat → Bool} {n : Nat} (h : 0 < cnt f n) : ∃ i, i < n ∧ f i = true := by
  induction n with
  | zero => exact absurd h (Nat.lt_irrefl _)
  | succ n ih =>
    have h0 : cnt f (n + 1) = cnt f n + (if f n then 1 else 0) := rfl
    by_cases c : f n = true
    · exact ⟨n, by omega, c⟩
    · rw [h0, if_neg c] at h
      obtain ⟨i, hi, e⟩ := ih h
      exact ⟨i, by omega, e⟩
theorem cnt_has {f : Nat → Bool} {n i : Nat} (hi : i < n) (h : f i = true) : 0 < cnt f n := by
  induction n with
  | zero => omega
  | succ n ih =>
    have h0 : cnt f (n + 1) = cnt f n + (if f n then 1 else 0) := rfl
    by_cases c : i = n
    · subst c; rw [h0, if_pos h]; omega
    · have := ih (by omega); omega
theorem cnt_upd {f g : Nat → Bool} {n k : Nat} (hk : k < n) (h : ∀ i, i ≠ k → g i = f i) : cnt g n + (if f k then 1 else 0) = cnt f n + (if g k then 1 else 0) := by
  induction n with
  | zero => omega
  | succ n ih =>
    have h0 : ∀ f : Nat → Bool, cnt f (n + 1) = cnt f n + (if f n then 1 else 0) := fun _ => rfl
    rw [h0 f, h0 g]
    by_cases c : k = n
    · subst c
      rw [cnt_congr (f := g) (g := f) (fun i hi => h i (by omega))]
      omega
    · have := ih (by omega)
      rw [h n (fun q => c q.symm)]
      omega
/-- the same numbers above 0, those of the row from i on -/
def sam (P : Nat) (g a : Nat → Nat) (i : Nat) : Prop := ∀ v, 0 < v → cnt (fun p => decide (g p = v)) P = cnt (fun j => decide (a (i + j) = v)) P
theorem ex_eq {P : Nat} {g a : Nat → Nat} (hg : ∀ p, P ≤ p → g p = 0) (ha : ∀ j, P ≤ j → a j = 0) (hd : ∀ i j, i ≤ j → a j ≤ a i) (h : sam P g a 0) : ∀ i, sam P (gs P g i) a i ∧ (∀ p, P ≤ p → gs P g i p = 0) ∧ ex P g i = a i := by
  have key : ∀ i (g : Nat → Nat), (∀ p, P ≤ p → g p = 0) → sam P g a i → g (amx g (P - 1)) = a i := by
    intro i g hg hs
    have hmx : ∀ p, g p ≤ g (amx g (P - 1)) := fun p => by
      rcases Nat.lt_or_ge p P with q | q
      · exact amx_max g (P - 1) p (by omega)
      · rw [hg p q]; omega
    have h1 : a i ≤ g (amx g (P - 1)) := by
      rcases Nat.eq_zero_or_pos (a i) with q | q
      · omega
      · have hP : 0 < P := by
          rcases Nat.eq_zero_or_pos P with z | z
          · rw [ha i (by omega)] at q; omega
          · exact z
        have : 0 < cnt (fun j => decide (a (i + j) = a i)) P := cnt_has (i := 0) hP (by simp)
        rw [← hs (a i) q] at this
        obtain ⟨p, hp, e⟩ := cnt_pos this
        have e := of_decide_eq_true e
        rw [← e]; exact hmx p
    have h2 : g (amx g (P - 1)) ≤ a i := by
      rcases Nat.eq_zero_or_pos (g (amx g (P - 1))) with q | q
      · omega
      · have hP : amx g (P - 1) < P := by
          rcases Nat.lt_or_ge (amx g (P - 1)) P with z | z
          · exact z
          · rw [hg _ z] at q; omega
        have : 0 < cnt (fun p => decide (g p = g (amx g (P - 1)))) P := cnt_has hP (by simp)
        rw [hs _ q] at this
        obtain ⟨j, hj, e⟩ := cnt_pos this
        have e := of_decide_eq_true e
        rw [← e]; exact hd i (i + j) (by omega)
    omega
  intro i
  induction i with
  | zero => exact ⟨h, hg, key 0 g hg h⟩
  | succ i ih =>
    obtain ⟨i1, i2, i3⟩ := ih
    have z2 : ∀ p, P ≤ p → gs P g (i + 1) p = 0 := fun p hp => by
      have : gs P g (i + 1) p = if p = amx (gs P g i) (P - 1) then 0 else gs P g i p := rfl
      rw [this]; split; rfl; exact i2 p hp
    have z1 : sam P (gs P g (i + 1)) a (i + 1) := by
      intro v hv
      have hsh := cnt_sh (fun j => decide (a (i + j) = v)) P
      have e0 : cnt (fun j => decide (a (i + j) = v)) (P + 1) = cnt (fun j => decide (a (i + j) = v)) P := by
        show _ + (if decide (a (i + P) = v) then 1 else 0) = _
        rw [ha (i + P) (by omega), decide_eq_false (by omega)]; rfl
      rw [e0, ← i1 v hv] at hsh
      have e1 : cnt (fun j => decide (a (i + (j + 1)) = v)) P = cnt (fun j => decide (a (i + 1 + j) = v)) P := cnt_congr (fun j _ => by rw [show i + (j + 1) = i + 1 + j by omega])
      rw [e1] at hsh
      have i3' : gs P g i (amx (gs P g i) (P - 1)) = a i := i3
      rcases Nat.lt_or_ge (amx (gs P g i) (P - 1)) P with q | q
      · have hu := cnt_upd (f := fun p => decide (gs P g i p = v)) (g := fun p => decide (gs P g (i + 1) p = v)) q (fun p hp => by
          have : gs P g (i + 1) p = if p = amx (gs P g i) (P - 1) then 0 else gs P g i p := rfl
          rw [this, if_neg hp])
        have e2 : gs P g (i + 1) (amx (gs P g i) (P - 1)) = 0 := by
          have : gs P g (i + 1) (amx (gs P g i) (P - 1)) = if amx (gs P g i) (P - 1) = amx (gs P g i) (P - 1) then 0 else gs P g i (amx (gs P g i) (P - 1)) := rfl
          rw [this, if_pos rfl]
        rw [e2, decide_eq_false (by omega : ¬ 0 = v), i3'] at hu
        rw [Nat.add_zero] at hsh
        simp only [Bool.false_eq_true, if_false] at hu
        omega
      · have a0 : a i = 0 := by rw [← i3', i2 _ q]
        have eg : cnt (fun p => decide (gs P g (i + 1) p = v)) P = cnt (fun p => decide (gs P g i p = v)) P := cnt_congr (fun p hp => by
          have : gs P g (i + 1) p = if p = amx (gs P g i) (P - 1) then 0 else gs P g i p := rfl
          rw [this, if_neg (by omega)])
        rw [Nat.add_zero, a0, decide_eq_false (by omega : ¬ 0 = v)] at hsh
        rw [eg, hsh]
        simp
    exact ⟨z1, z2, key (i + 1) _ z2 z1⟩
/-! the bound -/
noncomputable def gr (N : NT) (S p : Nat) : Nat := if decide (p < nP N) && !S.testBit p then tot N (S ||| 2 ^ p) 0 - tot N S 0 else 0
theorem gr_out {N : NT} {S p : Nat} (h : nP N ≤ p) : gr N S p = 0 := by unfold gr; rw [decide_eq_false (by omega)]; rfl
theorem gr_lt {N : NT} (hN : okN N) (S p : Nat) : gr N S p < 2 ^ 45 := by
  unfold gr
  have := tot_lt hN (S ||| 2 ^ p) 0
  split <;> omega
theorem q_takeG {I : HI} {J : HJ} {N : NT} {g : Nat → Nat} (hc : cNet I N) (hN : okN N) (hg : ∀ p, J 42 p = lN (g p) ∨ nP N ≤ p) (hb : ∀ p, g p < 2 ^ 45) (hz : ∀ p, nP N ≤ p → g p = 0) {Post : Int64 → HJ → Prop} (h : ∀ J' : HJ, (∀ c, c ≠ 42 → J' c = J c) → (∀ p, J' 42 p = lN (updN g (amx g (nP N - 1)) 0 p) ∨ nP N ≤ p) → Post (lN (g (amx g (nP N - 1)))) J') : w_X0_takeGreatestGrowth I J Post := by
  have hP := hN.1
  have hg' : ∀ p, p < nP N → J 42 p = lN (g p) := fun p hp => by
    rcases hg p with q | q
    · exact q
    · omega
  refine lp_seq (fun i => (nI (amx g i), nI (i + 1))) (nP N - 1) (fun i hi K hK => ?_) (fun K => ?_)
  · have ha := amx_le g i
    have b1 := hb (i + 1)
    have b2 := hb (amx g i)
    show wb_X0_takeGreatestGrowth_4 I J Post _ K (nI (amx g i), nI (i + 1))
    unfold wb_X0_takeGreatestGrowth_4
    dsimp only
    rw [hc.1.1, nI_clamp (by omega : i + 1 < 2 ^ 31), nI_clamp (by omega : amx g i < 2 ^ 31), hg' (i + 1) (by omega), hg' (amx g i) (by omega), pk_lLE (by omega) (by omega), nI_1 (i + 1)]
    refine ⟨fun c => absurd c (nI_ge (by omega) (by omega)), fun _ => ⟨vp_in_nI (by omega) (by omega), vp_in_nI (by omega) (by omega), fun c => ?_, fun c => ?_⟩⟩
    · have : amx g (i + 1) = amx g i := by show (if g (amx g i) < g (i + 1) then i + 1 else amx g i) = _; rw [if_neg (by omega)]
      rw [this] at hK; exact hK
    · have : amx g (i + 1) = i + 1 := by show (if g (amx g i) < g (i + 1) then i + 1 else amx g i) = _; rw [if_pos (by omega)]
      rw [this] at hK; exact hK
  · have ha := amx_le g (nP N - 1)
    show wb_X0_takeGreatestGrowth_4 I J Post _ K (nI (amx g (nP N - 1)), nI (nP N - 1 + 1))
    unfold wb_X0_takeGreatestGrowth_4
    dsimp only
    rw [hc.1.1, nI_clamp (by omega : amx g (nP N - 1) < 2 ^ 31)]
    have fin : ∀ J3 : HJ, J3 = hJ J 42 (amx g (nP N - 1)) 0 → Post (lN (g (amx g (nP N - 1)))) J3 := fun J3 e3 => by
      subst e3
      refine h _ (fun c hc => hJ_ne hc) (fun p => ?_)
      rcases Nat.lt_or_ge p (nP N) with q | q
      · refine Or.inl ?_
        rw [hJ_at]
        unfold updN
        split
        · rfl
        · exact hg' p q
      · exact Or.inr q
    refine ⟨fun _ => ⟨fun c => ⟨vp_in_nI (by omega) (by omega), fun J3 e3 => ?_⟩, fun c => ⟨vp_in_nI (by omega) (by omega), vp_in_nI (by omega) (by omega), fun J3 e3 => ?_⟩⟩, fun c => absurd (nI_le (by omega) (by omega)) c⟩
    · have p0 : nP N = 0 := by
        rcases Nat.eq_zero_or_pos (nP N) with q | q
        · exact q
        · exact absurd c (nI_nle q (by omega))
      have := fin J3 e3
      rw [hz _ (by omega)] at this
      exact this
    · have p0 : 0 < nP N := by
        rcases Nat.eq_zero_or_pos (nP N) with q | q
        · rw [q] at c; exact absurd (by decide) c
        · exact q
      rw [hg' _ (by omega)]
      exact fin J3 e3
theorem q_withG {I : HI} {J : HJ} {N : NT} {S n : Nat} (hc : cNet I N) (hN : okN N) (hS : S < 2 ^ nP N) (hn : n < 100) (hJt : J 41 3 = lN (tot N S 0)) {Post : Int64 → HJ → Prop} (h : ∀ J' : HJ, (∀ c, c ≠ 42 → J' c = J c) → Post (lN (tot N S 0 + sm (ex (nP N) (gr N S)) n)) J') : w_X0_withGrowths (nI S) (nI n) I J Post := by
  have hP := hN.1
  have hS12 := two12 hN hS
  refine lp_inv (fun i (s : Int32 × HJ) => s.1 = nI i ∧ (∀ c, c ≠ 42 → s.2 c = J c) ∧ ∀ p, p < i → s.2 42 p = lN (gr N S p)) (nP N) (fun i s hi hq K hK => ?_) (fun s hq K => ?_) (0, J) ⟨rfl, fun _ _ => rfl, fun p hp => absurd hp (Nat.not_lt_zero _)⟩
  · obtain ⟨x3, J1⟩ := s
    obtain ⟨e1, g1, g2⟩ := hq
    dsimp only at e1 g1 g2
    subst e1
    have hSi : S ||| 2 ^ i < 2 ^ nP N := nb_or_lt hS (nb_one_lt hi)
    show wb_X0_withGrowths_2 I (nI S) (nI n) Post _ K (nI i, J1)
    unfold wb_X0_withGrowths_2
    dsimp only
    rw [hc.1.1, nb_one i (by omega), nb_or, nI_clamp (by omega : i < 2 ^ 31), nI_1, g1 41 (by decide), hJt]
    have fin : ∀ v, v = lN (gr N S i) → ∀ J3 : HJ, J3 = hJ J1 42 i v → K (nI (i + 1), J3) := fun v hv J3 e3 => by
      subst e3 hv
      refine hK _ ⟨rfl, fun c hc => (hJ_ne hc).trans (g1 c hc), fun p hp => ?_⟩
      show hJ J1 42 i _ 42 p = _
      rw [hJ_at]
      split
      · rename_i q; rw [q]
      · exact g2 p (by omega)
    refine ⟨fun c => absurd c (nI_ge hi (by omega)), fun _ => q_has (by omega) (by omega) ⟨fun b => q_total (C := 0) hc hN hSi ⟨vp_in_nI (by omega) (by omega), fin _ ?_⟩, fun b => ⟨vp_in_nI (by omega) (by omega), fin _ ?_⟩⟩⟩
    · rw [lN_sub (tot_mono hN hSi (ssb_or_l S _))]
      unfold gr
      rw [decide_eq_true hi, b]; rfl
    · unfold gr
      rw [b, Bool.not_true, Bool.and_false]; rfl
  · obtain ⟨x3, J1⟩ := s
    obtain ⟨e1, g1, g2⟩ := hq
    dsimp only at e1 g1 g2
    subst e1
    show wb_X0_withGrowths_2 I (nI S) (nI n) Post _ K (nI (nP N), J1)
    unfold wb_X0_withGrowths_2
    dsimp only
    rw [hc.1.1, g1 41 (by decide), hJt]
    refine ⟨fun _ => ?_, fun c => absurd (Int32.le_refl _) c⟩
    refine lp_inv (fun i (s : Int64 × Int32 × HJ) => s.1 = lN (tot N S 0 + sm (ex (nP N) (gr N S)) i) ∧ s.2.1 = nI i ∧ (∀ c, c ≠ 42 → s.2.2 c = J c) ∧ ∀ p, s.2.2 42 p = lN (gs (nP N) (gr N S) i p) ∨ nP N ≤ p) n (fun i s hi hq K hK => ?_) (fun s hq K => ?_) (lN (tot N S 0), 0, J1) ⟨rfl, rfl, g1, fun p => ?_⟩
    · obtain ⟨x3, x5, J2⟩ := s
      obtain ⟨a1, a2, f1, f2⟩ := hq
      dsimp only at a1 a2 f1 f2
      subst a1 a2
      show wb_X0_withGrowths_63 I (nI n) Post _ K (lN (tot N S 0 + sm (ex (nP N) (gr N S)) i), nI i, J2)
      refine ⟨fun c => absurd c (nI_ge hi (by omega)), fun _ => q_takeG hc hN f2 (fun p => Nat.lt_of_le_of_lt (gs_le _ _ _ _) (gr_lt hN S p)) (fun p hp => Nat.le_zero.mp (Nat.le_trans (gs_le _ _ _ _) (Nat.le_of_eq (gr_out hp)))) (fun J3 k1 k2 => hK _ ⟨?_, nI_1 i, fun c hc => (k1 c hc).trans (f1 c hc), k2⟩)⟩
      show lN _ + lN _ = _
      rw [lN_add, Nat.add_assoc]
      rfl
    · obtain ⟨x3, x5, J2⟩ := s
      obtain ⟨a1, a2, f1, f2⟩ := hq
      dsimp only at a1 a2 f1 f2
      subst a1 a2
      exact ⟨fun _ => h J2 f1, fun c => absurd (Int32.le_refl _) c⟩
    · rcases Nat.lt_or_ge p (nP N) with q | q
      · exact Or.inl (g2 p q)
      · exact Or.inr q
/-! the model's row of growths -/
def rowd (k : Nat) (a : Nat → Nat) : Prop := (∀ i j, i ≤ j → a j ≤ a i) ∧ ∀ j, k ≤ j → a j = 0
def inat (a : Nat → Nat) (i x : Nat) : Nat → Nat := fun j => if j < i then a j else if j = i then x else a (j - 1)
theorem cnt_in (a : Nat → Nat) (i x v n : Nat) (hi : i ≤ n) : cnt (fun j => decide (inat a i x j = v)) (n + 1) = cnt (fun j => decide (a j = v)) n + (if decide (x = v) then 1 else 0) := by
  induction n with
  | zero =>
    have : i = 0 := by omega
    subst this
    show 0 + (if decide (inat a 0 x 0 = v) then 1 else 0) = 0 + _
    unfold inat
    simp
  | succ n ih =>
    have h0 : ∀ f : Nat → Bool, ∀ n, cnt f (n + 1) = cnt f n + (if f n then 1 else 0) := fun _ _ => rfl
    rw [h0 _ (n + 1)]
    rcases Nat.lt_or_eq_of_le hi with q | q
    · rw [ih (by omega), h0 _ n]
      have : inat a i x (n + 1) = a n := by unfold inat; rw [if_neg (by omega), if_neg (by omega)]; rfl
      rw [this]; omega
    · have : inat a i x (n + 1) = x := by unfold inat; rw [if_neg (by omega), if_pos q.symm]
      rw [this]
      have e : cnt (fun j => decide (inat a i x j = v)) (n + 1) = cnt (fun j => decide (a j = v)) (n + 1) := cnt_congr (fun j hj => by unfold inat; rw [if_pos (by omega)])
      rw [e]
theorem rowd_in {k i x : Nat} {a : Nat → Nat} (h : rowd k a) (hi : i ≤ k) (hl : i = 0 ∨ x ≤ a (i - 1)) (hr : ∀ j, i ≤ j → j < k → a j < x) : rowd (k + 1) (inat a i x) := by
  have hr' : ∀ j, i ≤ j → a j ≤ x := fun j hj => by
    rcases Nat.lt_or_ge j k with q | q
    · exact Nat.le_of_lt (hr j hj q)
    · rw [h.2 j q]; omega
  have hl' : ∀ j, j < i → x ≤ a j := fun j hj => by
    rcases hl with q | q
    · omega
    · exact Nat.le_trans q (h.1 j (i - 1) (by omega))
  refine ⟨fun p q hpq => ?_, fun j hj => ?_⟩
  · unfold inat
    by_cases c1 : q < i
    · rw [if_pos c1, if_pos (by omega)]; exact h.1 p q hpq
    · rw [if_neg c1]
      by_cases c2 : q = i
      · rw [if_pos c2]
        by_cases c3 : p < i
        · rw [if_pos c3]; exact hl' p c3
        · rw [if_neg c3, if_pos (by omega)]; exact Nat.le_refl _
      · rw [if_neg c2]
        by_cases c3 : p < i
        · rw [if_pos c3]; exact h.1 p (q - 1) (by omega)
        · rw [if_neg c3]
          by_cases c4 : p = i
          · rw [if_pos c4]; exact hr' (q - 1) (by omega)
          · rw [if_neg c4]; exact h.1 (p - 1) (q - 1) (by omega)
  · unfold inat
    rw [if_neg (by omega), if_neg (by omega)]
    exact h.2 (j - 1) (by omega)
theorem nI_m1 (d : Nat) : nI (d + 1) + (-1) = nI d := (Int32.sub_eq_add_neg _ _).symm.trans (nI_pred d)
theorem q_insert {I : HI} {J : HJ} {k x : Nat} {a : Nat → Nat} (hk : k < 12) (hx : x < 2 ^ 45) (ha : ∀ j, a j < 2 ^ 45) (hd : rowd k a) (hJr : ∀ j, j < k → J 96 j = lN (a j)) {x1 x3 x7 : Int32} {x4 : Int64} {E45 : Int32 → HJ → Prop} {K45 : Int32 × Int32 × HJ → Prop} {Post : Bool → HI → HJ → Prop} {E : Int32 → HJ → Prop} (h : ∀ i (J' : HJ), i ≤ k → (∀ c, c ≠ 96 → J' c = J c) → rowd (k + 1) (inat a i x) → (∀ j, j < k + 1 → j ≠ i → J' 96 j = lN (inat a i x j)) → E (nI i) J') :
    ∃ n, lp (wb_X11_bound_87 I x1 x3 x4 (nI k) x7 (lN x) E45 K45 Post E) n (nI k, J) := by
  refine lp_inv (fun m (s : Int32 × HJ) => ∃ i, i + m = k ∧ s.1 = nI i ∧ (∀ c, c ≠ 96 → s.2 c = J c) ∧ (∀ j, j < i → s.2 96 j = lN (a j)) ∧ (∀ j, i ≤ j → j < k → s.2 96 (j + 1) = lN (a j) ∧ a j < x)) k (fun m s hm hq K hK => ?_) (fun s hq K => ?_) (nI k, J) ⟨k, rfl, rfl, fun _ _ => rfl, hJr, fun j h1 h2 => by omega⟩
  · obtain ⟨x10, J1⟩ := s
    obtain ⟨i, him, e1, g1, g2, g3⟩ := hq
    dsimp only at e1 g1 g2 g3
    subst e1
    obtain ⟨d, rfl⟩ : ∃ d, i = d + 1 := ⟨i - 1, by omega⟩
    have b1 := ha d
    show wb_X11_bound_87 I x1 x3 x4 (nI k) x7 (lN x) E45 K45 Post E K (nI (d + 1), J1)
    unfold wb_X11_bound_87
    dsimp only
    rw [nI_pred d, nI_clamp (by omega : d < 2 ^ 31), nI_clamp (by omega : d + 1 < 2 ^ 31), g2 d (by omega), pk_lLE (by omega) (by omega), nI_m1 d]
    refine ⟨fun c => absurd c (nI_nle (by omega) (by omega)), fun _ => ⟨vp_in_nI (by omega) (by omega), fun c => ?_, fun c => ⟨vp_in_nI (by omega) (by omega), vp_in_nI (by omega) (by omega), fun J3 e3 => ?_⟩⟩⟩
    · refine h (d + 1) J1 (by omega) g1 (rowd_in hd (by omega) (Or.inr c) (fun j h1 h2 => (g3 j h1 h2).2)) (fun j hj hne => ?_)
      unfold inat
      by_cases q : j < d + 1
      · rw [if_pos q]; exact g2 j q
      · rw [if_neg q, if_neg hne]
        have := (g3 (j - 1) (by omega) (by omega)).1
        rw [show j - 1 + 1 = j by omega] at this
        exact this
    · subst e3
      refine hK _ ⟨d, by omega, rfl, fun c hc => (hJ_ne hc).trans (g1 c hc), fun j hj => ?_, fun j h1 h2 => ?_⟩
      · show hJ J1 96 (d + 1) _ 96 j = _
        rw [hJ_at, if_neg (by omega)]; exact g2 j (by omega)
      · show hJ J1 96 (d + 1) _ 96 (j + 1) = _ ∧ _
        rw [hJ_at]
        by_cases q : j = d
        · subst q; rw [if_pos rfl]; exact ⟨rfl, by omega⟩
        · rw [if_neg (by omega)]; exact g3 j (by omega) h2
  · obtain ⟨x10, J1⟩ := s
    obtain ⟨i, him, e1, g1, g2, g3⟩ := hq
    dsimp only at e1 g1 g2 g3
    have i0 : i = 0 := by omega
    subst i0 e1
    refine ⟨fun _ => h 0 J1 (by omega) g1 (rowd_in hd (by omega) (Or.inl rfl) (fun j h1 h2 => (g3 j h1 h2).2)) (fun j hj hne => ?_), fun c => absurd (by decide) c⟩
    unfold inat
    rw [if_neg (by omega), if_neg hne]
    have := (g3 (j - 1) (by omega) (by omega)).1
    rw [show j - 1 + 1 = j by omega] at this
    exact this
theorem inat_lt {a : Nat → Nat} {i x M : Nat} (ha : ∀ j, a j < M) (hx : x < M) (j : Nat) : inat a i x j < M := by
  unfold inat
  split
  · exact ha j
  · split
    · exact hx
    · exact ha _
theorem sm_ext {f : Nat → Nat} {n m : Nat} (hnm : n ≤ m) (h : ∀ i, n ≤ i → i < m → f i = 0) : sm f m = sm f n := by
  induction m with
  | zero => rw [show n = 0 by omega]
  | succ m ih =>
    by_cases hm : n = m + 1
    · rw [hm]
    · show sm f m + f m = sm f n
      rw [ih (by omega) (fun i h1 h2 => h i h1 (by omega)), h m (by omega) (by omega), Nat.add_zero]
theorem ex_lt {N : NT} (hN : okN N) (S i : Nat) : ex (nP N) (gr N S) i < 2 ^ 45 := Nat.lt_of_le_of_lt (gs_le _ _ _ _) (gr_lt hN S _)
theorem op_bound {I : HI} {J : HJ} (h : Inv I J) (x y : Int32) : w_X10_bound x y I J (fun r I1 J1 => w_X11_bound x y I1 J1 (fun r' I2 J2 => r = r' ∧ Inv I2 J2)) := by
  obtain ⟨N, hC, h1, h2⟩ := h
  have hN := hC.1
  have hP := hN.1
  refine q_choice ?_
  cases b : ask x y
  · refine q_failsE (v := 5) (by decide) ⟨fun q => (by cases q), fun _ I1 e1 I2 e2 => q_asked ⟨fun q => (by rw [b] at q; cases q), fun _ => ?_⟩⟩
    subst e1 e2
    exact q_no ⟨rfl, fin_er hC (same_cS I 5) (cS_at I 5) (sameJ_rf J) h2⟩
  · obtain ⟨n, u, hn1, hn4, hu, rfl, rfl⟩ := ofAsk b
    have hc' := cNet_same hC.2.1 (same_cS I 0)
    have hm' := mNet_same hC.2.2.1 (sameI_tr (same_cS I 0) (same_m0 (cS I 0)))
    have g := gdl_ok hN n u n 0 0 (Nat.two_pow_pos _) (tot_00 hN).symm
    have gre : ∀ {Q : Int32 → Prop} {J : HJ}, Q (nI (gdl N n u n 0 0).1) → w_X11_greedyOf (nI n) (nI u) (m0 (cS I 0)) J Q := fun q => q_mGreedy hm' hN (by omega) (by omega) q
    refine q_fails0 ⟨fun _ => q_oneByOne hc' hN (by omega) (by omega) (fun J1 f1 f2 => ?_), fun q => (by cases q)⟩
    rw [g.2] at f2
    generalize hSS : (gdl N n u n 0 0).1 = S at g f2 gre
    have hS := g.1
    have hS12 := two12 hN hS
    have hsum : sm (ex (nP N) (gr N S)) n ≤ n * 2 ^ 45 := sm_le (fun i _ => Nat.le_of_lt (ex_lt hN S i))
    have hsum2 : n * 2 ^ 45 ≤ 4 * 2 ^ 45 := Nat.mul_le_mul_right _ hn4
    have ht := tot_lt hN S 0
    have hbig : tot N S 0 + sm (ex (nP N) (gr N S)) n < 2 ^ 62 := by omega
    refine q_withG hc' hN hS (by omega) f2 (fun J2 k1 => q_whole hc' hN (q_becomeL hbig (p16 hN).1 (p16 hN).2 (fun I1 e1 I2 e2 => q_asked ⟨fun _ => ?_, fun q => (by rw [b] at q; cases q)⟩)))
    subst e1 e2
    refine gre (q_mSpread (C := 0) hm' hN hS ?_)
    generalize hJ0 : cFr J2 (tot N S 0 + sm (ex (nP N) (gr N S)) n) (16 ^ nT N) = J0
    have hs0 : sameJ J J0 := by
      rw [← hJ0]
      refine sameJ_tr (fun c r => ?_) (same_cFr _ _ _)
      rw [k1 c (fun q => by subst q; cases r), f1 c (fun q => by subst q; cases r)]
    refine lp_inv (fun i (s : Int32 × Int32 × HJ) => ∃ k a, s.1 = nI k ∧ s.2.1 = nI i ∧ k ≤ i ∧ (∀ c, c ≠ 96 → s.2.2 c = J0 c) ∧ rowd k a ∧ (∀ j, a j < 2 ^ 45) ∧ (∀ j, j < k → s.2.2 96 j = lN (a j)) ∧ ∀ v, 0 < v → cnt (fun p => decide (gr N S p = v)) i = cnt (fun j => decide (a j = v)) k) (nP N) (fun i s hi hq K hK => ?_) (fun s hq K => ?_) (0, 0, J0) ⟨0, fun _ => 0, rfl, rfl, Nat.le_refl _, fun _ _ => rfl, ⟨fun _ _ _ => Nat.le_refl _, fun _ _ => rfl⟩, fun _ => Nat.two_pow_pos _, fun j hj => absurd hj (Nat.not_lt_zero _), fun _ _ => rfl⟩
    · obtain ⟨x6, x7, J3⟩ := s
      obtain ⟨k, a, a1, a2, hki, p1, hd, hal, hJr, hct⟩ := hq
      dsimp only at a1 a2 p1 hJr
      subst a1 a2
      have hSi : S ||| 2 ^ i < 2 ^ nP N := nb_or_lt hS (nb_one_lt hi)
      show wb_X11_bound_45 (m0 (cS I 0)) (nI n) (nI S) (lN (tot N S 0)) _ _ K (nI k, nI i, J3)
      unfold wb_X11_bound_45
      dsimp only
      rw [hm'.1.1, nb_one i (by omega), nb_or, nb_bit1 (by omega) (by omega), nI_1 i, nI_1 k]
      have cs : ∀ v, cnt (fun p => decide (gr N S p = v)) (i + 1) = cnt (fun p => decide (gr N S p = v)) i + (if decide (gr N S i = v) then 1 else 0) := fun _ => rfl
      refine ⟨fun c => absurd c (nI_ge hi (by omega)), fun _ => ⟨fun c => q_mSpread (C := 0) hm' hN hSi ?_, fun c => ?_⟩⟩
      · have eg : gr N S i = tot N (S ||| 2 ^ i) 0 - tot N S 0 := by unfold gr; rw [decide_eq_true hi, Bool.eq_false_iff.mpr c]; rfl
        rw [lN_sub (tot_mono hN hSi (ssb_or_l S _)), ← eg]
        refine q_insert (by omega) (gr_lt hN S i) hal hd hJr (fun m J4 hm4 r1 r2 r3 => ⟨vp_in_nI (by omega) (by omega), fun J5 e5 => ?_⟩)
        rw [nI_clamp (by omega)] at e5
        subst e5
        refine hK _ ⟨k + 1, inat a m (gr N S i), rfl, rfl, by omega, fun c hc => (hJ_ne hc).trans ((r1 c hc).trans (p1 c hc)), r2, inat_lt hal (gr_lt hN S i), fun j hj => ?_, fun v hv => ?_⟩
        · show hJ J4 96 m _ 96 j = _
          rw [hJ_at]
          by_cases q : j = m
          · subst q; rw [if_pos rfl]; unfold inat; rw [if_neg (by omega), if_pos rfl]
          · rw [if_neg q]; exact r3 j hj q
        · rw [cs, cnt_in a m _ v k hm4, hct v hv]
      · refine hK _ ⟨k, a, rfl, rfl, by omega, p1, hd, hal, hJr, fun v hv => ?_⟩
        have eg : gr N S i = 0 := by unfold gr; rw [c, Bool.not_true, Bool.and_false]; rfl
        rw [cs, eg, decide_eq_false (by omega : ¬ 0 = v), hct v hv]
        rfl
    · obtain ⟨x6, x7, J3⟩ := s
      obtain ⟨k, a, a1, a2, hki, p1, hd, hal, hJr, hct⟩ := hq
      dsimp only at a1 a2 p1 hJr
      subst a1 a2
      have hsam : sam (nP N) (gr N S) a 0 := fun v hv => by
        rw [hct v hv]
        have e : cnt (fun j => decide (a j = v)) (nP N) = cnt (fun j => decide (a j = v)) k := cnt_ext hki (fun j h1 _ => by rw [hd.2 j h1]; exact decide_eq_false (by omega))
        rw [← e]
        exact cnt_congr (fun j _ => by rw [Nat.zero_add])
      have hex := ex_eq (fun p hp => gr_out hp) (fun j hj => hd.2 j (by omega)) hd.1 hsam
      have hsm : ∀ m, sm (ex (nP N) (gr N S)) m = sm a m := fun m => sm_congr (fun i _ => (hex i).2.2)
      rw [hsm n] at hbig hJ0
      show wb_X11_bound_45 (m0 (cS I 0)) (nI n) (nI S) (lN (tot N S 0)) _ _ K (nI k, nI (nP N), J3)
      unfold wb_X11_bound_45
      dsimp only
      rw [hm'.1.1]
      refine ⟨fun _ => ?_, fun c => absurd (Int32.le_refl _) c⟩
      have fin : ∀ m, sm a m = sm a n → w_X11_whole (m0 (cS I 0)) J3 (fun r => w_X11_fraction (lN (tot N S 0 + sm a m)) r (m0 (cS I 0)) J3 (fun J' => true = true ∧ Inv (m0 (cS I 0)) J')) := fun m hmn => by
        rw [hmn]
        refine q_mWhole hm' hN (q_mFracL hbig (by have := (p16 hN).1; omega) (p16 hN).2 ⟨rfl, fin_ok hC (same_cS I 0) (cS_at I 0) (sameJ_tr hs0 (sameJ_tr (fun c r => p1 c (fun q => by subst q; cases r)) (same_mFr _ _ _))) ?_⟩)
        subst hJ0
        have e11 : J3 11 = cFr J2 (tot N S 0 + sm a n) (16 ^ nT N) 11 := p1 11 (by decide)
        have := frac_both (J := J2) (a := tot N S 0 + sm a n) (b := 16 ^ nT N)
        unfold mFr at this ⊢
        rw [hJ_ne (by decide : (11 : Nat) ≠ 72), hJ_ne (by decide : (11 : Nat) ≠ 72), hJ_at, if_neg (by decide), hJ_at, if_pos rfl, hJ_at, if_pos rfl] at this ⊢
        rw [e11]; exact this
      refine lp_inv (fun m (s : Int64 × Int32) => s = (lN (tot N S 0 + sm a m), nI m)) (min n k) (fun m s hm hq K hK => ?_) (fun s hq K => ?_) (lN (tot N S 0), 0) rfl
      · subst hq
        show wb_X11_bound_150 (m0 (cS I 0)) J3 (nI n) (nI k) _ _ K (lN (tot N S 0 + sm a m), nI m)
        unfold wb_X11_bound_150
        dsimp only
        rw [nI_clamp (by omega : m < 2 ^ 31), hJr m (by omega), lN_add, nI_1, Nat.add_assoc]
        exact ⟨fun c => absurd c (nI_ge (by omega) (by omega)), fun _ => ⟨fun c => absurd c (nI_ge (by omega) (by omega)), fun _ => ⟨vp_in_nI (by omega) (by omega), hK _ rfl⟩⟩⟩
      · subst hq
        show wb_X11_bound_150 (m0 (cS I 0)) J3 (nI n) (nI k) _ _ K (lN (tot N S 0 + sm a (min n k)), nI (min n k))
        unfold wb_X11_bound_150
        dsimp only
        have e : sm a (min n k) = sm a n := by
          rcases Nat.le_total n k with q | q
          · rw [Nat.min_eq_left q]
          · rw [Nat.min_eq_right q]; exact (sm_ext q (fun i h1 _ => hd.2 i h1)).symm
        refine ⟨fun _ => fin _ e, fun c => ⟨fun _ => fin _ e, fun c2 => ?_⟩⟩
        rcases Nat.le_total n k with q | q
        · rw [Nat.min_eq_left q] at c; exact absurd (Int32.le_refl _) c
        · rw [Nat.min_eq_right q] at c2; exact absurd (Int32.le_refl _) c2
