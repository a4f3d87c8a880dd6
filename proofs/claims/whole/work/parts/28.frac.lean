/-! fractions without a common divisor -/
theorem eu_half {u v : Nat} (h0 : 0 < v) (h : v < u) : 2 * (u % v) ≤ u := by
  have h1 : u % v < v := Nat.mod_lt _ h0
  have h2 : v * (u / v) + u % v = u := Nat.div_add_mod u v
  have h3 : 1 ≤ u / v := (Nat.one_le_div_iff h0).mpr (Nat.le_of_lt h)
  have h4 : v * 1 ≤ v * (u / v) := Nat.mul_le_mul_left v h3
  omega
theorem q_gcd {a b : Nat} (ha : a < 2 ^ 45) (hb : b < 2 ^ 45) (h0 : 0 < b) {Post : Int64 → Prop} (h : Post (lN (Nat.gcd a b))) : w_X1_commonDivisor (lN a) (lN b) Post := by
  refine lp_inv (fun i s => ∃ u v, s = (lN u, lN v, nI i) ∧ Nat.gcd u v = Nat.gcd a b ∧ u < 2 ^ 45 ∧ v < 2 ^ 45 ∧ ((i = 0 ∧ 0 < v) ∨ (v < u ∧ u * v * 2 ^ i ≤ 2 ^ 91))) 100 (fun i s hi hq K hK => ?_) (fun s hq K => ?_) (lN a, lN b, 0) ⟨a, b, rfl, rfl, ha, hb, Or.inl ⟨rfl, h0⟩⟩
  · obtain ⟨u, v, rfl, hg, hu, hv, hor⟩ := hq
    show wb_X1_commonDivisor_9 Post _ K (lN u, lN v, nI i)
    unfold wb_X1_commonDivisor_9
    dsimp only
    rw [show (0 : Int64) = lN 0 from rfl, pk_lEQ (by omega) (by omega), nI_1]
    refine ⟨fun c => absurd c (nI_ge (b := 100) hi (by omega)), fun _ => ⟨fun c => ?_, fun c => ⟨c, ?_⟩⟩⟩
    · subst c
      rw [Nat.gcd_zero_right] at hg
      show Post (lN u)
      rw [hg]; exact h
    · rw [pk_lRem (by omega) (by omega) (by omega)]
      have hv0 : 0 < v := by omega
      have hm : u % v < v := Nat.mod_lt _ hv0
      refine hK _ ⟨v, u % v, rfl, ?_, hv, by omega, Or.inr ⟨hm, ?_⟩⟩
      · rw [← hg, Nat.gcd_comm v, ← Nat.gcd_rec, Nat.gcd_comm]
      · rcases hor with ⟨rfl, -⟩ | ⟨h1, h2⟩
        · have h3 : v * (u % v) ≤ 2 ^ 45 * 2 ^ 45 := Nat.mul_le_mul (by omega) (by omega)
          calc v * (u % v) * 2 ^ (0 + 1) ≤ 2 ^ 45 * 2 ^ 45 * 2 ^ (0 + 1) := Nat.mul_le_mul_right _ h3
            _ ≤ 2 ^ 91 := by decide
        · have h3 := eu_half hv0 h1
          calc v * (u % v) * 2 ^ (i + 1) = (2 * (u % v)) * v * 2 ^ i := by rw [Nat.pow_succ, Nat.mul_comm v (u % v), Nat.mul_comm 2 (u % v), Nat.mul_right_comm (u % v) 2 v, Nat.mul_assoc (u % v * v) 2 (2 ^ i), Nat.mul_comm 2 (2 ^ i)]
            _ ≤ u * v * 2 ^ i := Nat.mul_le_mul_right _ (Nat.mul_le_mul_right _ h3)
            _ ≤ 2 ^ 91 := h2
  · obtain ⟨u, v, rfl, hg, hu, hv, hor⟩ := hq
    rcases hor with ⟨h1, -⟩ | ⟨h1, h2⟩
    · omega
    · have v0 : v = 0 := by
        rcases Nat.eq_zero_or_pos v with q | q
        · exact q
        · exfalso
          have h3 : 1 ≤ u * v := Nat.mul_pos (by omega) q
          have h4 : 1 * 2 ^ 100 ≤ u * v * 2 ^ 100 := Nat.mul_le_mul_right _ h3
          have h5 : (2 : Nat) ^ 91 < 1 * 2 ^ 100 := by decide
          omega
      subst v0
      rw [Nat.gcd_zero_right] at hg
      show wb_X1_commonDivisor_9 Post _ K (lN u, lN 0, nI 100)
      refine ⟨fun _ => ?_, fun c => absurd (Int32.le_refl _) c⟩
      show Post (lN u)
      rw [hg]; exact h
def cFr (J : HJ) (a b : Nat) : HJ := hJ (hJ J 11 0 (lN (a / Nat.gcd a b))) 11 1 (lN (b / Nat.gcd a b))
def mFr (J : HJ) (a b : Nat) : HJ := hJ (hJ J 72 2 (lN (a / Nat.gcd a b))) 72 3 (lN (b / Nat.gcd a b))
theorem q_become {I : HI} {J : HJ} {a b : Nat} (ha : a < 2 ^ 45) (hb : b < 2 ^ 45) (h0 : 0 < b) {Post : HJ → Prop} (h : Post (cFr J a b)) : w_X1_become (lN a) (lN b) I J Post := by
  have hg : 0 < Nat.gcd a b := Nat.gcd_pos_of_pos_right a h0
  have hg2 : Nat.gcd a b ≤ b := Nat.gcd_le_right a h0
  refine q_gcd ha hb h0 ?_
  rw [pk_lDiv (by omega) hg (by omega), pk_lDiv (by omega) hg (by omega)]
  have n0 : ¬ lN (Nat.gcd a b) = 0 := fun q => by have := (pk_lEQ (b := 0) (by omega) (by omega)).mp q; omega
  refine ⟨fun c => ?_, fun _ => ⟨fun c => ?_, fun _ => ⟨n0, fun J2 e2 => ⟨n0, fun J3 e3 => ?_⟩⟩⟩⟩
  · have := (pk_lLE (b := 0) (by omega) (by omega)).mp c; omega
  · have := (pk_lLE (b := 0) (by omega) (by omega)).mp c; omega
  · subst e2 e3; exact h
theorem q_mFrac {I : HI} {J : HJ} {a b : Nat} (ha : a < 2 ^ 45) (hb : b < 2 ^ 45) (h0 : 0 < b) {Post : HJ → Prop} (h : Post (mFr J a b)) : w_X11_fraction (lN a) (lN b) I J Post := by
  have hg : 0 < Nat.gcd a b := Nat.gcd_pos_of_pos_right a h0
  have hg2 : Nat.gcd a b ≤ b := Nat.gcd_le_right a h0
  have hab : (if 0 < lN a then lN a else -lN a) = lN a := by
    by_cases q : 0 < lN a
    · rw [if_pos q]
    · rw [if_neg q]
      have : a = 0 := by
        rcases Nat.eq_zero_or_pos a with z | z
        · exact z
        · exact absurd ((pk_lLT (a := 0) (by omega) (by omega)).mpr z) q
      subst this
      rfl
  unfold w_X11_fraction
  rw [hab]
  refine lp_by (fun s => ∃ u v, s = (lN u, lN v) ∧ Nat.gcd u v = Nat.gcd a b ∧ u < 2 ^ 45 ∧ v < 2 ^ 45) (fun s => s.2.toInt.toNat) (fun s K hs hK => ?_) (lN a, lN b) ⟨a, b, rfl, rfl, ha, hb⟩
  obtain ⟨u, v, rfl, hgu, hu, hv⟩ := hs
  show wb_X11_fraction_9 I J (lN a) (lN b) Post _ K (lN u, lN v)
  unfold wb_X11_fraction_9
  dsimp only
  rw [show (0 : Int64) = lN 0 from rfl, pk_lEQ (by omega) (by omega)]
  refine ⟨fun c => ?_, fun c => ⟨c, ?_⟩⟩
  · subst c
    rw [Nat.gcd_zero_right] at hgu
    subst hgu
    rw [pk_lDiv (by omega) hg (by omega), pk_lDiv (by omega) hg (by omega), pk_lEQ (by omega) (by omega)]
    refine ⟨by omega, fun J2 e2 => ⟨by omega, fun J3 e3 => ?_⟩⟩
    subst e2 e3
    exact h
  · have hv0 : 0 < v := by omega
    have hm : u % v < v := Nat.mod_lt _ hv0
    rw [pk_lRem (by omega) hv0 (by omega)]
    refine hK _ ⟨v, u % v, rfl, ?_, hv, by omega⟩ ?_
    · rw [← hgu, Nat.gcd_comm v, ← Nat.gcd_rec, Nat.gcd_comm]
    · show (lN (u % v)).toInt.toNat < (lN v).toInt.toNat
      rw [pk_lT (by omega), pk_lT (by omega)]
      omega
