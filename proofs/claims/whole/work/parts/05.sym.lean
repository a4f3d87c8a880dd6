/-! trays and rows of runs, by a number that isn't known -/
def kf_tr (c : Nat) : Prop := c = 2 ∨ c = 4 ∨ c = 6 ∨ c = 8
theorem st_0 {c : Nat} (h : kf_tr c) : kf_s c 8 0 (c + 1 + 2) := by rcases h with rfl | rfl | rfl | rfl <;> exact ⟨_, rfl, rfl⟩
theorem st_1 {c : Nat} (h : kf_tr c) : kf_s c 8 1 0 := by rcases h with rfl | rfl | rfl | rfl <;> exact ⟨_, rfl, rfl⟩
theorem st_2 {c : Nat} (h : kf_tr c) : kf_s c 8 2 0 := by rcases h with rfl | rfl | rfl | rfl <;> exact ⟨_, rfl, rfl⟩
theorem st_r {c : Nat} (h : kf_tr c) : kf_SH[c + 1]? = some (2, 40, [1]) := by rcases h with rfl | rfl | rfl | rfl <;> rfl
theorem st_ob {c : Nat} (h : kf_tr c) : kf_ob c RX8 := by rcases h with rfl | rfl | rfl | rfl <;> exact ⟨_, _, _, _, rfl, rfl⟩
theorem tr_of {i : Int32} (h : vp_in i 4) : kf_tr (2 + 2 * Int32.toNatClampNeg i) := by
  have h1 : Int32.toNatClampNeg i < 4 := Nat.not_le.mp fun q => h (Or.inr q)
  unfold kf_tr
  omega
theorem rn_at : ∀ k : Nat, k < 15 → kf_SH[56 + k]? = some (1, 12, [0]) := by decide +kernel
theorem rn_of {i : Int32} (h : vp_in i 15) : kf_SH[56 + 1 * Int32.toNatClampNeg i]? = some (1, 12, [0]) := by
  have h1 : Int32.toNatClampNeg i < 15 := Nat.not_le.mp fun q => h (Or.inr q)
  rw [Nat.one_mul]
  exact rn_at _ h1
theorem tw_out {x : Int32} {lo hi : Int} (h : ∀ v : Int, lo ≤ v → v ≤ hi → ¬ x.toInt = v) : x.toInt < lo ∨ hi < x.toInt := by
  by_cases h1 : x.toInt < lo
  · exact Or.inl h1
  · by_cases h2 : hi < x.toInt
    · exact Or.inr h2
    · exact absurd rfl (h x.toInt (by omega) (by omega))
theorem tw_ne {x k : Int32} {v : Int} (h : ¬ x = k) (hk : k.toInt = v) : ¬ x.toInt = v := fun q => h (Int32.toInt_inj.mp (by rw [hk]; exact q))
