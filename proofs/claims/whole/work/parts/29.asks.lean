/-! what calls ask first -/
def isSet (n : Nat) (x : Int32) : Bool := decide (0 ≤ x.toInt ∧ x.toInt < 2 ^ n)
def isIx (n : Nat) (x : Int32) : Bool := decide (0 ≤ x.toInt ∧ x.toInt < n)
theorem i0 : (0 : Int32).toInt = 0 := by decide
theorem sh5 : ∀ l, l < 32 → (((nI l).toUInt32 &&& Int32.toUInt32 31).toBitVec % 32).toNat = l := by decide +kernel
theorem ofSet {n : Nat} (hn : n ≤ 30) {x : Int32} (h : isSet n x = true) : ∃ S, S < 2 ^ n ∧ x = nI S := by
  have h1 := of_decide_eq_true h
  have hp : (2 : Int) ^ n ≤ 2 ^ 30 := by exact_mod_cast Nat.pow_le_pow_right (n := 2) (by decide) hn
  obtain ⟨j, hj, e⟩ := nI_of (x := x) (fun q => by have := Int32.lt_iff_toInt_lt.mp q; rw [i0] at this; omega)
  refine ⟨j, ?_, e⟩
  rw [e, nI_toInt hj] at h1
  exact_mod_cast h1.2
theorem ofIx {n : Nat} {x : Int32} (h : isIx n x = true) : ∃ k, k < n ∧ x = nI k := by
  have h1 := of_decide_eq_true h
  obtain ⟨j, hj, e⟩ := nI_of (x := x) (fun q => by have := Int32.lt_iff_toInt_lt.mp q; rw [i0] at this; omega)
  refine ⟨j, ?_, e⟩
  rw [e, nI_toInt hj] at h1
  omega
theorem toNat_set {n : Nat} (hn : n ≤ 30) (x : Int32) : isSet n x = decide (x.toBitVec.toNat / 2 ^ n = 0) := by
  have hp : (2 : Nat) ^ n ≤ 2 ^ 30 := Nat.pow_le_pow_right (by decide) hn
  have hpos : 0 < 2 ^ n := Nat.two_pow_pos n
  unfold isSet
  apply decide_eq_decide.mpr
  rw [Nat.div_eq_zero_iff_lt hpos]
  have e : x.toInt = x.toBitVec.toInt := rfl
  rw [e, BitVec.toInt_eq_toNat_cond]
  have hlt : x.toBitVec.toNat < 2 ^ 32 := x.toBitVec.isLt
  generalize x.toBitVec.toNat = m at hlt ⊢
  have hpi : ((2 : Int) ^ n) = ((2 ^ n : Nat) : Int) := by push_cast; rfl
  rw [hpi]
  generalize 2 ^ n = q at hp hpos
  split <;> omega
theorem ush0 {n : Nat} (hn : n ≤ 30) (x : Int32) : (UInt32.toInt32 (Int32.toUInt32 x >>> (Int32.toUInt32 (nI n) &&& Int32.toUInt32 31))) = 0 ↔ isSet n x = true := by
  rw [toNat_set hn, decide_eq_true_eq, ← pk_ushr x (nI n) n (sh5 n (by omega))]
  constructor
  · intro h; rw [h]; rfl
  · intro h
    apply Int32.toBitVec_inj.1
    apply BitVec.eq_of_toNat_eq
    rw [h]; rfl
theorem q_arePeople {I : HI} {J : HJ} {N : NT} {x : Int32} (hc : cNet I N) (hN : okN N) {Post : Bool → Prop} (h : Post (isSet (nP N) x)) : w_X4_arePeople x I J Post := by
  unfold w_X4_arePeople
  rw [hc.1.1, ush0 (by have := hN.1; omega)]
  refine ⟨fun c => ?_, fun c => ?_⟩
  · rw [Bool.eq_false_iff.mpr c] at h; exact h
  · rw [c] at h; exact h
theorem q_areTies {I : HI} {J : HJ} {N : NT} {x : Int32} (hc : cNet I N) (hN : okN N) {Post : Bool → Prop} (h : Post (isSet (nT N) x)) : w_X4_areTies x I J Post := by
  unfold w_X4_areTies
  rw [hc.1.2.1, ush0 (by have := hN.2.1; omega)]
  refine ⟨fun c => ?_, fun c => ?_⟩
  · rw [Bool.eq_false_iff.mpr c] at h; exact h
  · rw [c] at h; exact h
theorem q_isPerson {I : HI} {J : HJ} {N : NT} {x : Int32} (hc : cNet I N) (hN : okN N) {Post : Bool → Prop} (h : Post (isIx (nP N) x)) : w_X4_isPerson_12 x I J Post := by
  have hP := hN.1
  unfold w_X4_isPerson_12 isIx at *
  rw [hc.1.1, Int32.lt_iff_toInt_lt, i0, Int32.le_iff_toInt_le, nI_toInt (by omega)]
  refine ⟨fun c => ?_, fun c => ⟨fun c2 => ?_, fun c2 => ?_⟩⟩
  · rw [decide_eq_false (by omega)] at h; exact h
  · rw [decide_eq_false (by omega)] at h; exact h
  · rw [decide_eq_true (by omega)] at h; exact h
theorem q_isTie {I : HI} {J : HJ} {N : NT} {x : Int32} (hc : cNet I N) (hN : okN N) {Post : Bool → Prop} (h : Post (isIx (nT N) x)) : w_X4_isTie x I J Post := by
  have hT := hN.2.1
  unfold w_X4_isTie isIx at *
  rw [hc.1.2.1, Int32.lt_iff_toInt_lt, i0, Int32.le_iff_toInt_le, nI_toInt (by omega)]
  refine ⟨fun c => ?_, fun c => ⟨fun c2 => ?_, fun c2 => ?_⟩⟩
  · rw [decide_eq_false (by omega)] at h; exact h
  · rw [decide_eq_false (by omega)] at h; exact h
  · rw [decide_eq_true (by omega)] at h; exact h
/-- low ≤ x ≤ high -/
def isBt (x : Int32) (lo hi : Int) : Bool := decide (lo ≤ x.toInt ∧ x.toInt ≤ hi)
theorem q_between {x a b : Int32} {Post : Bool → Prop} (h : Post (isBt x a.toInt b.toInt)) : w_X10_isBetween x a b Post := by
  unfold w_X10_isBetween isBt at *
  rw [Int32.lt_iff_toInt_lt, Int32.lt_iff_toInt_lt]
  refine ⟨fun c => ?_, fun c => ⟨fun c2 => ?_, fun c2 => ?_⟩⟩
  · rw [decide_eq_false (by omega)] at h; exact h
  · rw [decide_eq_false (by omega)] at h; exact h
  · rw [decide_eq_true (by omega)] at h; exact h
theorem q_isIn {x : Int32} {a b : Int64} {Post : Bool → Prop} (h : Post (isBt x a.toInt b.toInt)) : w_X11_isIn (Int32.toInt64 x) a b Post := by
  unfold w_X11_isIn isBt at *
  rw [Int64.lt_iff_toInt_lt, Int64.lt_iff_toInt_lt, Int32.toInt_toInt64]
  refine ⟨fun c => ?_, fun c => ⟨fun c2 => ?_, fun c2 => ?_⟩⟩
  · rw [decide_eq_false (by omega)] at h; exact h
  · rw [decide_eq_false (by omega)] at h; exact h
  · rw [decide_eq_true (by omega)] at h; exact h
theorem j0 : (0 : Int64).toInt = 0 := by decide
theorem m1I {n : Nat} (h : n < 2 ^ 30) : (Int32.toInt64 (nI n - 1)).toInt = (n : Int) - 1 := by
  rw [Int32.toInt_toInt64, show (1 : Int32) = nI 1 from rfl, pk_sub_toInt h (by decide)]; rfl
theorem q_isOne {I : HI} {J : HJ} {N : NT} {x : Int32} (hm : mNet I N) (hN : okN N) {Post : Bool → Prop} (h : Post (isIx (nP N) x)) : w_X11_isOne x I J Post := by
  have hP := hN.1
  unfold w_X11_isOne
  rw [hm.1.1]
  refine q_isIn ?_
  rw [j0, m1I (by omega)]
  have : isBt x 0 ((nP N : Int) - 1) = isIx (nP N) x := by unfold isBt isIx; apply decide_eq_decide.mpr; omega
  rw [this]; exact h
theorem q_areSeeds {I : HI} {J : HJ} {N : NT} {x : Int32} (hm : mNet I N) (hN : okN N) {Post : Bool → Prop} (h : Post (isSet (nP N) x)) : w_X11_areSeeds x I J Post := by
  have hP := hN.1
  have hp : (2 : Nat) ^ nP N ≤ 2 ^ 12 := Nat.pow_le_pow_right (by decide) hP
  unfold w_X11_areSeeds
  rw [hm.1.1, nb_one _ (by omega)]
  refine q_isIn ?_
  rw [j0, m1I (by omega)]
  have : isBt x 0 (((2 ^ nP N : Nat) : Int) - 1) = isSet (nP N) x := by
    unfold isBt isSet
    apply decide_eq_decide.mpr
    have hpi : ((2 : Int) ^ nP N) = ((2 ^ nP N : Nat) : Int) := by push_cast; rfl
    rw [hpi]
    omega
  rw [this]; exact h
theorem q_isLot {I : HI} {J : HJ} {N : NT} {x : Int32} (hm : mNet I N) (hN : okN N) {Post : Bool → Prop} (h : Post (isSet (nT N) x)) : w_X11_isLot x I J Post := by
  have hT := hN.2.1
  have hp : (2 : Nat) ^ nT N ≤ 2 ^ 10 := Nat.pow_le_pow_right (by decide) hT
  unfold w_X11_isLot
  rw [hm.1.2, nb_one _ (by omega)]
  refine q_isIn ?_
  rw [j0, m1I (by omega)]
  have : isBt x 0 (((2 ^ nT N : Nat) : Int) - 1) = isSet (nT N) x := by
    unfold isBt isSet
    apply decide_eq_decide.mpr
    have hpi : ((2 : Int) ^ nT N) = ((2 ^ nT N : Nat) : Int) := by push_cast; rfl
    rw [hpi]
    omega
  rw [this]; exact h
/-- the status of a call that asks for what there is, then for numbers -/
theorem q_oneOf {x y : Int32} {a b : Bool} (hx : x = kb a) (hy : y = kb b) {Post : Int32 → Prop} (h : Post (if a then (if b then 0 else 5) else 2)) : w_X10_oneOf x y Post := by
  subst hx hy
  cases a <;> cases b <;> simp only [w_X10_oneOf, kb] <;> simp at h ⊢ <;> exact h
