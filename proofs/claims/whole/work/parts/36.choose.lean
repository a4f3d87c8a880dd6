/-! what may be chosen -/
def cst (N : NT) (s : Nat) (p : Nat) : Nat := if s.testBit p then nCo N p else 0
def vcf (N : NT) (s v : Nat) (p : Nat) : Bool := s.testBit p && decide (nVl N p = v)
noncomputable def vlo (N : NT) (s : Nat) : Bool := @decide (∀ v, v < 4 → cnt (vcf N s v) (nP N) ≤ nMo N v) (Classical.propDecidable _)
noncomputable def may (N : NT) (s n u : Nat) : Bool := decide (pc s ≤ n) && (decide (sm (cst N s) (nP N) ≤ u) && vlo N s)
theorem cst_le {N : NT} (hN : okN N) (s : Nat) {i : Nat} (hi : i ≤ nP N) : sm (cst N s) i ≤ 1200 := by
  have hP := hN.1
  have h := sm_le (f := cst N s) (n := i) (m := 99) (fun p hp => by
    unfold cst
    have := (hN.2.2.2.2.1 p (by omega)).2.2.2.2
    split <;> omega)
  omega
theorem q_vlet {I : HI} {J : HJ} {N : NT} {s : Nat} (hc : cNet I N) (hN : okN N) (hs : s < 2 ^ 31) {Post : Bool → Prop} (h : Post (vlo N s)) : w_X0_valleysLet (nI s) I J Post := by
  have hP := hN.1
  refine lp_inv (fun i x => x = nI i ∧ ∀ v, v < i → cnt (vcf N s v) (nP N) ≤ nMo N v) 4 (fun i x hi hq K hK => ?_) (fun x hq K => ?_) 0 ⟨rfl, fun v hv => by omega⟩
  · obtain ⟨rfl, hq⟩ := hq
    refine ⟨fun c => absurd c (nI_ge (b := 4) hi (by omega)), fun _ => ?_⟩
    refine lp_seq (fun j => (nI (cnt (vcf N s i) j), nI j)) (nP N) (fun j hj K' hK' => ?_) (fun K' => ?_)
    · have ev := (hc.2.1 j hj).1
      have hv := (hN.2.2.2.2.1 j hj).1
      show wb_X0_valleysLet_12 I J (nI s) (nI i) _ K Post _ K' (nI (cnt _ j), nI j)
      unfold wb_X0_valleysLet_12
      dsimp only
      rw [hc.1.1, nI_clamp (by omega : j < 2 ^ 31), ev, nI_eq (by omega) (by omega), nI_1 j]
      refine ⟨fun c => absurd c (nI_ge hj (by omega)), fun _ => q_has hs (by omega) ⟨fun b => ?_, fun b => ⟨vp_in_nI (by omega) (by omega), fun c => ?_, fun c => ?_⟩⟩⟩
      · have : cnt (vcf N s i) (j + 1) = cnt (vcf N s i) j := by show _ + (if vcf N s i j then 1 else 0) = _; unfold vcf; rw [b]; rfl
        rw [this] at hK'; exact hK'
      · have : cnt (vcf N s i) (j + 1) = cnt (vcf N s i) j := by show _ + (if vcf N s i j then 1 else 0) = _; unfold vcf; simp [c]
        rw [this] at hK'; exact hK'
      · have : cnt (vcf N s i) (j + 1) = cnt (vcf N s i) j + 1 := by show _ + (if vcf N s i j then 1 else 0) = _; unfold vcf; simp [c, b]
        rw [this] at hK'; rw [nI_1]; exact hK'
    · have hm := hc.2.2.2 i hi
      have hm2 := hN.2.2.2.2.2 i hi
      have hc2 := cnt_le (vcf N s i) (nP N)
      show wb_X0_valleysLet_12 I J (nI s) (nI i) _ K Post _ K' (nI (cnt _ (nP N)), nI (nP N))
      unfold wb_X0_valleysLet_12
      dsimp only
      rw [hc.1.1, nI_clamp (by omega : i < 2 ^ 31), hm, nI_leI (a := cnt (vcf N s i) (nP N)) (by omega) (by omega), nI_1]
      refine ⟨fun _ => ⟨vp_in_nI (by omega) (by omega), fun c => hK _ ⟨rfl, fun v hv => ?_⟩, fun c => ?_⟩, fun c => absurd (Int32.le_refl _) c⟩
      · rcases Nat.lt_or_eq_of_le (Nat.lt_succ_iff.mp hv) with q | q
        · exact hq v q
        · rw [q]; exact c
      · have : vlo N s = false := @decide_eq_false _ (Classical.propDecidable _) (fun q => c (q i hi))
        rw [this] at h; exact h
  · obtain ⟨rfl, hq⟩ := hq
    refine ⟨fun _ => ?_, fun c => absurd (by decide) c⟩
    have : vlo N s = true := @decide_eq_true _ (Classical.propDecidable _) hq
    rw [this] at h; exact h
theorem q_may {I : HI} {J : HJ} {N : NT} {s n u : Nat} (hc : cNet I N) (hN : okN N) (hs : s < 4096) (hn : n < 100) (hu : u < 10000) {Post : Bool → Prop} (h : Post (may N s n u)) : w_X0_mayBeChosen (nI s) (nI n) (nI u) I J Post := by
  have hP := hN.1
  have hpc := pc_le s
  unfold may at h
  refine q_bc hs ?_
  rw [nI_leI (by omega) (by omega)]
  refine ⟨fun c => ?_, fun c => ?_⟩
  · rw [decide_eq_true c, Bool.true_and] at h
    refine lp_seq (fun j => (nI (sm (cst N s) j), nI j)) (nP N) (fun j hj K hK => ?_) (fun K => ?_)
    · have ev := (hc.2.1 j hj).2.2.2.1
      show wb_X0_mayBeChosen_16 I J (nI s) (nI u) Post _ K (nI (sm _ j), nI j)
      unfold wb_X0_mayBeChosen_16
      dsimp only
      rw [hc.1.1, nI_clamp (by omega : j < 2 ^ 31), ev, nI_add, nI_1]
      refine ⟨fun c => absurd c (nI_ge hj (by omega)), fun _ => q_has (by omega) (by omega) ⟨fun b => ?_, fun b => ⟨vp_in_nI (by omega) (by omega), ?_⟩⟩⟩
      · have : sm (cst N s) (j + 1) = sm (cst N s) j := by show _ + (if s.testBit j then nCo N j else 0) = _; rw [b]; rfl
        rw [this] at hK; exact hK
      · have : sm (cst N s) (j + 1) = sm (cst N s) j + nCo N j := by show _ + (if s.testBit j then nCo N j else 0) = _; rw [b]; rfl
        rw [this] at hK; exact hK
    · have hb := cst_le hN s (Nat.le_refl _)
      show wb_X0_mayBeChosen_16 I J (nI s) (nI u) Post _ K (nI (sm _ (nP N)), nI (nP N))
      unfold wb_X0_mayBeChosen_16
      dsimp only
      rw [hc.1.1, nI_ltI (by omega) (by omega)]
      refine ⟨fun _ => ⟨fun c => ?_, fun c => q_vlet hc hN (by omega) ?_⟩, fun c => absurd (Int32.le_refl _) c⟩
      · rw [decide_eq_false (by omega)] at h; exact h
      · rw [decide_eq_true (by omega), Bool.true_and] at h
        refine ⟨fun b => ?_, fun b => ?_⟩ <;> (rw [b] at h; exact h)
  · rw [decide_eq_false c, Bool.false_and] at h; exact h
theorem q_mValley {I : HI} {J : HJ} {N : NT} {p : Nat} (hm : mNet I N) (hN : okN N) (hp : p < nP N) {Post : Int32 → Prop} (h : Post (nI (nVl N p))) : w_X11_valley (nI p) I J Post := by
  have hP := hN.1
  have h1 : (5 * nI p) = nI (5 * p) := by rw [show (5 : Int32) = nI 5 from rfl, pk_mul]
  unfold w_X11_valley
  rw [h1, nI_clamp (by omega), (hm.2.1 p hp).1]
  exact ⟨vp_in_nI (by omega) (by omega), h⟩
theorem q_mCosts {I : HI} {J : HJ} {N : NT} {p : Nat} (hm : mNet I N) (hN : okN N) (hp : p < nP N) {Post : Int32 → Prop} (h : Post (nI (nCo N p))) : w_X11_costs (nI p) I J Post := by
  have hP := hN.1
  have h1 : (5 * nI p) + 4 = nI (5 * p + 4) := nI5 (k := 4)
  unfold w_X11_costs
  rw [h1, nI_clamp (by omega), (hm.2.1 p hp).2.2.2.2]
  exact ⟨vp_in_nI (by omega) (by omega), h⟩
theorem q_mMay {I : HI} {J : HJ} {N : NT} {s n u : Nat} (hm : mNet I N) (hN : okN N) (hs : s < 4096) (hn : n < 100) (hu : u < 10000) {Post : Bool → Prop} (h : Post (may N s n u)) : w_X11_mayBe (nI s) (nI n) (nI u) I J Post := by
  have hP := hN.1
  have hpc := pc_le s
  unfold may at h
  refine q_bc hs ?_
  rw [nI_leI (by omega) (by omega)]
  refine ⟨fun c => ?_, fun c => ?_⟩
  · rw [decide_eq_true c, Bool.true_and] at h
    refine lp_seq (fun j => (nI (sm (cst N s) j), nI j)) (nP N) (fun j hj K hK => ?_) (fun K => ?_)
    · show wb_X11_mayBe_16 I J (nI s) (nI u) Post _ K (nI (sm _ j), nI j)
      unfold wb_X11_mayBe_16
      dsimp only
      rw [hm.1.1, nb_bit1 (by omega) (by omega), i_add0, nI_1]
      refine ⟨fun c => absurd c (nI_ge hj (by omega)), fun _ => ⟨fun b => ?_, fun b => q_mCosts hm hN hj ?_⟩⟩
      · have : sm (cst N s) (j + 1) = sm (cst N s) j := by show _ + (if s.testBit j then nCo N j else 0) = _; rw [if_neg b]; rfl
        rw [this] at hK; exact hK
      · have : sm (cst N s) (j + 1) = sm (cst N s) j + nCo N j := by show _ + (if s.testBit j then nCo N j else 0) = _; rw [b]; rfl
        rw [this] at hK; rw [nI_add]; exact hK
    · have hb := cst_le hN s (Nat.le_refl _)
      show wb_X11_mayBe_16 I J (nI s) (nI u) Post _ K (nI (sm _ (nP N)), nI (nP N))
      unfold wb_X11_mayBe_16
      dsimp only
      rw [hm.1.1, nI_leI (a := sm (cst N s) (nP N)) (by omega) (by omega)]
      refine ⟨fun _ => ⟨fun c => ?_, fun c => ?_⟩, fun c => absurd (Int32.le_refl _) c⟩
      · rw [decide_eq_true (by omega), Bool.true_and] at h
        refine lp_inv (fun i x => x = nI i ∧ ∀ v, v < i → cnt (vcf N s v) (nP N) ≤ nMo N v) 4 (fun i x hi hq K hK => ?_) (fun x hq K => ?_) 0 ⟨rfl, fun v hv => by omega⟩
        · obtain ⟨rfl, hq⟩ := hq
          refine ⟨fun c => absurd c (nI_ge (b := 4) hi (by omega)), fun _ => ?_⟩
          refine lp_seq (fun j => (nI (cnt (vcf N s i) j), nI j)) (nP N) (fun j hj K' hK' => ?_) (fun K' => ?_)
          · have hv := (hN.2.2.2.2.1 j hj).1
            show wb_X11_mayBe_79 I J (nI s) (nI i) _ K Post _ K' (nI (cnt _ j), nI j)
            unfold wb_X11_mayBe_79
            dsimp only
            rw [hm.1.1, nb_bit1 (by omega) (by omega), i_add0, nI_1 j]
            refine ⟨fun c => absurd c (nI_ge hj (by omega)), fun _ => ⟨fun b => ?_, fun b => q_mValley hm hN hj ?_⟩⟩
            · have : cnt (vcf N s i) (j + 1) = cnt (vcf N s i) j := by show _ + (if vcf N s i j then 1 else 0) = _; unfold vcf; simp [b]
              rw [this] at hK'; exact hK'
            · rw [nI_eq (by omega) (by omega)]
              refine ⟨fun c => ?_, fun c => ?_⟩
              · have : cnt (vcf N s i) (j + 1) = cnt (vcf N s i) j := by show _ + (if vcf N s i j then 1 else 0) = _; unfold vcf; simp [c]
                rw [this] at hK'; exact hK'
              · have : cnt (vcf N s i) (j + 1) = cnt (vcf N s i) j + 1 := by show _ + (if vcf N s i j then 1 else 0) = _; unfold vcf; simp [c, b]
                rw [this] at hK'; rw [nI_1]; exact hK'
          · have hm1 := hm.2.2.2 i hi
            have hm2 := hN.2.2.2.2.2 i hi
            have hc2 := cnt_le (vcf N s i) (nP N)
            show wb_X11_mayBe_79 I J (nI s) (nI i) _ K Post _ K' (nI (cnt _ (nP N)), nI (nP N))
            unfold wb_X11_mayBe_79
            dsimp only
            rw [hm.1.1, nI_clamp (by omega : i < 2 ^ 31), hm1, nI_leI (a := cnt (vcf N s i) (nP N)) (by omega) (by omega), nI_1]
            refine ⟨fun _ => ⟨vp_in_nI (by omega) (by omega), fun c => hK _ ⟨rfl, fun v hv => ?_⟩, fun c => ?_⟩, fun c => absurd (Int32.le_refl _) c⟩
            · rcases Nat.lt_or_eq_of_le (Nat.lt_succ_iff.mp hv) with q | q
              · exact hq v q
              · rw [q]; exact c
            · have : vlo N s = false := @decide_eq_false _ (Classical.propDecidable _) (fun q => c (q i hi))
              rw [this] at h; exact h
        · obtain ⟨rfl, hq⟩ := hq
          refine ⟨fun _ => ?_, fun c => absurd (by decide) c⟩
          have : vlo N s = true := @decide_eq_true _ (Classical.propDecidable _) hq
          rw [this] at h; exact h
      · rw [decide_eq_false (by omega)] at h; exact h
  · rw [decide_eq_false c, Bool.false_and] at h; exact h
/-! one more: the first of those with the most -/
noncomputable def baB (N : NT) (S n u t i : Nat) : Bool := (!S.testBit i) && (may N (S ||| 2 ^ i) n u && decide (t < tot N (S ||| 2 ^ i) 0))
noncomputable def ba (N : NT) (S n u t : Nat) : Nat → Int32 × Nat
  | 0 => (-1, t)
  | i + 1 => if baB N S n u (ba N S n u t i).2 i then (nI i, tot N (S ||| 2 ^ i) 0) else ba N S n u t i
noncomputable def gdl (N : NT) (n u : Nat) : Nat → Nat → Nat → Nat × Nat
  | 0, S, t => (S, t)
  | k + 1, S, t => if (ba N S n u t (nP N)).1 = -1 then (S, (ba N S n u t (nP N)).2) else gdl N n u k (S ||| 2 ^ (ba N S n u t (nP N)).1.toNatClampNeg) (ba N S n u t (nP N)).2
theorem ba_ok {N : NT} (hN : okN N) (S n u t : Nat) {i : Nat} (hi : i ≤ nP N) : ((ba N S n u t i).1 = -1 ∧ (ba N S n u t i).2 = t) ∨ ∃ p, p < i ∧ (ba N S n u t i).1 = nI p ∧ (ba N S n u t i).2 = tot N (S ||| 2 ^ p) 0 := by
  induction i with
  | zero => exact Or.inl ⟨rfl, rfl⟩
  | succ i ih =>
    have st : ba N S n u t (i + 1) = if baB N S n u (ba N S n u t i).2 i then (nI i, tot N (S ||| 2 ^ i) 0) else ba N S n u t i := rfl
    rw [st]
    by_cases c : baB N S n u (ba N S n u t i).2 i = true
    · rw [if_pos c]
      exact Or.inr ⟨i, by omega, rfl, rfl⟩
    · rw [if_neg c]
      rcases ih (by omega) with q | ⟨p, hp, q⟩
      · exact Or.inl q
      · exact Or.inr ⟨p, by omega, q⟩
theorem gdl_ok {N : NT} (hN : okN N) (n u : Nat) : ∀ k S t, S < 2 ^ nP N → t = tot N S 0 → (gdl N n u k S t).1 < 2 ^ nP N ∧ (gdl N n u k S t).2 = tot N (gdl N n u k S t).1 0 := by
  have hP := hN.1
  intro k
  induction k with
  | zero => intro S t hS ht; exact ⟨hS, ht⟩
  | succ k ih =>
    intro S t hS ht
    unfold gdl
    rcases ba_ok hN S n u t (Nat.le_refl (nP N)) with ⟨q1, q2⟩ | ⟨p, hp, q1, q2⟩
    · rw [if_pos q1, q2]; exact ⟨hS, ht⟩
    · rw [q1, if_neg (nI_nm1 (by omega)), nI_clamp (by omega), q2]
      exact ih _ _ (nb_or_lt hS (nb_one_lt hp)) rfl
theorem tot_00 {N : NT} (hN : okN N) : tot N 0 0 = 0 := by
  have hr : ∀ L, rch N 0 L = 0 := fun L => by
    refine (rch_eq (Nat.two_pow_pos _) (ssb_rf 0) (fun p hp hs hn => ?_) (fun Y _ h => h)).symm
    have : gets N L 0 p = 0 := cnt_false (fun t _ => by unfold gf; simp)
    have := (hN.2.2.2.2.1 p hp).2.1
    omega
  have h0 : pc 0 = 0 := by decide
  have : ∀ n, sm (fun lot => wt N lot * pc (rch N 0 (sd lot 0))) n = 0 := fun n => by
    induction n with
    | zero => rfl
    | succ n ih => show sm _ n + _ * pc (rch N 0 _) = 0; rw [ih, hr, h0, Nat.mul_zero]
  exact this _
theorem or_self {S i : Nat} (hS : S < 2 ^ 31) (hi : i < 31) : nI S ||| nI (2 ^ i) = nI S ↔ S.testBit i = true := by
  rw [nb_or, nI_eq (Nat.or_lt_two_pow hS (nb_one_lt hi)) hS]
  constructor
  · intro q
    have := or_bit S i i
    rw [q] at this
    rw [this]; simp
  · intro q
    apply Nat.eq_of_testBit_eq
    intro j
    rw [or_bit]
    by_cases e : i = j
    · subst e; rw [q]; rfl
    · simp [e]
theorem q_bestToAdd {I : HI} {J : HJ} {N : NT} {S n u t : Nat} (hc : cNet I N) (hN : okN N) (hS : S < 2 ^ nP N) (hn : n < 100) (hu : u < 10000) (ht : t < 2 ^ 45) (hJt : J 41 3 = lN t) {Post : Int32 → HJ → Prop} (h : ∀ J' : HJ, (∀ c, c ≠ 41 → J' c = J c) → J' 41 3 = lN (ba N S n u t (nP N)).2 → Post (ba N S n u t (nP N)).1 J') : w_X0_bestToAdd (nI S) (nI n) (nI u) I J Post := by
  have hP := hN.1
  have hS12 := two12 hN hS
  have blt : ∀ i, i ≤ nP N → (ba N S n u t i).2 < 2 ^ 45 := fun i hi => by
    rcases ba_ok hN S n u t hi with ⟨-, q⟩ | ⟨p, -, -, q⟩
    · rw [q]; exact ht
    · rw [q]; exact tot_lt hN _ _
  refine lp_inv (fun i (s : Int32 × Int32 × HJ) => s.1 = (ba N S n u t i).1 ∧ s.2.1 = nI i ∧ (∀ c, c ≠ 41 → s.2.2 c = J c) ∧ s.2.2 41 3 = lN (ba N S n u t i).2) (nP N) (fun i s hi hq K hK => ?_) (fun s hq K => ?_) ((-1), 0, J) ⟨rfl, rfl, fun _ _ => rfl, hJt⟩
  · obtain ⟨x4, x5, J1⟩ := s
    obtain ⟨e1, e2, g1, g2⟩ := hq
    dsimp only at e1 e2 g1 g2
    subst e1 e2
    have b1 := blt i (by omega)
    have hSi : S ||| 2 ^ i < 2 ^ nP N := nb_or_lt hS (nb_one_lt hi)
    have b2 := tot_lt hN (S ||| 2 ^ i) 0
    have st : ∀ {v}, baB N S n u (ba N S n u t i).2 i = v → ba N S n u t (i + 1) = if v then (nI i, tot N (S ||| 2 ^ i) 0) else ba N S n u t i := fun {v} q => by show (if _ then _ else _) = _; rw [q]
    show wb_X0_bestToAdd_6 I (nI S) (nI n) (nI u) Post _ K ((ba N S n u t i).1, nI i, J1)
    unfold wb_X0_bestToAdd_6
    dsimp only
    rw [hc.1.1, nb_one i (by omega), or_self (by omega) (by omega), nI_1, nb_or, g2]
    unfold baB at st
    refine ⟨fun c => absurd c (nI_ge hi (by omega)), fun _ => ⟨fun c => ?_, fun c => q_may hc hN (two12 hN hSi) hn hu ⟨fun c2 => ?_, fun c2 => q_total (C := 0) hc hN hSi ?_⟩⟩⟩
    · have q := st (v := false) (by rw [c]; rfl)
      refine hK _ ⟨?_, rfl, g1, ?_⟩
      · rw [q]; rfl
      · rw [q]; exact g2
    · have q := st (v := false) (by rw [c2]; simp)
      refine hK _ ⟨?_, rfl, g1, ?_⟩
      · rw [q]; rfl
      · rw [q]; exact g2
    · rw [pk_lLE (by omega) (by omega)]
      refine ⟨fun c3 => ?_, fun c3 J3 e3 => ?_⟩
      · have q := st (v := false) (by rw [decide_eq_false (by omega)]; simp)
        refine hK _ ⟨?_, rfl, g1, ?_⟩
        · rw [q]; rfl
        · rw [q]; exact g2
      · have q := st (v := true) (by rw [decide_eq_true (by omega), c2, Bool.eq_false_iff.mpr c]; rfl)
        subst e3
        refine hK _ ⟨?_, rfl, fun c hc => ?_, ?_⟩
        · rw [q]; rfl
        · show hJ J1 41 3 _ c = _
          rw [hJ_ne hc]; exact g1 c hc
        · show hJ J1 41 3 _ 41 3 = _
          rw [hJ_at, if_pos rfl, q]; rfl
  · obtain ⟨x4, x5, J1⟩ := s
    obtain ⟨e1, e2, g1, g2⟩ := hq
    dsimp only at e1 e2 g1 g2
    subst e1 e2
    show wb_X0_bestToAdd_6 I (nI S) (nI n) (nI u) Post _ K ((ba N S n u t (nP N)).1, nI (nP N), J1)
    unfold wb_X0_bestToAdd_6
    dsimp only
    rw [hc.1.1]
    exact ⟨fun _ => h J1 g1 g2, fun c => absurd (Int32.le_refl _) c⟩
theorem q_oneByOne {I : HI} {J : HJ} {N : NT} {n u : Nat} (hc : cNet I N) (hN : okN N) (hn : n < 100) (hu : u < 10000) {Post : Int32 → HJ → Prop} (h : ∀ J' : HJ, (∀ c, c ≠ 41 → J' c = J c) → J' 41 3 = lN (gdl N n u n 0 0).2 → Post (nI (gdl N n u n 0 0).1) J') : w_X0_oneByOne (nI n) (nI u) I J Post := by
  have hP := hN.1
  intro J1 e1
  obtain ⟨R, hR⟩ : ∃ R, R = gdl N n u n 0 0 := ⟨_, rfl⟩
  rw [← hR] at h
  refine lp_inv (fun i (s : Int32 × Int32 × HJ) => ∃ S t, s.1 = nI S ∧ s.2.1 = nI i ∧ (∀ c, c ≠ 41 → s.2.2 c = J c) ∧ s.2.2 41 3 = lN t ∧ S < 2 ^ nP N ∧ t = tot N S 0 ∧ gdl N n u (n - i) S t = R) n (fun i s hi hq K hK => ?_) (fun s hq K => ?_) (0, 0, J1) ⟨0, 0, rfl, rfl, fun c hc => by rw [e1]; exact hJ_ne hc, by rw [e1]; exact (hJ_at J 41 3 3 0).trans (if_pos rfl), Nat.two_pow_pos _, (tot_00 hN).symm, hR.symm⟩
  · obtain ⟨x3, x4, J2⟩ := s
    obtain ⟨S, t, a1, a2, g1, g2, hS, ht, hg⟩ := hq
    dsimp only at a1 a2 g1 g2
    subst a1 a2
    have hS12 := two12 hN hS
    have tl : t < 2 ^ 45 := by rw [ht]; exact tot_lt hN _ _
    rw [show n - i = (n - (i + 1)) + 1 by omega] at hg
    unfold gdl at hg
    show wb_X0_oneByOne_10 I (nI n) (nI u) Post _ K (nI S, nI i, J2)
    unfold wb_X0_oneByOne_10
    dsimp only
    refine ⟨fun c => absurd c (nI_ge hi (by omega)), fun _ => q_bestToAdd hc hN hS hn hu tl g2 (fun J3 f1 f2 => ?_)⟩
    have f1' : ∀ c, c ≠ 41 → J3 c = J c := fun c hc => (f1 c hc).trans (g1 c hc)
    rcases ba_ok hN S n u t (Nat.le_refl (nP N)) with ⟨q1, q2⟩ | ⟨p, hp, q1, q2⟩
    · rw [if_pos q1] at hg
      refine ⟨fun c => absurd q1 c, fun _ => ?_⟩
      have e := congrArg Prod.fst hg
      have e' := congrArg Prod.snd hg
      dsimp only at e e'
      rw [e]
      exact h J3 f1' (by rw [f2, e'])
    · rw [q1, if_neg (nI_nm1 (by omega)), nI_clamp (by omega)] at hg
      rw [q1, nb_one p (by omega), nb_or, nI_1]
      refine ⟨fun _ => hK _ ⟨S ||| 2 ^ p, (ba N S n u t (nP N)).2, rfl, rfl, f1', f2, nb_or_lt hS (nb_one_lt hp), q2, hg⟩, fun c => absurd c (nI_nm1 (by omega))⟩
  · obtain ⟨x3, x4, J2⟩ := s
    obtain ⟨S, t, a1, a2, g1, g2, hS, ht, hg⟩ := hq
    dsimp only at a1 a2 g1 g2
    subst a1 a2
    rw [Nat.sub_self] at hg
    unfold gdl at hg
    refine ⟨fun _ => ?_, fun c => absurd (Int32.le_refl _) c⟩
    have e := congrArg Prod.fst hg
    have e' := congrArg Prod.snd hg
    dsimp only at e e'
    show Post (nI S) J2
    rw [e]
    exact h J2 g1 (by rw [g2, e'])
theorem q_mGreedy {I : HI} {J : HJ} {N : NT} {n u : Nat} (hm : mNet I N) (hN : okN N) (hn : n < 100) (hu : u < 10000) {Post : Int32 → Prop} (h : Post (nI (gdl N n u n 0 0).1)) : w_X11_greedyOf (nI n) (nI u) I J Post := by
  have hP := hN.1
  obtain ⟨R, hR⟩ : ∃ R, R = gdl N n u n 0 0 := ⟨_, rfl⟩
  rw [← hR] at h
  refine lp_inv (fun i (s : Int32 × Int64 × Int32) => ∃ S t, s = (nI S, lN t, nI i) ∧ S < 2 ^ nP N ∧ t = tot N S 0 ∧ gdl N n u (n - i) S t = R) n (fun i s hi hq K hK => ?_) (fun s hq K => ?_) (0, 0, 0) ⟨0, 0, rfl, Nat.two_pow_pos _, (tot_00 hN).symm, hR.symm⟩
  · obtain ⟨S, t, rfl, hS, ht, hg⟩ := hq
    have hS12 := two12 hN hS
    have tl : t < 2 ^ 45 := by rw [ht]; exact tot_lt hN _ _
    rw [show n - i = (n - (i + 1)) + 1 by omega] at hg
    unfold gdl at hg
    have blt : ∀ i, i ≤ nP N → (ba N S n u t i).2 < 2 ^ 45 := fun i hi => by
      rcases ba_ok hN S n u t hi with ⟨-, q⟩ | ⟨p, -, -, q⟩
      · rw [q]; exact tl
      · rw [q]; exact tot_lt hN _ _
    show wb_X11_greedyOf_8 I J (nI n) (nI u) Post _ K (nI S, lN t, nI i)
    unfold wb_X11_greedyOf_8
    dsimp only
    refine ⟨fun c => absurd c (nI_ge hi (by omega)), fun _ => ?_⟩
    refine lp_seq (fun j => ((ba N S n u t j).1, lN (ba N S n u t j).2, nI j)) (nP N) (fun j hj K' hK' => ?_) (fun K' => ?_)
    · have b1 := blt j (by omega)
      have hSi : S ||| 2 ^ j < 2 ^ nP N := nb_or_lt hS (nb_one_lt hj)
      have b2 := tot_lt hN (S ||| 2 ^ j) 0
      have st : ∀ {v}, baB N S n u (ba N S n u t j).2 j = v → ba N S n u t (j + 1) = if v then (nI j, tot N (S ||| 2 ^ j) 0) else ba N S n u t j := fun {v} q => by show (if _ then _ else _) = _; rw [q]
      show wb_X11_greedyOf_24 I J (nI n) (nI u) (nI S) (nI i) _ K Post _ K' ((ba N S n u t j).1, lN (ba N S n u t j).2, nI j)
      unfold wb_X11_greedyOf_24
      dsimp only
      rw [hm.1.1, nb_one j (by omega), nb_bit1 (by omega) (by omega), nI_1 j, nb_or]
      unfold baB at st
      refine ⟨fun c => absurd c (nI_ge hj (by omega)), fun _ => ⟨fun c => ?_, fun c => q_mMay hm hN (two12 hN hSi) hn hu ⟨fun c2 => q_mSpread (C := 0) hm hN hSi ?_, fun c2 => ?_⟩⟩⟩
      · have q := st (v := false) (by rw [c]; rfl)
        rw [q] at hK'; exact hK'
      · rw [pk_lLT (by omega) (by omega)]
        refine ⟨fun c3 => ?_, fun c3 => ?_⟩
        · have q := st (v := true) (by rw [decide_eq_true (by omega), c2, Bool.eq_false_iff.mpr c]; rfl)
          rw [q] at hK'; exact hK'
        · have q := st (v := false) (by rw [decide_eq_false (by omega)]; simp)
          rw [q] at hK'; exact hK'
      · have q := st (v := false) (by rw [c2]; simp)
        rw [q] at hK'; exact hK'
    · show wb_X11_greedyOf_24 I J (nI n) (nI u) (nI S) (nI i) _ K Post _ K' ((ba N S n u t (nP N)).1, lN (ba N S n u t (nP N)).2, nI (nP N))
      unfold wb_X11_greedyOf_24
      dsimp only
      rw [hm.1.1]
      refine ⟨fun _ => ?_, fun c => absurd (Int32.le_refl _) c⟩
      rcases ba_ok hN S n u t (Nat.le_refl (nP N)) with ⟨q1, q2⟩ | ⟨p, hp, q1, q2⟩
      · rw [if_pos q1] at hg
        rw [q1]
        refine ⟨fun c => absurd c (by decide), fun _ => ?_⟩
        have e := congrArg Prod.fst hg
        dsimp only at e
        rw [e]
        exact h
      · rw [q1, if_neg (nI_nm1 (by omega)), nI_clamp (by omega)] at hg
        rw [q1, nb_one p (by omega), nb_or, nI_1]
        exact ⟨fun _ => hK _ ⟨S ||| 2 ^ p, (ba N S n u t (nP N)).2, rfl, nb_or_lt hS (nb_one_lt hp), q2, hg⟩, fun c => absurd (nI_pos' (by omega)) c⟩
  · obtain ⟨S, t, rfl, hS, ht, hg⟩ := hq
    rw [Nat.sub_self] at hg
    unfold gdl at hg
    refine ⟨fun _ => ?_, fun c => absurd (Int32.le_refl _) c⟩
    have e := congrArg Prod.fst hg
    dsimp only at e
    show Post (nI S)
    rw [e]
    exact h
/-! how many, and the purse -/
def ask (x y : Int32) : Bool := isBt x 1 4 && isBt y 0 999
theorem q_choice {x y : Int32} {Post : Int32 → Prop} (h : Post (if ask x y then 0 else 5)) : w_X10_choiceStatus x y Post := by
  unfold ask at h
  refine q_between (a := 1) (b := 4) ?_
  rw [show (1 : Int32).toInt = 1 from by decide, show (4 : Int32).toInt = 4 from by decide]
  refine ⟨fun b => ?_, fun b => q_between (a := 0) (b := 999) ?_⟩
  · rw [b] at h; exact h
  · rw [show (0 : Int32).toInt = 0 from by decide, show (999 : Int32).toInt = 999 from by decide]
    rw [b, Bool.true_and] at h
    refine ⟨fun b => ?_, fun b => ?_⟩ <;> (rw [b] at h; exact h)
theorem q_asked {x y : Int32} {Post : Bool → Prop} (h : Post (ask x y)) : w_X11_isAsked x y Post := by
  unfold ask at h
  refine q_isIn (a := 1) (b := 4) ?_
  rw [show (1 : Int64).toInt = 1 from by decide, show (4 : Int64).toInt = 4 from by decide]
  refine ⟨fun b => ?_, fun b => q_isIn (a := 0) (b := 999) ?_⟩
  · rw [b] at h; exact h
  · rw [show (0 : Int64).toInt = 0 from by decide, show (999 : Int64).toInt = 999 from by decide]
    rw [b, Bool.true_and] at h
    refine ⟨fun b => ?_, fun b => ?_⟩ <;> (rw [b] at h; exact h)
theorem ofAsk {x y : Int32} (h : ask x y = true) : ∃ n u, 1 ≤ n ∧ n ≤ 4 ∧ u ≤ 999 ∧ x = nI n ∧ y = nI u := by
  unfold ask at h
  rw [Bool.and_eq_true] at h
  have q := isBt_iff.mp h.1
  obtain ⟨n, hn, rfl⟩ := ofBt (n := 4) (isBt_iff.mpr ⟨by omega, q.2⟩)
  obtain ⟨u, hu, rfl⟩ := ofBt (n := 999) h.2
  rw [nI_toInt (by omega)] at q
  exact ⟨n, u, by omega, hn, hu, rfl, rfl⟩
theorem op_greedy {I : HI} {J : HJ} (h : Inv I J) (x y : Int32) : w_X10_greedy x y I J (fun r I1 J1 => w_X11_greedy x y I1 J1 (fun r' I2 J2 => r = r' ∧ Inv I2 J2)) := by
  obtain ⟨N, hC, h1, h2⟩ := h
  have hN := hC.1
  refine q_choice ?_
  cases b : ask x y
  · refine q_failsE (v := 5) (by decide) ⟨fun q => (by cases q), fun _ I1 e1 I2 e2 => q_asked ⟨fun q => (by rw [b] at q; cases q), fun _ => ?_⟩⟩
    subst e1 e2
    exact q_refused ⟨rfl, fin_er hC (same_cS I 5) (cS_at I 5) (sameJ_rf J) h2⟩
  · obtain ⟨n, u, hn1, hn4, hu, rfl, rfl⟩ := ofAsk b
    have hc' := cNet_same hC.2.1 (same_cS I 0)
    have hm' := mNet_same hC.2.2.1 (sameI_tr (same_cS I 0) (same_m0 (cS I 0)))
    have g := gdl_ok hN n u n 0 0 (Nat.two_pow_pos _) (tot_00 hN).symm
    refine q_fails0 ⟨fun _ => q_oneByOne hc' hN (by omega) (by omega) (fun J1 f1 f2 => q_whole hc' hN ?_), fun q => (by cases q)⟩
    rw [f2, g.2]
    refine q_become (tot_lt hN _ _) (p16 hN).1 (p16 hN).2 (fun I1 e1 I2 e2 => q_asked ⟨fun _ => ?_, fun q => (by rw [b] at q; cases q)⟩)
    subst e1 e2
    refine q_mGreedy hm' hN (by omega) (by omega) (q_mSpread (C := 0) hm' hN g.1 (q_mWhole hm' hN (q_mFrac (tot_lt hN _ _) (p16 hN).1 (p16 hN).2 ⟨rfl, fin_ok hC (same_cS I 0) (cS_at I 0) (sameJ_tr ?_ (sameJ_tr (same_cFr _ _ _) (same_mFr _ _ _))) frac_both⟩)))
    exact fun c r => f1 c (fun q => by subst q; cases r)
