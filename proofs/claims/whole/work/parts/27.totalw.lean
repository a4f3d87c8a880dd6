theorem cnt_sd {W t n : Nat} (ht : t < n) (h : W.testBit t = true) : cnt (fun i => (sd W (2 ^ t)).testBit i) n + 1 = cnt (fun i => W.testBit i) n := by
  induction n with
  | zero => omega
  | succ n ih =>
    show cnt _ n + (if (sd W (2 ^ t)).testBit n then 1 else 0) + 1 = cnt _ n + (if W.testBit n then 1 else 0)
    rw [sd_bit, Nat.testBit_two_pow]
    by_cases e : t = n
    · subst e
      have : cnt (fun i => (sd W (2 ^ t)).testBit i) t = cnt (fun i => W.testBit i) t := cnt_congr (fun i hi => by rw [sd_bit, Nat.testBit_two_pow]; simp; omega)
      rw [this, h]
      simp
    · have := ih (by omega)
      simp only [e, decide_false, Bool.not_false, Bool.and_true]
      omega
theorem cnt_zero {W n : Nat} (hW : W < 2 ^ n) (h : cnt (fun i => W.testBit i) n = 0) : W = 0 := by
  refine mk_ext hW (Nat.two_pow_pos n) (fun i hi => ?_)
  rw [Nat.zero_testBit]
  induction n with
  | zero => omega
  | succ n ih =>
    cases hb : W.testBit i
    · rfl
    · exfalso
      have : cnt (fun j => decide (j = i)) (n + 1) ≤ cnt (fun i => W.testBit i) (n + 1) := cnt_mono (fun j _ hj => by rw [of_decide_eq_true hj]; exact hb)
      have h1 : ∀ m, i < m → 1 ≤ cnt (fun j => decide (j = i)) m := by
        intro m
        induction m with
        | zero => intro q; omega
        | succ m ihm =>
          intro q
          show 1 ≤ cnt _ m + (if decide (m = i) then 1 else 0)
          by_cases e : m = i
          · simp [e]
          · have := ihm (by omega); omega
      have := h1 (n + 1) hi
      omega
theorem rf_le (N : NT) (S C lot : Nat) : rf N S C lot ≤ 16 := pc_le _
theorem q_totalFrom {I : HI} {J : HJ} {N : NT} {S C : Nat} (hc : cNet I N) (hN : okN N) : ∀ (d X O Z W : Nat), PT N S C X O Z W → 11 ≤ cnt (fun t => O.testBit t) (nT N) + d → ∀ (Post : Int64 → Prop), Post (lN (FM N (rf N S C) O Z)) → w_X2_totalFrom d (nI X) (nI O) (nI W) (nI C) (lN (MZ N O Z)) (nI (cnt (fun t => O.testBit t) (nT N))) I J Post := by
  have hP := hN.1
  have hT := hN.2.1
  intro d
  induction d with
  | zero =>
    intro X O Z W _ hd
    have := cnt_le (fun t => O.testBit t) (nT N)
    omega
  | succ d ih =>
    intro X O Z W hPT hd Post h
    have hO10 := cnt_le (fun t => O.testBit t) (nT N)
    have hX : X < 4096 := two12 hN hPT.1.1
    have fin : ∀ (Z' sum : Nat), (FM N (rf N S C) O Z' = MZ N O Z' * pc X) → sum + FM N (rf N S C) O Z' = FM N (rf N S C) O Z → w_J6_bitCount_0f7a4 (nI X) (fun r => Post (lN sum + lN (MZ N O Z') * Int32.toInt64 r)) := by
      intro Z' sum e1 e2
      refine q_bc hX ?_
      rw [nI_l (by have := pc_le X; omega), lN_mul, lN_add, ← e1, e2]
      exact h
    show ∃ n, lp (wb_X2_totalFrom_13 (w_X2_totalFrom d) I J (nI X) (nI O) (nI C) (nI (cnt (fun t => O.testBit t) (nT N))) Post (fun x8 x10 => w_J6_bitCount_0f7a4 (nI X) (fun r => Post (x8 + x10 * Int32.toInt64 r)))) n (0, lN (MZ N O Z), nI W, 0)
    refine lp_inv (fun i s => ∃ (Z' W' sum : Nat), s = (lN sum, lN (MZ N O Z'), nI W', nI i) ∧ PT N S C X O Z' W' ∧ sum + FM N (rf N S C) O Z' = FM N (rf N S C) O Z ∧ cnt (fun t => W'.testBit t) (nT N) + i ≤ 10) 10 (fun i s hi hq K hK => ?_) (fun s hq K => ?_) (0, lN (MZ N O Z), nI W, 0) ⟨Z, W, 0, rfl, hPT, by omega, by have := cnt_le (fun t => W.testBit t) (nT N); omega⟩
    · obtain ⟨Z', W', sum, rfl, hp, hsum, hcnt⟩ := hq
      obtain ⟨⟨hX', hO', hZ', hW'⟩, hp2⟩ := id hp
      have hM := MZ_le hN O Z'
      show wb_X2_totalFrom_13 _ I J (nI X) (nI O) (nI C) _ Post _ K (lN sum, lN (MZ N O Z'), nI W', nI i)
      unfold wb_X2_totalFrom_13
      dsimp only
      have w1 := two10 hN hW'
      refine ⟨fun c => absurd c (nI_ge (b := 10) hi (by omega)), fun _ => ⟨fun c => ?_, fun c => ⟨fun c2 => ?_, fun c2 => ?_⟩⟩⟩
      · have w0 : W' = 0 := (nI_eq (b := 0) (by omega) (by omega)).mp c
        subst w0
        exact fin Z' sum (PT_end hp) hsum
      · have m0 : MZ N O Z' = 0 := (pk_lEQ (b := 0) (by omega) (by omega)).mp c2
        refine fin Z' sum ?_ hsum
        have := FM_le (N := N) (O := O) (Z := Z') (rf_le N S C)
        rw [m0] at this ⊢
        omega
      · have w0 : W' ≠ 0 := fun q => c (by rw [q]; rfl)
        obtain ⟨-, -, lb, lm⟩ := low_ok w1 w0
        have lt : low W' < nT N := by
          rcases Nat.lt_or_ge (low W') (nT N) with q | q
          · exact q
          · rw [mk_out hW' q] at lb; cases lb
        generalize hlo : low W' = t at lb lm lt
        have ho := hN.2.2.2.1 t lt
        have wt0 := hp2.2.1 t lb
        obtain ⟨mp1, mp2⟩ := MZ_parts hN lt wt0.1 wt0.2.1
        have hcnt' : cnt (fun u => (sd W' (2 ^ t)).testBit u) (nT N) + (i + 1) ≤ 10 := by have := cnt_sd lt lb; omega
        have hXs : X ||| nS N < 2 ^ nP N := nb_or_lt hX' hN.2.2.1
        have hsplit := FM_split (N := N) (f := rf N S C) lt wt0.1 wt0.2.1
        refine q_nt w1 w0 ?_
        rw [hlo, nI_clamp (by omega : t < 2 ^ 31), (hc.2.2.1 t lt).2.1, (hc.2.2.1 t lt).2.2.1, hc.1.2.2, nb_or, nb_one t (by omega), nb_or, lm, nI_1, show (16 : Int64) = lN 16 from rfl, pk_lDiv (by omega) (by decide) (by decide), n16 ho.2.2.1, nI_l (by omega), lN_mul]
        refine ⟨vp_in_nI (by omega) (by omega), q_has (lt31 (by omega) hXs) (by omega) ⟨fun b => ?_, fun b => ⟨vp_in_nI (by omega) (by omega), fun z3 e3 => ⟨vp_in_nI (by omega) (by omega), fun c4 => ?_, fun c4 => ⟨fun c5 => ?_, fun c5 => q_isTold hc hN ho.2.1 ⟨fun b4 => ?_, fun b4 => ?_⟩⟩⟩⟩⟩⟩
        · refine hK _ ⟨Z', sd W' (2 ^ t), sum, rfl, PT_skip hp ?_, hsum, hcnt'⟩
          rw [Nat.testBit_or, Bool.or_eq_true] at b
          exact b
        · rw [← mp2] at e3
          subst e3
          have o0 : nOd N t = 0 := by have := (nI_leI (b := 0) (by omega) (by omega)).mp c4; omega
          refine hK _ ⟨Z' ||| 2 ^ t, sd W' (2 ^ t), sum, rfl, PT_not hp lt lb, ?_, hcnt'⟩
          have f0 := FM_le (N := N) (O := O ||| 2 ^ t) (Z := Z') (rf_le N S C)
          rw [mp1, o0] at f0
          omega
        · have := (nI_leI (a := 10) (by omega) (by omega)).mp c5
          have h1 := cnt_or (n := nT N) lt wt0.1
          have h2 := cnt_le (fun u => (O ||| 2 ^ t).testBit u) (nT N)
          omega
        all_goals
          rw [Nat.testBit_or, Bool.or_eq_false_iff] at b
          rw [← mp2] at e3
          subst e3
          obtain ⟨pt1, pt2⟩ := PT_told hN hp lt lb b.1 b.2
          have hdep : nI (cnt (fun u => O.testBit u) (nT N)) + 1 = nI (cnt (fun u => (O ||| 2 ^ t).testBit u) (nT N)) := by rw [nI_1, cnt_or lt wt0.1]
          have goon : ∀ (X2 W2 : Nat), PT N S C X2 (O ||| 2 ^ t) Z' W2 → w_X2_totalFrom d (nI X2) (nI (O ||| 2 ^ t)) (nI W2) (nI C) (lN (MZ N O Z' / 16) * Int32.toInt64 (nI (nOd N t))) (nI (cnt (fun u => O.testBit u) (nT N)) + 1) I J (fun r_5 => K (lN sum + r_5, lN (MZ N O (Z' ||| 2 ^ t)), nI (sd W' (2 ^ t)), nI (i + 1))) := by
            intro X2 W2 hPT2
            rw [nI_l (by omega), lN_mul, ← mp1, hdep]
            refine ih X2 (O ||| 2 ^ t) Z' W2 hPT2 (by have := cnt_or (n := nT N) lt wt0.1; omega) _ ?_
            rw [lN_add]
            exact hK _ ⟨Z' ||| 2 ^ t, sd W' (2 ^ t), _, rfl, PT_not hp lt lb, by omega, hcnt'⟩
          unfold wj_X2_totalFrom_145 wj_X2_totalFrom_172
          rw [nI_clamp (by omega : t < 2 ^ 31), (hc.2.2.1 t lt).2.2.1, nI_1 i]
        · refine ⟨fun _ => ⟨vp_in_nI (by omega) (by omega), goon X _ (pt1 (by have := of_decide_eq_false b4; omega))⟩, fun q => absurd (by rw [b4]; rfl) q⟩
        · rw [nI_clamp (by omega : nTo N t < 2 ^ 31), (hc.2.1 _ ho.2.1).2.2.2.2.2, nb_not, nb_or, nb_one _ (by omega : nTo N t < 31), nb_or]
          refine ⟨fun q => absurd q (by rw [b4]; decide), fun _ => ⟨vp_in_nI (by omega) (by omega), vp_in_nI (by omega) (by omega), goon _ _ (pt2 (of_decide_eq_true b4))⟩⟩
    · obtain ⟨Z', W', sum, rfl, hp, hsum, hcnt⟩ := hq
      have w0 : W' = 0 := cnt_zero hp.1.2.2.2 (by omega)
      subst w0
      show wb_X2_totalFrom_13 _ I J (nI X) (nI O) (nI C) _ Post _ K (lN sum, lN (MZ N O Z'), nI 0, nI 10)
      exact ⟨fun _ => fin Z' sum (PT_end hp) hsum, fun c => absurd (Int32.le_refl _) c⟩
theorem FM_all (N : NT) (f : Nat → Nat) : FM N f 0 0 = sm (fun lot => wt N lot * f lot) (2 ^ nT N) := by
  refine sm_congr (fun lot _ => ?_)
  rw [if_pos (lam_iff.mpr (fun t _ => ⟨fun h => (by rw [Nat.zero_testBit] at h; cases h), fun h => (by rw [Nat.zero_testBit] at h; cases h)⟩))]
theorem MZ_all {N : NT} (hN : okN N) : MZ N 0 0 = 16 ^ nT N := by
  have key : ∀ k, k ≤ nT N → prs (hf N 0 0) k = 16 ^ k := by
    intro k
    induction k with
    | zero => intro _; rfl
    | succ k ih =>
      intro hk
      show prs (hf N 0 0) k * _ = _
      have ho := (hN.2.2.2.1 k (by omega)).2.2.1
      have e : hf N 0 0 k false + hf N 0 0 k true = 16 := by unfold hf; simp; omega
      rw [ih (by omega), Nat.pow_succ, e]
  exact key _ (Nat.le_refl _)
theorem q_total {I : HI} {J : HJ} {N : NT} {S C : Nat} (hc : cNet I N) (hN : okN N) (hS : S < 2 ^ nP N) {Post : Int64 → Prop} (h : Post (lN (tot N S C))) : w_X2_total (nI S) (nI C) I J Post := by
  have hP := hN.1
  refine q_tiesFrom hc hN (lt31 (by omega) hS) (q_whole hc hN ?_)
  rw [nb_not]
  have h0 : cnt (fun t => (0 : Nat).testBit t) (nT N) = 0 := cnt_false (fun t _ => Nat.zero_testBit t)
  have hPT : PT N S C S 0 0 (sd (fromM N S) C) := by
    refine ⟨⟨hS, Nat.two_pow_pos _, Nat.two_pow_pos _, sd_lt (mk_lt _ _)⟩, ssb_rf S, fun t ht => ?_, fun lot _ _ => rch_sup hS, fun t ht a b => ?_, fun t ht => ?_, fun t ht => ?_, fun p hp _ _ => ?_⟩
    · rw [sd_bit, fromM_bit] at ht
      simp only [Bool.and_eq_true, decide_eq_true_eq, Bool.not_eq_true'] at ht
      exact ⟨Nat.zero_testBit t, Nat.zero_testBit t, ht.1.2, ht.2⟩
    · refine Or.inr (Or.inr (Or.inl ?_))
      rw [sd_bit, fromM_bit, a, b]; simp [ht]
    · rw [Nat.zero_testBit] at ht; cases ht
    · rw [Nat.zero_testBit] at ht; cases ht
    · rw [cnt_false (fun t _ => by rw [Nat.zero_testBit, Bool.and_false])]
      have := (hN.2.2.2.2.1 p hp).2.1
      omega
  have q := q_totalFrom (J := J) hc hN 14 S 0 0 (sd (fromM N S) C) hPT (by omega) (fun r => Post r) (by
    rw [FM_all]
    exact h)
  rw [h0, MZ_all hN] at q
  exact q
