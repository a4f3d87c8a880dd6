theorem pc_mono {n a b : Nat} (hn : n ≤ 16) (ha : a < 2 ^ n) (hb : b < 2 ^ n) (h : ssb a b) : pc a ≤ pc b := by
  rw [pc_cnt ha hn, pc_cnt hb hn]
  exact cnt_mono (fun i _ hi => h i hi)
theorem tot_mono {N : NT} (hN : okN N) {S S' C : Nat} (hS' : S' < 2 ^ nP N) (h : ssb S S') : tot N S C ≤ tot N S' C :=
  sm_mono (fun lot _ => Nat.mul_le_mul_left _ (pc_mono (n := nP N) (by have := hN.1; omega) (rch_lt _ _ _) (rch_lt _ _ _) (rch_mono hS' h)))
theorem op_adds {I : HI} {J : HJ} (h : Inv I J) (x y : Int32) : w_X10_adds x y I J (fun r I1 J1 => w_X11_adds x y I1 J1 (fun r' I2 J2 => r = r' ∧ Inv I2 J2)) := by
  obtain ⟨N, hC, h1, h2⟩ := h
  have hN := hC.1
  have hP := hN.1
  have hT := hN.2.1
  have hm2 := mNet_same hC.2.2.1 (sameI_tr (same_cS I 2) (same_m0 (cS I 2)))
  have bad : (isSet (nP N) x && isIx (nP N) y) = false → wj_X10_adds_27 I J x y (fun r I1 J1 => w_X11_adds x y I1 J1 (fun r' I2 J2 => r = r' ∧ Inv I2 J2)) := by
    intro hb
    unfold wj_X10_adds_27 wj_X10_adds_28
    refine oneOf_f (q_failsE (by decide) ⟨fun q => (by cases q), fun _ I1 e1 I2 e2 => ?_⟩)
    subst e1 e2
    have fin : wj_X11_adds_26 (m0 (cS I 2)) J (fun r' I2 J2 => false = r' ∧ Inv I2 J2) := q_no ⟨rfl, fin_er hC (same_cS I 2) (cS_at I 2) (sameJ_rf J) h2⟩
    refine q_areSeeds hm2 hN ⟨fun _ => fin, fun b => q_isOne hm2 hN ⟨fun b2 => ?_, fun _ => fin⟩⟩
    rw [b, b2] at hb; cases hb
  refine q_arePeople hC.2.1 hN ⟨fun b => bad (by rw [b]; rfl), fun b => q_isPerson hC.2.1 hN ⟨fun b2 => bad (by rw [b2, Bool.and_false]), fun b2 => ?_⟩⟩
  obtain ⟨S, hS, rfl⟩ := ofSet (by omega) b
  obtain ⟨p, hp, rfl⟩ := ofIx b2
  have hc' := cNet_same hC.2.1 (same_cS I 0)
  have hS' : S ||| 2 ^ p < 2 ^ nP N := nb_or_lt hS (nb_one_lt hp)
  have hmo := tot_mono hN (C := 0) hS' (ssb_or_l S (2 ^ p))
  have hlt := tot_lt hN (S ||| 2 ^ p) 0
  unfold wj_X10_adds_28
  rw [nb_one p (by omega), nb_or]
  refine oneOf_t (q_fails0 ⟨fun _ => q_total (C := 0) hc' hN hS' (q_total (C := 0) hc' hN hS (q_whole hc' hN ?_)), fun q => (by cases q)⟩)
  rw [lN_sub hmo]
  refine q_become (by omega) (p16 hN).1 (p16 hN).2 (fun I1 e1 I2 e2 => ?_)
  subst e1 e2
  have hm' := mNet_same hC.2.2.1 (sameI_tr (same_cS I 0) (same_m0 (cS I 0)))
  refine q_areSeeds hm' hN ⟨fun q => (by rw [b] at q; cases q), fun _ => q_isOne hm' hN ⟨fun _ => ?_, fun q => (by rw [b2] at q; cases q)⟩⟩
  rw [nb_one p (by omega), nb_or]
  refine q_mSpread (C := 0) hm' hN hS' (q_mSpread (C := 0) hm' hN hS (q_mWhole hm' hN ?_))
  rw [lN_sub hmo]
  exact q_mFrac (by omega) (p16 hN).1 (p16 hN).2 ⟨rfl, fin_ok hC (same_cS I 0) (cS_at I 0) (sameJ_tr (same_cFr _ _ _) (same_mFr _ _ _)) frac_both⟩
theorem ofBt {x : Int32} {n : Nat} (h : isBt x 0 n = true) : ∃ k, k ≤ n ∧ x = nI k := by
  have h1 := isBt_iff.mp h
  obtain ⟨k, hk, e⟩ := ofIx (n := n + 1) (x := x) (decide_eq_true ⟨h1.1, by omega⟩)
  exact ⟨k, by omega, e⟩
theorem op_person {I : HI} {J : HJ} (h : Inv I J) (x y : Int32) : w_X10_person x y I J (fun r I1 => w_X11_person x y I1 J (fun r' I2 => r = r' ∧ Inv I2 J)) := by
  obtain ⟨N, hC, h1, h2⟩ := h
  have hN := hC.1
  have hP := hN.1
  refine q_isPerson hC.2.1 hN (q_between (a := 0) (b := 4) (q_oneOf rfl rfl ?_))
  rw [show (0 : Int32).toInt = 0 from by decide, show (4 : Int32).toInt = 4 from by decide]
  cases b : isIx (nP N) x
  · refine q_failsE (v := 2) (by decide) ⟨fun q => (by cases q), fun _ I1 e1 I2 e2 => ?_⟩
    subst e1 e2
    refine q_isOne (mNet_same hC.2.2.1 (sameI_tr (same_cS I 2) (same_m0 _))) hN ⟨fun q => (by rw [b] at q; cases q), fun _ => q_refused ⟨rfl, fin_er hC (same_cS I 2) (cS_at I 2) (sameJ_rf J) h2⟩⟩
  · obtain ⟨p, hp, rfl⟩ := ofIx b
    cases b2 : isBt y 0 4
    · refine q_failsE (by decide) ⟨fun q => (by cases q), fun _ I1 e1 I2 e2 => ?_⟩
      subst e1 e2
      refine q_isOne (mNet_same hC.2.2.1 (sameI_tr (same_cS I 5) (same_m0 _))) hN ⟨fun _ => q_isIn (a := 0) (b := 4) ⟨fun _ => q_refused ⟨rfl, fin_er hC (same_cS I 5) (cS_at I 5) (sameJ_rf J) h2⟩, fun q => ?_⟩, fun q => (by rw [b] at q; cases q)⟩
      rw [show (0 : Int64).toInt = 0 from by decide, show (4 : Int64).toInt = 4 from by decide, b2] at q; cases q
    · obtain ⟨k, hk, rfl⟩ := ofBt (n := 4) b2
      have hc' := (cNet_same hC.2.1 (same_cS I 0)).2.1 p hp
      have hc0 := (cNet_same hC.2.1 (same_cS I 0)).1
      have hm' := mNet_same hC.2.2.1 (sameI_tr (same_cS I 0) (same_m0 (cS I 0)))
      have hmp := hm'.2.1 p hp
      have fin := fin_ok hC (same_cS I 0) (cS_at I 0) (sameJ_rf J) h2
      have mod : ∀ v : Int32, v = m0 (cS I 0) 77 (5 * p + k) → w_X11_person (nI p) (nI k) (cS I 0) J (fun r' I2 => v = r' ∧ Inv I2 J) := by
        intro v hv I1 e1 I2 e2
        subst e1 e2
        refine q_isOne hm' hN ⟨fun _ => q_isIn (a := 0) (b := 4) ⟨fun q => ?_, fun _ => ?_⟩, fun q => (by rw [b] at q; cases q)⟩
        · rw [show (0 : Int64).toInt = 0 from by decide, show (4 : Int64).toInt = 4 from by decide, b2] at q; cases q
        · rw [nI5, nI_clamp (by omega)]
          exact ⟨vp_in_nI (by omega) (by omega), hv, fin⟩
      refine q_fails0 ⟨fun _ => ?_, fun q => (by cases q)⟩
      rw [nI_clamp (by omega : p < 2 ^ 31)]
      have vin : vp_in (nI p) 12 := vp_in_nI (by omega) (by omega)
      rcases (show k = 0 ∨ k = 1 ∨ k = 2 ∨ k = 3 ∨ k = 4 by omega) with rfl | rfl | rfl | rfl | rfl
      · exact ⟨fun _ => ⟨vin, mod _ (by rw [hc'.1]; exact hmp.1.symm)⟩, fun c => absurd c (by decide), fun c => absurd c (by decide), fun c => absurd c (by decide), fun c => absurd rfl c⟩
      · exact ⟨fun c => absurd c (by decide), fun _ => ⟨vin, mod _ (by rw [hc'.2.1]; exact hmp.2.1.symm)⟩, fun c => absurd c (by decide), fun c => absurd c (by decide), fun _ c => absurd rfl c⟩
      · exact ⟨fun c => absurd c (by decide), fun c => absurd c (by decide), fun _ => ⟨vin, mod _ (by rw [hc'.2.2.1]; exact hmp.2.2.1.symm)⟩, fun c => absurd c (by decide), fun _ _ c => absurd rfl c⟩
      · refine ⟨fun c => absurd c (by decide), fun c => absurd c (by decide), fun c => absurd c (by decide), fun _ => ?_, fun _ _ _ c => absurd rfl c⟩
        rw [hc0.2.2]
        refine q_has (lt31 (by omega) hN.2.2.1) (by omega) ⟨fun b3 => mod _ ?_, fun b3 => mod _ ?_⟩
        · rw [hmp.2.2.2.1, b3]; rfl
        · rw [hmp.2.2.2.1, b3]; rfl
      · exact ⟨fun c => absurd c (by decide), fun c => absurd c (by decide), fun c => absurd c (by decide), fun c => absurd c (by decide), fun _ _ _ _ => ⟨vin, mod _ (by rw [hc'.2.2.2.1]; exact hmp.2.2.2.2.symm)⟩⟩
/-! draws -/
def dr (k t : Nat) : Nat := (k * 40503 + t * 9973 + 1299709) * 69069 / 2048 % 16
def drw (N : NT) (k : Nat) : Nat := mk (fun t => decide (dr k t < nOd N t)) (nT N)
theorem drw_lt (N : NT) (k : Nat) : drw N k < 2 ^ nT N := mk_lt _ _
theorem dr_eq {k t : Nat} (hk : k < 10000) (ht : t < 10) : (((((((Int32.toInt64 (nI k)) * 40503) + ((Int32.toInt64 (nI t)) * 9973)) + 1299709) * 69069) / 2048) - (((((((Int32.toInt64 (nI k)) * 40503) + ((Int32.toInt64 (nI t)) * 9973)) + 1299709) * 69069) / 2048) / 16) * 16) = lN (dr k t) := by
  rw [nI_l (by omega), nI_l (by omega), show (40503 : Int64) = lN 40503 from rfl, show (9973 : Int64) = lN 9973 from rfl, show (1299709 : Int64) = lN 1299709 from rfl, show (69069 : Int64) = lN 69069 from rfl, show (2048 : Int64) = lN 2048 from rfl, show (16 : Int64) = lN 16 from rfl, lN_mul, lN_mul, lN_add, lN_add, lN_mul, pk_lDiv (by omega) (by decide) (by decide)]
  exact pk_lRem (by omega) (by decide) (by decide)
theorem dr_lt (k t : Nat) : dr k t < 16 := Nat.mod_lt _ (by decide)
theorem q_drawn {I : HI} {J : HJ} {N : NT} {k : Nat} (hc : cNet I N) (hN : okN N) (hk : k < 10000) {Post : Int32 → Prop} (h : Post (nI (drw N k))) : w_X2_drawn (nI k) I J Post := by
  have hT := hN.2.1
  refine lp_seq (fun i => (nI (mk (fun t => decide (dr k t < nOd N t)) i), nI i)) (nT N) (fun i hi K hK => ?_) (fun K => ?_)
  · have ho := (hN.2.2.2.1 i hi).2.2.1
    have hd := dr_lt k i
    show wb_X2_drawn_4 I J (nI k) Post _ K (nI (mk _ i), nI i)
    unfold wb_X2_drawn_4
    dsimp only
    rw [hc.1.2.1, dr_eq hk (by omega), nI_clamp (by omega : i < 2 ^ 31), (hc.2.2.1 i hi).2.2.1, nI_l (by omega), nb_one i (by omega), nb_or, nI_1]
    refine ⟨fun c => absurd c (nI_ge hi (by omega)), fun _ z e => ⟨vp_in_nI (by omega) (by omega), fun c => ?_, fun c => ?_⟩⟩
    · subst e
      have c' := (pk_lLE (by omega) (by omega)).mp c
      have : mk (fun t => decide (dr k t < nOd N t)) (i + 1) = mk (fun t => decide (dr k t < nOd N t)) i := by
        show _ ||| (if decide (dr k i < nOd N i) then 2 ^ i else 0) = _
        rw [decide_eq_false (by omega)]; simp
      rw [this] at hK
      exact hK
    · subst e
      have c' : dr k i < nOd N i := by
        rcases Nat.lt_or_ge (dr k i) (nOd N i) with q | q
        · exact q
        · exact absurd ((pk_lLE (by omega) (by omega)).mpr q) c
      have : mk (fun t => decide (dr k t < nOd N t)) (i + 1) = mk (fun t => decide (dr k t < nOd N t)) i ||| 2 ^ i := by
        show _ ||| (if decide (dr k i < nOd N i) then 2 ^ i else 0) = _
        rw [decide_eq_true c']; rfl
      rw [this] at hK
      exact hK
  · show wb_X2_drawn_4 I J (nI k) Post _ K (nI (mk _ (nT N)), nI (nT N))
    unfold wb_X2_drawn_4
    dsimp only
    rw [hc.1.2.1]
    exact ⟨fun _ => h, fun c => absurd (Int32.le_refl _) c⟩
theorem i_or0 (x : Int32) : x ||| 0 = x := Int32.or_zero
theorem q_mLot {I : HI} {J : HJ} {N : NT} {k : Nat} (hm : mNet I N) (hN : okN N) (hk : k < 10000) {Post : Int32 → Prop} (h : Post (nI (drw N k))) : w_X11_lotOf (nI k) I J Post := by
  have hT := hN.2.1
  refine lp_seq (fun i => (nI (mk (fun t => decide (dr k t < nOd N t)) i), nI i)) (nT N) (fun i hi K hK => ?_) (fun K => ?_)
  · have ho := (hN.2.2.2.1 i hi).2.2.1
    have hd := dr_lt k i
    show wb_X11_lotOf_4 I J (nI k) Post _ K (nI (mk _ i), nI i)
    unfold wb_X11_lotOf_4
    dsimp only
    rw [hm.1.2, dr_eq hk (by omega), nI_clamp (by omega : i < 2 ^ 31), (hm.2.2.1 i hi).2.2.1, nI_l (by omega), nb_one i (by omega), nb_or, nI_1, i_or0]
    refine ⟨fun c => absurd c (nI_ge hi (by omega)), fun _ z e => ⟨vp_in_nI (by omega) (by omega), fun c => ?_, fun c => ?_⟩⟩
    · subst e
      have c' := (pk_lLE (by omega) (by omega)).mp c
      have : mk (fun t => decide (dr k t < nOd N t)) (i + 1) = mk (fun t => decide (dr k t < nOd N t)) i := by
        show _ ||| (if decide (dr k i < nOd N i) then 2 ^ i else 0) = _
        rw [decide_eq_false (by omega)]; simp
      rw [this] at hK
      exact hK
    · subst e
      have c' : dr k i < nOd N i := by
        rcases Nat.lt_or_ge (dr k i) (nOd N i) with q | q
        · exact q
        · exact absurd ((pk_lLE (by omega) (by omega)).mpr q) c
      have : mk (fun t => decide (dr k t < nOd N t)) (i + 1) = mk (fun t => decide (dr k t < nOd N t)) i ||| 2 ^ i := by
        show _ ||| (if decide (dr k i < nOd N i) then 2 ^ i else 0) = _
        rw [decide_eq_true c']; rfl
      rw [this] at hK
      exact hK
  · show wb_X11_lotOf_4 I J (nI k) Post _ K (nI (mk _ (nT N)), nI (nT N))
    unfold wb_X11_lotOf_4
    dsimp only
    rw [hm.1.2]
    exact ⟨fun _ => h, fun c => absurd (Int32.le_refl _) c⟩
theorem op_lot {I : HI} {J : HJ} (h : Inv I J) (x : Int32) : w_X10_lot x I J (fun r I1 => w_X11_lot x I1 J (fun r' I2 => r = r' ∧ Inv I2 J)) := by
  obtain ⟨N, hC, h1, h2⟩ := h
  have hN := hC.1
  refine q_between (a := 0) (b := 9999) ?_
  rw [show (0 : Int32).toInt = 0 from by decide, show (9999 : Int32).toInt = 9999 from by decide]
  refine ⟨fun b => q_failsE (by decide) ⟨fun q => (by cases q), fun _ I1 e1 I2 e2 => q_isIn (a := 0) (b := 9999) ?_⟩, fun b => q_fails0 ⟨fun _ => ?_, fun q => (by cases q)⟩⟩
  · subst e1 e2
    rw [show (0 : Int64).toInt = 0 from by decide, show (9999 : Int64).toInt = 9999 from by decide]
    exact ⟨fun _ => q_refused ⟨rfl, fin_er hC (same_cS I 5) (cS_at I 5) (sameJ_rf J) h2⟩, fun q => (by rw [b] at q; cases q)⟩
  · obtain ⟨k, hk, rfl⟩ := ofBt (n := 9999) b
    refine q_drawn (cNet_same hC.2.1 (same_cS I 0)) hN (by omega) (fun I1 e1 I2 e2 => q_isIn (a := 0) (b := 9999) ?_)
    subst e1 e2
    rw [show (0 : Int64).toInt = 0 from by decide, show (9999 : Int64).toInt = 9999 from by decide]
    exact ⟨fun q => (by rw [b] at q; cases q), fun _ => q_mLot (mNet_same hC.2.2.1 (sameI_tr (same_cS I 0) (same_m0 _))) hN (by omega) ⟨rfl, fin_ok hC (same_cS I 0) (cS_at I 0) (sameJ_rf J) h2⟩⟩
/-! meter -/
noncomputable def mtf (N : NT) (S k : Nat) : Bool := !decide (bwk N (k % nP N) (drw N k) &&& S = 0)
theorem n_rem {k P : Nat} (hk : k < 2 ^ 31) (h0 : 0 < P) (hP : P < 2 ^ 31) : nI k - (nI k / nI P) * nI P = nI (k % P) := pk_rem hk h0 hP
theorem q_metered {I : HI} {J : HJ} {N : NT} {S n : Nat} (hc : cNet I N) (hN : okN N) (h0 : 0 < nP N) (hS : S < 2 ^ nP N) (hn : n ≤ 500) {Post : Int32 → Prop} (h : Post (nI (cnt (mtf N S) n))) : w_X2_metered (nI S) (nI n) I J Post := by
  have hP := hN.1
  refine lp_seq (fun i => (nI (cnt (mtf N S) i), nI i)) n (fun i hi K hK => ?_) (fun K => ?_)
  · show wb_X2_metered_5 I J (nI S) (nI n) Post _ K (nI (cnt _ i), nI i)
    unfold wb_X2_metered_5
    dsimp only
    rw [hc.1.1, n_rem (by omega) h0 (by omega), nI_1]
    have hp : i % nP N < nP N := Nat.mod_lt _ h0
    refine ⟨fun c => absurd c (nI_ge hi (by omega)), fun _ => ⟨fun c => absurd c (nI_nle h0 (by omega)), fun _ => ⟨nI_ne0 h0 (by omega), q_drawn hc hN (by omega) (q_walked hc hN (drw_lt N i) hp ?_)⟩⟩⟩
    rw [nb_and, show (0 : Int32) = nI 0 from rfl, nI_eq (by have := two12 hN (and_lt (b := S) (bwk_lt N (i % nP N) (drw N i))); omega) (by omega)]
    refine ⟨fun c => ?_, fun c => ?_⟩
    · have : cnt (mtf N S) (i + 1) = cnt (mtf N S) i := by
        show _ + (if mtf N S i then 1 else 0) = _
        unfold mtf; simp [c]
      rw [this] at hK; exact hK
    · have : cnt (mtf N S) (i + 1) = cnt (mtf N S) i + 1 := by
        show _ + (if mtf N S i then 1 else 0) = _
        unfold mtf; simp [c]
      rw [this] at hK
      rw [nI_1]; exact hK
  · show wb_X2_metered_5 I J (nI S) (nI n) Post _ K (nI (cnt _ n), nI n)
    exact ⟨fun _ => h, fun c => absurd (Int32.le_refl _) c⟩
theorem op_meter {I : HI} {J : HJ} (h : Inv I J) (x y : Int32) : w_X10_meter x y I J (fun r I1 => w_X11_meter x y I1 J (fun r' I2 => r = r' ∧ Inv I2 J)) := by
  obtain ⟨N, hC, h1, h2⟩ := h
  have hN := hC.1
  have hP := hN.1
  refine q_arePeople hC.2.1 hN ⟨fun b => q_failsE (by decide) ⟨fun q => (by cases q), fun _ I1 e1 I2 e2 => ?_⟩, fun b => q_between (a := 1) (b := 500) ?_⟩
  · subst e1 e2
    exact q_areSeeds (mNet_same hC.2.2.1 (sameI_tr (same_cS I 2) (same_m0 _))) hN ⟨fun q => (by rw [b] at q; cases q), fun _ => q_refused ⟨rfl, fin_er hC (same_cS I 2) (cS_at I 2) (sameJ_rf J) h2⟩⟩
  · rw [show (1 : Int32).toInt = 1 from by decide, show (500 : Int32).toInt = 500 from by decide]
    have isI : ∀ {v : Bool → Prop}, v (isBt y 1 500) → w_X11_isIn (Int32.toInt64 y) 1 500 v := fun {v} q => q_isIn (a := 1) (b := 500) (by rw [show (1 : Int64).toInt = 1 from by decide, show (500 : Int64).toInt = 500 from by decide]; exact q)
    cases b2 : isBt y 1 500
    · refine ⟨fun c => absurd rfl c, fun _ => q_failsE (by decide) ⟨fun q => (by cases q), fun _ I1 e1 I2 e2 => ?_⟩⟩
      subst e1 e2
      exact q_areSeeds (mNet_same hC.2.2.1 (sameI_tr (same_cS I 5) (same_m0 _))) hN ⟨fun _ => isI ⟨fun q => (by rw [b2] at q; cases q), fun _ => q_refused ⟨rfl, fin_er hC (same_cS I 5) (cS_at I 5) (sameJ_rf J) h2⟩⟩, fun q => (by rw [b] at q; cases q)⟩
    · refine ⟨fun _ => ?_, fun c => absurd c (by decide)⟩
      rw [hC.2.1.1.1, show (0 : Int32) = nI 0 from rfl, nI_eq (by omega) (by omega)]
      refine ⟨fun c => q_fails0 ⟨fun _ => ?_, fun q => (by cases q)⟩, fun c => q_failsE (by decide) ⟨fun q => (by cases q), fun _ I1 e1 I2 e2 => ?_⟩⟩
      · obtain ⟨S, hS, rfl⟩ := ofSet (by omega) b
        obtain ⟨n, hn, rfl⟩ : ∃ n, n ≤ 500 ∧ y = nI n := by
          have q := isBt_iff.mp b2
          exact ofBt (n := 500) (isBt_iff.mpr ⟨by omega, q.2⟩)
        refine q_metered (cNet_same hC.2.1 (same_cS I 0)) hN (by omega) hS hn (fun I1 e1 I2 e2 => ?_)
        subst e1 e2
        have hm' := mNet_same hC.2.2.1 (sameI_tr (same_cS I 0) (same_m0 (cS I 0)))
        refine q_areSeeds hm' hN ⟨fun _ => isI ⟨fun _ => ⟨fun _ => ?_, fun q => ?_⟩, fun q => (by rw [b2] at q; cases q)⟩, fun q => (by rw [b] at q; cases q)⟩
        · refine lp_seq (fun i => (nI (cnt (mtf N S) i), nI i)) n (fun i hi K hK => ?_) (fun K => ?_)
          · show wb_X11_meter_61 _ J (nI S) (nI n) _ _ K (nI (cnt _ i), nI i)
            unfold wb_X11_meter_61
            dsimp only
            rw [show hI (hI (cS I 0) 72 1 0) 72 0 0 = m0 (cS I 0) from rfl, hm'.1.1, n_rem (by omega) (by omega) (by omega), nI_1, i_add0]
            have hp : i % nP N < nP N := Nat.mod_lt _ (by omega)
            refine ⟨fun c => absurd c (nI_ge hi (by omega)), fun _ => ⟨nI_ne0 (by omega) (by omega), q_mLot hm' hN (by omega) (q_mWalk hm' hN (by have := two10 hN (drw_lt N i); omega) hp ?_)⟩⟩
            rw [nb_and, show (0 : Int32) = nI 0 from rfl, nI_eq (by have := two12 hN (and_lt (b := S) (bwk_lt N (i % nP N) (drw N i))); omega) (by omega)]
            refine ⟨fun c => ?_, fun c => ?_⟩
            · have : cnt (mtf N S) (i + 1) = cnt (mtf N S) i := by
                show _ + (if mtf N S i then 1 else 0) = _
                unfold mtf; simp [c]
              rw [this] at hK; exact hK
            · have : cnt (mtf N S) (i + 1) = cnt (mtf N S) i + 1 := by
                show _ + (if mtf N S i then 1 else 0) = _
                unfold mtf; simp [c]
              rw [this] at hK
              rw [nI_1]; exact hK
          · exact ⟨fun _ => ⟨rfl, fin_ok hC (same_cS I 0) (cS_at I 0) (sameJ_rf J) h2⟩, fun c => absurd (Int32.le_refl _) c⟩
        · rw [show hI (hI (cS I 0) 72 1 0) 72 0 0 = m0 (cS I 0) from rfl, hm'.1.1] at q
          exact absurd q (nI_ne0 (by omega) (by omega))
      · subst e1 e2
        have hm' := mNet_same hC.2.2.1 (sameI_tr (same_cS I 8) (same_m0 (cS I 8)))
        refine q_areSeeds hm' hN ⟨fun _ => isI ⟨fun _ => ⟨fun q => ?_, fun _ => q_refused ⟨rfl, fin_er hC (same_cS I 8) (cS_at I 8) (sameJ_rf J) h2⟩⟩, fun q => (by rw [b2] at q; cases q)⟩, fun q => (by rw [b] at q; cases q)⟩
        rw [show hI (hI (cS I 8) 72 1 0) 72 0 0 = m0 (cS I 8) from rfl, hm'.1.1, c] at q
        exact absurd rfl q
