/-! the calls, one by one: the class, then the model, answer alike and keep the invariant -/
theorem op_status {I : HI} {J : HJ} (h : Inv I J) : w_X10_status I J (fun r => w_X11_status I J (fun r' I2 => r = r' ∧ Inv I2 J)) := by
  obtain ⟨N, hC, h1, h2⟩ := h
  intro I1 e1
  subst e1
  have hs := same_mT I
  refine ⟨?_, N, Core_of hC hs (sameJ_rf J), ?_, h2⟩
  · rw [hI_at, if_neg (by decide)]; exact h1
  · rw [hI_ne (by decide), hI_at, if_neg (by decide)]; exact h1
theorem inv_mT {I : HI} {J : HJ} (h : Inv I J) : Inv (mT I) J := by
  obtain ⟨N, hC, h1, h2⟩ := h
  refine ⟨N, Core_of hC (same_mT I) (sameJ_rf J), ?_, h2⟩
  unfold mT
  rw [hI_ne (by decide), hI_at, if_neg (by decide)]; exact h1
theorem op_top {I : HI} {J : HJ} (h : Inv I J) : w_X10_top I J (fun r => w_X11_top I J (fun r' I2 => r = r' ∧ Inv I2 J)) := by
  intro I1 e1
  subst e1
  exact ⟨h.choose_spec.2.2.1, inv_mT h⟩
theorem op_bottom {I : HI} {J : HJ} (h : Inv I J) : w_X10_bottom I J (fun r => w_X11_bottom I J (fun r' I2 => r = r' ∧ Inv I2 J)) := by
  intro I1 e1
  subst e1
  exact ⟨h.choose_spec.2.2.2, inv_mT h⟩
theorem op_fault {I : HI} {J : HJ} (h : Inv I J) (x : Int32) : w_X10_fault x I J (fun r => w_X11_fault x I J (fun r' I2 => r = r' ∧ Inv I2 J)) := by
  have hf := h.choose_spec.1.2.2.2.2.2.2.1
  have hi := inv_mT h
  refine ⟨fun c => ⟨fun c2 I1 e1 => ⟨fun _ => ⟨fun _ => ?_, fun q => absurd q c2⟩, fun q => absurd q c⟩, fun c2 I1 e1 => ⟨fun _ => ⟨fun q => absurd c2 q, fun _ => ?_⟩, fun q => absurd q c⟩⟩, fun c I1 e1 => ⟨fun q => absurd c q, fun _ => ?_⟩⟩
  · subst e1; exact ⟨rfl, hi⟩
  · subst e1; refine ⟨?_, hi⟩; rw [hI_at, if_neg (by decide)]; exact hf.2
  · subst e1; refine ⟨?_, hi⟩; rw [hI_at, if_neg (by decide)]; exact hf.1
theorem oneOf_t {Post : Int32 → Prop} (h : Post 0) : w_X10_oneOf 1 1 Post := ⟨fun _ => ⟨fun c => absurd c (by decide), fun _ => h⟩, fun c => absurd c (by decide)⟩
theorem oneOf_f {Post : Int32 → Prop} (h : Post 2) : w_X10_oneOf 0 1 Post := ⟨fun c => absurd rfl c, fun _ => h⟩
theorem isBt_iff {x : Int32} {lo hi : Int} : isBt x lo hi = true ↔ lo ≤ x.toInt ∧ x.toInt ≤ hi := by unfold isBt; exact decide_eq_true_iff
theorem x_of {x k : Int32} (h : x.toInt = k.toInt) : x = k := Int32.toInt_inj.mp h
theorem op_many {I : HI} {J : HJ} (h : Inv I J) (x : Int32) : w_X10_many x I J (fun r I1 => w_X11_many x I1 J (fun r' I2 => r = r' ∧ Inv I2 J)) := by
  obtain ⟨N, hC, h1, h2⟩ := h
  have hm := hC.2.2.1
  have hc := hC.2.1
  refine q_between (a := 0) (b := 1) ⟨fun b => q_failsE (by decide) ⟨fun q => (by cases q), fun _ I1 e1 I2 e2 => ?_⟩, fun b => q_fails0 ⟨fun _ => ⟨fun c I1 e1 I2 e2 => ?_, fun c I1 e1 I2 e2 => ?_⟩, fun q => (by cases q)⟩⟩
  · subst e1 e2
    have b1 : ¬ (0 ≤ x.toInt ∧ x.toInt ≤ 1) := fun q => by rw [show isBt x (0 : Int32).toInt (1 : Int32).toInt = true from isBt_iff.mpr q] at b; cases b
    refine ⟨fun c => ⟨fun c2 => q_refused ⟨rfl, fin_er hC (same_cS I 5) (cS_at I 5) (sameJ_rf J) h2⟩, fun c2 => ?_⟩, fun c => ?_⟩
    · subst c2; exact absurd (by decide) b1
    · subst c; exact absurd (by decide) b1
  · subst e1 e2
    have b1 := isBt_iff.mp b
    have hx : x = 1 := by
      refine x_of ?_
      have e0 : (0 : Int32).toInt = 0 := by decide
      have e1 : (1 : Int32).toInt = 1 := by decide
      rw [e0, e1] at b1
      have : ¬ x.toInt = 0 := fun q => c (x_of (q.trans e0.symm))
      rw [e1]; omega
    refine ⟨fun _ => ⟨fun q => absurd hx q, fun _ => ⟨?_, fin_ok hC (same_cS I 0) (cS_at I 0) (sameJ_rf J) h2⟩⟩, fun q => absurd q c⟩
    have a1 := (cNet_same hc (same_cS I 0)).1.2.1
    have a2 := (mNet_same hm (sameI_tr (same_cS I 0) (same_m0 _))).1.2
    rw [a1]; exact a2.symm
  · subst e1 e2
    refine ⟨fun q => absurd c q, fun _ => ⟨?_, fin_ok hC (same_cS I 0) (cS_at I 0) (sameJ_rf J) h2⟩⟩
    have a1 := (cNet_same hc (same_cS I 0)).1.1
    have a2 := (mNet_same hm (sameI_tr (same_cS I 0) (same_m0 _))).1.1
    rw [a1]; exact a2.symm
theorem op_weight {I : HI} {J : HJ} (h : Inv I J) (x : Int32) : w_X10_weight x I J (fun r I1 => w_X11_weight x I1 J (fun r' I2 => r = r' ∧ Inv I2 J)) := by
  obtain ⟨N, hC, h1, h2⟩ := h
  have hN := hC.1
  have hT := hN.2.1
  refine q_areTies hC.2.1 hN ?_
  cases hb : isSet (nT N) x
  · refine oneOf_f (q_failsE (by decide) ⟨fun q => (by cases q), fun _ I1 e1 I2 e2 => ?_⟩)
    subst e1 e2
    refine q_isLot (mNet_same hC.2.2.1 (sameI_tr (same_cS I 2) (same_m0 _))) hN ?_
    rw [hb]
    exact ⟨fun _ => q_refused ⟨by decide, fin_er hC (same_cS I 2) (cS_at I 2) (sameJ_rf J) h2⟩, fun q => (by cases q)⟩
  · obtain ⟨L, hL, rfl⟩ := ofSet (by omega) hb
    have hL10 := two10 hN hL
    refine oneOf_t (q_fails0 ⟨fun _ => ⟨vp_in_nI (by omega) (by omega), fun I1 e1 I2 e2 => ?_⟩, fun q => (by cases q)⟩)
    subst e1 e2
    have hm' := mNet_same hC.2.2.1 (sameI_tr (same_cS I 0) (same_m0 _))
    refine q_isLot hm' hN ?_
    rw [hb]
    refine ⟨fun q => (by cases q), fun _ => q_mWeight hm' hN (by omega) ⟨?_, fin_ok hC (same_cS I 0) (cS_at I 0) (sameJ_rf J) h2⟩⟩
    rw [nI_clamp (by omega), hC.2.2.2.1 L hL]
theorem op_reached {I : HI} {J : HJ} (h : Inv I J) (x y : Int32) : w_X10_reached x y I J (fun r I1 => w_X11_reached x y I1 J (fun r' I2 => r = r' ∧ Inv I2 J)) := by
  obtain ⟨N, hC, h1, h2⟩ := h
  have hN := hC.1
  have hP := hN.1
  have hT := hN.2.1
  have hm2 := mNet_same hC.2.2.1 (sameI_tr (same_cS I 2) (same_m0 (cS I 2)))
  have bad : (isSet (nP N) x && isSet (nT N) y) = false → wj_X10_reached_27 I J x y (fun r I1 => w_X11_reached x y I1 J (fun r' I2 => r = r' ∧ Inv I2 J)) := by
    intro hb
    unfold wj_X10_reached_27 wj_X10_reached_28
    refine oneOf_f (q_failsE (by decide) ⟨fun q => (by cases q), fun _ I1 e1 I2 e2 => ?_⟩)
    subst e1 e2
    have fin : wj_X11_reached_35 (m0 (cS I 2)) J (fun r' I2 => (-1 : Int32) = r' ∧ Inv I2 J) := q_refused ⟨rfl, fin_er hC (same_cS I 2) (cS_at I 2) (sameJ_rf J) h2⟩
    refine q_areSeeds hm2 hN ⟨fun _ => fin, fun b => q_isLot hm2 hN ⟨fun _ => fin, fun b2 => ?_⟩⟩
    rw [b, b2] at hb; cases hb
  refine q_arePeople hC.2.1 hN ⟨fun b => bad (by rw [b]; rfl), fun b => q_areTies hC.2.1 hN ⟨fun b2 => bad (by rw [b2, Bool.and_false]), fun b2 => ?_⟩⟩
  obtain ⟨S, hS, rfl⟩ := ofSet (by omega) b
  obtain ⟨L, hL, rfl⟩ := ofSet (by omega) b2
  refine oneOf_t (q_fails0 ⟨fun _ => q_takers (cNet_same hC.2.1 (same_cS I 0)) hN hL hS (fun I1 e1 I2 e2 => ?_), fun q => (by cases q)⟩)
  subst e1 e2
  have hm' := mNet_same hC.2.2.1 (sameI_tr (same_cS I 0) (same_m0 (cS I 0)))
  refine q_areSeeds hm' hN ⟨fun q => (by rw [b] at q; cases q), fun _ => q_isLot hm' hN ⟨fun q => (by rw [b2] at q; cases q), fun _ => q_mReach hm' hN (by have := two10 hN hL; omega) hS ⟨rfl, fin_ok hC (same_cS I 0) (cS_at I 0) (sameJ_rf J) h2⟩⟩⟩
theorem op_backWalk {I : HI} {J : HJ} (h : Inv I J) (x y : Int32) : w_X10_backWalk x y I J (fun r I1 => w_X11_backWalk x y I1 J (fun r' I2 => r = r' ∧ Inv I2 J)) := by
  obtain ⟨N, hC, h1, h2⟩ := h
  have hN := hC.1
  have hP := hN.1
  have hT := hN.2.1
  have hm2 := mNet_same hC.2.2.1 (sameI_tr (same_cS I 2) (same_m0 (cS I 2)))
  have bad : (isIx (nP N) x && isSet (nT N) y) = false → wj_X10_backWalk_27 I J x y (fun r I1 => w_X11_backWalk x y I1 J (fun r' I2 => r = r' ∧ Inv I2 J)) := by
    intro hb
    unfold wj_X10_backWalk_27 wj_X10_backWalk_28
    refine oneOf_f (q_failsE (by decide) ⟨fun q => (by cases q), fun _ I1 e1 I2 e2 => ?_⟩)
    subst e1 e2
    have fin : wj_X11_backWalk_35 (m0 (cS I 2)) J (fun r' I2 => (-1 : Int32) = r' ∧ Inv I2 J) := q_refused ⟨rfl, fin_er hC (same_cS I 2) (cS_at I 2) (sameJ_rf J) h2⟩
    refine q_isOne hm2 hN ⟨fun _ => fin, fun b => q_isLot hm2 hN ⟨fun _ => fin, fun b2 => ?_⟩⟩
    rw [b, b2] at hb; cases hb
  refine q_isPerson hC.2.1 hN ⟨fun b => bad (by rw [b]; rfl), fun b => q_areTies hC.2.1 hN ⟨fun b2 => bad (by rw [b2, Bool.and_false]), fun b2 => ?_⟩⟩
  obtain ⟨p, hp, rfl⟩ := ofIx b
  obtain ⟨L, hL, rfl⟩ := ofSet (by omega) b2
  refine oneOf_t (q_fails0 ⟨fun _ => q_walked (cNet_same hC.2.1 (same_cS I 0)) hN hL hp (fun I1 e1 I2 e2 => ?_), fun q => (by cases q)⟩)
  subst e1 e2
  have hm' := mNet_same hC.2.2.1 (sameI_tr (same_cS I 0) (same_m0 (cS I 0)))
  refine q_isOne hm' hN ⟨fun q => (by rw [b] at q; cases q), fun _ => q_isLot hm' hN ⟨fun q => (by rw [b2] at q; cases q), fun _ => q_mWalk hm' hN (by have := two10 hN hL; omega) hp ⟨rfl, fin_ok hC (same_cS I 0) (cS_at I 0) (sameJ_rf J) h2⟩⟩⟩
theorem op_spread {I : HI} {J : HJ} (h : Inv I J) (x y : Int32) : w_X10_spread x y I J (fun r I1 J1 => w_X11_spread x y I1 J1 (fun r' I2 J2 => r = r' ∧ Inv I2 J2)) := by
  obtain ⟨N, hC, h1, h2⟩ := h
  have hN := hC.1
  have hP := hN.1
  have hT := hN.2.1
  have hm2 := mNet_same hC.2.2.1 (sameI_tr (same_cS I 2) (same_m0 (cS I 2)))
  have bad : (isSet (nP N) x && isSet (nT N) y) = false → wj_X10_spread_27 I J x y (fun r I1 J1 => w_X11_spread x y I1 J1 (fun r' I2 J2 => r = r' ∧ Inv I2 J2)) := by
    intro hb
    unfold wj_X10_spread_27 wj_X10_spread_28
    refine oneOf_f (q_failsE (by decide) ⟨fun q => (by cases q), fun _ I1 e1 I2 e2 => ?_⟩)
    subst e1 e2
    have fin : wj_X11_spread_26 (m0 (cS I 2)) J (fun r' I2 J2 => false = r' ∧ Inv I2 J2) := q_no ⟨rfl, fin_er hC (same_cS I 2) (cS_at I 2) (sameJ_rf J) h2⟩
    refine q_areSeeds hm2 hN ⟨fun _ => fin, fun b => q_isLot hm2 hN ⟨fun b2 => ?_, fun _ => fin⟩⟩
    rw [b, b2] at hb; cases hb
  refine q_arePeople hC.2.1 hN ⟨fun b => bad (by rw [b]; rfl), fun b => q_areTies hC.2.1 hN ⟨fun b2 => bad (by rw [b2, Bool.and_false]), fun b2 => ?_⟩⟩
  obtain ⟨S, hS, rfl⟩ := ofSet (by omega) b
  obtain ⟨C, hCl, rfl⟩ := ofSet (by omega) b2
  have hc' := cNet_same hC.2.1 (same_cS I 0)
  refine oneOf_t (q_fails0 ⟨fun _ => q_total hc' hN hS (q_whole hc' hN (q_become (tot_lt hN S C) (p16 hN).1 (p16 hN).2 (fun I1 e1 I2 e2 => ?_))), fun q => (by cases q)⟩)
  subst e1 e2
  have hm' := mNet_same hC.2.2.1 (sameI_tr (same_cS I 0) (same_m0 (cS I 0)))
  refine q_areSeeds hm' hN ⟨fun q => (by rw [b] at q; cases q), fun _ => q_isLot hm' hN ⟨fun _ => q_mSpread hm' hN hS (q_mWhole hm' hN (q_mFrac (tot_lt hN S C) (p16 hN).1 (p16 hN).2 ⟨rfl, fin_ok hC (same_cS I 0) (cS_at I 0) (sameJ_tr (same_cFr _ _ _) (same_mFr _ _ _)) frac_both⟩)), fun q => (by rw [b2] at q; cases q)⟩⟩
