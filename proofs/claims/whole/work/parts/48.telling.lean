theorem wd_le (N : NT) (k : Nat) (hk : k ≤ 12) : wd N k ≤ 12 ^ k := by
  induction k with
  | zero => exact Nat.le_refl _
  | succ k ih =>
    show wd N k * (1 + cnt _ k) ≤ _
    rw [Nat.pow_succ]
    refine Nat.mul_le_mul (ih (by omega)) ?_
    have := cnt_le (fun q => decide (nVl N q = nVl N k)) k
    omega
theorem wd_lt {N : NT} (hN : okN N) : wd N (nP N) < 2 ^ 62 := by
  have h1 := wd_le N (nP N) hN.1
  have h2 : 12 ^ nP N ≤ 12 ^ 12 := Nat.pow_le_pow_right (by decide) hN.1
  have h3 : (12 : Nat) ^ 12 < 2 ^ 62 := by decide
  omega
theorem wd_pos {N : NT} (hN : okN N) : 0 < wd N (nP N) := by
  rw [wd_eq hN (Nat.le_refl _)]
  unfold F4
  exact Nat.mul_pos (Nat.mul_pos (Nat.mul_pos (fac_pos _) (fac_pos _)) (fac_pos _)) (fac_pos _)
theorem q_waysToDeal {I : HI} {J : HJ} {N : NT} (hc : cNet I N) (hN : okN N) {Post : Int32 → Prop} (h : Post (if wd N (nP N) ≤ 5040 then nI (wd N (nP N)) else -1)) : w_X6_waysToDeal I J Post := by
  have hP := hN.1
  refine lp_seq (fun i => (lN (wd N i), nI i)) (nP N) (fun i hi K hK => ?_) (fun K => ?_)
  · show wb_X6_waysToDeal_4 I J Post _ K (lN (wd N i), nI i)
    unfold wb_X6_waysToDeal_4
    dsimp only
    rw [hc.1.1, nI_1 i]
    refine ⟨fun z => absurd z (nI_ge hi (by omega)), fun _ => ?_⟩
    refine lp_seq (fun j => (nI (1 + cnt (fun q => decide (nVl N q = nVl N i)) j), nI j)) i (fun j hj K' hK' => ?_) (fun K' => ?_)
    · have vj := (hN.2.2.2.2.1 j (by omega)).1
      have vi := (hN.2.2.2.2.1 i hi).1
      show wb_X6_waysToDeal_21 I J (lN (wd N i)) (nI i) _ K Post _ K' (nI (1 + cnt _ j), nI j)
      unfold wb_X6_waysToDeal_21
      dsimp only
      rw [nI_clamp (by omega : j < 2 ^ 31), nI_clamp (by omega : i < 2 ^ 31), (hc.2.1 j (by omega)).1, (hc.2.1 i hi).1, nI_eq (by omega) (by omega), i_add0, nI_1 j]
      have st : cnt (fun q => decide (nVl N q = nVl N i)) (j + 1) = cnt (fun q => decide (nVl N q = nVl N i)) j + (if decide (nVl N j = nVl N i) then 1 else 0) := rfl
      rw [st] at hK'
      refine ⟨fun z => absurd z (nI_ge hj (by omega)), fun _ => ⟨vp_in_nI (by omega) (by omega), vp_in_nI (by omega) (by omega), fun z => ?_, fun z => ?_⟩⟩
      · rw [decide_eq_false z] at hK'; exact hK'
      · rw [decide_eq_true z] at hK'; rw [nI_1]; exact hK'
    · show wb_X6_waysToDeal_21 I J (lN (wd N i)) (nI i) _ K Post _ K' (nI (1 + cnt _ i), nI i)
      unfold wb_X6_waysToDeal_21
      dsimp only
      have := cnt_le (fun q => decide (nVl N q = nVl N i)) i
      rw [nI_l (by omega), lN_mul]
      exact ⟨fun _ => hK, fun z => absurd (Int32.le_refl _) z⟩
  · show wb_X6_waysToDeal_4 I J Post _ K (lN (wd N (nP N)), nI (nP N))
    unfold wb_X6_waysToDeal_4
    dsimp only
    have hl := wd_lt hN
    rw [hc.1.1, show (5040 : Int64) = lN 5040 from rfl, pk_lLE (by omega) (by omega), lN_i]
    refine ⟨fun _ => ⟨fun z => ?_, fun z => ?_⟩, fun z => absurd (Int32.le_refl _) z⟩
    · rw [if_pos z] at h; exact h
    · rw [if_neg z] at h; exact h
def pv (N : NT) : Nat → Nat
  | 0 => 1
  | v + 1 => pv N v * fac (vct N v (nP N))
theorem pv_4 {N : NT} (hN : okN N) : pv N 4 = wd N (nP N) := by
  rw [wd_eq hN (Nat.le_refl _)]
  show 1 * _ * _ * _ * _ = _
  rw [Nat.one_mul]; rfl
theorem q_mWays {I : HI} {J : HJ} {N : NT} {x1 : Int32} (hm : mNet I N) (hN : okN N) {Post : Int32 → HI → HJ → Prop} {E : Int64 → Prop} (h : E (lN (wd N (nP N)))) : ∃ n, lp (wb_X11_telling_37 I J x1 Post E) n (1, 0) := by
  have hP := hN.1
  refine lp_seq (fun v => (lN (pv N v), nI v)) 4 (fun v hv K hK => ?_) (fun K => ⟨fun _ => by rw [pv_4 hN]; exact h, fun z => absurd (by decide) z⟩)
  refine ⟨fun z => absurd z (nI_ge (b := 4) hv (by omega)), fun _ => ?_⟩
  refine lp_seq (fun j => (nI (vct N v j), nI j)) (nP N) (fun j hj K' hK' => ?_) (fun K' => ?_)
  · have vj := (hN.2.2.2.2.1 j (by omega)).1
    show wb_X11_telling_49 I J x1 (lN (pv N v)) (nI v) _ K Post _ K' (nI (vct N v j), nI j)
    unfold wb_X11_telling_49
    dsimp only
    rw [hm.1.1, i_add0, nI_1 j]
    refine ⟨fun z => absurd z (nI_ge hj (by omega)), fun _ => q_mValley hm hN hj ?_⟩
    rw [nI_eq (by omega) (by omega)]
    rw [vct_s] at hK'
    refine ⟨fun z => ?_, fun z => ?_⟩
    · rw [if_neg z] at hK'; exact hK'
    · rw [if_pos z] at hK'; rw [nI_1]; exact hK'
  · show wb_X11_telling_49 I J x1 (lN (pv N v)) (nI v) _ K Post _ K' (nI (vct N v (nP N)), nI (nP N))
    unfold wb_X11_telling_49
    dsimp only
    rw [hm.1.1, nI_1 v]
    refine ⟨fun _ => ?_, fun z => absurd (Int32.le_refl _) z⟩
    have hn : vct N v (nP N) ≤ nP N := cnt_le _ _
    rw [show lN (pv N v) = lN (pv N v * fac (0 + 1)) by rw [show fac (0 + 1) = 1 from rfl, Nat.mul_one]]
    refine lp_seq (fun k => (lN (pv N v * fac (k + 1)), nI (k + 2))) (vct N v (nP N) - 1) (fun k hk K2 hK2 => ?_) (fun K2 => ?_)
    · show wb_X11_telling_88 I J x1 (nI v) (nI (vct N v (nP N))) _ K Post _ K2 (lN (pv N v * fac (k + 1)), nI (k + 2))
      unfold wb_X11_telling_88
      dsimp only
      rw [nI_l (by omega), lN_mul, nI_1 (k + 2)]
      have e : pv N v * fac (k + 1) * (k + 2) = pv N v * fac (k + 1 + 1) := by
        show _ = pv N v * ((k + 1 + 1) * fac (k + 1))
        rw [Nat.mul_assoc, Nat.mul_comm (fac (k + 1))]
      rw [e]
      exact ⟨fun z => absurd z (nI_nlt (by omega) (by omega)), fun _ => hK2⟩
    · show wb_X11_telling_88 I J x1 (nI v) (nI (vct N v (nP N))) _ K Post _ K2 (lN (pv N v * fac (vct N v (nP N) - 1 + 1)), nI (vct N v (nP N) - 1 + 2))
      unfold wb_X11_telling_88
      dsimp only
      have e : fac (vct N v (nP N) - 1 + 1) = fac (vct N v (nP N)) := by
        rcases Nat.eq_zero_or_pos (vct N v (nP N)) with z | z
        · rw [z]; rfl
        · rw [show vct N v (nP N) - 1 + 1 = vct N v (nP N) by omega]
      rw [e]
      exact ⟨fun _ => hK, fun z => absurd (nI_lt (by omega) (by omega)) z⟩
theorem op_telling {I : HI} {J : HJ} (h : Inv I J) (x : Int32) : w_X10_telling x I J (fun r I1 J1 => w_X11_telling x I1 J1 (fun r' I2 J2 => r = r' ∧ Inv I2 J2)) := by
  obtain ⟨N, hC, h1, h2⟩ := h
  have hN := hC.1
  have hP := hN.1
  have hT := hN.2.1
  obtain ⟨r, H, hrn⟩ := rn_H hC.2.2.2.2.2.2.2.1
  have hr15 := (hrn I (sameI_rf I)).1
  have isR : ∀ {I' : HI} {v : Bool → Prop}, sameI I I' → v (isIx r x) → w_X11_isIn (Int32.toInt64 x) 0 (Int32.toInt64 ((I' 72 38) - 1)) v := fun {I'} {v} hs q => by
    rw [(hrn I' hs).2.2.1]
    refine q_isIn ?_
    rw [j0, m1I (by omega)]
    have : isBt x 0 ((r : Int) - 1) = isIx r x := by unfold isBt isIx; apply decide_eq_decide.mpr; omega
    rw [this]; exact q
  have bad : isIx r x = false → wj_X10_telling_35 I J x 2 (fun r I1 J1 => w_X11_telling x I1 J1 (fun r' I2 J2 => r = r' ∧ Inv I2 J2)) := fun b => by
    refine q_failsE (v := 2) (by decide) ⟨fun q => (by cases q), fun _ I1 e1 I2 e2 => ?_⟩
    subst e1 e2
    exact isR (sameI_tr (same_cS I 2) (same_m0 _)) ⟨fun q => (by rw [b] at q; cases q), fun _ => q_refused ⟨rfl, fin_er hC (same_cS I 2) (cS_at I 2) (sameJ_rf J) h2⟩⟩
  unfold w_X10_telling
  rw [(hrn I (sameI_rf I)).2.1, i_lt0, i_ge (by omega)]
  refine ⟨fun q => bad (ix_false (by omega)), fun q => ⟨fun q2 => bad (ix_false (by omega)), fun q2 => ?_⟩⟩
  have b : isIx r x = true := ix_iff.mpr ⟨by omega, by omega⟩
  obtain ⟨a, ha, rfl⟩ := ofIx b
  refine q_waysToDeal hC.2.1 hN ?_
  unfold wj_X10_telling_34 wj_X10_telling_35
  have wl := wd_lt hN
  have wp := wd_pos hN
  by_cases hw : wd N (nP N) ≤ 5040
  · rw [if_pos hw]
    refine ⟨fun _ => q_fails0 ⟨fun _ => ?_, fun q => (by cases q)⟩, fun q => absurd q (nI_nm1 (by omega))⟩
    have hc' := cNet_same hC.2.1 (same_cS I 0)
    have hr := hrn (cS I 0) (same_cS I 0)
    have va : vp_in (nI a) 15 := vp_in_nI (by omega) (by omega)
    have hle : cnt (tld N (H a)) (nT N) ≤ nT N := cnt_le _ _
    have row : ∀ p, p < nP N → cS I 0 (56 + 1 * (nI a).toNatClampNeg) p = H a p := fun p hp => by rw [nI_clamp (by omega), show 56 + 1 * a = 56 + a by omega]; exact (hr.2.2.2 a ha p hp).1
    have ti : ∀ {Q : Int32 → Prop}, Q (nI (cnt (tld N (H a)) (nT N))) → w_X6_toldIn (nI a) (cS I 0) J Q := fun {Q} q => ⟨va, q_thatTold hc' hN row q⟩
    refine ti ⟨va, ti (q_waysFrom (I0 := cS I 0) (h := H a) hc' hN (by omega) (by rw [nI_clamp (by omega)]; omega) row (nP N) 14 0 0 (fun _ => 0) (cS I 0) _ (by omega) (by omega) (Nat.two_pow_pos _) (fun _ _ => rfl) (fun j hj => absurd hj (Nat.not_lt_zero _)) (fun I5 k1 _ => ?_))⟩
    have hs5 : sameI I I5 := sameI_tr (same_cS I 0) (fun c k rl => by rw [k1 c (fun z => by subst z; cases rl)])
    have h05 : I5 0 12 = 0 := by rw [k1 0 (by decide)]; exact cS_at I 0
    refine q_waysToDeal (cNet_same hC.2.1 hs5) hN ?_
    rw [if_pos hw]
    have u0 : uOk N 0 0 := ⟨Nat.two_pow_pos _, fun v => cnt_false (fun q _ => by rw [Nat.zero_testBit, Bool.and_false])⟩
    have hlv : lvq N (nP N) 0 0 = wd N (nP N) := by rw [lvq_eq hN (nP N) 0 0 (by omega) u0, FF_0, wd_eq hN (Nat.le_refl _)]
    have hwf := wfq_le (N := N) (H a) (cnt (tld N (H a)) (nT N)) (nP N) 0 0 (fun _ => 0)
    generalize hG : wfq N (H a) (cnt (tld N (H a)) (nT N)) (nP N) 0 0 (fun _ => 0) = G at hwf ⊢
    rw [hlv] at hwf
    rw [nI_l (by omega), nI_l (by omega)]
    refine q_become (by omega) (by omega) wp (fun Ia ea Ib eb => ?_)
    subst ea eb
    rw [show hI (hI I5 72 1 0) 72 0 0 = m0 I5 from rfl]
    have hsm := sameI_tr hs5 (same_m0 I5)
    have hm' := mNet_same hC.2.2.1 hsm
    refine isR hsm ⟨fun _ => q_mWays hm' hN ?_, fun q => (by rw [b] at q; cases q)⟩
    rw [show (5040 : Int64) = lN 5040 from rfl, pk_lLE (by omega) (by omega)]
    refine ⟨fun _ => ?_, fun z => absurd hw z⟩
    have hrm := hrn (m0 I5) hsm
    refine lp_inv (fun i (s : Int32 × HI) => s.1 = nI i ∧ (∀ c, c ≠ 98 → c ≠ 99 → s.2 c = m0 I5 c) ∧ ∀ p, p < i → s.2 98 p = H a p ∧ s.2 99 p = H a p) (nP N) (fun i s hi hq K hK => ?_) (fun s hq K => ?_) (0, m0 I5) ⟨rfl, fun _ _ _ => rfl, fun p hp => absurd hp (Nat.not_lt_zero _)⟩
    · obtain ⟨x4, I6⟩ := s
      obtain ⟨a1, g1, g2⟩ := hq
      dsimp only at a1 g1 g2
      subst a1
      show wb_X11_telling_131 _ (nI a) _ _ K (nI i, I6)
      unfold wb_X11_telling_131
      dsimp only
      have vi : vp_in (nI i) 12 := vp_in_nI (by omega) (by omega)
      rw [g1 72 (by decide) (by decide), hm'.1.1, n12, nI_clamp (by omega : i < 2 ^ 31), nI_clamp (by omega : 12 * a + i < 2 ^ 31), g1 91 (by decide) (by decide), (hrm.2.2.2 a ha i hi).2.1, nI_1 i]
      refine ⟨fun z => absurd z (nI_ge hi (by omega)), fun _ => ⟨vp_in_nI (by omega) (by omega), vi, fun I8 e8 => ⟨vi, vi, fun I9 e9 => hK _ ⟨rfl, fun c q1 q2 => ?_, fun p hp => ?_⟩⟩⟩⟩
      · show I9 c = _
        rw [e9, hI_ne q1, e8, hI_ne q2]; exact g1 c q1 q2
      · show I9 98 p = _ ∧ I9 99 p = _
        have e99 : ∀ p, I8 99 p = if p = i then H a i else I6 99 p := fun p => by rw [e8, hI_at]
        have e98 : I8 98 = I6 98 := by rw [e8]; exact hI_ne (by decide)
        rw [e9, hI_at, hI_ne (by decide), e99, e99, if_pos rfl, e98]
        by_cases z : p = i
        · subst z; rw [if_pos rfl, if_pos rfl]; exact ⟨rfl, rfl⟩
        · rw [if_neg z, if_neg z]; exact g2 p (by omega)
    · obtain ⟨x4, I6⟩ := s
      obtain ⟨a1, g1, g2⟩ := hq
      dsimp only at a1 g1 g2
      subst a1
      show wb_X11_telling_131 _ (nI a) _ _ K (nI (nP N), I6)
      unfold wb_X11_telling_131
      dsimp only
      rw [g1 72 (by decide) (by decide), hm'.1.1]
      have hs6 : sameI I I6 := sameI_tr hsm (fun c k rl => by rw [g1 c (fun z => by subst z; cases rl) (fun z => by subst z; cases rl)])
      have hm6 := mNet_same hC.2.2.1 hs6
      have hv : ∀ p, p < nP N → vh (H a p) := fun p hp => (hrm.2.2.2 a ha p hp).2.2
      refine ⟨fun _ => q_mToldNow hm6 hN (fun p hp => ⟨(g2 p hp).1, hv p hp⟩) (fun J12 e12 J13 e13 => ?_), fun z => absurd (Int32.le_refl _) z⟩
      have jk : jOk (cFr J G (wd N (nP N))) J13 0 0 := ⟨fun c hc => by rw [e13, hJ_ne hc, e12, hJ_ne hc], fun j q1 q2 => by rw [e13, hJ_at, if_neg q2, e12, hJ_at, if_neg q1], by rw [e13, hJ_at, if_neg (by decide), e12, hJ_at, if_pos rfl]; rfl, by rw [e13, hJ_at, if_pos rfl]; rfl⟩
      refine q_mDeal (I0 := I6) (J0 := cFr J G (wd N (nP N))) (h := H a) hm6 hN (by omega) (fun q hq => ⟨(g2 q hq).2, hv q hq⟩) (nP N) 14 0 0 (fun _ => 0) I6 J13 0 0 _ (by omega) (by omega) (Nat.two_pow_pos _) (fun _ _ => rfl) (fun j hj => absurd hj (Nat.not_lt_zero _)) jk (fun I14 J15 m1 _ m3 => ?_)
      rw [hG, hlv, Nat.zero_add, Nat.zero_add] at m3
      obtain ⟨n1, n2, n3, n4⟩ := m3
      rw [n3, n4]
      have hs14 : sameI I5 I14 := sameI_tr (same_m0 I5) (sameI_tr (I' := I6) (fun c k rl => by rw [g1 c (fun z => by subst z; cases rl) (fun z => by subst z; cases rl)]) (fun c k rl => by rw [m1 c (fun z => by subst z; cases rl)]))
      refine q_mFrac (by omega) (by omega) wp ⟨rfl, N, Core_of hC (sameI_tr hs5 hs14) (sameJ_tr (same_cFr J _ _) (sameJ_tr (fun c rl => n1 c (fun z => by subst z; cases rl)) (same_mFr _ _ _))), ?_, ?_⟩
      · rw [m1 0 (by decide), g1 0 (by decide) (by decide), m1 72 (by decide), g1 72 (by decide) (by decide)]
        unfold m0
        rw [hI_ne (by decide), hI_ne (by decide), h05, hI_at, if_pos rfl]
      · have := frac_both (J := J) (a := G) (b := wd N (nP N))
        unfold mFr at this ⊢
        rw [hJ_ne (by decide : (11 : Nat) ≠ 72), hJ_ne (by decide : (11 : Nat) ≠ 72), hJ_at, if_neg (by decide), hJ_at, if_pos rfl, hJ_at, if_pos rfl] at this ⊢
        rw [n1 11 (by decide)]; exact this
  · rw [if_neg hw]
    refine ⟨fun q => absurd rfl q, fun _ => q_failsE (v := 9) (by decide) ⟨fun q => (by cases q), fun _ I1 e1 I2 e2 => ?_⟩⟩
    subst e1 e2
    refine isR (sameI_tr (same_cS I 9) (same_m0 _)) ⟨fun _ => q_mWays (mNet_same hC.2.2.1 (sameI_tr (same_cS I 9) (same_m0 _))) hN ?_, fun q => (by rw [b] at q; cases q)⟩
    rw [show (5040 : Int64) = lN 5040 from rfl, pk_lLE (by omega) (by omega)]
    exact ⟨fun z => absurd z hw, fun _ => q_refused ⟨rfl, fin_er hC (same_cS I 9) (cS_at I 9) (sameJ_rf J) h2⟩⟩
