/-! sums of stories over all lots: the class's, the model's -/
def cM (N : NT) (s : ST) (g : Nat) : Nat := cnt (fun p => decide (s.1 p < 1000) && decide (s.2.2 p = g)) (nP N)
def mean (N : NT) (rd bl bh g : Nat) : Nat := sm (fun lot => wt N lot * cM N (sts N rd bl bh lot 150) g) (2 ^ nT N)
theorem cM_le {N : NT} (hN : okN N) (s : ST) (g : Nat) : cM N s g ≤ 12 := Nat.le_trans (cnt_le _ _) hN.1
theorem mean_lt {N : NT} (hN : okN N) (rd bl bh g : Nat) : mean N rd bl bh g < 2 ^ 45 := by
  have h := FM_le (N := N) (f := fun lot => cM N (sts N rd bl bh lot 150) g) (m := 16) (O := 0) (Z := 0) (fun lot => Nat.le_trans (cM_le hN _ _) (by decide))
  rw [FM_all] at h
  have h2 := Nat.le_trans h (Nat.mul_le_mul_right 16 (MZ_le hN 0 0))
  exact Nat.lt_of_le_of_lt h2 (by decide)
theorem pc_mk {f : Nat → Bool} {n : Nat} (hn : n ≤ 16) : pc (mk f n) = cnt f n := (pc_cnt (mk_lt _ _) hn).trans (cnt_congr (fun i hi => mk_at hi))
theorem same_st {I I' : HI} (h : ∀ c, ¬ (48 ≤ c ∧ c ≤ 51) → I' c = I c) : sameI I I' := by
  intro c k r
  by_cases y : 48 ≤ c ∧ c ≤ 51
  · have : c = 48 ∨ c = 49 ∨ c = 50 ∨ c = 51 := by omega
    rcases this with z | z | z | z <;> subst z <;> cases r
  · rw [h c y]
theorem same_lv {I I' : HI} (h : ∀ c, ¬ (92 ≤ c ∧ c ≤ 95) → I' c = I c) : sameI I I' := by
  intro c k r
  by_cases y : 92 ≤ c ∧ c ≤ 95
  · have : c = 92 ∨ c = 93 ∨ c = 94 ∨ c = 95 := by omega
    rcases this with z | z | z | z <;> subst z <;> cases r
  · rw [h c y]
theorem fin_g {I I' : HI} {J J' : HJ} {N : NT} (h : Core I J N) (hs : sameI I I') (h0 : I' 0 12 = I' 72 0) (hj : sameJ J J') (hf : J' 11 0 = J' 72 2 ∧ J' 11 1 = J' 72 3) : Inv I' J' := ⟨N, Core_of h hs hj, h0, hf⟩
theorem m0_72 (I : HI) : m0 I 72 0 = 0 := by unfold m0; rw [hI_at, if_pos rfl]
theorem m0_ne (I : HI) {c : Nat} (h : c ≠ 72) : m0 I c = I c := by unfold m0; rw [hI_ne h, hI_ne h]
theorem q_fought {I : HI} {J : HJ} {N : NT} {rd bl bh g : Nat} {x4 : Int32} (hc : cNet I N) (hN : okN N) (hw : cWt J N) (hbh : bh < 150) (hrd : rd < 2 ^ nP N) (hbl : bl < 2 ^ nP N) (hg : (x4 = 0 ∧ g = 1) ∨ (x4 = 1 ∧ g = 0)) {Post : Int64 → HI → Prop} (h : ∀ I', (∀ c, ¬ (48 ≤ c ∧ c ≤ 51) → I' c = I c) → Post (lN (mean N rd bl bh g)) I') : w_X3_fought (nI rd) (nI bl) (nI bh) x4 I J Post := by
  have hP := hN.1
  have hT := hN.2.1
  have hp : 2 ^ nT N ≤ 1024 := Nat.pow_le_pow_right (n := 2) (by decide) hT
  refine lp_inv (fun i (s : Int64 × Int32 × HI) => s.1 = lN (sm (fun lot => wt N lot * cM N (sts N rd bl bh lot 150) g) i) ∧ s.2.1 = nI i ∧ ∀ c, ¬ (48 ≤ c ∧ c ≤ 51) → s.2.2 c = I c) (2 ^ nT N) (fun i s hi hq K hK => ?_) (fun s hq K => ?_) (0, 0, I) ⟨rfl, rfl, fun _ _ => rfl⟩
  · obtain ⟨x5, x7, I1⟩ := s
    obtain ⟨a1, a2, g1⟩ := hq
    dsimp only at a1 a2 g1
    subst a1 a2
    have hc1 : cNet I1 N := cNet_of hc (fun c h1 h2 => g1 c (by omega))
    have hwt := wt_le hN i
    show wb_X3_fought_6 J (nI rd) (nI bl) (nI bh) x4 Post _ K (lN _, nI i, I1)
    unfold wb_X3_fought_6
    dsimp only
    refine q_count hc1 hN ?_
    rw [nI_clamp (by omega : i < 2 ^ 31), hw i hi, nI_1 i]
    refine ⟨fun c => absurd c (nI_ge hi (by omega)), fun _ => ⟨vp_in_nI (by omega) (by omega), fun c => hK _ ⟨?_, rfl, g1⟩, fun c => q_play hc1 hN hbh hrd hbl hi (fun I2 s2 => ?_)⟩⟩
    · have w0 : wt N i = 0 := (pk_lEQ (b := 0) (by omega) (by decide)).mp c
      show lN _ = lN (sm _ i + wt N i * _)
      rw [w0, Nat.zero_mul, Nat.add_zero]
    · have mw := mWh_all hN rd bl bh i (Nat.le_refl 150)
      have g2 : ∀ c, ¬ (48 ≤ c ∧ c ≤ 51) → I2 c = I c := fun c hc => (s2.1 c hc).trans (g1 c hc)
      have cc : ∀ t0, t0 = nI (mk (fun p => decide ((sts N rd bl bh i 150).1 p < 1000) && decide ((sts N rd bl bh i 150).2.2 p = g)) (nP N)) → wj_X3_fought_85 I2 J (nI rd) (nI bl) (nI bh) x4 (lN (sm (fun lot => wt N lot * cM N (sts N rd bl bh lot 150) g) i)) (nI i) t0 (fun (x5_5 : Int64) (I_6 : HI) => Post x5_5 I_6) K Post := fun t0 e0 => by
        unfold wj_X3_fought_85
        subst e0
        refine ⟨vp_in_nI (by omega) (by omega), q_bc (two12 hN (mk_lt _ _)) (fun z ez => ?_)⟩
        have cl := cM_le hN (sts N rd bl bh i 150) g
        rw [pc_mk (by omega), nI_clamp (by omega : i < 2 ^ 31), hw i hi, nI_l (by unfold cM at cl; omega), lN_mul, lN_add] at ez
        subst ez
        rw [nI_1 i]
        exact hK _ ⟨rfl, rfl, g2⟩
      rw [s2.2.1, s2.2.2.1, nb_and, mk_and, nb_not, mk_sd]
      refine ⟨fun y => cc _ (congrArg nI (mk_congr (fun p hp => ?_))), fun y => cc _ (congrArg nI (mk_congr (fun p hp => ?_)))⟩
      · obtain ⟨w1, w2, w3⟩ := mw p hp
        have : g = 1 := by
          rcases hg with z | z
          · exact z.2
          · rw [z.1] at y; exact absurd y (by decide)
        subst this
        refine bl_eq ?_
        unfold fTok fRed
        simp only [Bool.and_eq_true, decide_eq_true_eq, Bool.not_eq_true', Bool.or_eq_false_iff, decide_eq_false_iff_not]
        have q : rd.testBit p = false ↔ ¬ bt rd p = 1 := by rw [← bt_t, Bool.not_eq_true]
        rw [q]
        omega
      · obtain ⟨w1, w2, w3⟩ := mw p hp
        have : g = 0 := by
          rcases hg with z | z
          · exact absurd z.1 y
          · exact z.2
        subst this
        refine bl_eq ?_
        unfold fTok fRed
        simp only [Bool.and_eq_true, decide_eq_true_eq, Bool.or_eq_true]
        rw [bt_t]
        omega
  · obtain ⟨x5, x7, I1⟩ := s
    obtain ⟨a1, a2, g1⟩ := hq
    dsimp only at a1 a2 g1
    subst a1 a2
    have hc1 : cNet I1 N := cNet_of hc (fun c h1 h2 => g1 c (by omega))
    show wb_X3_fought_6 J (nI rd) (nI bl) (nI bh) x4 Post _ K (lN _, nI (2 ^ nT N), I1)
    unfold wb_X3_fought_6
    dsimp only
    exact q_count hc1 hN ⟨fun _ => h I1 g1, fun z => absurd (Int32.le_refl _) z⟩
theorem q_mMean {I : HI} {J : HJ} {N : NT} {rd bl bh g : Nat} (hm : mNet I N) (hN : okN N) (hbh : bh < 150) (hrd : rd < 2 ^ nP N) (hbl : bl < 2 ^ nP N) (hg : g ≤ 1) {Post : Int64 → HI → Prop} (h : ∀ I', (∀ c, ¬ (92 ≤ c ∧ c ≤ 95) → I' c = I c) → Post (lN (mean N rd bl bh g)) I') : w_X11_meanOf (nI rd) (nI bl) (nI bh) (nI g) I J Post := by
  have hP := hN.1
  have hT := hN.2.1
  have hp : 2 ^ nT N ≤ 1024 := Nat.pow_le_pow_right (n := 2) (by decide) hT
  have mn : ∀ I' : HI, (∀ c, ¬ (92 ≤ c ∧ c ≤ 95) → I' c = I c) → mNet I' N := fun I' g1 => mNet_of hm (by rw [g1 72 (by omega)]) (by rw [g1 72 (by omega)]) ⟨g1 77 (by omega), g1 79 (by omega), g1 80 (by omega), g1 81 (by omega), g1 82 (by omega), g1 87 (by omega)⟩
  refine lp_inv (fun i (s : Int64 × Int32 × HI) => s.1 = lN (sm (fun lot => wt N lot * cM N (sts N rd bl bh lot 150) g) i) ∧ s.2.1 = nI i ∧ ∀ c, ¬ (92 ≤ c ∧ c ≤ 95) → s.2.2 c = I c) (2 ^ nT N) (fun i s hi hq K hK => ?_) (fun s hq K => ?_) (0, 0, I) ⟨rfl, rfl, fun _ _ => rfl⟩
  · obtain ⟨x5, x7, I1⟩ := s
    obtain ⟨a1, a2, g1⟩ := hq
    dsimp only at a1 a2 g1
    subst a1 a2
    have hm1 := mn I1 g1
    have hwt := wt_le hN i
    show wb_X11_meanOf_6 J (nI rd) (nI bl) (nI bh) (nI g) Post _ K (lN _, nI i, I1)
    unfold wb_X11_meanOf_6
    dsimp only
    rw [hm1.1.2, nb_one _ (by omega), nI_1 i]
    refine ⟨fun c => absurd c (nI_ge hi (by omega)), fun _ => q_mWeight hm1 hN (by omega) ⟨fun c => q_mLive hm1 hN hbh hrd hbl hi (fun I2 r2 => ?_), fun c => hK _ ⟨?_, rfl, g1⟩⟩⟩
    · have hm2 := rep_m hm1 r2
      have g2 : ∀ c, ¬ (92 ≤ c ∧ c ≤ 95) → I2 c = I c := fun c hc => (r2.1 c hc).trans (g1 c hc)
      have mk := mOk_all hN rd bl bh i (Nat.le_refl 150)
      refine lp_seq (fun j => (lN (sm (fun lot => wt N lot * cM N (sts N rd bl bh lot 150) g) i + wt N i * cnt (fun p => decide ((sts N rd bl bh i 150).1 p < 1000) && decide ((sts N rd bl bh i 150).2.2 p = g)) j), nI j)) (nP N) (fun j hj K' hK' => ?_) (fun K' => ?_)
      · obtain ⟨k1, k2, k3, k4, k5, k6, k7, k8⟩ := mk j hj
        have vj : vp_in (nI j) 12 := vp_in_nI (by omega) (by omega)
        have s1 : cnt (fun p => decide ((sts N rd bl bh i 150).1 p < 1000) && decide ((sts N rd bl bh i 150).2.2 p = g)) (j + 1) = cnt (fun p => decide ((sts N rd bl bh i 150).1 p < 1000) && decide ((sts N rd bl bh i 150).2.2 p = g)) j + (if decide ((sts N rd bl bh i 150).1 j < 1000) && decide ((sts N rd bl bh i 150).2.2 j = g) then 1 else 0) := rfl
        rw [s1] at hK'
        show wb_X11_meanOf_47 I2 J (nI rd) (nI bl) (nI bh) (nI g) (nI i) (lN (wt N i)) _ K Post _ K' (lN _, nI j)
        unfold wb_X11_meanOf_47
        dsimp only
        rw [hm2.1.1, nI_clamp (by omega : j < 2 ^ 31), (r2.2.1 j hj).1, (r2.2.1 j hj).2.2, show (1000 : Int32) = nI 1000 from rfl, nI_leI (a := 1000) (b := (sts N rd bl bh i 150).1 j) (by omega) (by omega), nI_eq (by omega) (by omega), nI_1 j, Int64.add_zero, lN_add]
        refine ⟨fun c => absurd c (nI_ge hj (by omega)), fun _ => ⟨vj, fun c2 => ?_, fun c2 => ⟨vj, fun c3 => ?_, fun c3 => ?_⟩⟩⟩
        · rw [decide_eq_false (show ¬ (sts N rd bl bh i 150).1 j < 1000 by omega)] at hK'
          exact hK'
        · rw [decide_eq_false c3, Bool.and_false] at hK'
          exact hK'
        · rw [decide_eq_true c3, decide_eq_true (show (sts N rd bl bh i 150).1 j < 1000 by omega)] at hK'
          rw [Nat.add_assoc, ← Nat.mul_succ]
          exact hK'
      · show wb_X11_meanOf_47 I2 J (nI rd) (nI bl) (nI bh) (nI g) (nI i) (lN (wt N i)) _ K Post _ K' (lN _, nI (nP N))
        unfold wb_X11_meanOf_47
        dsimp only
        rw [hm2.1.1]
        exact ⟨fun _ => hK _ ⟨rfl, rfl, g2⟩, fun z => absurd (Int32.le_refl _) z⟩
    · have w0 : wt N i = 0 := (pk_lEQ (b := 0) (by omega) (by decide)).mp c
      show lN _ = lN (sm _ i + wt N i * _)
      rw [w0, Nat.zero_mul, Nat.add_zero]
  · obtain ⟨x5, x7, I1⟩ := s
    obtain ⟨a1, a2, g1⟩ := hq
    dsimp only at a1 a2 g1
    subst a1 a2
    show wb_X11_meanOf_6 J (nI rd) (nI bl) (nI bh) (nI g) Post _ K (lN _, nI (2 ^ nT N), I1)
    unfold wb_X11_meanOf_6
    dsimp only
    rw [(mn I1 g1).1.2, nb_one _ (by omega)]
    exact ⟨fun _ => h I1 g1, fun z => absurd (Int32.le_refl _) z⟩
theorem bt_w {x a b : Int32} {lo hi : Int} (ha : a.toInt = lo) (hb : b.toInt = hi) {Post : Bool → Prop} (h : Post (isBt x lo hi)) : w_X10_isBetween x a b Post := q_between (by rw [ha, hb]; exact h)
theorem bt_m {x : Int32} {a b : Int64} {lo hi : Int} (ha : a.toInt = lo) (hb : b.toInt = hi) {Post : Bool → Prop} (h : Post (isBt x lo hi)) : w_X11_isIn (Int32.toInt64 x) a b Post := q_isIn (by rw [ha, hb]; exact h)
theorem op_fight {I : HI} {J : HJ} (h : Inv I J) (x y z w : Int32) : w_X10_fight x y z w I J (fun r I1 J1 => w_X11_fight x y z w I1 J1 (fun r' I2 J2 => r = r' ∧ Inv I2 J2)) := by
  obtain ⟨N, hC, h1, h2⟩ := h
  have hN := hC.1
  have hP := hN.1
  have hT := hN.2.1
  have hm2 : ∀ v, mNet (m0 (cS I v)) N := fun v => mNet_same hC.2.2.1 (sameI_tr (same_cS I v) (same_m0 (cS I v)))
  have er : ∀ v, Inv (mE (cS I v) v) J := fun v => fin_er hC (same_cS I v) (cS_at I v) (sameJ_rf J) h2
  have bad2 : ∀ cb : Bool, (isSet (nP N) x && isSet (nP N) y) = false → wj_X10_fight_55 I J x y z w (kb cb) 0 (fun r I1 J1 => w_X11_fight x y z w I1 J1 (fun r' I2 J2 => r = r' ∧ Inv I2 J2)) := by
    intro cb hb
    refine q_oneOf (a := false) (b := cb) rfl rfl ?_
    show w_X10_fails 2 I J _
    refine q_failsE (by decide) ⟨fun q => (by cases q), fun _ I1 e1 I2 e2 => ?_⟩
    subst e1 e2
    have fin : wj_X11_fight_26 (m0 (cS I 2)) J (fun r' I2 J2 => false = r' ∧ Inv I2 J2) := q_no ⟨rfl, er 2⟩
    refine q_areSeeds (hm2 2) hN ⟨fun _ => fin, fun b => q_areSeeds (hm2 2) hN ⟨fun b2 => ?_, fun _ => fin⟩⟩
    rw [b, b2] at hb; cases hb
  have main : ∀ cb : Bool, cb = (isBt z 0 20 && isBt w 0 1) → wj_X10_fight_25 I J x y z w (kb cb) (fun r I1 J1 => w_X11_fight x y z w I1 J1 (fun r' I2 J2 => r = r' ∧ Inv I2 J2)) := by
    intro cb hcb
    refine q_arePeople hC.2.1 hN ⟨fun b => bad2 cb (by rw [b]; rfl), fun b => q_arePeople hC.2.1 hN ⟨fun b2 => bad2 cb (by rw [b2, Bool.and_false]), fun b2 => ?_⟩⟩
    refine q_oneOf (a := true) (b := cb) rfl rfl ?_
    cases cb
    · show w_X10_fails 5 I J _
      refine q_failsE (by decide) ⟨fun q => (by cases q), fun _ I1 e1 I2 e2 => ?_⟩
      subst e1 e2
      have fin : wj_X11_fight_55 (m0 (cS I 5)) J (fun r' I2 J2 => false = r' ∧ Inv I2 J2) := q_no ⟨rfl, er 5⟩
      refine q_areSeeds (hm2 5) hN ⟨fun q => (by rw [b] at q; cases q), fun _ => q_areSeeds (hm2 5) hN ⟨fun _ => bt_m (lo := 0) (hi := 20) (by decide) (by decide) ⟨fun _ => fin, fun b3 => bt_m (lo := 0) (hi := 1) (by decide) (by decide) ⟨fun b4 => ?_, fun _ => fin⟩⟩, fun q => (by rw [b2] at q; cases q)⟩⟩
      rw [b3, b4] at hcb; cases hcb
    · have hcb := hcb.symm
      rw [Bool.and_eq_true] at hcb
      obtain ⟨S, hS, rfl⟩ := ofSet (by omega) b
      obtain ⟨B, hB, rfl⟩ := ofSet (by omega) b2
      obtain ⟨k, hk, rfl⟩ := ofBt (n := 20) hcb.1
      obtain ⟨g, hg, rfl⟩ := ofBt (n := 1) hcb.2
      show w_X10_fails 0 I J _
      refine q_fails0 ⟨fun _ => ?_, fun q => (by cases q)⟩
      have hc0 := cNet_same hC.2.1 (same_cS I 0)
      have go : ∀ x4 : Int32, (x4 = 0 ∧ g = 1) ∨ (x4 = 1 ∧ g = 0) → wj_X10_fight_89 (cS I 0) J x4 (nI k) (nI B) (nI S) (fun r I1 J1 => w_X11_fight (nI S) (nI B) (nI k) (nI g) I1 J1 (fun r' I2 J2 => r = r' ∧ Inv I2 J2)) := fun x4 hx => by
        refine q_fought hc0 hN hC.2.2.2.1 (by omega) hS hB hx (fun I7 g7 => ?_)
        have s7 : sameI I I7 := sameI_tr (same_cS I 0) (same_st g7)
        have hc7 := cNet_same hC.2.1 s7
        refine q_whole hc7 hN (q_become (mean_lt hN _ _ _ _) (p16 hN).1 (p16 hN).2 (fun I1 e1 I2 e2 => ?_))
        subst e1 e2
        have s8 := sameI_tr s7 (same_m0 I7)
        have hm' := mNet_same hC.2.2.1 s8
        have last : wj_X11_fight_76 (m0 I7) (cFr J (mean N S B k g) (16 ^ nT N)) (nI g) (nI k) (nI B) (nI S) (fun r' I2 J2 => true = r' ∧ Inv I2 J2) := by
          refine q_mMean hm' hN (by omega) hS hB hg (fun I9 g9 => ?_)
          have s9 := sameI_tr s8 (same_lv g9)
          refine q_mWhole (mNet_same hC.2.2.1 s9) hN (q_mFrac (mean_lt hN _ _ _ _) (p16 hN).1 (p16 hN).2 ⟨rfl, fin_g hC s9 ?_ (sameJ_tr (same_cFr _ _ _) (same_mFr _ _ _)) frac_both⟩)
          rw [g9 0 (by omega), g9 72 (by omega), m0_72, m0_ne _ (by decide), g7 0 (by omega), cS_at]
        refine q_areSeeds hm' hN ⟨fun q => (by rw [b] at q; cases q), fun _ => q_areSeeds hm' hN ⟨fun _ => bt_m (lo := 0) (hi := 20) (by decide) (by decide) ⟨fun q => (by rw [hcb.1] at q; cases q), fun _ => bt_m (lo := 0) (hi := 1) (by decide) (by decide) ⟨fun _ => ⟨fun q => ?_, fun q => ?_⟩, fun q => (by rw [hcb.2] at q; cases q)⟩⟩, fun q => (by rw [b2] at q; cases q)⟩⟩
        · have : g = 1 := by
            rcases hx with e | e
            · exact e.2
            · rw [e.2] at q; exact absurd rfl q
          subst this
          exact last
        · have : g = 0 := by
            rcases hx with e | e
            · rw [e.2] at q; exact absurd q (by decide)
            · exact e.2
          subst this
          exact last
      refine ⟨fun q => go 0 (Or.inl ⟨rfl, ?_⟩), fun q => go 1 (Or.inr ⟨rfl, ?_⟩)⟩
      · rcases Nat.eq_zero_or_pos g with e | e
        · rw [e] at q; exact absurd rfl q
        · omega
      · rw [show (0 : Int32) = nI 0 from rfl, nI_eq (by omega) (by omega)] at q
        exact q
  refine bt_w (lo := 0) (hi := 20) (by decide) (by decide) ⟨fun b => main false (by rw [b]; rfl), fun b => bt_w (lo := 0) (hi := 1) (by decide) (by decide) ⟨fun b2 => main false (by rw [b2, Bool.and_false]), fun b2 => main true (by rw [b, b2]; rfl)⟩⟩
