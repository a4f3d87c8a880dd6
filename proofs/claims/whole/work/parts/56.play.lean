section
variable {I I0 : HI} {J : HJ} {N : NT} {rd bl bh lot h : Nat} {s : ST}
theorem ps_red2 (hN : okN N) (hh : h < 150) (hm : mOk N rd bl lot h s) (hw : mWh N rd h s) {p : Nat} (hp : p < nP N) : fRed rd (sB N lot h (sA N rd bl bh h s)) p = (fRed rd (sA N rd bl bh h s) p || (ddi N (fDec rd (sA N rd bl bh h s)) (fTold N lot (h + 1) s.1) (fNow N lot h s.1) (nT N) p && wr N (fTold N lot (h + 1) s.1) (fun t => fRed rd (sA N rd bl bh h s) (nFr N t)) p)) := by
  rw [dd_dcs hN hh hm hp, wr_eq hN hh hm hw p]
  obtain ⟨w1, -, -⟩ := hw p hp
  have e : (sA N rd bl bh h s).2.1 p = s.2.1 p := rfl
  refine bl_eq ?_
  unfold fRed
  rcases sB_c N lot h (sA N rd bl bh h s) p with ⟨d, z1, z2, -, -, z5⟩ | ⟨d, -, -, z3⟩
  · have w : (sA N rd bl bh h s).2.2 p = 2 := by
      rcases sA_f N rd bl bh h s p with ⟨c1, c2⟩ | ⟨c1, c2⟩
      · omega
      · rw [c2]; exact w1 (by omega) (by rw [← e]; exact z2)
    rw [d, w]
    simp only [Bool.or_eq_true, Bool.and_eq_true, decide_eq_true_eq, true_and]
    rw [bt_t]
    omega
  · rw [d, z3, Bool.false_and, Bool.or_false]
theorem ps_1 (hN : okN N) (hh : h < 150) (hm : mOk N rd bl lot h s) {p : Nat} (hp : p < nP N) : ((sB N lot h (sA N rd bl bh h s)).1 p = h ∧ s.1 p = 1000) ∨ (sB N lot h (sA N rd bl bh h s)).1 p = s.1 p ∧ (s.1 p = 1000 ∨ s.1 p < h) := by
  have h1 := (hm p hp).1
  have cA := sA_f N rd bl bh h s p
  rcases sB_c N lot h (sA N rd bl bh h s) p with ⟨-, z1, -, -, z4, -⟩ | ⟨-, z1, -, -⟩ <;> omega
theorem ps_hour (hc : cNet I0 N) (hN : okN N) (hlot : lot < 2 ^ nT N) (hh : h < 150) (hm : mOk N rd bl lot h s) (hw : mWh N rd h s) (hp : Pst1 I I0 N rd lot h s (sA N rd bl bh h s)) {Post : HI → Prop} (hpo : ∀ I', Pst I' I0 N rd lot (h + 1) (sB N lot h (sA N rd bl bh h s)) → Post I') : w_X7_hear (nI h) I J (fun I1 => w_X7_take (nI h) I1 J Post) := by
  have hA := mA_of hN (bh := bh) hh hm
  refine q_hear (nw := fNow N lot h s.1) (td := fTold N lot (h + 1) s.1) hc hN hh hp (fun t ht => ?_) (fun t ht => ?_) (fun t ht z => ?_) (fun I1 p1 => ?_)
  · have ho := hN.2.2.2.1 t ht
    have q := (hm _ ho.1).1
    have v1 := tel_v N s.1 t
    refine bl_eq ?_
    unfold fTi fNow
    simp only [Bool.and_eq_true, decide_eq_true_eq]
    rw [bt_t]
    omega
  · refine bl_eq ?_
    unfold fTold fNow
    simp only [Bool.or_eq_true, Bool.and_eq_true, decide_eq_true_eq]
    rw [bt_t]
    omega
  · unfold fTold at z
    simp only [Bool.and_eq_true, decide_eq_true_eq] at z
    have := (tel1 (bh := bh) hN hh hm ht).2 z.2
    unfold fDec
    simp only [Bool.or_eq_true, decide_eq_true_eq]
    exact Or.inr (Or.inl (by omega))
  · refine q_take (nw := fun p => decide ((sB N lot h (sA N rd bl bh h s)).1 p = h)) hc hN hh hlot p1 (fun p hp => ?_) (fun I2 p2 => hpo I2 (pi_congr p2 (fun p hp => ⟨?_, ps_red2 hN hh hm hw hp, ?_, fun z => ?_, fun k hk => ?_⟩) (fun t ht => ⟨ps_red2 hN hh hm hw (hN.2.2.2.1 t ht).1, ?_, ?_, fun k hk => ?_⟩)))
    · rw [dd_dcs hN hh hm hp]
      obtain ⟨-, h2, h3, -, -, -, -, -⟩ := hA p hp
      have hl := (hN.2.2.2.2.1 p hp).2.2.2.1
      refine bl_eq ?_
      unfold fTb
      rcases sB_c N lot h (sA N rd bl bh h s) p with ⟨d, z1, z2, -, z4, -⟩ | ⟨d, z1, -, -⟩
      · clear h2 h3
        rw [d, z1, z2]
        simp only [Bool.or_eq_true, Bool.and_eq_true, decide_eq_true_eq, true_and, and_true]
        omega
      · rw [d, z1]
        simp only [Bool.or_eq_true, Bool.and_eq_true, decide_eq_true_eq, Bool.false_eq_true, false_and, or_false, and_true]
        refine ⟨fun z => z.elim (fun z => ?_) id, fun z => Or.inr z⟩
        have := h3 z.1 z.2.1
        omega
    · rw [dd_dcs hN hh hm hp]
      refine bl_eq ?_
      unfold fDec
      rcases sB_c N lot h (sA N rd bl bh h s) p with ⟨d, -, -, z3, -, -⟩ | ⟨d, z1, z2, -⟩
      · rw [d, Bool.or_true]
        simp only [Bool.or_eq_true, decide_eq_true_eq]
        exact ⟨fun _ => trivial, fun _ => Or.inr (Or.inr (by omega))⟩
      · rw [d, z1, z2, Bool.or_false]
    · have f := ps_1 (bh := bh) hN hh hm hp
      refine bl_eq ?_
      unfold fTok
      simp only [Bool.or_eq_true, decide_eq_true_eq]
      omega
    · have f := ps_1 (bh := bh) hN hh hm hp
      unfold fTok at z ⊢
      rw [decide_eq_true_eq] at z
      simp only [Bool.or_eq_true, decide_eq_true_eq]
      refine ⟨by omega, ?_⟩
      by_cases c : (sB N lot h (sA N rd bl bh h s)).1 p = h
      · rw [if_pos c, c]
      · rw [if_neg c]; omega
    · rw [dd_dcs hN hh hm hp]
      obtain ⟨-, h2, h3, -, -, -, h7, -⟩ := hA p hp
      have hl := (hN.2.2.2.2.1 p hp).2.2.2.1
      have q : ∀ x : Bool, (if k = h % 8 then false else x) = (!decide (k = h % 8) && x) := fun x => by
        by_cases y : k = h % 8
        · rw [if_pos y, decide_eq_true y]; rfl
        · rw [if_neg y, decide_eq_false y]; rfl
      rw [q]
      refine bl_eq ?_
      unfold fTa fTb
      rw [bt_t] at h7
      rcases sB_c N lot h (sA N rd bl bh h s) p with ⟨d, z1, z2, z3, z4, -⟩ | ⟨d, z1, z2, -⟩
      · clear h2 h3 h7
        rw [d, z1, z2, z3]
        simp only [Bool.or_eq_true, Bool.and_eq_true, decide_eq_true_eq, true_and, Bool.not_eq_true', decide_eq_false_iff_not]
        rw [bt_t]
        rcases z4 with ⟨l, b⟩ | ⟨l, b⟩
        · rw [b, l]; omega
        · rw [b]; omega
      · rw [d, z1, z2]
        simp only [Bool.or_eq_true, Bool.and_eq_true, decide_eq_true_eq, Bool.false_eq_true, false_and, or_false, Bool.not_eq_true', decide_eq_false_iff_not]
        rw [bt_t]
        constructor
        · rintro ⟨t, ⟨m, x⟩ | ⟨m, r, k0⟩⟩
          · have := h3 t m
            exact ⟨by omega, Or.inl ⟨t, m, x⟩⟩
          · have := (h7 r).1; exfalso; omega
        · rintro ⟨nk, ⟨t, m, x⟩ | ⟨t, kk⟩⟩
          · exact ⟨t, Or.inl ⟨m, x⟩⟩
          · exact absurd kk nk
    · unfold fTold
      exact congrArg (fun b => lot.testBit t && b) (decide_eq_decide.mpr ((tel2 hN hh hA ht).trans (tel1 (bh := bh) hN hh hm ht).1))
    · have f := ps_1 (bh := bh) hN hh hm (hN.2.2.2.1 t ht).1
      refine bl_eq ?_
      unfold fSent
      simp only [Bool.or_eq_true, Bool.and_eq_true, decide_eq_true_eq]
      rw [bt_t]
      omega
    · have ho := hN.2.2.2.1 t ht
      have f := ps_1 (bh := bh) hN hh hm ho.1
      have v1 := tel_v N s.1 t
      have v2 := tel_v N (sB N lot h (sA N rd bl bh h s)).1 t
      have q : ∀ x : Bool, (if k = h % 8 then false else x) = (!decide (k = h % 8) && x) := fun x => by
        by_cases y : k = h % 8
        · rw [if_pos y, decide_eq_true y]; rfl
        · rw [if_neg y, decide_eq_false y]; rfl
      rw [q]
      refine bl_eq ?_
      unfold fTi
      simp only [Bool.or_eq_true, Bool.and_eq_true, decide_eq_true_eq, Bool.not_eq_true', decide_eq_false_iff_not]
      rw [bt_t]
      omega
end
/-- what a story leaves in the class's cells -/
def cSt (I I0 : HI) (N : NT) (rd : Nat) (s : ST) : Prop := (∀ c, ¬ (48 ≤ c ∧ c ≤ 51) → I c = I0 c) ∧ I 48 6 = nI (mk (fRed rd s) (nP N)) ∧ I 48 8 = nI (mk (fTok s) (nP N)) ∧ ∀ p, p < nP N → s.1 p < 1000 → I 49 p = nI (s.1 p)
theorem q_play {I0 : HI} {J : HJ} {N : NT} {rd bl bh lot : Nat} (hc : cNet I0 N) (hN : okN N) (hbh : bh < 150) (hrd : rd < 2 ^ nP N) (hbl : bl < 2 ^ nP N) (hlot : lot < 2 ^ nT N) {Post : HI → Prop} (hpo : ∀ I', cSt I' I0 N rd (sts N rd bl bh lot 150) → Post I') : w_X7_play (nI rd) (nI bl) (nI bh) (nI lot) I0 J Post := by
  have hP := hN.1
  have hT := hN.2.1
  refine q_fillI (by decide) (fun I1 f1 f2 => q_fillI (by decide) (fun I2 f3 f4 => ?_))
  intro I3 e3 I4 e4 I5 e5
  have g5 : ∀ c, ¬ (48 ≤ c ∧ c ≤ 51) → I5 c = I0 c := fun c hc => by
    rw [e5, hI_ne (by omega), e4, hI_ne (by omega), e3, hI_ne (by omega), f3 c (by omega), f1 c (by omega)]
  refine q_tiesFrom (cNet_of hc (fun c h1 h2 => g5 c (by omega))) hN (lt31 (by omega) hrd) (fun I7 e7 I8 e8 I9 e9 I10 e10 I11 e11 => ?_)
  have p0 : Pst I11 I0 N rd lot 0 (sts N rd bl bh lot 0) := by
    have t0 : ∀ t, tel N (sts N rd bl bh lot 0).1 t = 1000 := fun t => by unfold tel sts; rfl
    refine ⟨fun c hc => ?_, ⟨?_, ?_, ?_, ?_, ?_, ?_, ?_⟩, fun p hp ht => ?_, fun k hk => ?_, fun k hk => ?_⟩
    · rw [e11, hI_ne (by omega), e10, hI_ne (by omega), e9, hI_ne (by omega), e8, hI_ne (by omega), e7, hI_ne (by omega)]; exact g5 c hc
    · rw [e11, hI_ne (by decide), e10, hI_at, if_neg (by decide), e9, hI_at, if_neg (by decide), e8, hI_at, if_neg (by decide), e7, hI_at, if_neg (by decide), e5, hI_at, if_neg (by decide), e4, hI_at, if_neg (by decide), e3, hI_at, if_pos rfl]
    · rw [e11, hI_ne (by decide), e10, hI_at, if_neg (by decide), e9, hI_at, if_neg (by decide), e8, hI_at, if_neg (by decide), e7, hI_at, if_neg (by decide), e5, hI_at, if_neg (by decide), e4, hI_at, if_pos rfl]
      refine congrArg nI ((mk_of hrd).trans (mk_congr (fun p _ => ?_)))
      unfold fDec sts
      simp
    · rw [e11, hI_ne (by decide), e10, hI_at, if_neg (by decide), e9, hI_at, if_neg (by decide), e8, hI_at, if_neg (by decide), e7, hI_at, if_neg (by decide), e5, hI_at, if_pos rfl]
      refine congrArg nI ((mk_of hrd).trans (mk_congr (fun p _ => ?_)))
      unfold fRed sts
      simp
    · rw [e11, hI_ne (by decide), e10, hI_at, if_neg (by decide), e9, hI_at, if_neg (by decide), e8, hI_at, if_neg (by decide), e7, hI_at, if_pos rfl]
      refine congrArg nI (mk_congr (fun t _ => ?_))
      unfold fRed sts
      simp
    · rw [e11, hI_ne (by decide), e10, hI_at, if_neg (by decide), e9, hI_at, if_neg (by decide), e8, hI_at, if_pos rfl]
      exact congrArg nI (mk_none (fun p _ => by unfold fTok sts; simp)).symm
    · rw [e11, hI_ne (by decide), e10, hI_at, if_neg (by decide), e9, hI_at, if_pos rfl]
      exact congrArg nI (mk_none (fun t _ => by unfold fTold; simp)).symm
    · rw [e11, hI_ne (by decide), e10, hI_at, if_pos rfl]
      exact congrArg nI (mk_none (fun t _ => by unfold fSent sts; simp)).symm
    · unfold fTok sts at ht; simp at ht
    · have z : I10 50 k = 0 := by rw [e10, hI_ne (by decide), e9, hI_ne (by decide), e8, hI_ne (by decide), e7, hI_ne (by decide), e5, hI_ne (by decide), e4, hI_ne (by decide), e3, hI_ne (by decide), f3 50 (by decide), f2, if_pos hk]
      rw [e11, hI_at, z]
      by_cases y : k = 0
      · rw [if_pos y]
        refine congrArg nI ((mk_of hrd).trans (mk_congr (fun p _ => ?_)))
        unfold fTa sts
        simp [y]
      · rw [if_neg y]
        exact congrArg nI (mk_none (fun p _ => by unfold fTa sts; simp [y])).symm
    · rw [e11, hI_ne (by decide), e10, hI_ne (by decide), e9, hI_ne (by decide), e8, hI_ne (by decide), e7, hI_ne (by decide), e5, hI_ne (by decide), e4, hI_ne (by decide), e3, hI_ne (by decide), f4, if_pos hk]
      exact congrArg nI (mk_none (fun t _ => by unfold fTi sts; simp)).symm
  have fin : ∀ h I', h ≤ 150 → Pst I' I0 N rd lot h (sts N rd bl bh lot h) → (∀ p, p < nP N → (sts N rd bl bh lot 150).1 p = (sts N rd bl bh lot h).1 p ∧ (sts N rd bl bh lot 150).2.1 p = (sts N rd bl bh lot h).2.1 p ∧ (sts N rd bl bh lot 150).2.2 p = (sts N rd bl bh lot h).2.2 p) → Post I' := fun h I' _ hp he => by
    refine hpo I' ⟨hp.1, ?_, ?_, fun p hpp hz => ?_⟩
    · rw [hp.2.1.2.2.1]
      exact congrArg nI (mk_congr (fun p hpp => by unfold fRed; rw [(he p hpp).2.2]))
    · rw [hp.2.1.2.2.2.2.1]
      exact congrArg nI (mk_congr (fun p hpp => by unfold fTok; rw [(he p hpp).1]))
    · rw [(he p hpp).1] at hz ⊢
      exact hp.2.2.1 p hpp (decide_eq_true hz)
  refine lp_inv (fun h (st : Int32 × HI) => st.1 = nI h ∧ Pst st.2 I0 N rd lot h (sts N rd bl bh lot h)) 150 (fun h st hh hq K hK => ?_) (fun st hq K => ?_) (0, I11) ⟨rfl, p0⟩
  · obtain ⟨x5, I12⟩ := st
    obtain ⟨a1, g⟩ := hq
    dsimp only at a1 g
    subst a1
    have hm := mOk_all hN rd bl bh lot (Nat.le_of_lt hh)
    have hw := mWh_all hN rd bl bh lot (Nat.le_of_lt hh)
    have go : ∀ I', Pst1 I' I0 N rd lot h (sts N rd bl bh lot h) (sA N rd bl bh h (sts N rd bl bh lot h)) → wj_X7_play_114 I' J (nI bl) (nI bh) (nI h) (fun (I_16 : HI) => Post I_16) K Post := fun I' p1 => by
      refine ps_hour hc hN hlot hh hm hw p1 (fun I13 p13 => ?_)
      have p13' : Pst I13 I0 N rd lot (h + 1) (sts N rd bl bh lot (h + 1)) := p13
      have nx : K (nI h + 1, I13) := by rw [nI_1 h]; exact hK _ ⟨rfl, p13'⟩
      refine ⟨fun _ => nx, fun c => ⟨fun _ => nx, fun c2 => ⟨fun _ => nx, fun c3 => ?_⟩⟩⟩
      rw [nI_ltI (by omega) (by omega)] at c
      rw [p13'.2.1.2.2.2.2.1, p13'.2.1.2.1, nI_eq (lt31 (by omega) (mk_lt _ _)) (lt31 (by omega) (mk_lt _ _))] at c2
      rw [p13'.2.1.2.2.2.2.2.1, p13'.2.1.2.2.2.2.2.2, nI_eq (lt31 (by omega) (mk_lt _ _)) (lt31 (by omega) (mk_lt _ _))] at c3
      have c2 := mk_inj c2
      have c3 := mk_inj c3
      have hm1 := mOk_all hN rd bl bh lot (by omega : h + 1 ≤ 150)
      have cm : calm N lot (h + 1) (sts N rd bl bh lot (h + 1)) := by
        refine ⟨fun p hp z => ?_, fun t ht z1 z2 => ?_⟩
        · have y := c2 p hp
          have q := (hm1 p hp).2.1
          unfold fTok fDec at y
          rw [decide_eq_false (by omega)] at y
          have y := y.symm
          rw [Bool.or_eq_false_iff, Bool.or_eq_false_iff] at y
          have := of_decide_eq_false y.2.2
          omega
        · have y := c3 t ht
          have ho := hN.2.2.2.1 t ht
          have q := (hm1 _ ho.1).1
          have v := tel_v N (sts N rd bl bh lot (h + 1)).1 t
          unfold fTold fSent at y
          rw [z1, decide_eq_true (show (sts N rd bl bh lot (h + 1)).1 (nFr N t) < 1000 by omega), Bool.true_and] at y
          exact of_decide_eq_true y
      refine fin (h + 1) I13 (by omega) p13' ?_
      have := (calm_all hN (by omega : bh < h + 1) cm (150 - (h + 1)) (by omega)).2
      rw [show h + 1 + (150 - (h + 1)) = 150 by omega] at this
      exact this
    refine ⟨fun z => absurd ((nI_ltI (a := 149) (by omega) (by omega)).mp z) (by omega), fun _ => ?_⟩
    · rw [nI_eq (by omega) (by omega), m8 (by omega), nI_clamp (by omega : h % 8 < 2 ^ 31)]
      have v8 : vp_in (nI (h % 8)) 8 := vp_in_nI (by omega) (by omega)
      refine ⟨fun z => go I12 (ps_no hN hh z hm hw g), fun z => ⟨v8, v8, fun I14 e14 I15 e15 => go I15 ?_⟩⟩
      rw [e15, e14]
      exact ps_blue hN hbl hh z hm hw g
  · obtain ⟨x5, I12⟩ := st
    obtain ⟨a1, g⟩ := hq
    dsimp only at a1 g
    subst a1
    exact ⟨fun _ => fin 150 I12 (Nat.le_refl _) g (fun p _ => ⟨rfl, rfl, rfl⟩), fun z => absurd (by decide) z⟩
