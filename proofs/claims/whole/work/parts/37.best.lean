/-! going through all: a set with more, or as much and fewer -/
noncomputable def beB (N : NT) (n u : Nat) (r : Nat × Nat) (k : Nat) : Bool := may N k n u && (decide (r.2 < tot N k 0) || (decide (tot N k 0 = r.2) && decide (pc k < pc r.1)))
noncomputable def be (N : NT) (n u : Nat) : Nat → Nat × Nat
  | 0 => (0, 0)
  | i + 1 => if beB N n u (be N n u i) (i + 1) then (i + 1, tot N (i + 1) 0) else be N n u i
theorem be_ok {N : NT} (hN : okN N) (n u i : Nat) : (be N n u i).1 ≤ i ∧ (be N n u i).2 < 2 ^ 45 := by
  induction i with
  | zero => exact ⟨Nat.le_refl _, Nat.two_pow_pos 45⟩
  | succ i ih =>
    have st : be N n u (i + 1) = if beB N n u (be N n u i) (i + 1) then (i + 1, tot N (i + 1) 0) else be N n u i := rfl
    rw [st]
    split
    · exact ⟨Nat.le_refl _, tot_lt hN _ _⟩
    · exact ⟨by omega, ih.2⟩
theorem q_fewer {a b : Nat} (ha : a < 4096) (hb : b < 4096) {Post : Bool → Prop} (h : Post (decide (pc a < pc b))) : w_X0_isFewer (nI a) (nI b) Post := by
  have h1 := pc_le a
  have h2 := pc_le b
  refine q_bc ha (q_bc hb ?_)
  rw [nI_leI (by omega) (by omega)]
  refine ⟨fun c => ?_, fun c => ?_⟩
  · rw [decide_eq_false (by omega)] at h; exact h
  · rw [decide_eq_true (by omega)] at h; exact h
theorem q_throughAll {I : HI} {J : HJ} {N : NT} {n u : Nat} (hc : cNet I N) (hN : okN N) (hn : n < 100) (hu : u < 10000) {Post : Int32 → HJ → Prop} (h : ∀ J' : HJ, (∀ c, c ≠ 41 → J' c = J c) → J' 41 3 = lN (be N n u (2 ^ nP N - 1)).2 → Post (nI (be N n u (2 ^ nP N - 1)).1) J') : w_X0_throughAll (nI n) (nI u) I J Post := by
  have hP := hN.1
  have hp : 2 ^ nP N ≤ 4096 := Nat.pow_le_pow_right (n := 2) (by decide) hP
  have hp0 : 0 < 2 ^ nP N := Nat.two_pow_pos _
  intro J1 e1
  refine lp_inv (fun i (s : Int32 × Int32 × HJ) => s.1 = nI (be N n u i).1 ∧ s.2.1 = nI (i + 1) ∧ (∀ c, c ≠ 41 → s.2.2 c = J c) ∧ s.2.2 41 3 = lN (be N n u i).2) (2 ^ nP N - 1) (fun i s hi hq K hK => ?_) (fun s hq K => ?_) (0, 1, J1) ⟨rfl, rfl, fun c hc => by rw [e1]; exact hJ_ne hc, by rw [e1]; exact (hJ_at J 41 3 3 0).trans (if_pos rfl)⟩
  · obtain ⟨x3, x4, J2⟩ := s
    obtain ⟨a1, a2, g1, g2⟩ := hq
    dsimp only at a1 a2 g1 g2
    subst a1 a2
    have st : ∀ {v}, beB N n u (be N n u i) (i + 1) = v → be N n u (i + 1) = if v then (i + 1, tot N (i + 1) 0) else be N n u i := fun {v} q => by show (if _ then _ else _) = _; rw [q]
    unfold beB at st
    have no : be N n u (i + 1) = be N n u i → K (nI (be N n u i).1, nI (i + 1 + 1), J2) := fun q => hK _ ⟨by rw [q], rfl, g1, by rw [q]; exact g2⟩
    have yes : be N n u (i + 1) = (i + 1, tot N (i + 1) 0) → K (nI (i + 1), nI (i + 1 + 1), hJ J2 41 3 (lN (tot N (i + 1) 0))) := fun q => hK _ ⟨by rw [q], rfl, fun c hc => (hJ_ne hc).trans (g1 c hc), by rw [q]; exact (hJ_at J2 41 3 3 _).trans (if_pos rfl)⟩
    have b0 := be_ok hN n u i
    have b2 := tot_lt hN (i + 1) 0
    show wb_X0_throughAll_10 I (nI n) (nI u) Post _ K (nI (be N n u i).1, nI (i + 1), J2)
    unfold wb_X0_throughAll_10
    dsimp only
    rw [hc.1.1, nb_one _ (by omega), nI_1 (i + 1), g2]
    refine ⟨fun c => absurd c (nI_ge (by omega) (by omega)), fun _ => q_may hc hN (by omega) hn hu ⟨fun c => no (st (v := false) (by rw [c]; rfl)), fun c => q_total (C := 0) hc hN (by omega) ?_⟩⟩
    rw [pk_lLT (by omega) (by omega), pk_lEQ (by omega) (by omega)]
    refine ⟨fun c2 J3 e3 => ?_, fun c2 => ⟨fun c3 => no (st (v := false) ?_), fun c3 => q_fewer (by omega) (by omega) ⟨fun c4 => no (st (v := false) ?_), fun c4 J3 e3 => ?_⟩⟩⟩
    · subst e3; exact yes (st (v := true) (by rw [c, decide_eq_true c2]; rfl))
    · rw [decide_eq_false c2, decide_eq_false c3]; simp
    · rw [decide_eq_false c2, c4]; simp
    · subst e3; exact yes (st (v := true) (by rw [c, c4, decide_eq_true c3]; simp))
  · obtain ⟨x3, x4, J2⟩ := s
    obtain ⟨a1, a2, g1, g2⟩ := hq
    dsimp only at a1 a2 g1 g2
    subst a1 a2
    show wb_X0_throughAll_10 I (nI n) (nI u) Post _ K (nI (be N n u (2 ^ nP N - 1)).1, nI (2 ^ nP N - 1 + 1), J2)
    unfold wb_X0_throughAll_10
    dsimp only
    rw [hc.1.1, nb_one _ (by omega), show 2 ^ nP N - 1 + 1 = 2 ^ nP N by omega]
    exact ⟨fun _ => h J2 g1 g2, fun c => absurd (Int32.le_refl _) c⟩
theorem op_best {I : HI} {J : HJ} (h : Inv I J) (x y : Int32) : w_X10_best x y I J (fun r I1 J1 => w_X11_best x y I1 J1 (fun r' I2 J2 => r = r' ∧ Inv I2 J2)) := by
  obtain ⟨N, hC, h1, h2⟩ := h
  have hN := hC.1
  have hP := hN.1
  have hp : 2 ^ nP N ≤ 4096 := Nat.pow_le_pow_right (n := 2) (by decide) hP
  have hp0 : 0 < 2 ^ nP N := Nat.two_pow_pos _
  refine q_choice ?_
  cases b : ask x y
  · refine q_failsE (v := 5) (by decide) ⟨fun q => (by cases q), fun _ I1 e1 I2 e2 => q_asked ⟨fun q => (by rw [b] at q; cases q), fun _ => ?_⟩⟩
    subst e1 e2
    exact q_refused ⟨rfl, fin_er hC (same_cS I 5) (cS_at I 5) (sameJ_rf J) h2⟩
  · obtain ⟨n, u, hn1, hn4, hu, rfl, rfl⟩ := ofAsk b
    have hc' := cNet_same hC.2.1 (same_cS I 0)
    have hm' := mNet_same hC.2.2.1 (sameI_tr (same_cS I 0) (same_m0 (cS I 0)))
    have g := be_ok hN n u (2 ^ nP N - 1)
    refine q_fails0 ⟨fun _ => q_throughAll hc' hN (by omega) (by omega) (fun J1 f1 f2 => q_whole hc' hN ?_), fun q => (by cases q)⟩
    rw [f2]
    refine q_become g.2 (p16 hN).1 (p16 hN).2 (fun I1 e1 I2 e2 => q_asked ⟨fun _ => ?_, fun q => (by rw [b] at q; cases q)⟩)
    subst e1 e2
    refine lp_seq (fun i => (nI (be N n u i).1, lN (be N n u i).2, nI (i + 1))) (2 ^ nP N - 1) (fun i hi K hK => ?_) (fun K => ?_)
    · have st : ∀ {v}, beB N n u (be N n u i) (i + 1) = v → be N n u (i + 1) = if v then (i + 1, tot N (i + 1) 0) else be N n u i := fun {v} q => by show (if _ then _ else _) = _; rw [q]
      unfold beB at st
      have no : be N n u (i + 1) = be N n u i → K (nI (be N n u i).1, lN (be N n u i).2, nI (i + 1 + 1)) := fun q => by rw [q] at hK; exact hK
      have yes : be N n u (i + 1) = (i + 1, tot N (i + 1) 0) → K (nI (i + 1), lN (tot N (i + 1) 0), nI (i + 1 + 1)) := fun q => by rw [q] at hK; exact hK
      have b0 := be_ok hN n u i
      have b2 := tot_lt hN (i + 1) 0
      show wb_X11_best_32 (m0 (cS I 0)) _ (nI n) (nI u) _ _ K (nI (be N n u i).1, lN (be N n u i).2, nI (i + 1))
      unfold wb_X11_best_32
      dsimp only
      rw [hm'.1.1, nb_one _ (by omega), nI_1 (i + 1)]
      have p1 := pc_le (i + 1)
      have p2 := pc_le (be N n u i).1
      refine ⟨fun c => absurd c (nI_ge (by omega) (by omega)), fun _ => q_mMay hm' hN (by omega) (by omega) (by omega) ⟨fun c => q_mSpread (C := 0) hm' hN (by omega) ?_, fun c => no (st (v := false) (by rw [c]; rfl))⟩⟩
      rw [pk_lLT (by omega) (by omega), pk_lEQ (by omega) (by omega)]
      refine ⟨fun c2 => no (st (v := false) ?_), fun c2 => ⟨fun c3 => yes (st (v := true) ?_), fun c3 => q_bc (by omega) (q_bc (by omega) ?_)⟩⟩
      · rw [decide_eq_false (by omega), decide_eq_false (by omega)]; simp
      · rw [decide_eq_true (by omega), c]; rfl
      · rw [nI_ltI (by omega) (by omega)]
        refine ⟨fun c4 => yes (st (v := true) ?_), fun c4 => no (st (v := false) ?_)⟩
        · rw [decide_eq_true c4, decide_eq_true c3, c]; simp
        · rw [decide_eq_false c4, decide_eq_false (by omega)]; simp
    · show wb_X11_best_32 (m0 (cS I 0)) _ (nI n) (nI u) _ _ K (nI (be N n u (2 ^ nP N - 1)).1, lN (be N n u (2 ^ nP N - 1)).2, nI (2 ^ nP N - 1 + 1))
      unfold wb_X11_best_32
      dsimp only
      rw [hm'.1.1, nb_one _ (by omega), show 2 ^ nP N - 1 + 1 = 2 ^ nP N by omega]
      refine ⟨fun _ => q_mWhole hm' hN (q_mFrac g.2 (p16 hN).1 (p16 hN).2 ⟨rfl, fin_ok hC (same_cS I 0) (cS_at I 0) (sameJ_tr ?_ (sameJ_tr (same_cFr _ _ _) (same_mFr _ _ _))) frac_both⟩), fun c => absurd (Int32.le_refl _) c⟩
      exact fun c r => f1 c (fun q => by subst q; cases r)
/-! ties to close -/
noncomputable def spB (N : NT) (S n : Nat) (r : Nat × Nat) (k : Nat) : Bool := decide (pc k ≤ n) && (decide (tot N S k < r.2) || (decide (tot N S k = r.2) && decide (pc k < pc r.1)))
noncomputable def sp (N : NT) (S n : Nat) : Nat → Nat × Nat
  | 0 => (0, tot N S 0)
  | i + 1 => if spB N S n (sp N S n i) (i + 1) then (i + 1, tot N S (i + 1)) else sp N S n i
theorem sp_ok {N : NT} (hN : okN N) (S n i : Nat) : (sp N S n i).1 ≤ i ∧ (sp N S n i).2 < 2 ^ 45 := by
  induction i with
  | zero => exact ⟨Nat.le_refl _, tot_lt hN _ _⟩
  | succ i ih =>
    have st : sp N S n (i + 1) = if spB N S n (sp N S n i) (i + 1) then (i + 1, tot N S (i + 1)) else sp N S n i := rfl
    rw [st]
    split
    · exact ⟨Nat.le_refl _, tot_lt hN _ _⟩
    · exact ⟨by omega, ih.2⟩
theorem q_tiesToClose {I : HI} {J : HJ} {N : NT} {S n : Nat} (hc : cNet I N) (hN : okN N) (hS : S < 2 ^ nP N) (hn : n < 100) {Post : Int32 → HJ → Prop} (h : ∀ J' : HJ, (∀ c, c ≠ 41 → J' c = J c) → J' 41 3 = lN (sp N S n (2 ^ nT N - 1)).2 → Post (nI (sp N S n (2 ^ nT N - 1)).1) J') : w_X0_tiesToClose (nI S) (nI n) I J Post := by
  have hT := hN.2.1
  have hp : 2 ^ nT N ≤ 1024 := Nat.pow_le_pow_right (n := 2) (by decide) hT
  have hp0 : 0 < 2 ^ nT N := Nat.two_pow_pos _
  refine q_total (C := 0) hc hN hS (fun J1 e1 => ?_)
  refine lp_inv (fun i (s : Int32 × Int32 × HJ) => s.1 = nI (sp N S n i).1 ∧ s.2.1 = nI (i + 1) ∧ (∀ c, c ≠ 41 → s.2.2 c = J c) ∧ s.2.2 41 3 = lN (sp N S n i).2) (2 ^ nT N - 1) (fun i s hi hq K hK => ?_) (fun s hq K => ?_) (0, 1, J1) ⟨rfl, rfl, fun c hc => by rw [e1]; exact hJ_ne hc, by rw [e1]; exact (hJ_at J 41 3 3 _).trans (if_pos rfl)⟩
  · obtain ⟨x3, x4, J2⟩ := s
    obtain ⟨a1, a2, g1, g2⟩ := hq
    dsimp only at a1 a2 g1 g2
    subst a1 a2
    have st : ∀ {v}, spB N S n (sp N S n i) (i + 1) = v → sp N S n (i + 1) = if v then (i + 1, tot N S (i + 1)) else sp N S n i := fun {v} q => by show (if _ then _ else _) = _; rw [q]
    unfold spB at st
    have no : sp N S n (i + 1) = sp N S n i → K (nI (sp N S n i).1, nI (i + 1 + 1), J2) := fun q => hK _ ⟨by rw [q], rfl, g1, by rw [q]; exact g2⟩
    have yes : sp N S n (i + 1) = (i + 1, tot N S (i + 1)) → K (nI (i + 1), nI (i + 1 + 1), hJ J2 41 3 (lN (tot N S (i + 1)))) := fun q => hK _ ⟨by rw [q], rfl, fun c hc => (hJ_ne hc).trans (g1 c hc), by rw [q]; exact (hJ_at J2 41 3 3 _).trans (if_pos rfl)⟩
    have b0 := sp_ok hN S n i
    have b2 := tot_lt hN S (i + 1)
    have p1 := pc_le (i + 1)
    show wb_X0_tiesToClose_18 I (nI S) (nI n) Post _ K (nI (sp N S n i).1, nI (i + 1), J2)
    unfold wb_X0_tiesToClose_18
    dsimp only
    refine q_count hc hN ?_
    rw [nI_1 (i + 1), g2]
    refine ⟨fun c => absurd c (nI_ge (by omega) (by omega)), fun _ => q_bc (by omega) ?_⟩
    rw [nI_ltI (by omega) (by omega)]
    refine ⟨fun c => no (st (v := false) (by rw [decide_eq_false (by omega)]; rfl)), fun c => q_total hc hN hS ?_⟩
    rw [pk_lLT (by omega) (by omega), pk_lEQ (by omega) (by omega)]
    have c' : decide (pc (i + 1) ≤ n) = true := decide_eq_true (by omega)
    refine ⟨fun c2 J3 e3 => ?_, fun c2 => ⟨fun c3 => no (st (v := false) ?_), fun c3 => q_fewer (by omega) (by omega) ⟨fun c4 => no (st (v := false) ?_), fun c4 J3 e3 => ?_⟩⟩⟩
    · subst e3; exact yes (st (v := true) (by rw [c', decide_eq_true c2]; rfl))
    · rw [decide_eq_false c2, decide_eq_false c3]; simp
    · rw [decide_eq_false c2, c4]; simp
    · subst e3; exact yes (st (v := true) (by rw [c', c4, decide_eq_true c3]; simp))
  · obtain ⟨x3, x4, J2⟩ := s
    obtain ⟨a1, a2, g1, g2⟩ := hq
    dsimp only at a1 a2 g1 g2
    subst a1 a2
    show wb_X0_tiesToClose_18 I (nI S) (nI n) Post _ K (nI (sp N S n (2 ^ nT N - 1)).1, nI (2 ^ nT N - 1 + 1), J2)
    unfold wb_X0_tiesToClose_18
    dsimp only
    refine q_count hc hN ?_
    rw [show 2 ^ nT N - 1 + 1 = 2 ^ nT N by omega]
    exact ⟨fun _ => h J2 g1 g2, fun c => absurd (Int32.le_refl _) c⟩
theorem op_stops {I : HI} {J : HJ} (h : Inv I J) (x y : Int32) : w_X10_stops x y I J (fun r I1 J1 => w_X11_stops x y I1 J1 (fun r' I2 J2 => r = r' ∧ Inv I2 J2)) := by
  obtain ⟨N, hC, h1, h2⟩ := h
  have hN := hC.1
  have hP := hN.1
  have hT := hN.2.1
  have hp : 2 ^ nT N ≤ 1024 := Nat.pow_le_pow_right (n := 2) (by decide) hT
  have hp0 : 0 < 2 ^ nT N := Nat.two_pow_pos _
  refine q_arePeople hC.2.1 hN (q_between (a := 0) (b := 3) (q_oneOf rfl rfl ?_))
  rw [show (0 : Int32).toInt = 0 from by decide, show (3 : Int32).toInt = 3 from by decide]
  have isI : ∀ {v : Bool → Prop}, v (isBt y 0 3) → w_X11_isIn (Int32.toInt64 y) 0 3 v := fun {v} q => q_isIn (a := 0) (b := 3) (by rw [show (0 : Int64).toInt = 0 from by decide, show (3 : Int64).toInt = 3 from by decide]; exact q)
  cases b : isSet (nP N) x
  · refine q_failsE (v := 2) (by decide) ⟨fun q => (by cases q), fun _ I1 e1 I2 e2 => ?_⟩
    subst e1 e2
    exact q_areSeeds (mNet_same hC.2.2.1 (sameI_tr (same_cS I 2) (same_m0 _))) hN ⟨fun q => (by rw [b] at q; cases q), fun _ => q_refused ⟨rfl, fin_er hC (same_cS I 2) (cS_at I 2) (sameJ_rf J) h2⟩⟩
  · obtain ⟨S, hS, rfl⟩ := ofSet (by omega) b
    cases b2 : isBt y 0 3
    · refine q_failsE (by decide) ⟨fun q => (by cases q), fun _ I1 e1 I2 e2 => ?_⟩
      subst e1 e2
      exact q_areSeeds (mNet_same hC.2.2.1 (sameI_tr (same_cS I 5) (same_m0 _))) hN ⟨fun _ => isI ⟨fun q => (by rw [b2] at q; cases q), fun _ => q_refused ⟨rfl, fin_er hC (same_cS I 5) (cS_at I 5) (sameJ_rf J) h2⟩⟩, fun q => (by rw [b] at q; cases q)⟩
    · obtain ⟨n, hn, rfl⟩ := ofBt (n := 3) b2
      have hc' := cNet_same hC.2.1 (same_cS I 0)
      have hm' := mNet_same hC.2.2.1 (sameI_tr (same_cS I 0) (same_m0 (cS I 0)))
      have g := sp_ok hN S n (2 ^ nT N - 1)
      refine q_fails0 ⟨fun _ => q_tiesToClose hc' hN hS (by omega) (fun J1 f1 f2 => q_whole hc' hN ?_), fun q => (by cases q)⟩
      rw [f2]
      refine q_become g.2 (p16 hN).1 (p16 hN).2 (fun I1 e1 I2 e2 => ?_)
      subst e1 e2
      refine q_areSeeds hm' hN ⟨fun _ => isI ⟨fun _ => q_mSpread (C := 0) hm' hN hS ?_, fun q => (by rw [b2] at q; cases q)⟩, fun q => (by rw [b] at q; cases q)⟩
      refine lp_seq (fun i => (nI (sp N S n i).1, lN (sp N S n i).2, nI (i + 1))) (2 ^ nT N - 1) (fun i hi K hK => ?_) (fun K => ?_)
      · have st : ∀ {v}, spB N S n (sp N S n i) (i + 1) = v → sp N S n (i + 1) = if v then (i + 1, tot N S (i + 1)) else sp N S n i := fun {v} q => by show (if _ then _ else _) = _; rw [q]
        unfold spB at st
        have no : sp N S n (i + 1) = sp N S n i → K (nI (sp N S n i).1, lN (sp N S n i).2, nI (i + 1 + 1)) := fun q => by rw [q] at hK; exact hK
        have yes : sp N S n (i + 1) = (i + 1, tot N S (i + 1)) → K (nI (i + 1), lN (tot N S (i + 1)), nI (i + 1 + 1)) := fun q => by rw [q] at hK; exact hK
        have b0 := sp_ok hN S n i
        have b3 := tot_lt hN S (i + 1)
        show wb_X11_stops_55 (m0 (cS I 0)) _ (nI S) (nI n) _ _ K (nI (sp N S n i).1, lN (sp N S n i).2, nI (i + 1))
        unfold wb_X11_stops_55
        dsimp only
        rw [hm'.1.2, nb_one _ (by omega), nI_1 (i + 1)]
        have p1 := pc_le (i + 1)
        have p2 := pc_le (sp N S n i).1
        refine ⟨fun c => absurd c (nI_ge (by omega) (by omega)), fun _ => q_bc (by omega) ?_⟩
        rw [nI_leI (by omega) (by omega)]
        refine ⟨fun c => q_mSpread hm' hN hS ?_, fun c => no (st (v := false) (by rw [decide_eq_false c]; rfl))⟩
        rw [pk_lLT (by omega) (by omega), pk_lEQ (by omega) (by omega)]
        refine ⟨fun c2 => no (st (v := false) ?_), fun c2 => ⟨fun c3 => yes (st (v := true) ?_), fun c3 => q_bc (by omega) (q_bc (by omega) ?_)⟩⟩
        · rw [decide_eq_false (by omega : ¬ tot N S (i + 1) < _), decide_eq_false (by omega : ¬ tot N S (i + 1) = _)]; simp
        · rw [decide_eq_true (by omega : tot N S (i + 1) < _), decide_eq_true c]; rfl
        · rw [nI_ltI (by omega) (by omega)]
          refine ⟨fun c4 => yes (st (v := true) ?_), fun c4 => no (st (v := false) ?_)⟩
          · rw [decide_eq_true c4, decide_eq_true c3, decide_eq_true c]; simp
          · rw [decide_eq_false c4, decide_eq_false (by omega : ¬ tot N S (i + 1) < _)]; simp
      · show wb_X11_stops_55 (m0 (cS I 0)) _ (nI S) (nI n) _ _ K (nI (sp N S n (2 ^ nT N - 1)).1, lN (sp N S n (2 ^ nT N - 1)).2, nI (2 ^ nT N - 1 + 1))
        unfold wb_X11_stops_55
        dsimp only
        rw [hm'.1.2, nb_one _ (by omega), show 2 ^ nT N - 1 + 1 = 2 ^ nT N by omega]
        refine ⟨fun _ => q_mWhole hm' hN (q_mFrac g.2 (p16 hN).1 (p16 hN).2 ⟨rfl, fin_ok hC (same_cS I 0) (cS_at I 0) (sameJ_tr ?_ (sameJ_tr (same_cFr _ _ _) (same_mFr _ _ _))) frac_both⟩), fun c => absurd (Int32.le_refl _) c⟩
        exact fun c r => f1 c (fun q => by subst q; cases r)
