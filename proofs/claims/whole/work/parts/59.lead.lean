/-! who moved one: the tie told last, of those told till it decided -/
def mvc (N : NT) (lot p : Nat) (s : ST) (t : Nat) : Bool := decide (nTo N t = p) && (lot.testBit t && decide (tel N s.1 t ≤ s.2.1 p))
def mvr (N : NT) (lot p : Nat) (s : ST) : Nat → Nat × Nat
  | 0 => (0, 0)
  | i + 1 => if mvc N lot p s i = true ∧ ((mvr N lot p s i).1 = 0 ∨ tel N s.1 (mvr N lot p s i).2 < tel N s.1 i) then (1, i) else mvr N lot p s i
theorem mvr_ok (N : NT) (lot p : Nat) (s : ST) : ∀ i, (mvr N lot p s i).1 = 0 ∨ ((mvr N lot p s i).1 = 1 ∧ (mvr N lot p s i).2 < i ∧ tel N s.1 (mvr N lot p s i).2 ≤ s.2.1 p) := by
  intro i
  induction i with
  | zero => exact Or.inl rfl
  | succ i ih =>
    unfold mvr
    split
    · rename_i c
      have c1 := c.1
      unfold mvc at c1
      simp only [Bool.and_eq_true, decide_eq_true_eq] at c1
      exact Or.inr ⟨rfl, Nat.lt_succ_self i, c1.2.2⟩
    · rcases ih with z | z
      · exact Or.inl z
      · exact Or.inr ⟨z.1, by omega, z.2.2⟩
def mvx (q : Nat × Nat) : Int32 := if q.1 = 0 then -1 else nI q.2
theorem q_moverOf {I I0 : HI} {J : HJ} {N : NT} {rd lot p : Nat} {s : ST} (hc : cNet I0 N) (hN : okN N) (hlot : lot < 2 ^ nT N) (hp : p < nP N) (hs : cSt I I0 N rd s) (h1 : s.1 p < 1000) (h2 : s.2.1 p < 1000) (h3 : s.1 p = s.2.1 p + nLt N p) (hk : ∀ q, q < nP N → s.1 q ≤ 1000) {Post : Int32 → Prop} (h : Post (mvx (mvr N lot p s (nT N)))) : w_X7_moverOf (nI p) (nI lot) I J Post := by
  have hP := hN.1
  have hT := hN.2.1
  have hlot10 := two10 hN hlot
  have cI : cNet I N := cNet_of hc (fun c h1 h2 => hs.1 c (by omega))
  have vp : vp_in (nI p) 12 := vp_in_nI (by omega) (by omega)
  unfold w_X7_moverOf
  rw [nI_clamp (by omega : p < 2 ^ 31), hs.2.2.2 p hp h1, (cI.2.1 p hp).2.2.1, pk_sub (by omega), show s.1 p - nLt N p = s.2.1 p by omega]
  refine ⟨vp, vp, fun z1 e1 => ?_⟩
  subst e1
  refine lp_inv (fun i (st : Int32 × Int32 × Int32) => st.2.2 = nI i ∧ st.1 = mvx (mvr N lot p s i) ∧ st.2.1 = (if (mvr N lot p s i).1 = 0 then -1 else nI (tel N s.1 (mvr N lot p s i).2))) (nT N) (fun i st hi hq K hK => ?_) (fun st hq K => ?_) (-1, -1, 0) ⟨rfl, rfl, rfl⟩
  · obtain ⟨x4, x5, x6⟩ := st
    obtain ⟨a1, a2, a3⟩ := hq
    dsimp only at a1 a2 a3
    subst a1
    have ct := cI.2.2.1 i hi
    have ho := hN.2.2.2.1 i hi
    have vi : vp_in (nI i) 10 := vp_in_nI (by omega) (by omega)
    have st : mvr N lot p s (i + 1) = if mvc N lot p s i = true ∧ ((mvr N lot p s i).1 = 0 ∨ tel N s.1 (mvr N lot p s i).2 < tel N s.1 i) then (1, i) else mvr N lot p s i := rfl
    have no : ¬ (mvc N lot p s i = true ∧ ((mvr N lot p s i).1 = 0 ∨ tel N s.1 (mvr N lot p s i).2 < tel N s.1 i)) → K (x4, x5, nI (i + 1)) := fun c => hK _ ⟨rfl, by rw [st, if_neg c]; exact a2, by rw [st, if_neg c]; exact a3⟩
    have tv := tel_v N s.1 i
    have hkq := hk _ ho.1
    have il : lot &&& inM N p < 4096 := by have := two10 hN (and_lt (b := inM N p) hlot); omega
    have ib : (lot &&& inM N p).testBit i = (lot.testBit i && decide (nTo N i = p)) := by rw [Nat.testBit_and, inM_bit, decide_eq_true hi, Bool.true_and]
    show wb_X7_moverOf_26 I J (nI p) (nI lot) (nI (s.2.1 p)) Post _ K (x4, x5, nI i)
    unfold wb_X7_moverOf_26
    dsimp only
    rw [cI.1.2.1, nI_clamp (by omega : p < 2 ^ 31), (cI.2.1 p hp).2.2.2.2.1, nb_and, nI_clamp (by omega : i < 2 ^ 31), ct.1, ct.2.2.2, hs.2.2.1, nI_1 i]
    refine ⟨fun c => absurd c (nI_ge hi (by omega)), fun _ => ⟨vi, vp, q_has (by omega) (by omega) ⟨fun b => no (fun z => ?_), fun b => q_has (lt31 (by omega) (mk_lt _ _)) (by omega) ⟨fun b2 => no (fun z => ?_), fun b2 => ⟨vp_in_nI (by omega) (by omega), vi, fun z4 e4 => ?_⟩⟩⟩⟩⟩
    · rw [ib] at b
      have := z.1
      unfold mvc at this
      simp only [Bool.and_eq_true, decide_eq_true_eq] at this
      rw [this.2.1, decide_eq_true this.1] at b
      cases b
    · rw [mk_at ho.1] at b2
      have := of_decide_eq_false b2
      have z1 := z.1
      unfold mvc at z1
      simp only [Bool.and_eq_true, decide_eq_true_eq] at z1
      omega
    · rw [mk_at ho.1] at b2
      have b2 := of_decide_eq_true b2
      rw [nI_clamp (by omega : nFr N i < 2 ^ 31), hs.2.2.2 _ ho.1 b2, nI_add, show s.1 (nFr N i) + nHr N i = tel N s.1 i by omega] at e4
      subst e4
      rw [ib, Bool.and_eq_true, decide_eq_true_eq] at b
      rw [nI_ltI (by omega) (by omega)]
      refine ⟨fun c => no (fun z => ?_), fun c => ?_⟩
      · have z1 := z.1
        unfold mvc at z1
        simp only [Bool.and_eq_true, decide_eq_true_eq] at z1
        omega
      · have mc : mvc N lot p s i = true := by
          unfold mvc
          simp only [Bool.and_eq_true, decide_eq_true_eq]
          exact ⟨b.2, b.1, by omega⟩
        have yes : ((mvr N lot p s i).1 = 0 ∨ tel N s.1 (mvr N lot p s i).2 < tel N s.1 i) → K (nI i, nI (tel N s.1 i), nI (i + 1)) := fun y => by
          have e : mvr N lot p s (i + 1) = (1, i) := by rw [st]; exact if_pos ⟨mc, y⟩
          exact hK _ ⟨rfl, by rw [e]; rfl, by rw [e]; rfl⟩
        rcases mvr_ok N lot p s i with m | ⟨m1, m2, m3⟩
        · rw [if_pos m] at a3
          subst a3
          refine ⟨fun y => absurd y ?_, fun _ => yes (Or.inl m)⟩
          rw [Int32.le_iff_toInt_le, nI_toInt (by omega), nb_m1]
          omega
        · rw [if_neg (by omega)] at a3
          subst a3
          rw [nI_leI (by omega) (by omega)]
          exact ⟨fun y => no (fun z => by omega), fun y => yes (Or.inr (by omega))⟩
  · obtain ⟨x4, x5, x6⟩ := st
    obtain ⟨a1, a2, a3⟩ := hq
    dsimp only at a1 a2 a3
    subst a1 a2
    show wb_X7_moverOf_26 I J (nI p) (nI lot) (nI (s.2.1 p)) Post _ K (mvx _, x5, nI (nT N))
    unfold wb_X7_moverOf_26
    dsimp only
    rw [cI.1.2.1]
    exact ⟨fun _ => h, fun z => absurd (Int32.le_refl _) z⟩
theorem q_mMover {I I0 : HI} {J : HJ} {N : NT} {lot p : Nat} {s : ST} (hm : mNet I0 N) (hN : okN N) (hlot : lot < 2 ^ nT N) (hp : p < nP N) (hr : rep I I0 N s.1 s.2.1 s.2.2) (h2 : s.2.1 p < 1000) (hk : ∀ q, q < nP N → s.1 q = 1000 ∨ s.1 q < 150) {Post : Int32 → HI → Prop} {E : Int32 → Prop} (h : E (mvx (mvr N lot p s (nT N)))) : ∃ n, lp (wb_X11_lead_122 I J (nI lot) (nI p) Post E) n (-1, 0) := by
  have hP := hN.1
  have hT := hN.2.1
  have hlot10 := two10 hN hlot
  have mI := rep_m hm hr
  have vp : vp_in (nI p) 12 := vp_in_nI (by omega) (by omega)
  have tl : ∀ t, t < nT N → tel N s.1 t ≤ 1000 := fun t ht => by
    have ho := hN.2.2.2.1 t ht
    have := hk _ ho.1
    have := tel_v N s.1 t
    omega
  refine lp_inv (fun i (st : Int32 × Int32) => st.2 = nI i ∧ st.1 = mvx (mvr N lot p s i)) (nT N) (fun i st hi hq K hK => ?_) (fun st hq K => ?_) (-1, 0) ⟨rfl, rfl⟩
  · obtain ⟨x5, x6⟩ := st
    obtain ⟨a1, a2⟩ := hq
    dsimp only at a1 a2
    subst a1
    have ct := mI.2.2.1 i hi
    have ho := hN.2.2.2.1 i hi
    have vi : vp_in (nI i) 10 := vp_in_nI (by omega) (by omega)
    have ti := tl i hi
    have st : mvr N lot p s (i + 1) = if mvc N lot p s i = true ∧ ((mvr N lot p s i).1 = 0 ∨ tel N s.1 (mvr N lot p s i).2 < tel N s.1 i) then (1, i) else mvr N lot p s i := rfl
    have no : ¬ (mvc N lot p s i = true ∧ ((mvr N lot p s i).1 = 0 ∨ tel N s.1 (mvr N lot p s i).2 < tel N s.1 i)) → K (x5, nI (i + 1)) := fun c => hK _ ⟨rfl, by rw [st, if_neg c]; exact a2⟩
    have nc : ¬ (nTo N i = p ∧ lot.testBit i = true ∧ tel N s.1 i ≤ s.2.1 p) → K (x5, nI (i + 1)) := fun c => no (fun z => c (by
      have z1 := z.1
      unfold mvc at z1
      simp only [Bool.and_eq_true, decide_eq_true_eq] at z1
      exact z1))
    show wb_X11_lead_122 I J (nI lot) (nI p) Post _ K (x5, nI i)
    unfold wb_X11_lead_122
    dsimp only
    rw [mI.1.2, nI_clamp (by omega : i < 2 ^ 31), ct.2.1, nI_eq (by omega) (by omega), nb_bit (by omega) (by omega), hr.2.2 i hi, nI_clamp (by omega : p < 2 ^ 31), (hr.2.1 p hp).2.1, nI_leI (a := tel N s.1 i) (b := s.2.1 p) (by omega) (by omega), nI_1 i]
    refine ⟨fun c => absurd c (nI_ge hi (by omega)), fun _ => ⟨vi, fun b => nc (fun z => b z.1), fun b => ⟨fun b2 => nc (fun z => by rw [b2] at z; cases z.2.1), fun b2 => ⟨vi, vp, fun b3 => ?_, fun b3 => nc (fun z => b3 z.2.2)⟩⟩⟩⟩
    have mc : mvc N lot p s i = true := by
      unfold mvc
      simp only [Bool.and_eq_true, decide_eq_true_eq]
      exact ⟨b, by cases y : lot.testBit i; exact absurd y b2; rfl, b3⟩
    have yes : ((mvr N lot p s i).1 = 0 ∨ tel N s.1 (mvr N lot p s i).2 < tel N s.1 i) → K (nI i, nI (i + 1)) := fun y => by
      have e : mvr N lot p s (i + 1) = (1, i) := by rw [st]; exact if_pos ⟨mc, y⟩
      exact hK _ ⟨rfl, by rw [e]; rfl⟩
    rcases mvr_ok N lot p s i with m | ⟨m1, m2, m3⟩
    · have e : x5 = -1 := by rw [a2]; exact if_pos m
      subst e
      exact ⟨fun _ => yes (Or.inl m), fun y => absurd (by decide) y⟩
    · have e : x5 = nI (mvr N lot p s i).2 := by rw [a2]; exact if_neg (by omega)
      have tb := tl _ (show (mvr N lot p s i).2 < nT N by omega)
      rw [e, nI_clamp (by omega), hr.2.2 _ (by omega), nI_leI (by omega) (by omega), ← e]
      refine ⟨fun y => ?_, fun _ => ⟨vi, by rw [e]; exact vp_in_nI (by omega) (by omega), fun y => no (fun z => by omega), fun y => yes (Or.inr (by omega))⟩⟩
      rw [e] at y
      exact absurd y (nI_pos (by omega))
  · obtain ⟨x5, x6⟩ := st
    obtain ⟨a1, a2⟩ := hq
    dsimp only at a1 a2
    subst a1 a2
    show wb_X11_lead_122 I J (nI lot) (nI p) Post _ K (mvx _, nI (nT N))
    unfold wb_X11_lead_122
    dsimp only
    rw [mI.1.2]
    exact ⟨fun _ => h, fun z => absurd (Int32.le_refl _) z⟩
theorem same_cSt {I I0 : HI} {N : NT} {rd : Nat} {s : ST} (h : cSt I I0 N rd s) : sameI I0 I := same_st h.1
theorem cSt_cS {I I0 : HI} {N : NT} {rd : Nat} {s : ST} (h : cSt I I0 N rd s) (v : Int32) : cSt (cS I v) (cS I0 v) N rd s := by
  refine ⟨fun c hc => ?_, ?_, ?_, fun p hp hz => ?_⟩
  · unfold cS
    by_cases y : c = 0
    · subst y
      funext k
      rw [hI_at, hI_at, h.1 0 hc]
    · rw [hI_ne y, hI_ne y, h.1 c hc]
  · unfold cS; rw [hI_ne (by decide)]; exact h.2.1
  · unfold cS; rw [hI_ne (by decide)]; exact h.2.2.1
  · unfold cS; rw [hI_ne (by decide)]; exact h.2.2.2 p hp hz
theorem op_lead {I : HI} {J : HJ} (h : Inv I J) (x y z w : Int32) : w_X10_lead x y z w I J (fun r I1 => w_X11_lead x y z w I1 J (fun r' I2 => r = r' ∧ Inv I2 J)) := by
  obtain ⟨N, hC, h1, h2⟩ := h
  have hN := hC.1
  have hP := hN.1
  have hT := hN.2.1
  have hm2 : ∀ v, mNet (m0 (cS I v)) N := fun v => mNet_same hC.2.2.1 (sameI_tr (same_cS I v) (same_m0 (cS I v)))
  have er : ∀ v, Inv (mE (cS I v) v) J := fun v => fin_er hC (same_cS I v) (cS_at I v) (sameJ_rf J) h2
  have bad2 : ((isSet (nP N) x && isSet (nT N) y) && isIx (nP N) z) = false → wj_X10_lead_38 I J x y z w 0 (fun r I1 => w_X11_lead x y z w I1 J (fun r' I2 => r = r' ∧ Inv I2 J)) := by
    intro hb
    refine bt_w (lo := 0) (hi := 1) (by decide) (by decide) (q_oneOf (a := false) (b := isBt w 0 1) rfl rfl ?_)
    refine ⟨fun _ => ?_, fun q => absurd (show (2 : Int32) = 0 from q) (by decide)⟩
    show w_X10_fails 2 I J _
    refine q_failsE (by decide) ⟨fun q => (by cases q), fun _ I1 e1 I2 e2 => ?_⟩
    subst e1 e2
    have fin : wj_X11_lead_34 (m0 (cS I 2)) J (fun r' I2 => (-1 : Int32) = r' ∧ Inv I2 J) := q_refused ⟨rfl, er 2⟩
    refine q_areSeeds (hm2 2) hN ⟨fun _ => fin, fun b => q_isLot (hm2 2) hN ⟨fun _ => fin, fun b2 => q_isOne (hm2 2) hN ⟨fun b3 => ?_, fun _ => fin⟩⟩⟩
    rw [b, b2, b3] at hb; cases hb
  refine q_arePeople hC.2.1 hN ⟨fun b => bad2 (by rw [b]; rfl), fun b => q_areTies hC.2.1 hN ⟨fun b2 => bad2 (by rw [b2, Bool.and_false]; rfl), fun b2 => q_isPerson hC.2.1 hN ⟨fun b3 => bad2 (by rw [b3, Bool.and_false]), fun b3 => ?_⟩⟩⟩
  obtain ⟨S, hS, rfl⟩ := ofSet (by omega) b
  obtain ⟨L, hL, rfl⟩ := ofSet (by omega) b2
  obtain ⟨p, hp, rfl⟩ := ofIx b3
  have hS12 := two12 hN hS
  refine bt_w (lo := 0) (hi := 1) (by decide) (by decide) (q_oneOf (a := true) (b := isBt w 0 1) rfl rfl ?_)
  cases hb : isBt w 0 1
  · refine ⟨fun _ => ?_, fun q => absurd q (by decide)⟩
    show w_X10_fails 5 I J _
    refine q_failsE (by decide) ⟨fun q => (by cases q), fun _ I1 e1 I2 e2 => ?_⟩
    subst e1 e2
    exact q_areSeeds (hm2 5) hN ⟨fun q => (by rw [b] at q; cases q), fun _ => q_isLot (hm2 5) hN ⟨fun q => (by rw [b2] at q; cases q), fun _ => q_isOne (hm2 5) hN ⟨fun _ => bt_m (lo := 0) (hi := 1) (by decide) (by decide) ⟨fun q => (by rw [hb] at q; cases q), fun _ => q_refused ⟨rfl, er 5⟩⟩, fun q => (by rw [b3] at q; cases q)⟩⟩⟩
  · refine ⟨fun q => absurd rfl q, fun _ => ?_⟩
    obtain ⟨g, hg, rfl⟩ := ofBt (n := 1) hb
    refine q_play (bl := 0) (bh := 0) hC.2.1 hN (by decide) hS (Nat.two_pow_pos _) hL (fun I7 c7 => ?_)
    have mk150 := mOk_all hN S 0 0 L (Nat.le_refl 150)
    obtain ⟨k1, k2, k3, k4, k5, k6, k7, k8⟩ := mk150 p hp
    have k6' : (sts N S 0 0 L 150).2.1 p = 1000 → (sts N S 0 0 L 150).1 p < 1000 → S.testBit p = true := fun a b => (k6 a b).elim id (fun z => by rw [Nat.zero_testBit] at z; cases z)
    have k7' := k7 (by decide)
    have hl := (hN.2.2.2.2.1 p hp).2.2.2.1
    have hk : ∀ q, q < nP N → (sts N S 0 0 L 150).1 q = 1000 ∨ (sts N S 0 0 L 150).1 q < 150 := fun q hq => (mk150 q hq).1
    generalize hst : sts N S 0 0 L 150 = s at *
    have s7 : sameI I I7 := same_cSt c7
    -- the model, once the class has answered
    have mod : ∀ (r v : Int32), (s.1 p = 1000 → r = -1 ∧ v = 8) → (¬ s.1 p = 1000 → nI g = 1 → r = nI (s.1 p) ∧ v = 0) → (¬ s.1 p = 1000 → ¬ nI g = 1 → s.2.1 p = 1000 → r = -1 ∧ v = 8) → (¬ s.1 p = 1000 → ¬ nI g = 1 → ¬ s.2.1 p = 1000 → r = mvx (mvr N L p s (nT N)) ∧ v = 0) → w_X11_lead (nI S) (nI L) (nI p) (nI g) (cS I7 v) J (fun r' I2 => r = r' ∧ Inv I2 J) := by
      intro r v m1 m2 m3 m4 I1 e1 I2 e2
      subst e1 e2
      have s8 := sameI_tr s7 (sameI_tr (same_cS I7 v) (same_m0 (cS I7 v)))
      have hm' := mNet_same hC.2.2.1 s8
      refine q_areSeeds hm' hN ⟨fun q => (by rw [b] at q; cases q), fun _ => q_isLot hm' hN ⟨fun q => (by rw [b2] at q; cases q), fun _ => q_isOne hm' hN ⟨fun _ => bt_m (lo := 0) (hi := 1) (by decide) (by decide) ⟨fun _ => ?_, fun q => (by rw [hb] at q; cases q)⟩, fun q => (by rw [b3] at q; cases q)⟩⟩⟩
      refine q_mLive (bl := 0) (bh := 0) hm' hN (by decide) hS (Nat.two_pow_pos _) hL (fun I9 r9 => ?_)
      rw [hst] at r9
      have s9 : sameI I I9 := sameI_tr s8 (same_lv r9.1)
      have e0 : I9 0 12 = v := by rw [r9.1 0 (by omega)]; exact cS_at I7 v
      have e72 : I9 72 0 = 0 := by rw [r9.1 72 (by omega)]; exact m0_72 _
      have vp : vp_in (nI p) 12 := vp_in_nI (by omega) (by omega)
      rw [nI_clamp (by omega : p < 2 ^ 31), (r9.2.1 p hp).1, (r9.2.1 p hp).2.1, show (1000 : Int32) = nI 1000 from rfl, nI_eq (by omega) (by omega), nI_eq (by omega) (by omega)]
      have ok : v = 0 → Inv I9 J := fun q => fin_g hC s9 (by rw [e0, e72, q]) (sameJ_rf J) h2
      have bad : v = 8 → Inv (hI I9 72 0 8) J := fun q => fin_g hC (sameI_tr s9 (same_w _ _ rfl)) (by rw [hI_ne (by decide), hI_at, if_pos rfl, e0, q]) (sameJ_rf J) h2
      refine ⟨vp, fun c => ⟨fun c2 => ⟨vp, fun c3 => ?_, fun c3 => ?_⟩, fun c2 => ⟨vp, ?_⟩⟩, fun c => ?_⟩
      · obtain ⟨q1, q2⟩ := m4 c c2 c3
        exact q_mMover hm' hN hL hp r9 (by omega) hk ⟨q1, ok q2⟩
      · obtain ⟨q1, q2⟩ := m3 c c2 c3
        exact q_refused ⟨q1, bad q2⟩
      · obtain ⟨q1, q2⟩ := m2 c c2
        exact ⟨q1, ok q2⟩
      · obtain ⟨q1, q2⟩ := m1 c
        exact q_refused ⟨q1, bad q2⟩
    rw [c7.2.2.1]
    have d8 : (s.1 p = 1000 ∨ (¬ nI g = 1 ∧ S.testBit p = true)) → wj_X10_lead_102 I7 J (nI L) (nI p) (nI g) (fun r I1 => w_X11_lead (nI S) (nI L) (nI p) (nI g) I1 J (fun r' I2 => r = r' ∧ Inv I2 J)) := fun y => by
      refine ⟨fun _ => ?_, fun q => absurd rfl q⟩
      unfold wj_X10_lead_116 wj_X10_lead_118
      refine q_failsE (by decide) ⟨fun q => (by cases q), fun _ => mod (-1) 8 (fun _ => ⟨rfl, rfl⟩) (fun q1 q2 => ?_) (fun _ _ _ => ⟨rfl, rfl⟩) (fun q1 q2 q3 => ?_)⟩
      · rcases y with y | y
        · exact absurd y q1
        · exact absurd q2 y.1
      · rcases y with y | y
        · exact absurd y q1
        · exact absurd (k7' y.2).2 q3
    have d0 : ¬ s.1 p = 1000 → (nI g = 1 ∨ S.testBit p = false) → wj_X10_lead_98 I7 J (nI L) (nI p) (nI g) (fun r I1 => w_X11_lead (nI S) (nI L) (nI p) (nI g) I1 J (fun r' I2 => r = r' ∧ Inv I2 J)) := fun y0 y => by
      refine ⟨fun q => absurd q (by decide), fun _ => ?_⟩
      unfold wj_X10_lead_116 wj_X10_lead_118
      refine q_fails0 ⟨fun _ => ⟨fun c => ?_, fun c => ⟨vp_in_nI (by omega) (by omega), ?_⟩⟩, fun q => (by cases q)⟩
      · have y2 : S.testBit p = false := y.elim (fun z => absurd z c) id
        have md : s.2.1 p < 1000 := by
          rcases k2 with z | z
          · have := k6' z (by omega)
            rw [y2] at this; cases this
          · omega
        refine q_moverOf (cNet_same hC.2.1 (same_cS I 0)) hN hL hp (cSt_cS c7 0) (by omega) md (k5 md (by omega)) (fun q hq => by have := hk q hq; omega) ?_
        exact mod _ 0 (fun q => absurd q y0) (fun _ q => absurd q c) (fun _ _ q => (by omega)) (fun _ _ _ => ⟨rfl, rfl⟩)
      · have e : cS I7 0 49 (nI p).toNatClampNeg = nI (s.1 p) := by
          rw [nI_clamp (by omega)]
          exact (cSt_cS c7 0).2.2.2 p hp (by omega)
        rw [e]
        exact mod _ 0 (fun q => absurd q y0) (fun _ _ => ⟨rfl, rfl⟩) (fun _ q => absurd c q) (fun _ q => absurd c q)
    refine q_has (lt31 (by omega) (mk_lt _ _)) (by omega) ?_
    rw [mk_at hp]
    refine ⟨fun q => d8 (Or.inl ?_), fun q => ?_⟩
    · have := of_decide_eq_false q
      omega
    · have q := of_decide_eq_true q
      refine ⟨fun c => d0 (by omega) (Or.inl c), fun c => q_has (by omega) (by omega) ⟨fun q2 => d8 (Or.inr ⟨c, q2⟩), fun q2 => d0 (by omega) (Or.inr q2)⟩⟩
