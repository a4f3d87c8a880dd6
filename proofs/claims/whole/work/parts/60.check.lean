/-! the first who differs -/
def fm (f : Nat → Bool) (P : Nat) (r : Int32) : Prop := (∃ i, i < P ∧ r = nI i ∧ f i = true ∧ ∀ j, j < i → f j = false) ∨ (r = -1 ∧ ∀ j, j < P → f j = false)
theorem fm_u {f : Nat → Bool} {P : Nat} {r r' : Int32} (h : fm f P r) (h' : fm f P r') : r = r' := by
  rcases h with ⟨i, a1, a2, a3, a4⟩ | ⟨a1, a2⟩ <;> rcases h' with ⟨j, b1, b2, b3, b4⟩ | ⟨b1, b2⟩
  · rcases Nat.lt_trichotomy i j with z | z | z
    · rw [b4 i z] at a3; cases a3
    · rw [a2, b2, z]
    · rw [a4 j z] at b3; cases b3
  · rw [b2 i a1] at a3; cases a3
  · rw [a2 j b1] at b3; cases b3
  · rw [a1, b1]
def hrv (s : ST) (p : Nat) : Int32 := if s.1 p = 1000 then -1 else nI (s.1 p)
def dfr (s : ST) (f : Nat → Int64) (p : Nat) : Bool := !decide (f p = Int32.toInt64 (hrv s p))
theorem q_hourOf {I I0 : HI} {J : HJ} {N : NT} {rd p : Nat} {s : ST} (hN : okN N) (hp : p < nP N) (hs : cSt I I0 N rd s) (hk : s.1 p = 1000 ∨ s.1 p < 150) {Post : Int32 → Prop} (h : Post (hrv s p)) : w_X7_hourOf (nI p) I J Post := by
  have hP := hN.1
  unfold w_X7_hourOf
  rw [hs.2.2.1]
  refine q_has (lt31 (by omega) (mk_lt _ _)) (by omega) ?_
  rw [mk_at hp]
  refine ⟨fun q => ?_, fun q => ⟨vp_in_nI (by omega) (by omega), ?_⟩⟩
  · have := of_decide_eq_false q
    unfold hrv at h
    rw [if_pos (by omega)] at h
    exact h
  · have := of_decide_eq_true q
    unfold hrv at h
    rw [if_neg (by omega)] at h
    rw [nI_clamp (by omega), hs.2.2.2 p hp this]
    exact h
theorem op_check {I : HI} {J : HJ} (h : Inv I J) (x y z : Int32) : w_X10_check x y z I J (fun r I1 => w_X11_check x y z I1 J (fun r' I2 => r = r' ∧ Inv I2 J)) := by
  obtain ⟨N, hC, h1, h2⟩ := h
  have hN := hC.1
  have hP := hN.1
  have hT := hN.2.1
  have hTr := hC.2.2.2.2.1
  have hm2 : ∀ v, mNet (m0 (cS I v)) N := fun v => mNet_same hC.2.2.1 (sameI_tr (same_cS I v) (same_m0 (cS I v)))
  have hs : ∀ v : Int32, sameI I (m0 (cS I v)) := fun v => sameI_tr (same_cS I v) (same_m0 _)
  have er : ∀ v, Inv (mE (cS I v) v) J := fun v => fin_er hC (same_cS I v) (cS_at I v) (sameJ_rf J) h2
  unfold w_X10_check w_X10_checkStatus
  refine q_isTray ⟨fun bt => ?_, fun bt => q_failsE (by decide) ⟨fun q => (by cases q), fun _ I1 e1 I2 e2 => isT4 ?_⟩⟩
  · have bad2 : (isSet (nP N) x && isSet (nT N) y) = false → w_X10_fails 2 I J (fun r_2 I_3 => (r_2 = false → w_X7_play x 0 0 y I_3 J (fun I_4 => ∃ n, lp (wb_X10_check_30 I_4 J z (fun r I1 => w_X11_check x y z I1 J (fun r' I2 => r = r' ∧ Inv I2 J)) (w_X11_check x y z I_4 J (fun r' I2 => -1 = r' ∧ Inv I2 J))) n 0)) ∧ (r_2 = true → w_X11_check x y z I_3 J (fun r' I2 => -1 = r' ∧ Inv I2 J))) := by
      intro hb
      refine q_failsE (by decide) ⟨fun q => (by cases q), fun _ I1 e1 I2 e2 => isT4 ?_⟩
      subst e1 e2
      have fin : wj_X11_check_44 (m0 (cS I 2)) J (fun r' I2 => (-1 : Int32) = r' ∧ Inv I2 J) := q_refused ⟨rfl, er 2⟩
      refine ⟨fun _ => q_areSeeds (hm2 2) hN ⟨fun _ => fin, fun b => q_isLot (hm2 2) hN ⟨fun b2 => ?_, fun _ => fin⟩⟩, fun q => (by rw [bt] at q; cases q)⟩
      rw [b, b2] at hb; cases hb
    refine q_arePeople hC.2.1 hN ⟨fun b => bad2 (by rw [b]; rfl), fun b => q_areTies hC.2.1 hN ⟨fun b2 => ?_, fun b2 => bad2 (by rw [b2, Bool.and_false])⟩⟩
    obtain ⟨S, hS, rfl⟩ := ofSet (by omega) b
    obtain ⟨L, hL, rfl⟩ := ofSet (by omega) b2
    rcases tray_cases hTr z with q | ⟨k, hk, rfl, hm⟩ | ⟨k, m, hk, hm40, rfl, hm, hrow⟩
    · rw [q] at bt; cases bt
    · refine ⟨vp_in_nI hk (by decide), q_missing ?_⟩
      rw [nI_clamp (by omega : k < 2 ^ 31), (hTr k hk).2.1, hm]
      refine ⟨fun q => absurd q (by decide), fun _ => q_failsE (by decide) ⟨fun q => (by cases q), fun _ I1 e1 I2 e2 => isT4 ?_⟩⟩
      subst e1 e2
      rw [bt, show hI (hI (cS I 3) 72 1 0) 72 0 0 = m0 (cS I 3) from rfl, nI_clamp (by omega), hs 3 74 k rfl, hm]
      exact ⟨fun _ => q_areSeeds (hm2 3) hN ⟨fun q => (by rw [b] at q; cases q), fun _ => q_isLot (hm2 3) hN ⟨fun _ => ⟨vp_in_nI hk (by decide), fun q => absurd q (by decide), fun _ => q_refused ⟨rfl, er 3⟩⟩, fun q => (by rw [b2] at q; cases q)⟩⟩, fun q => (by cases q)⟩
    · have m0' : 0 ≤ nI m := nI_pos' (by omega)
      refine ⟨vp_in_nI hk (by decide), q_missing ?_⟩
      rw [nI_clamp (by omega : k < 2 ^ 31), (hTr k hk).2.1, hm, hC.2.1.1.1, nI_leI (by omega) (by omega), decide_eq_false (show ¬ nI m = -1 from fun q => by rw [q] at m0'; exact absurd m0' (by decide))]
      refine ⟨fun _ => ⟨vp_in_nI hk (by decide), fun hPm => q_fails0 ⟨fun _ => ?_, fun q => (by cases q)⟩, fun hPm => q_failsE (by decide) ⟨fun q => (by cases q), fun _ I1 e1 I2 e2 => isT4 ?_⟩⟩, fun q => (by cases q)⟩
      · refine q_play (bl := 0) (bh := 0) (cNet_same hC.2.1 (same_cS I 0)) hN (by decide) hS (Nat.two_pow_pos _) hL (fun I7 c7 => ?_)
        have mk150 := mOk_all hN S 0 0 L (Nat.le_refl 150)
        have hkk : ∀ q, q < nP N → (sts N S 0 0 L 150).1 q = 1000 ∨ (sts N S 0 0 L 150).1 q < 150 := fun q hq => (mk150 q hq).1
        clear mk150
        generalize hst : sts N S 0 0 L 150 = s at *
        have s7 : sameI I I7 := sameI_tr (same_cS I 0) (same_cSt c7)
        have c7n := cNet_same hC.2.1 s7
        have mod : ∀ r : Int32, fm (dfr s (fun q => J 75 (40 * k + q))) (nP N) r → w_X11_check (nI S) (nI L) (nI k) I7 J (fun r' I2 => r = r' ∧ Inv I2 J) := by
          intro r hr I1 e1 I2 e2
          subst e1 e2
          have s8 := sameI_tr s7 (same_m0 I7)
          have hm' := mNet_same hC.2.2.1 s8
          refine isT4 ?_
          rw [bt, show hI (hI I7 72 1 0) 72 0 0 = m0 I7 from rfl, nI_clamp (by omega : k < 2 ^ 31), s8 74 k rfl, hm, hm'.1.1, nI_leI (by omega) (by omega)]
          refine ⟨fun _ => q_areSeeds hm' hN ⟨fun q => (by rw [b] at q; cases q), fun _ => q_isLot hm' hN ⟨fun _ => ⟨vp_in_nI hk (by decide), fun _ => ⟨vp_in_nI hk (by decide), fun _ => ?_, fun q => absurd hPm q⟩, fun q => absurd m0' q⟩, fun q => (by rw [b2] at q; cases q)⟩⟩, fun q => (by cases q)⟩
          refine q_mLive (bl := 0) (bh := 0) hm' hN (by decide) hS (Nat.two_pow_pos _) hL (fun I9 r9 => ?_)
          rw [hst] at r9
          have s9 : sameI I I9 := sameI_tr s8 (same_lv r9.1)
          have iv : Inv I9 J := fin_g hC s9 (by rw [r9.1 0 (by omega), r9.1 72 (by omega), m0_72, m0_ne _ (by decide), c7.1 0 (by omega), cS_at]) (sameJ_rf J) h2
          have m9 := rep_m hm' r9
          refine lp_inv (fun i x => x = nI i ∧ ∀ j, j < i → dfr s (fun q => J 75 (40 * k + q)) j = false) (nP N) (fun i x hi hq K hK => ?_) (fun x hq K => ?_) 0 ⟨rfl, fun j hj => absurd hj (Nat.not_lt_zero _)⟩
          · obtain ⟨rfl, hq⟩ := hq
            have vi : vp_in (nI i) 12 := vp_in_nI (by omega) (by omega)
            have hki := hkk i hi
            have go : ∀ t0, t0 = hrv s i → wj_X11_check_135 I9 J (nI k) (nI i) t0 (J 75 (40 * k + i)) ((-1 : Int32) = -1 → True) K (fun r' I2 => r = r' ∧ Inv I2 J) := fun t0 e0 => by
              subst e0
              unfold wj_X11_check_135
              rw [nI_1 i]
              refine ⟨fun c => hK _ ⟨rfl, fun j hj => ?_⟩, fun c => ⟨fm_u hr (Or.inl ⟨i, hi, rfl, ?_, hq⟩), iv⟩⟩
              · rcases Nat.lt_or_eq_of_le (Nat.lt_succ_iff.mp hj) with y | y
                · exact hq j y
                · rw [y]; unfold dfr; rw [decide_eq_true c]; rfl
              · unfold dfr; rw [decide_eq_false c]; rfl
            show wb_X11_check_95 I9 J (nI k) _ _ K (nI i)
            unfold wb_X11_check_95
            rw [m9.1.1]
            refine ⟨fun c => absurd c (nI_ge hi (by omega)), fun _ => q_mNumber hk (by omega) ⟨vi, ?_⟩⟩
            rw [nI_clamp (by omega : i < 2 ^ 31), (r9.2.1 i hi).1, show (1000 : Int32) = nI 1000 from rfl, nI_eq (by omega) (by omega)]
            exact ⟨fun c => ⟨vi, go _ (if_neg c).symm⟩, fun c => go _ (if_pos c).symm⟩
          · obtain ⟨rfl, hq⟩ := hq
            show wb_X11_check_95 I9 J (nI k) _ _ K (nI (nP N))
            unfold wb_X11_check_95
            rw [m9.1.1]
            exact ⟨fun _ => ⟨fm_u hr (Or.inr ⟨rfl, hq⟩), iv⟩, fun c => absurd (Int32.le_refl _) c⟩
        refine lp_inv (fun i x => x = nI i ∧ ∀ j, j < i → dfr s (fun q => J 75 (40 * k + q)) j = false) (nP N) (fun i x hi hq K hK => ?_) (fun x hq K => ?_) 0 ⟨rfl, fun j hj => absurd hj (Nat.not_lt_zero _)⟩
        · obtain ⟨rfl, hq⟩ := hq
          show wb_X10_check_30 I7 J (nI k) _ _ K (nI i)
          unfold wb_X10_check_30
          rw [c7n.1.1, nI_clamp (by omega : k < 2 ^ 31), nI_clamp (by omega : i < 2 ^ 31), show 2 + 2 * k + 1 = 3 + 2 * k by omega, hrow i (by omega), nI_1 i]
          refine ⟨fun c => absurd c (nI_ge hi (by omega)), fun _ => ⟨vp_in_nI hk (by decide), vp_in_nI (by omega) (by omega), q_hourOf hN hi c7 (hkk i hi) ⟨fun c => hK _ ⟨rfl, fun j hj => ?_⟩, fun c => mod _ (Or.inl ⟨i, hi, rfl, ?_, hq⟩)⟩⟩⟩
          · rcases Nat.lt_or_eq_of_le (Nat.lt_succ_iff.mp hj) with y | y
            · exact hq j y
            · rw [y]; unfold dfr; rw [decide_eq_true c]; rfl
          · unfold dfr; rw [decide_eq_false c]; rfl
        · obtain ⟨rfl, hq⟩ := hq
          show wb_X10_check_30 I7 J (nI k) _ _ K (nI (nP N))
          unfold wb_X10_check_30
          rw [c7n.1.1]
          exact ⟨fun _ => mod _ (Or.inr ⟨rfl, hq⟩), fun c => absurd (Int32.le_refl _) c⟩
      · subst e1 e2
        rw [bt, show hI (hI (cS I 4) 72 1 0) 72 0 0 = m0 (cS I 4) from rfl, nI_clamp (by omega : k < 2 ^ 31), hs 4 74 k rfl, hm, (hm2 4).1.1, nI_leI (by omega) (by omega)]
        exact ⟨fun _ => q_areSeeds (hm2 4) hN ⟨fun q => (by rw [b] at q; cases q), fun _ => q_isLot (hm2 4) hN ⟨fun _ => ⟨vp_in_nI hk (by decide), fun _ => ⟨vp_in_nI hk (by decide), fun q => absurd q hPm, fun _ => q_refused ⟨rfl, er 4⟩⟩, fun q => absurd m0' q⟩, fun q => (by rw [b2] at q; cases q)⟩⟩, fun q => (by cases q)⟩
  · subst e1 e2
    rw [bt]
    exact ⟨fun q => (by cases q), fun _ => q_refused ⟨rfl, er 1⟩⟩
