theorem op_neverTried {I : HI} {J : HJ} (h : Inv I J) : w_X10_neverTried I J (fun r I1 => w_X11_neverTried I1 J (fun r' I2 => r = r' ∧ Inv I2 J)) := by
  obtain ⟨N, hC, h1, h2⟩ := h
  have hN := hC.1
  have hT := hN.2.1
  obtain ⟨r, H, hrn⟩ := rn_H hC.2.2.2.2.2.2.2.1
  have hr15 := (hrn I (sameI_rf I)).1
  intro I1 e1
  subst e1
  have hc' := cNet_same hC.2.1 (same_cS I 0)
  have hr := hrn (cS I 0) (same_cS I 0)
  have hm' := mNet_same hC.2.2.1 (sameI_tr (same_cS I 0) (same_m0 (cS I 0)))
  have hrm := hrn (m0 (cS I 0)) (sameI_tr (same_cS I 0) (same_m0 _))
  have st : ∀ i, mk (fun t => decide (cnt (fun a => trd N (H a) t) r = 0)) (i + 1) = mk (fun t => decide (cnt (fun a => trd N (H a) t) r = 0)) i ||| (if decide (cnt (fun a => trd N (H a) i) r = 0) then 2 ^ i else 0) := fun _ => rfl
  refine lp_seq (fun i => (nI (mk (fun t => decide (cnt (fun a => trd N (H a) t) r = 0)) i), nI i)) (nT N) (fun i hi K hK => ?_) (fun K => ?_)
  · show wb_X6_untriedTies_4 (cS I 0) J _ _ K (nI (mk _ i), nI i)
    unfold wb_X6_untriedTies_4
    dsimp only
    have hle : cnt (fun a => trd N (H a) i) r ≤ r := cnt_le _ _
    rw [hc'.1.2.1, nb_one i (by omega), nb_or, i_or0, nI_1 i]
    refine ⟨fun z => absurd z (nI_ge hi (by omega)), fun _ => q_timesTried hc' hN hr hi ?_⟩
    rw [show (0 : Int32) = nI 0 from rfl, nI_eq (by omega) (by omega)]
    rw [st] at hK
    refine ⟨fun q => ?_, fun q => ?_⟩
    · rw [decide_eq_false q] at hK; rw [if_neg (by decide), Nat.or_zero] at hK; exact hK
    · rw [decide_eq_true q] at hK; exact hK
  · show wb_X6_untriedTies_4 (cS I 0) J _ _ K (nI (mk _ (nT N)), nI (nT N))
    unfold wb_X6_untriedTies_4
    dsimp only
    rw [hc'.1.2.1]
    refine ⟨fun _ Ia ea Ib eb => ?_, fun z => absurd (Int32.le_refl _) z⟩
    subst ea eb
    rw [show hI (hI (hI I 0 12 0) 72 1 0) 72 0 0 = m0 (cS I 0) from rfl]
    refine lp_seq (fun i => (nI (mk (fun t => decide (cnt (fun a => trd N (H a) t) r = 0)) i), nI i)) (nT N) (fun i hi K hK => ?_) (fun K => ?_)
    · show wb_X11_neverTried_14 (m0 (cS I 0)) J _ _ K (nI (mk _ i), nI i)
      unfold wb_X11_neverTried_14
      dsimp only
      rw [hm'.1.2, nb_one i (by omega), nb_or, i_or0, nI_1 i]
      rw [st] at hK
      refine ⟨fun z => absurd z (nI_ge hi (by omega)), fun _ => ?_⟩
      refine lp_inv (fun a (s : Int32 × Int32) => s = (kb (!decide (cnt (fun a => trd N (H a) i) a = 0)), nI a)) r (fun a s ha hq K' hK' => ?_) (fun s hq K' => ?_) (0, 0) rfl
      · subst hq
        show wb_X11_neverTried_27 (m0 (cS I 0)) J _ (nI i) _ K _ _ K' (kb _, nI a)
        unfold wb_X11_neverTried_27
        dsimp only
        rw [hrm.2.2.1, nI_1 a]
        have sc : cnt (fun a => trd N (H a) i) (a + 1) = cnt (fun a => trd N (H a) i) a + (if trd N (H a) i then 1 else 0) := rfl
        refine ⟨fun z => absurd z (nI_ge ha (by omega)), fun _ => ⟨fun q => hK' _ ?_, fun q => q_mTried hm' hN hi (by omega) (fun p hp => (hrm.2.2.2 a ha p hp).2) ⟨fun b => hK' _ ?_, fun b => hK' _ ?_⟩⟩⟩
        · have : ¬ cnt (fun a => trd N (H a) i) a = 0 := fun z => q (by rw [decide_eq_true z]; rfl)
          rw [sc, decide_eq_false (by omega)]; rfl
        · have : cnt (fun a => trd N (H a) i) a = 0 := by
            rcases Nat.eq_zero_or_pos (cnt (fun a => trd N (H a) i) a) with z | z
            · exact z
            · rw [decide_eq_false (by omega)] at q; exact absurd q (by decide)
          rw [sc, b, this]; rfl
        · rw [sc, b, decide_eq_false (by simp)]; rfl
      · subst hq
        show wb_X11_neverTried_27 (m0 (cS I 0)) J _ (nI i) _ K _ _ K' (kb _, nI r)
        unfold wb_X11_neverTried_27
        dsimp only
        rw [hrm.2.2.1]
        refine ⟨fun _ => ⟨fun q => ?_, fun q => ?_⟩, fun z => absurd (Int32.le_refl _) z⟩
        · have : cnt (fun a => trd N (H a) i) r = 0 := by
            rcases Nat.eq_zero_or_pos (cnt (fun a => trd N (H a) i) r) with z | z
            · exact z
            · rw [decide_eq_false (by omega)] at q; exact absurd q (by decide)
          rw [decide_eq_true this] at hK; exact hK
        · have : ¬ cnt (fun a => trd N (H a) i) r = 0 := fun z => q (by rw [decide_eq_true z]; rfl)
          rw [decide_eq_false this] at hK; rw [if_neg (by decide), Nat.or_zero] at hK; exact hK
    · show wb_X11_neverTried_14 (m0 (cS I 0)) J _ _ K (nI (mk _ (nT N)), nI (nT N))
      unfold wb_X11_neverTried_14
      dsimp only
      rw [hm'.1.2]
      exact ⟨fun _ => ⟨rfl, fin_ok hC (same_cS I 0) (cS_at I 0) (sameJ_rf J) h2⟩, fun z => absurd (Int32.le_refl _) z⟩
