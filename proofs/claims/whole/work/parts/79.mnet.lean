section
variable {n : Nat} {tx : Nat → Nat} {I0 I : HI} {J0 J : HJ} {e : Nat} {D : DT} {q : Nat × Nat}
theorem m_loop (hn : n ≤ 600) (ht : mTx I0 n tx) (g : mG n tx I0 J0 0 D0 I J) {Post : Int32 → HI → HJ → Prop} {E : HI → HJ → Prop} (hE : ∀ I' J', (match prsS n tx with | .inl q => mB I0 J0 q I' J' | .inr D => okD D ∧ ∃ e, mG n tx I0 J0 e D I' J') → E I' J') : ∃ k, lp (wb_X11_net_90 Post E) k (I, J) := by
  unfold prsS at hE
  generalize hR : rn (spM n tx) (.inl (0, 0)) 700 (0, D0) = R0 at hE
  generalize hM : (700 : Nat) = M at hR
  have body : ∀ (e1 : Nat) (D1 : DT) (Ix : HI) (Jx : HJ) (K : HI × HJ → Prop), e1 ≤ n → okD D1 → mG n tx I0 J0 e1 D1 Ix Jx → ¬ tKd n tx e1 = 0 → (∀ I' J', mR n tx I0 J0 (stepR n tx e1 D1) I' J' → K (I', J')) → wb_X11_net_90 Post E K (Ix, Jx) := by
    intro e1 D1 Ix Jx K he1 hD1 g1 k0 hK
    have sl := srt_le (tKd n tx e1)
    have sv := (srt_v (tKd n tx e1)).2.2.2
    refine ⟨fun z => absurd g1.2.1 z, fun _ => ⟨fun z => ?_, fun _ => ?_⟩⟩
    · rw [g1.2.2.1.2.2.1, show (0 : Int32) = nI 0 from rfl, nI_eq (by omega) (by decide), sv] at z
      exact absurd z k0
    · unfold stepR at hK
      refine m_isPerson hn he1 g1.2.2.1 ⟨fun b6 => m_isTie hn he1 g1.2.2.1 ⟨fun b7 => m_isValley hn he1 g1.2.2.1 ⟨fun b10 => ?_, fun b10 => ?_⟩, fun b7 => ?_⟩, fun b6 => ?_⟩
      · rw [if_neg (of_decide_eq_false b6), if_neg (of_decide_eq_false b7), if_neg (of_decide_eq_false b10)] at hK
        exact m_wrong g1 (fun I' f => hK I' Jx f)
      · rw [if_neg (of_decide_eq_false b6), if_neg (of_decide_eq_false b7), if_pos (of_decide_eq_true b10)] at hK
        exact m_valley hn he1 ht g1 hD1 hK
      · rw [if_neg (of_decide_eq_false b6), if_pos (of_decide_eq_true b7)] at hK
        exact m_tie hn he1 ht g1 hD1 hK
      · rw [if_pos (of_decide_eq_true b6)] at hK
        exact m_person hn he1 ht g1 hD1 hK
  refine lp_rn (f := spM n tx) (d := .inl (0, 0)) (R0 := R0) (fun s : MS => n - s.1) (fun (s : MS) (x : HI × HJ) => s.1 ≤ n ∧ okD s.2 ∧ mG n tx I0 J0 s.1 s.2 x.1 x.2) (fun x => ∃ q, mB I0 J0 q x.1 x.2 ∧ E x.1 x.2) (fun x hx K => ?_) (fun s x s' hq hf => ?_) (fun s x hq hf K hK => ?_) M (0, D0) (I, J) (by show n - 0 < M; omega) hR ⟨Nat.zero_le _, okD_0, g⟩
  · obtain ⟨Ix, Jx⟩ := x
    obtain ⟨q, f, po⟩ := hx
    exact ⟨fun _ => po, fun z => absurd z (mB_n f)⟩
  · obtain ⟨Ix, Jx⟩ := x
    obtain ⟨e1, D1⟩ := s
    obtain ⟨he1, hD1, g1⟩ := hq
    dsimp only at he1 hD1 g1
    obtain ⟨k0, k1⟩ := spM_l hf
    dsimp only at k0 k1
    have ok := stepR_ok hn he1 hD1 k0 k1
    refine ⟨by show n - s'.1 < n - e1; omega, fun K hK => body e1 D1 Ix Jx K he1 hD1 g1 k0 (fun I' J' r => ?_)⟩
    rw [k1] at r
    exact hK _ ⟨ok.1, ok.2.2, r⟩
  · obtain ⟨Ix, Jx⟩ := x
    obtain ⟨e1, D1⟩ := s
    obtain ⟨he1, hD1, g1⟩ := hq
    dsimp only at he1 hD1 g1
    rcases spM_r hf with ⟨k0, rfl⟩ | ⟨k0, q, k1, rfl⟩
    · dsimp only at k0
      have po : E Ix Jx := hE Ix Jx ⟨hD1, e1, g1⟩
      refine ⟨fun _ => po, fun _ => ⟨fun _ => po, fun z => ?_⟩⟩
      rw [g1.2.2.1.2.2.1, k0] at z
      exact absurd rfl z
    · dsimp only at k0 k1
      refine body e1 D1 Ix Jx K he1 hD1 g1 k0 (fun I' J' r => ?_)
      rw [k1] at r
      exact hK _ ⟨q, r, hE I' J' r⟩
end
theorem q_taken {I : HI} {J : HJ} {D : DT} (hm : mDr I J D) (hN : okN D.1) {Post : Int32 → HI → Prop} (h : ∀ I', mNet I' D.1 → (∀ c, c ≠ 72 → c ≠ 77 → ¬ (79 ≤ c ∧ c ≤ 82) → c ≠ 87 → I' c = I c) → (∀ k, k ≠ 20 → k ≠ 21 → k ≠ 38 → I' 72 k = I 72 k) → I' 72 38 = 0 → Post (nI (nP D.1)) I') : w_X11_taken I J Post := by
  have hP := hN.1
  have hT := hN.2.1
  obtain ⟨d1, d2, d3, d4, d5⟩ := hm
  intro I1 e1 I2 e2
  have i2 : ∀ c, c ≠ 72 → I2 c = I c := fun c hc => by rw [e2, hI_ne hc, e1, hI_ne hc]
  have i2k : ∀ k, k ≠ 20 → k ≠ 21 → I2 72 k = I 72 k := fun k h1 h2 => by rw [e2, hI_at, if_neg h2, e1, hI_at, if_neg h1]
  have i20 : I2 72 20 = nI (nP D.1) := by rw [e2, hI_at, if_neg (by decide), e1, hI_at, if_pos rfl]; exact d1.1
  have i21 : I2 72 21 = nI (nT D.1) := by rw [e2, hI_at, if_pos rfl, e1, hI_at, if_neg (by decide)]; exact d1.2
  refine lp_inv (fun i (s : Int32 × HI) => s.1 = nI i ∧ (∀ c, c ≠ 77 → s.2 c = I2 c) ∧ ∀ k, k < i → s.2 77 k = I 78 k) 60 (fun i s hi hq K hK => ?_) (fun s hq K => ?_) (0, I2) ⟨rfl, fun _ _ => rfl, fun k hk => absurd hk (Nat.not_lt_zero _)⟩
  · obtain ⟨x1, I3⟩ := s
    obtain ⟨a1, g1, g2⟩ := hq
    dsimp only at a1 g1 g2
    subst a1
    have vi : vp_in (nI i) 60 := vp_in_nI hi (by decide)
    show wb_X11_taken_18 J Post _ K (nI i, I3)
    unfold wb_X11_taken_18
    dsimp only
    rw [nI_clamp (by omega : i < 2 ^ 31), g1 78 (by decide), i2 78 (by decide), nI_1 i]
    refine ⟨fun z => absurd z (nI_ge (b := 60) hi (by decide)), fun _ => ⟨vi, vi, fun I4 e4 => hK _ ⟨rfl, fun c hc => ?_, fun k hk => ?_⟩⟩⟩
    · show I4 c = _
      rw [e4, hI_ne hc]; exact g1 c hc
    · show I4 77 k = _
      rw [e4, hI_at]
      by_cases y : k = i
      · rw [if_pos y, y]
      · rw [if_neg y]; exact g2 k (by omega)
  · obtain ⟨x1, I3⟩ := s
    obtain ⟨a1, g1, g2⟩ := hq
    dsimp only at a1 g1 g2
    subst a1
    refine ⟨fun _ => ?_, fun z => absurd (by decide) z⟩
    refine lp_inv (fun i (s : Int32 × HI) => s.1 = nI i ∧ (∀ c, ¬ (79 ≤ c ∧ c ≤ 82) → s.2 c = I3 c) ∧ ∀ t, t < i → s.2 79 t = I 83 t ∧ s.2 80 t = I 84 t ∧ s.2 81 t = I 85 t ∧ s.2 82 t = I 86 t) (nT D.1) (fun i s hi hq K hK => ?_) (fun s hq K => ?_) (0, I3) ⟨rfl, fun _ _ => rfl, fun k hk => absurd hk (Nat.not_lt_zero _)⟩
    · obtain ⟨x1, I4⟩ := s
      obtain ⟨a1, f1, f2⟩ := hq
      dsimp only at a1 f1 f2
      subst a1
      have vi : vp_in (nI i) 10 := vp_in_nI (by omega) (by decide)
      have o : ∀ c, ¬ (79 ≤ c ∧ c ≤ 82) → c ≠ 77 → c ≠ 72 → I4 c = I c := fun c h1 h2 h3 => (f1 c h1).trans ((g1 c h2).trans (i2 c h3))
      show wb_X11_taken_44 J Post _ K (nI i, I4)
      unfold wb_X11_taken_44
      dsimp only
      rw [f1 72 (by omega), g1 72 (by decide), i21, nI_clamp (by omega : i < 2 ^ 31), nI_1 i]
      refine ⟨fun z => absurd z (nI_ge hi (by omega)), fun _ => ⟨vi, vi, fun I5 e5 => ⟨vi, vi, fun I6 e6 => ⟨vi, vi, fun I7 e7 => ⟨vi, vi, fun I8 e8 => hK _ ⟨rfl, fun c hc => ?_, fun t ht => ?_⟩⟩⟩⟩⟩⟩
      · show I8 c = _
        rw [e8, hI_ne (by omega), e7, hI_ne (by omega), e6, hI_ne (by omega), e5, hI_ne (by omega)]; exact f1 c hc
      · show I8 79 t = _ ∧ I8 80 t = _ ∧ I8 81 t = _ ∧ I8 82 t = _
        have k1 : I8 79 t = if t = i then I 83 i else I4 79 t := by rw [e8, hI_ne (by decide), e7, hI_ne (by decide), e6, hI_ne (by decide), e5, hI_at, o 83 (by omega) (by decide) (by decide)]
        have k2 : I8 80 t = if t = i then I 84 i else I4 80 t := by rw [e8, hI_ne (by decide), e7, hI_ne (by decide), e6, hI_at, e5, hI_ne (by decide), hI_ne (by decide), o 84 (by omega) (by decide) (by decide)]
        have k3 : I8 81 t = if t = i then I 85 i else I4 81 t := by rw [e8, hI_ne (by decide), e7, hI_at, e6, hI_ne (by decide), hI_ne (by decide), e5, hI_ne (by decide), hI_ne (by decide), o 85 (by omega) (by decide) (by decide)]
        have k4 : I8 82 t = if t = i then I 86 i else I4 82 t := by rw [e8, hI_at, e7, hI_ne (by decide), hI_ne (by decide), e6, hI_ne (by decide), hI_ne (by decide), e5, hI_ne (by decide), hI_ne (by decide), o 86 (by omega) (by decide) (by decide)]
        rw [k1, k2, k3, k4]
        by_cases y : t = i
        · rw [if_pos y, if_pos y, if_pos y, if_pos y, y]; exact ⟨rfl, rfl, rfl, rfl⟩
        · rw [if_neg y, if_neg y, if_neg y, if_neg y]; exact f2 t (by omega)
    · obtain ⟨x1, I4⟩ := s
      obtain ⟨a1, f1, f2⟩ := hq
      dsimp only at a1 f1 f2
      subst a1
      show wb_X11_taken_44 J Post _ K (nI (nT D.1), I4)
      unfold wb_X11_taken_44
      dsimp only
      rw [f1 72 (by omega), g1 72 (by decide), i21]
      refine ⟨fun _ => ?_, fun z => absurd (Int32.le_refl _) z⟩
      refine lp_inv (fun i (s : Int32 × HI) => s.1 = nI i ∧ (∀ c, c ≠ 87 → s.2 c = I4 c) ∧ ∀ v, v < i → s.2 87 v = I 88 v) 4 (fun i s hi hq K hK => ?_) (fun s hq K => ?_) (0, I4) ⟨rfl, fun _ _ => rfl, fun k hk => absurd hk (Nat.not_lt_zero _)⟩
      · obtain ⟨x1, I5⟩ := s
        obtain ⟨a1, h1, h2⟩ := hq
        dsimp only at a1 h1 h2
        subst a1
        have vi : vp_in (nI i) 4 := vp_in_nI hi (by decide)
        show wb_X11_taken_108 J Post _ K (nI i, I5)
        unfold wb_X11_taken_108
        dsimp only
        rw [nI_clamp (by omega : i < 2 ^ 31), h1 88 (by decide), f1 88 (by omega), g1 88 (by decide), i2 88 (by decide), nI_1 i]
        refine ⟨fun z => absurd z (nI_ge (b := 4) hi (by decide)), fun _ => ⟨vi, vi, fun I6 e6 => hK _ ⟨rfl, fun c hc => ?_, fun k hk => ?_⟩⟩⟩
        · show I6 c = _
          rw [e6, hI_ne hc]; exact h1 c hc
        · show I6 87 k = _
          rw [e6, hI_at]
          by_cases y : k = i
          · rw [if_pos y, y]
          · rw [if_neg y]; exact h2 k (by omega)
      · obtain ⟨x1, I5⟩ := s
        obtain ⟨a1, h1, h2⟩ := hq
        dsimp only at a1 h1 h2
        subst a1
        refine ⟨fun _ I6 e6 => ?_, fun z => absurd (by decide) z⟩
        have o72 : ∀ k, k ≠ 38 → I6 72 k = I2 72 k := fun k hk => by rw [e6, hI_at, if_neg hk, h1 72 (by decide), f1 72 (by omega), g1 72 (by decide)]
        have o77 : ∀ k, k < 60 → I6 77 k = I 78 k := fun k hk => by rw [e6, hI_ne (by decide), h1 77 (by decide), f1 77 (by omega)]; exact g2 k hk
        have oT : ∀ t, t < nT D.1 → I6 79 t = I 83 t ∧ I6 80 t = I 84 t ∧ I6 81 t = I 85 t ∧ I6 82 t = I 86 t := fun t ht => by
          rw [e6, hI_ne (by decide), hI_ne (by decide), hI_ne (by decide), hI_ne (by decide), h1 79 (by decide), h1 80 (by decide), h1 81 (by decide), h1 82 (by decide)]; exact f2 t ht
        have o87 : ∀ v, v < 4 → I6 87 v = I 88 v := fun v hv => by rw [e6, hI_ne (by decide)]; exact h2 v hv
        have r : I6 72 20 = nI (nP D.1) := (o72 20 (by decide)).trans i20
        rw [r]
        refine h I6 ⟨⟨r, (o72 21 (by decide)).trans i21⟩, fun p hp => ?_, fun t ht => ?_, fun v hv => ?_⟩ (fun c h1' h2' h3' h4' => ?_) (fun k k1 k2 k3 => ?_) (by rw [e6, hI_at, if_pos rfl])
        · rw [o77 _ (by omega), o77 _ (by omega), o77 _ (by omega), o77 _ (by omega), o77 _ (by omega)]; exact d2 p hp
        · obtain ⟨t1, t2, t3, t4⟩ := oT t ht
          rw [t1, t2, t3, t4]; exact d3 t ht
        · rw [o87 v hv]; exact (d4 v hv).1
        · rw [e6, hI_ne h1', h1 c h4', f1 c h3', g1 c h2', i2 c h1']
        · rw [o72 k k3]; exact i2k k k1 k2
