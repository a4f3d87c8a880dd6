theorem n12 {k q : Nat} : (12 * nI k) + nI q = nI (12 * k + q) := by rw [show (12 : Int32) = nI 12 from rfl, pk_mul, nI_add]
theorem q_mSeen {I : HI} {J : HJ} {N : NT} {a : Nat} (hm : mNet I N) (hN : okN N) (ha : a < nP N) {Post : Int64 → HJ → Prop} (h : ∀ J' : HJ, (∀ c, c ≠ 97 → J' c = J c) → Post (lN (seen N a)) J') : w_X11_seenOf (nI a) I J Post := by
  have hP := hN.1
  have hT := hN.2.1
  have hp : 2 ^ nT N ≤ 1024 := Nat.pow_le_pow_right (n := 2) (by decide) hT
  refine lp_inv (fun i (s : Int32 × HJ) => s.1 = nI i ∧ (∀ c, c ≠ 97 → s.2 c = J c) ∧ ∀ k, k < i → s.2 97 k = lN 0) 49152 (fun i s hi hq K hK => ?_) (fun s hq K => ?_) (0, J) ⟨rfl, fun _ _ => rfl, fun k hk => absurd hk (Nat.not_lt_zero _)⟩
  · obtain ⟨x2, J1⟩ := s
    obtain ⟨a1, g1, g2⟩ := hq
    dsimp only at a1 g1 g2
    subst a1
    show wb_X11_seenOf_2 I (nI a) Post _ K (nI i, J1)
    unfold wb_X11_seenOf_2
    dsimp only
    rw [nI_clamp (by omega : i < 2 ^ 31), nI_1 i]
    refine ⟨fun c => absurd c (nI_ge (b := 49152) hi (by omega)), fun _ => ⟨vp_in_nI (by omega) (by omega), fun J3 e3 => hK _ ⟨rfl, fun c hc => ?_, fun k hk => ?_⟩⟩⟩
    · show J3 c = _
      rw [e3, hJ_ne hc]; exact g1 c hc
    · show J3 97 k = _
      rw [e3, hJ_at]
      by_cases q : k = i
      · rw [if_pos q]; rfl
      · rw [if_neg q]; exact g2 k (by omega)
  · obtain ⟨x2, J1⟩ := s
    obtain ⟨a1, g1, g2⟩ := hq
    dsimp only at a1 g1 g2
    subst a1
    refine ⟨fun _ => ?_, fun c => absurd (by decide) c⟩
    refine lp_inv (fun i (s : Int32 × HJ) => s.1 = nI i ∧ (∀ c, c ≠ 97 → s.2 c = J c) ∧ ∀ V b, V < 4096 → b < 12 → b < nP N → s.2 97 (12 * V + b) = lN (sm (fun l => if Ra N a l = V then Wv N a b l else 0) i)) (2 ^ nT N) (fun i s hi hq K hK => ?_) (fun s hq K => ?_) (0, J1) ⟨rfl, g1, fun V b hV hb _ => g2 _ (by omega)⟩
    · obtain ⟨x2, J2⟩ := s
      obtain ⟨a1, k1, k2⟩ := hq
      dsimp only at a1 k1 k2
      subst a1
      have hR := two12 hN (Ra_lt N a i)
      have hwt := wt_le hN i
      have st : ∀ V b, sm (fun l => if Ra N a l = V then Wv N a b l else 0) (i + 1) = sm (fun l => if Ra N a l = V then Wv N a b l else 0) i + (if Ra N a i = V then Wv N a b i else 0) := fun _ _ => rfl
      show wb_X11_seenOf_23 I (nI a) Post _ K (nI i, J2)
      unfold wb_X11_seenOf_23
      dsimp only
      rw [hm.1.2, nb_one _ (by omega), nb_one a (by omega), nI_1 i]
      refine ⟨fun c => absurd c (nI_ge hi (by omega)), fun _ => q_mWeight hm hN (by omega) ?_⟩
      rw [show (0 : Int64) = lN 0 from rfl, pk_lEQ (by omega) (by omega)]
      refine ⟨fun c => q_mReach hm hN (by omega) (nb_one_lt ha) ?_, fun c => hK _ ⟨rfl, k1, fun V b hV hb hb2 => ?_⟩⟩
      · refine lp_inv (fun j (s : Int32 × HJ) => s.1 = nI j ∧ (∀ c, c ≠ 97 → s.2 c = J c) ∧ ∀ V b, V < 4096 → b < 12 → b < nP N → s.2 97 (12 * V + b) = lN (sm (fun l => if Ra N a l = V then Wv N a b l else 0) (if b < j then i + 1 else i))) (nP N) (fun j s hj hq K' hK' => ?_) (fun s hq K' => ?_) (0, J2) ⟨rfl, k1, fun V b hV hb hb2 => by rw [if_neg (Nat.not_lt_zero _)]; exact k2 V b hV hb hb2⟩
        · obtain ⟨x6, J3⟩ := s
          obtain ⟨a1, r1, r2⟩ := hq
          dsimp only at a1 r1 r2
          subst a1
          have r2' := r2 (Ra N a i) j hR (by omega) hj
          rw [if_neg (Nat.lt_irrefl _)] at r2'
          show wb_X11_seenOf_61 I (nI a) (nI i) (lN (wt N i)) (nI (Ra N a i)) _ K Post _ K' (nI j, J3)
          unfold wb_X11_seenOf_61
          dsimp only
          rw [hm.1.1, n12, nI_clamp (by omega : 12 * Ra N a i + j < 2 ^ 31), nb_one a (by omega), nb_one j (by omega), nb_or, r2', nI_1 j]
          refine ⟨fun c => absurd c (nI_ge hj (by omega)), fun _ => ⟨vp_in_nI (by omega) (by omega), q_mReach hm hN (by omega) (nb_or_lt (nb_one_lt ha) (nb_one_lt hj)) (q_bc (two12 hN (rch_lt _ _ _)) ⟨vp_in_nI (by omega) (by omega), fun J4 e4 => hK' _ ⟨rfl, fun c hc => ?_, fun V b hV hb hb2 => ?_⟩⟩)⟩⟩
          · show J4 c = _
            rw [e4, hJ_ne hc]; exact r1 c hc
          · show J4 97 (12 * V + b) = _
            rw [e4, hJ_at, nI_l (by have := pc_le (rch N (2 ^ a ||| 2 ^ j) i); omega), lN_mul, lN_add]
            by_cases q : V = Ra N a i ∧ b = j
            · obtain ⟨rfl, rfl⟩ := q
              rw [if_pos rfl, if_pos (by omega), st, if_pos rfl]; rfl
            · rw [if_neg (by omega), r2 V b hV hb hb2]
              by_cases q2 : b < j
              · rw [if_pos q2, if_pos (by omega)]
              · rw [if_neg q2]
                by_cases q3 : b = j
                · subst q3
                  rw [if_pos (by omega), st, if_neg (fun z => q ⟨z.symm, rfl⟩), Nat.add_zero]
                · rw [if_neg (by omega)]
        · obtain ⟨x6, J3⟩ := s
          obtain ⟨a1, r1, r2⟩ := hq
          dsimp only at a1 r1 r2
          subst a1
          show wb_X11_seenOf_61 I (nI a) (nI i) (lN (wt N i)) (nI (Ra N a i)) _ K Post _ K' (nI (nP N), J3)
          unfold wb_X11_seenOf_61
          dsimp only
          rw [hm.1.1]
          refine ⟨fun _ => hK _ ⟨rfl, r1, fun V b hV hb hb2 => ?_⟩, fun c => absurd (Int32.le_refl _) c⟩
          have := r2 V b hV hb hb2
          rw [if_pos hb2] at this
          exact this
      · show J2 97 (12 * V + b) = _
        rw [st, k2 V b hV hb hb2]
        have : Wv N a b i = 0 := by unfold Wv; rw [c, Nat.zero_mul]
        rw [this]
        split <;> rfl
    · obtain ⟨x2, J2⟩ := s
      obtain ⟨a1, k1, k2⟩ := hq
      dsimp only at a1 k1 k2
      subst a1
      show wb_X11_seenOf_23 I (nI a) Post _ K (nI (2 ^ nT N), J2)
      unfold wb_X11_seenOf_23
      dsimp only
      rw [hm.1.2, nb_one _ (by omega)]
      refine ⟨fun _ => ?_, fun c => absurd (Int32.le_refl _) c⟩
      refine lp_seq (fun V => (lN (sm (kf (2 ^ nT N) (nP N) (Ra N a) (Wv N a)) V), nI V)) 4096 (fun V hV K' hK' => ?_) (fun K' => ?_)
      · refine ⟨fun c => absurd c (nI_ge (b := 4096) hV (by omega)), fun _ => ?_⟩
        refine lp_seq (fun b => (lN (mxf (fun b => sm (fun l => if Ra N a l = V then Wv N a b l else 0) (2 ^ nT N)) b), nI b)) (nP N) (fun b hb K2 hK2 => ?_) (fun K2 => ?_)
        · show wb_X11_seenOf_136 I J2 (lN (sm _ V)) (nI V) _ K' Post _ K2 (lN (mxf _ b), nI b)
          unfold wb_X11_seenOf_136
          dsimp only
          have bm : mxf (fun b => sm (fun l => if Ra N a l = V then Wv N a b l else 0) (2 ^ nT N)) b ≤ 2 ^ 45 := mxf_le (fun b _ => Nat.le_of_lt (Wv_part hN _ a b V (Nat.le_refl _)))
          have bp := Wv_part hN (Ra N a) a b V (Nat.le_refl (2 ^ nT N))
          rw [hm.1.1, n12, nI_clamp (by omega : 12 * V + b < 2 ^ 31), k2 V b hV (by omega) hb, mx_l (by omega) (by omega), nI_1 b]
          refine ⟨fun c => absurd c (nI_ge hb (by omega)), fun _ => ⟨vp_in_nI (by omega) (by omega), fun z e => ?_⟩⟩
          subst e
          exact hK2
        · show wb_X11_seenOf_136 I J2 (lN (sm _ V)) (nI V) _ K' Post _ K2 (lN (mxf _ (nP N)), nI (nP N))
          unfold wb_X11_seenOf_136
          dsimp only
          rw [hm.1.1, lN_add, nI_1 V]
          exact ⟨fun _ => hK', fun c => absurd (Int32.le_refl _) c⟩
      · exact ⟨fun _ => h J2 k1, fun c => absurd (by decide) c⟩
/-! the first of those that see most -/
noncomputable def sf (N : NT) : Nat → Int32 × Nat
  | 0 => (-1, 0)
  | i + 1 => if (sf N i).2 < seen N i then (nI i, seen N i) else sf N i
theorem wt_sum {N : NT} (hN : okN N) : sm (wt N) (2 ^ nT N) = 16 ^ nT N := by
  rw [← MZ_all hN, ← MZ_eq, FM_all]
  exact sm_congr (fun l _ => (Nat.mul_one _).symm)
theorem tot_pos {N : NT} (hN : okN N) {S p : Nat} (hS : S < 2 ^ nP N) (hp : S.testBit p = true) : 0 < tot N S 0 := by
  have hP := hN.1
  have h1 : sm (wt N) (2 ^ nT N) ≤ tot N S 0 := sm_mono (fun l _ => by
    have : 0 < pc (rch N S (sd l 0)) := by
      rw [pc_cnt (rch_lt N S _) (by omega)]
      refine cnt_has (i := p) ?_ (rch_sup hS p hp)
      rcases Nat.lt_or_ge p (nP N) with q | q
      · exact q
      · rw [mk_out hS q] at hp; cases hp
    have h2 := Nat.mul_le_mul_left (wt N l) this
    rw [Nat.mul_one] at h2
    exact h2)
  rw [wt_sum hN] at h1
  exact Nat.lt_of_lt_of_le (p16 hN).2 h1
theorem seen_pos {N : NT} (hN : okN N) {a : Nat} (ha : a < nP N) : 0 < seen N a := by
  refine Nat.lt_of_lt_of_le ?_ (seen_ge hN (a := a) ha)
  exact tot_pos hN (p := a) (nb_or_lt (nb_one_lt ha) (nb_one_lt ha)) (by rw [Nat.testBit_or, two_bit]; rfl)
theorem sf_ok {N : NT} (hN : okN N) {i : Nat} (hi : i ≤ nP N) : (i = 0 ∧ sf N i = (-1, 0)) ∨ (∃ a, a < i ∧ (sf N i).1 = nI a ∧ (sf N i).2 = seen N a ∧ ∀ a', a' < i → seen N a' ≤ (sf N i).2) := by
  induction i with
  | zero => exact Or.inl ⟨rfl, rfl⟩
  | succ i ih =>
    refine Or.inr ?_
    have st : sf N (i + 1) = if (sf N i).2 < seen N i then (nI i, seen N i) else sf N i := rfl
    rw [st]
    rcases ih (by omega) with ⟨q1, q2⟩ | ⟨a, ha, q1, q2, q3⟩
    · rw [q2, if_pos (seen_pos hN (by omega))]
      refine ⟨i, by omega, rfl, rfl, fun a' ha' => ?_⟩
      rw [show a' = i by omega]; exact Nat.le_refl _
    · by_cases c : (sf N i).2 < seen N i
      · rw [if_pos c]
        refine ⟨i, by omega, rfl, rfl, fun a' ha' => ?_⟩
        rcases Nat.lt_or_eq_of_le (Nat.lt_succ_iff.mp ha') with z | z
        · have := q3 a' z; dsimp only; omega
        · rw [z]; exact Nat.le_refl _
      · rw [if_neg c]
        refine ⟨a, by omega, q1, q2, fun a' ha' => ?_⟩
        rcases Nat.lt_or_eq_of_le (Nat.lt_succ_iff.mp ha') with z | z
        · exact q3 a' z
        · rw [z]; omega
theorem sf_lt {N : NT} (hN : okN N) {i : Nat} (hi : i ≤ nP N) : (sf N i).2 < 2 ^ 62 := by
  rcases sf_ok hN hi with ⟨-, q⟩ | ⟨a, -, -, q, -⟩
  · rw [q]; exact Nat.two_pow_pos _
  · rw [q]; exact seen_lt hN a
theorem q_seeing {I : HI} {J : HJ} {N : NT} (hc : cNet I N) (hN : okN N) (hw : cWt J N) {Post : Int32 → HI → HJ → Prop} (h : ∀ (I' : HI) (J' : HJ), (∀ c, c ≠ 44 → c ≠ 45 → I' c = I c) → (∀ c, c ≠ 43 → c ≠ 46 → c ≠ 47 → J' c = J c) → J' 43 6 = lN (sf N (nP N)).2 → Post (sf N (nP N)).1 I' J') : w_X9_seeing I J Post := by
  have hP := hN.1
  intro J1 e1
  refine lp_inv (fun i (s : Int32 × Int32 × HI × HJ) => s.1 = (sf N i).1 ∧ s.2.1 = nI i ∧ (∀ c, c ≠ 44 → c ≠ 45 → s.2.2.1 c = I c) ∧ (∀ c, c ≠ 43 → c ≠ 46 → c ≠ 47 → s.2.2.2 c = J c) ∧ s.2.2.2 43 6 = lN (sf N i).2) (nP N) (fun i s hi hq K hK => ?_) (fun s hq K => ?_) ((-1), 0, I, J1) ⟨rfl, rfl, fun _ _ _ => rfl, fun c h1 _ _ => by show J1 c = _; rw [e1, hJ_ne h1], by show J1 43 6 = _; rw [e1, hJ_at, if_pos rfl]; rfl⟩
  · obtain ⟨x1, x2, I2, J2⟩ := s
    obtain ⟨a1, a2, g1, g2, g3⟩ := hq
    dsimp only at a1 a2 g1 g2 g3
    subst a1 a2
    have hc2 : cNet I2 N := cNet_of hc (fun c h1 h2 => g1 c (by omega) (by omega))
    have st : sf N (i + 1) = if (sf N i).2 < seen N i then (nI i, seen N i) else sf N i := rfl
    have b1 := sf_lt hN (Nat.le_of_lt hi)
    have b2 := seen_lt hN i
    show wb_X9_seeing_9 Post _ K ((sf N i).1, nI i, I2, J2)
    unfold wb_X9_seeing_9
    dsimp only
    rw [hc2.1.1]
    refine ⟨fun c => absurd c (nI_ge hi (by omega)), fun _ => q_totalSeeing hc2 hN (fun l hl => by rw [g2 40 (by decide) (by decide) (by decide)]; exact hw l hl) hi (fun I3 J3 k1 k2 => ?_)⟩
    have g1' : ∀ c, c ≠ 44 → c ≠ 45 → I3 c = I c := fun c h1 h2 => (k1 c h1 h2).trans (g1 c h1 h2)
    rw [k2 43 (by decide) (by decide), g3, pk_lLE (by omega) (by omega), nI_1 i]
    refine ⟨fun c => hK _ ⟨?_, rfl, g1', fun c h1 h2 h3 => (k2 c h2 h3).trans (g2 c h1 h2 h3), ?_⟩, fun c J5 e5 => hK _ ⟨?_, rfl, g1', fun c h1 h2 h3 => ?_, ?_⟩⟩
    · rw [st, if_neg (by omega)]
    · show J3 43 6 = _
      rw [k2 43 (by decide) (by decide), st, if_neg (by omega)]; exact g3
    · rw [st, if_pos (by omega)]
    · show J5 c = _
      rw [e5, hJ_ne h1, k2 c h2 h3]; exact g2 c h1 h2 h3
    · show J5 43 6 = _
      rw [e5, hJ_at, if_pos rfl, st, if_pos (by omega)]
  · obtain ⟨x1, x2, I2, J2⟩ := s
    obtain ⟨a1, a2, g1, g2, g3⟩ := hq
    dsimp only at a1 a2 g1 g2 g3
    subst a1 a2
    have hc2 : cNet I2 N := cNet_of hc (fun c h1 h2 => g1 c (by omega) (by omega))
    show wb_X9_seeing_9 Post _ K ((sf N (nP N)).1, nI (nP N), I2, J2)
    unfold wb_X9_seeing_9
    dsimp only
    rw [hc2.1.1]
    exact ⟨fun _ => h I2 J2 g1 g2 g3, fun c => absurd (Int32.le_refl _) c⟩
/-! one or two blindly -/
def cand (N : NT) (k : Nat) : Prop := 1 ≤ k ∧ k < 2 ^ nP N ∧ pc k ≤ 2
def bet (N : NT) (c k : Nat) : Prop := tot N k 0 < tot N c 0 ∨ (tot N k 0 = tot N c 0 ∧ (pc c < pc k ∨ (pc c = pc k ∧ c ≤ k)))
theorem bet_anti {N : NT} {c k : Nat} (h1 : bet N c k) (h2 : bet N k c) : c = k := by
  unfold bet at h1 h2
  omega
theorem pc_pos {k n : Nat} (h1 : 1 ≤ k) (h2 : k < 2 ^ n) (hn : n ≤ 16) : 1 ≤ pc k := by
  rw [pc_cnt h2 hn]
  rcases Nat.eq_zero_or_pos (cnt (fun i => k.testBit i) n) with q | q
  · have := cnt_zero h2 q; omega
  · exact q
theorem cand_bit {N : NT} {k : Nat} (h : cand N k) : ∃ p, p < nP N ∧ k.testBit p = true := by
  obtain ⟨p, hp⟩ := Nat.exists_testBit_of_ne_zero (x := k) (by have := h.1; omega)
  refine ⟨p, ?_, hp⟩
  rcases Nat.lt_or_ge p (nP N) with q | q
  · exact q
  · rw [mk_out h.2.1 q] at hp; cases hp
theorem cand_pos {N : NT} (hN : okN N) {k : Nat} (h : cand N k) : 0 < tot N k 0 := by
  obtain ⟨p, -, hp⟩ := cand_bit h
  exact tot_pos hN h.2.1 hp
theorem q_blindly {I : HI} {J : HJ} {N : NT} (hc : cNet I N) (hN : okN N) (h0 : 0 < nP N) {Post : Int32 → HJ → Prop} (h : ∀ c (J' : HJ), cand N c → (∀ k, cand N k → bet N c k) → (∀ c, c ≠ 43 → J' c = J c) → J' 43 7 = lN (tot N c 0) → Post (nI c) J') : w_X9_blindly I J Post := by
  have hP := hN.1
  have hp : 2 ^ nP N ≤ 4096 := Nat.pow_le_pow_right (n := 2) (by decide) hP
  have hp0 : 2 ^ 1 ≤ 2 ^ nP N := Nat.pow_le_pow_right (n := 2) (by decide) h0
  intro J1 e1
  refine lp_inv (fun i (s : Int32 × Int32 × HJ) => ∃ c t, s.1 = nI c ∧ s.2.1 = nI (i + 1) ∧ (∀ c, c ≠ 43 → s.2.2 c = J c) ∧ s.2.2 43 7 = lN t ∧ ((i = 0 ∧ c = 0 ∧ t = 0) ∨ (cand N c ∧ c ≤ i ∧ t = tot N c 0 ∧ ∀ k, k ≤ i → cand N k → bet N c k))) (2 ^ nP N - 1) (fun i s hi hq K hK => ?_) (fun s hq K => ?_) (0, 1, J1) ⟨0, 0, rfl, rfl, fun c hc => by rw [e1]; exact hJ_ne hc, by rw [e1]; exact (hJ_at J 43 7 7 0).trans (if_pos rfl), Or.inl ⟨rfl, rfl, rfl⟩⟩
  · obtain ⟨x3, x4, J2⟩ := s
    obtain ⟨c, t, a1, a2, g1, g2, g3⟩ := hq
    dsimp only at a1 a2 g1 g2
    subst a1 a2
    have b2 := tot_lt hN (i + 1) 0
    have p1 := pc_le (i + 1)
    have p2 := pc_le c
    have b1 : t < 2 ^ 45 ∧ c ≤ i := by
      rcases g3 with ⟨q1, q2, q3⟩ | ⟨-, q2, q3, -⟩
      · rw [q3]; exact ⟨Nat.two_pow_pos _, by omega⟩
      · rw [q3]; exact ⟨tot_lt hN _ _, q2⟩
    show wb_X9_blindly_9 I Post _ K (nI c, nI (i + 1), J2)
    unfold wb_X9_blindly_9
    dsimp only
    rw [hc.1.1, nb_one _ (by omega), nI_1 (i + 1), g2]
    have yes : pc (i + 1) ≤ 2 → (∀ k, k ≤ i → cand N k → bet N (i + 1) k) → ∀ J3 : HJ, J3 = hJ J2 43 7 (lN (tot N (i + 1) 0)) → K (nI (i + 1), nI (i + 1 + 1), J3) := fun q1 q2 J3 e3 => by
      subst e3
      refine hK _ ⟨i + 1, tot N (i + 1) 0, rfl, rfl, fun c hc => (hJ_ne hc).trans (g1 c hc), (hJ_at J2 43 7 7 _).trans (if_pos rfl), Or.inr ⟨⟨by omega, by omega, q1⟩, Nat.le_refl _, rfl, fun k hk hck => ?_⟩⟩
      rcases Nat.lt_or_eq_of_le hk with z | z
      · exact q2 k (by omega) hck
      · rw [z]; exact Or.inr ⟨rfl, Or.inr ⟨rfl, Nat.le_refl _⟩⟩
    have no : cand N c → t = tot N c 0 → (∀ k, k ≤ i → cand N k → bet N c k) → (cand N (i + 1) → bet N c (i + 1)) → K (nI c, nI (i + 1 + 1), J2) := fun q0 q1 q2 q3 => by
      refine hK _ ⟨c, t, rfl, rfl, g1, g2, Or.inr ⟨q0, by omega, q1, fun k hk hck => ?_⟩⟩
      rcases Nat.lt_or_eq_of_le hk with z | z
      · exact q2 k (by omega) hck
      · rw [z] at hck ⊢; exact q3 hck
    refine ⟨fun q => absurd q (nI_ge (by omega) (by omega)), fun _ => q_bc (by omega) ?_⟩
    rw [show (2 : Int32) = nI 2 from rfl, nI_ltI (by omega) (by omega)]
    rcases g3 with ⟨q1, q2, q3⟩ | ⟨q0, q1, q2, q3⟩
    · subst q1
      have pc1 : pc (0 + 1) = 1 := by decide
      refine ⟨fun z => by omega, fun _ => q_total (C := 0) hc hN (by omega) ?_⟩
      rw [pk_lLT (by omega) (by omega)]
      have cp := cand_pos hN (k := 0 + 1) ⟨by omega, by omega, by omega⟩
      refine ⟨fun _ => yes (by omega) (fun k hk hck => absurd hck.1 (by omega)), fun z => absurd (by omega) z⟩
    · refine ⟨fun z => no q0 q2 q3 (fun hck => absurd hck.2.2 (by omega)), fun z => q_total (C := 0) hc hN (by omega) ?_⟩
      rw [pk_lLT (by omega) (by omega), pk_lEQ (by omega) (by omega)]
      refine ⟨fun z2 => yes (by omega) (fun k hk hck => ?_), fun z2 => ⟨fun z3 => no q0 q2 q3 (fun hck => Or.inl (by omega)), fun z3 => q_bc (by omega) ?_⟩⟩
      · have := q3 k hk hck
        unfold bet at this ⊢
        omega
      · rw [nI_leI (by omega) (by omega)]
        refine ⟨fun z4 => no q0 q2 q3 (fun hck => Or.inr ⟨by omega, by omega⟩), fun z4 => yes (by omega) (fun k hk hck => ?_)⟩
        have := q3 k hk hck
        unfold bet at this ⊢
        omega
  · obtain ⟨x3, x4, J2⟩ := s
    obtain ⟨c, t, a1, a2, g1, g2, g3⟩ := hq
    dsimp only at a1 a2 g1 g2
    subst a1 a2
    show wb_X9_blindly_9 I Post _ K (nI c, nI (2 ^ nP N - 1 + 1), J2)
    unfold wb_X9_blindly_9
    dsimp only
    rw [hc.1.1, nb_one _ (by omega), show 2 ^ nP N - 1 + 1 = 2 ^ nP N by omega]
    refine ⟨fun _ => ?_, fun c => absurd (Int32.le_refl _) c⟩
    rcases g3 with ⟨q1, q2, q3⟩ | ⟨q0, q1, q2, q3⟩
    · omega
    · exact h c J2 q0 (fun k hck => q3 k (by have := hck.2.1; omega) hck) g1 (by rw [g2, q2])
