/-! one told first, the second by what is seen -/
noncomputable def Ra (N : NT) (a l : Nat) : Nat := rch N (2 ^ a) l
noncomputable def Wv (N : NT) (a b l : Nat) : Nat := wt N l * pc (rch N (2 ^ a ||| 2 ^ b) l)
noncomputable def seen (N : NT) (a : Nat) : Nat := sm (kf (2 ^ nT N) (nP N) (Ra N a) (Wv N a)) 4096
noncomputable def pky (N : NT) (a l : Nat) : Nat := pk10 N (Ra N a l)
theorem sd_0 (a : Nat) : sd a 0 = a := by unfold sd; rw [Nat.xor_zero, Nat.and_self]
theorem Wv_tot (N : NT) (a b : Nat) : sm (Wv N a b) (2 ^ nT N) = tot N (2 ^ a ||| 2 ^ b) 0 := sm_congr (fun l _ => by unfold Wv; rw [sd_0])
theorem Wv_part {N : NT} (hN : okN N) (key : Nat → Nat) (a b V : Nat) {n : Nat} (hn : n ≤ 2 ^ nT N) : sm (fun l => if key l = V then Wv N a b l else 0) n < 2 ^ 45 := by
  have h1 : ∀ m, sm (fun l => if key l = V then Wv N a b l else 0) m ≤ sm (Wv N a b) m := fun m => sm_mono (fun l _ => by split; exact Nat.le_refl _; exact Nat.zero_le _)
  have h2 : ∀ d, sm (Wv N a b) n ≤ sm (Wv N a b) (n + d) := fun d => by
    induction d with
    | zero => exact Nat.le_refl _
    | succ d ih => exact Nat.le_trans ih (Nat.le_add_right _ _)
  have h3 := h2 (2 ^ nT N - n)
  rw [show n + (2 ^ nT N - n) = 2 ^ nT N by omega, Wv_tot] at h3
  have := h1 n
  have := tot_lt hN (2 ^ a ||| 2 ^ b) 0
  omega
theorem kfW_le {N : NT} (hN : okN N) (key : Nat → Nat) (a V : Nat) {P : Nat} : kf (2 ^ nT N) P key (Wv N a) V ≤ 2 ^ 45 := mxf_le (fun b _ => Nat.le_of_lt (Wv_part hN key a b V (Nat.le_refl _)))
theorem Ra_lt (N : NT) (a l : Nat) : Ra N a l < 2 ^ nP N := rch_lt _ _ _
theorem seen_c {N : NT} (hN : okN N) {a : Nat} (ha : a < nP N) : sm (kf (2 ^ nT N) (nP N) (pky N a) (Wv N a)) 1024 = seen N a := by
  refine (kf_two (fun l _ => ?_) (fun l _ => ?_) (fun l l' _ _ => ?_)).symm
  · exact two12 hN (Ra_lt N a l)
  · exact pk10_lt hN _
  · exact pk10_iff hN ha
theorem seen_lt {N : NT} (hN : okN N) (a : Nat) : seen N a < 2 ^ 62 := by
  have := sm_le (f := kf (2 ^ nT N) (nP N) (Ra N a) (Wv N a)) (n := 4096) (fun V _ => kfW_le hN (Ra N a) a V)
  unfold seen
  omega
theorem seen_ge {N : NT} (hN : okN N) {a b : Nat} (hb : b < nP N) : tot N (2 ^ a ||| 2 ^ b) 0 ≤ seen N a := by
  rw [← Wv_tot]
  exact kf_ge (fun l _ => two12 hN (Ra_lt N a l)) hb
theorem sh1 : ∀ b, b < 12 → nI (2 ^ b) <<< (1 &&& 31) = nI (2 ^ (b + 1)) := by decide +kernel
theorem q_packed {I : HI} {J : HJ} {N : NT} {s : Nat} (hc : cNet I N) (hN : okN N) (hs : s < 2 ^ 31) {Post : Int32 → Prop} (h : Post (nI (pk10 N s))) : w_X9_packed (nI s) I J Post := by
  have hP := hN.1
  refine lp_seq (fun i => (nI (pkv N s i).1, nI (2 ^ (pkv N s i).2), nI i)) (nP N) (fun i hi K hK => ?_) (fun K => ?_)
  · have e : pkv N s (i + 1) = if inM N i = 0 then pkv N s i else ((pkv N s i).1 ||| (if s.testBit i then 2 ^ (pkv N s i).2 else 0), (pkv N s i).2 + 1) := rfl
    have hin := two10 hN (inM_lt N i)
    have h10 := pkv_10 hN s (i := i)
    show wb_X9_packed_7 I J (nI s) Post _ K (nI (pkv N s i).1, nI (2 ^ (pkv N s i).2), nI i)
    unfold wb_X9_packed_7 wj_X9_packed_47
    dsimp only
    rw [hc.1.1, nI_clamp (by omega : i < 2 ^ 31), (hc.2.1 i hi).2.2.2.2.1, show (0 : Int32) = nI 0 from rfl, nI_eq (by omega) (by omega), nI_1, sh1 _ (by omega), nb_or, nb_or]
    refine ⟨fun c => absurd c (nI_ge hi (by omega)), fun _ => ⟨vp_in_nI (by omega) (by omega), fun c => ?_, fun c => q_has hs (by omega) ⟨fun b => ?_, fun b => ?_⟩⟩⟩
    · rw [e, if_pos c] at hK; exact hK
    · rw [e, if_neg c, b] at hK; exact hK
    · rw [e, if_neg c, b] at hK; exact hK
  · show wb_X9_packed_7 I J (nI s) Post _ K (nI (pkv N s (nP N)).1, nI (2 ^ (pkv N s (nP N)).2), nI (nP N))
    unfold wb_X9_packed_7
    dsimp only
    rw [hc.1.1]
    exact ⟨fun _ => h, fun c => absurd (Int32.le_refl _) c⟩
theorem q_sumBy {I : HI} {J : HJ} {N : NT} {a b : Nat} (hc : cNet I N) (hN : okN N) (hw : cWt J N) (ha : a < nP N) (hb : b < nP N) (h4 : ∀ l, l < 2 ^ nT N → I 44 l = nI (Ra N a l) ∧ I 45 l = nI (pky N a l)) {Post : HJ → Prop} (h : ∀ J' : HJ, (∀ c, c ≠ 46 → J' c = J c) → (∀ v, v < 1024 → J' 46 v = lN (sm (fun l => if pky N a l = v then Wv N a b l else 0) (2 ^ nT N))) → Post J') : w_X9_sumByView (nI b) I J Post := by
  have hP := hN.1
  have hT := hN.2.1
  have hp : 2 ^ nT N ≤ 1024 := Nat.pow_le_pow_right (n := 2) (by decide) hT
  refine q_fillJ (by decide) (fun J1 e1 e2 => ?_)
  refine lp_inv (fun i (s : Int32 × HJ) => s.1 = nI i ∧ (∀ c, c ≠ 46 → s.2 c = J c) ∧ ∀ v, v < 1024 → s.2 46 v = lN (sm (fun l => if pky N a l = v then Wv N a b l else 0) i)) (2 ^ nT N) (fun i s hi hq K hK => ?_) (fun s hq K => ?_) (0, J1) ⟨rfl, e1, fun v hv => by show J1 46 v = _; rw [e2, if_pos hv]; rfl⟩
  · obtain ⟨x2, J2⟩ := s
    obtain ⟨a1, g1, g2⟩ := hq
    dsimp only at a1 g1 g2
    subst a1
    have hR := two12 hN (Ra_lt N a i)
    have hv : pky N a i < 1024 := pk10_lt hN (Ra N a i)
    have hwt := wt_le hN i
    have h40 : J2 40 i = lN (wt N i) := by rw [g1 40 (by decide)]; exact hw i hi
    have st : ∀ v, sm (fun l => if pky N a l = v then Wv N a b l else 0) (i + 1) = sm (fun l => if pky N a l = v then Wv N a b l else 0) i + (if pky N a i = v then Wv N a b i else 0) := fun _ => rfl
    have hab : (2 ^ a ||| 2 ^ b) < 2 ^ nP N := nb_or_lt (nb_one_lt ha) (nb_one_lt hb)
    have er : rch N (Ra N a i ||| 2 ^ b) i = rch N (2 ^ a ||| 2 ^ b) i := rch_rch (nb_one_lt ha) (nb_one_lt hb)
    have jn : ∀ x3, x3 = nI (rch N (2 ^ a ||| 2 ^ b) i) → wj_X9_sumByView_64 I J2 (nI b) (nI i) x3 (fun J_7 => Post J_7) K Post := fun x3 hx => by
      subst hx
      unfold wj_X9_sumByView_64
      rw [nI_clamp (by omega : i < 2 ^ 31), (h4 i hi).2, nI_clamp (by omega : pky N a i < 2 ^ 31), g2 _ hv, h40, nI_1 i]
      refine ⟨vp_in_nI (by omega) (by omega), vp_in_nI hv (by omega), vp_in_nI (by omega) (by omega), q_bc (two12 hN (rch_lt _ _ _)) ⟨vp_in_nI hv (by omega), fun J3 e3 => hK _ ⟨rfl, fun c hc => ?_, fun v hv2 => ?_⟩⟩⟩
      · show J3 c = _
        rw [e3, hJ_ne hc]; exact g1 c hc
      · show J3 46 v = _
        rw [e3, hJ_at, st v, nI_l (by have := pc_le (rch N (2 ^ a ||| 2 ^ b) i); omega), lN_mul, lN_add]
        by_cases c : pky N a i = v
        · rw [if_pos c.symm, if_pos c]; unfold Wv; rw [c]
        · rw [if_neg (fun q => c q.symm), if_neg c, Nat.add_zero]; exact g2 v hv2
    show wb_X9_sumByView_10 I (nI b) Post _ K (nI i, J2)
    unfold wb_X9_sumByView_10
    dsimp only
    refine q_count hc hN ?_
    rw [nI_clamp (by omega : i < 2 ^ 31), (h4 i hi).1, h40, show (0 : Int64) = lN 0 from rfl, pk_lEQ (by omega) (by omega), nb_one b (by omega), nb_or, nI_1 i]
    refine ⟨fun c => absurd c (nI_ge hi (by omega)), fun _ => ⟨vp_in_nI (by omega) (by omega), fun c => hK _ ⟨rfl, g1, fun v hv2 => ?_⟩, fun c => ⟨vp_in_nI (by omega) (by omega), q_has (by omega) (by omega) ⟨fun b3 => jn _ ?_, fun b3 => q_takers hc hN hi (nb_or_lt (Ra_lt N a i) (nb_one_lt hb)) (jn _ ?_)⟩⟩⟩⟩
    · rw [st v]
      have : Wv N a b i = 0 := by unfold Wv; rw [c, Nat.zero_mul]
      rw [this]
      split <;> exact g2 v hv2
    · rw [← er]; exact congrArg nI (rch_self b3)
    · rw [er]
  · obtain ⟨x2, J2⟩ := s
    obtain ⟨a1, g1, g2⟩ := hq
    dsimp only at a1 g1 g2
    subst a1
    show wb_X9_sumByView_10 I (nI b) Post _ K (nI (2 ^ nT N), J2)
    unfold wb_X9_sumByView_10
    dsimp only
    exact q_count hc hN ⟨fun _ => h J2 g1 g2, fun c => absurd (Int32.le_refl _) c⟩
theorem mx_l {a b : Nat} (ha : a < 2 ^ 62) (hb : b < 2 ^ 62) : (if lN b < lN a then lN a else lN b) = lN (max a b) := by
  have e := pk_lLT (a := b) (b := a) (by omega) (by omega)
  by_cases c : b < a
  · rw [if_pos (e.mpr c), Nat.max_eq_left (by omega)]
  · rw [if_neg (fun q => c (e.mp q)), Nat.max_eq_right (by omega)]
theorem q_totalSeeing {I : HI} {J : HJ} {N : NT} {a : Nat} (hc : cNet I N) (hN : okN N) (hw : cWt J N) (ha : a < nP N) {Post : Int64 → HI → HJ → Prop} (h : ∀ (I' : HI) (J' : HJ), (∀ c, c ≠ 44 → c ≠ 45 → I' c = I c) → (∀ c, c ≠ 46 → c ≠ 47 → J' c = J c) → Post (lN (seen N a)) I' J') : w_X9_totalSeeing (nI a) I J Post := by
  have hP := hN.1
  have hT := hN.2.1
  have hp : 2 ^ nT N ≤ 1024 := Nat.pow_le_pow_right (n := 2) (by decide) hT
  refine lp_inv (fun i (s : Int32 × HI) => s.1 = nI i ∧ (∀ c, c ≠ 44 → c ≠ 45 → s.2 c = I c) ∧ ∀ l, l < i → s.2 44 l = nI (Ra N a l) ∧ s.2 45 l = nI (pky N a l)) (2 ^ nT N) (fun i s hi hq K hK => ?_) (fun s hq K => ?_) (0, I) ⟨rfl, fun _ _ _ => rfl, fun l hl => absurd hl (Nat.not_lt_zero _)⟩
  · obtain ⟨x2, I2⟩ := s
    obtain ⟨a1, g1, g2⟩ := hq
    dsimp only at a1 g1 g2
    subst a1
    have hc2 : cNet I2 N := cNet_of hc (fun c h1 h2 => g1 c (by omega) (by omega))
    show wb_X9_totalSeeing_2 J (nI a) Post _ K (nI i, I2)
    unfold wb_X9_totalSeeing_2
    dsimp only
    refine q_count hc2 hN ?_
    rw [nI_clamp (by omega : i < 2 ^ 31), nb_one a (by omega), nI_1 i]
    refine ⟨fun c => absurd c (nI_ge hi (by omega)), fun _ => q_takers hc2 hN hi (nb_one_lt ha) ⟨vp_in_nI (by omega) (by omega), fun I3 e3 => ⟨vp_in_nI (by omega) (by omega), ?_⟩⟩⟩
    have e34 : I3 44 i = nI (Ra N a i) := by rw [e3, hI_at, if_pos rfl]; rfl
    have hc3 : cNet I3 N := cNet_of hc2 (fun c h1 h2 => by rw [e3]; exact hI_ne (by omega))
    rw [e34]
    refine q_packed hc3 hN (by have := two12 hN (Ra_lt N a i); omega) ⟨vp_in_nI (by omega) (by omega), fun I5 e5 => hK _ ⟨rfl, fun c h1 h2 => ?_, fun l hl => ?_⟩⟩
    · show I5 c = _
      rw [e5, hI_ne h2, e3, hI_ne h1]; exact g1 c h1 h2
    · show I5 44 l = _ ∧ I5 45 l = _
      rw [e5, hI_ne (by decide), hI_at, e3, hI_at, hI_ne (by decide)]
      by_cases q : l = i
      · subst q; rw [if_pos rfl, if_pos rfl]; exact ⟨rfl, rfl⟩
      · rw [if_neg q, if_neg q]; exact g2 l (by omega)
  · obtain ⟨x2, I2⟩ := s
    obtain ⟨a1, g1, g2⟩ := hq
    dsimp only at a1 g1 g2
    subst a1
    have hc2 : cNet I2 N := cNet_of hc (fun c h1 h2 => g1 c (by omega) (by omega))
    show wb_X9_totalSeeing_2 J (nI a) Post _ K (nI (2 ^ nT N), I2)
    unfold wb_X9_totalSeeing_2
    dsimp only
    refine q_count hc2 hN ⟨fun _ => q_fillJ (by decide) (fun J3 f1 f2 => ?_), fun c => absurd (Int32.le_refl _) c⟩
    have bm : ∀ v m, mxf (fun b => sm (fun l => if pky N a l = v then Wv N a b l else 0) (2 ^ nT N)) m < 2 ^ 62 := fun v m => by
      have : mxf (fun b => sm (fun l => if pky N a l = v then Wv N a b l else 0) (2 ^ nT N)) m ≤ 2 ^ 45 := mxf_le (fun b _ => Nat.le_of_lt (Wv_part hN _ a b v (Nat.le_refl _)))
      omega
    refine lp_inv (fun i (s : Int32 × HJ) => s.1 = nI i ∧ (∀ c, c ≠ 46 → c ≠ 47 → s.2 c = J c) ∧ ∀ v, v < 1024 → s.2 47 v = lN (mxf (fun b => sm (fun l => if pky N a l = v then Wv N a b l else 0) (2 ^ nT N)) i)) (nP N) (fun i s hi hq K hK => ?_) (fun s hq K => ?_) (0, J3) ⟨rfl, fun c _ h2 => f1 c h2, fun v hv => by show J3 47 v = _; rw [f2, if_pos hv]; rfl⟩
    · obtain ⟨x3, J4⟩ := s
      obtain ⟨a1, k1, k2⟩ := hq
      dsimp only at a1 k1 k2
      subst a1
      show wb_X9_totalSeeing_62 I2 Post _ K (nI i, J4)
      unfold wb_X9_totalSeeing_62
      dsimp only
      rw [hc2.1.1]
      refine ⟨fun c => absurd c (nI_ge hi (by omega)), fun _ => q_sumBy hc2 hN (fun l hl => by rw [k1 40 (by decide) (by decide)]; exact hw l hl) ha hi g2 (fun J5 m1 m2 => ?_)⟩
      refine lp_inv (fun j (s : Int32 × HJ) => s.1 = nI j ∧ (∀ c, c ≠ 46 → c ≠ 47 → s.2 c = J c) ∧ (∀ v, v < 1024 → s.2 46 v = lN (sm (fun l => if pky N a l = v then Wv N a i l else 0) (2 ^ nT N))) ∧ (∀ v, v < j → s.2 47 v = lN (mxf (fun b => sm (fun l => if pky N a l = v then Wv N a b l else 0) (2 ^ nT N)) (i + 1))) ∧ ∀ v, j ≤ v → v < 1024 → s.2 47 v = lN (mxf (fun b => sm (fun l => if pky N a l = v then Wv N a b l else 0) (2 ^ nT N)) i)) 1024 (fun j s hj hq K' hK' => ?_) (fun s hq K' => ?_) (0, J5) ⟨rfl, fun c h1 h2 => (m1 c h1).trans (k1 c h1 h2), m2, fun v hv => absurd hv (Nat.not_lt_zero _), fun v _ hv => by show J5 47 v = _; rw [m1 47 (by decide)]; exact k2 v hv⟩
      · obtain ⟨x4, J6⟩ := s
        obtain ⟨a1, r1, r2, r3, r4⟩ := hq
        dsimp only at a1 r1 r2 r3 r4
        subst a1
        show wb_X9_totalSeeing_80 I2 (nI i) _ K Post _ K' (nI j, J6)
        unfold wb_X9_totalSeeing_80
        dsimp only
        have bp := Wv_part hN (pky N a) a i j (Nat.le_refl (2 ^ nT N))
        rw [nI_clamp (by omega : j < 2 ^ 31), r2 j hj, r4 j (Nat.le_refl _) hj, mx_l (bm j i) (by omega), nI_1 j]
        refine ⟨fun c => absurd c (nI_ge (b := 1024) hj (by omega)), fun _ => ⟨vp_in_nI (by omega) (by omega), vp_in_nI (by omega) (by omega), vp_in_nI (by omega) (by omega), fun J9 e9 => hK' _ ⟨rfl, fun c h1 h2 => ?_, fun v hv => ?_, fun v hv => ?_, fun v hv1 hv2 => ?_⟩⟩⟩
        · show J9 c = _
          rw [e9, hJ_ne h2]; exact r1 c h1 h2
        · show J9 46 v = _
          rw [e9, hJ_ne (by decide)]; exact r2 v hv
        · show J9 47 v = _
          rw [e9, hJ_at]
          by_cases q : v = j
          · subst q; rw [if_pos rfl]; rfl
          · rw [if_neg q]; exact r3 v (by omega)
        · show J9 47 v = _
          rw [e9, hJ_at, if_neg (by omega)]; exact r4 v (by omega) hv2
      · obtain ⟨x4, J6⟩ := s
        obtain ⟨a1, r1, r2, r3, r4⟩ := hq
        dsimp only at a1 r1 r2 r3 r4
        subst a1
        refine ⟨fun _ => hK _ ⟨nI_1 i, r1, r3⟩, fun c => absurd (by decide) c⟩
    · obtain ⟨x3, J4⟩ := s
      obtain ⟨a1, k1, k2⟩ := hq
      dsimp only at a1 k1 k2
      subst a1
      show wb_X9_totalSeeing_62 I2 Post _ K (nI (nP N), J4)
      unfold wb_X9_totalSeeing_62
      dsimp only
      rw [hc2.1.1]
      refine ⟨fun _ => ?_, fun c => absurd (Int32.le_refl _) c⟩
      refine lp_seq (fun j => (lN (sm (kf (2 ^ nT N) (nP N) (pky N a) (Wv N a)) j), nI j)) 1024 (fun j hj K' hK' => ?_) (fun K' => ?_)
      · show wb_X9_totalSeeing_125 I2 J4 Post _ K' (lN (sm _ j), nI j)
        unfold wb_X9_totalSeeing_125
        dsimp only
        rw [nI_clamp (by omega : j < 2 ^ 31), k2 j hj, nI_1 j, lN_add]
        exact ⟨fun c => absurd c (nI_ge (b := 1024) hj (by omega)), fun _ => ⟨vp_in_nI (by omega) (by omega), hK'⟩⟩
      · refine ⟨fun _ => ?_, fun c => absurd (by decide) c⟩
        show Post (lN (sm (kf (2 ^ nT N) (nP N) (pky N a) (Wv N a)) 1024)) I2 J4
        rw [seen_c hN ha]
        exact h I2 J4 g1 k1
