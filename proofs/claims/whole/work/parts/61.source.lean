/-! who began it -/
def alq (f : Nat → Bool) : Nat → Bool
  | 0 => true
  | n + 1 => alq f n && f n
theorem alq_t {f : Nat → Bool} {n : Nat} : alq f n = true ↔ ∀ i, i < n → f i = true := by
  induction n with
  | zero => exact ⟨fun _ i hi => absurd hi (Nat.not_lt_zero _), fun _ => rfl⟩
  | succ n ih =>
    unfold alq
    rw [Bool.and_eq_true, ih]
    constructor
    · rintro ⟨a, b⟩ i hi
      rcases Nat.lt_or_eq_of_le (Nat.lt_succ_iff.mp hi) with y | y
      · exact a i y
      · rw [y]; exact b
    · intro a
      exact ⟨fun i hi => a i (by omega), a n (Nat.lt_succ_self n)⟩
def fine (seen : Nat → Int64) (s : ST) (hr q : Nat) : Bool := decide (seen q < 0) || (decide (seen q = 1) == decide (s.1 q ≤ hr))
def srw (N : NT) (seen : Nat → Int64) (hr p lot : Nat) : Nat := if alq (fine seen (sts N (2 ^ p) 0 0 lot 150) hr) (nP N) = true then 1 else 0
def src (N : NT) (seen : Nat → Int64) (hr p : Nat) : Nat := sm (fun lot => wt N lot * srw N seen hr p lot) (2 ^ nT N)
theorem src_le {N : NT} (hN : okN N) (seen : Nat → Int64) (hr p : Nat) : src N seen hr p ≤ 16 ^ 10 := by
  have h := FM_le (N := N) (f := srw N seen hr p) (m := 1) (O := 0) (Z := 0) (fun lot => by unfold srw; split <;> omega)
  rw [FM_all, Nat.mul_one] at h
  exact Nat.le_trans h (MZ_le hN 0 0)
theorem src_sum {N : NT} (hN : okN N) (seen : Nat → Int64) (hr : Nat) {n : Nat} (hn : n ≤ 12) : sm (src N seen hr) n < 2 ^ 45 := by
  have := sm_le (f := src N seen hr) (n := n) (m := 16 ^ 10) (fun i _ => src_le hN seen hr i)
  have h2 : n * 16 ^ 10 ≤ 12 * 16 ^ 10 := Nat.mul_le_mul_right _ hn
  omega
theorem q_tookBy {I I0 : HI} {J : HJ} {N : NT} {rd hr : Nat} {s : ST} (hc : cNet I0 N) (hN : okN N) (hs : cSt I I0 N rd s) (hr150 : hr < 150) (hk : ∀ q, q < nP N → s.1 q = 1000 ∨ s.1 q < 150) {Post : Int32 → Prop} (h : Post (nI (mk (fun q => decide (s.1 q ≤ hr)) (nP N)))) : w_X7_tookBy (nI hr) I J Post := by
  have hP := hN.1
  have cI : cNet I N := cNet_of hc (fun c h1 h2 => hs.1 c (by omega))
  refine lp_seq (fun i => (nI (mk (fun q => decide (s.1 q ≤ hr)) i), nI i)) (nP N) (fun i hi K hK => ?_) (fun K => ?_)
  · have e : mk (fun q => decide (s.1 q ≤ hr)) (i + 1) = mk (fun q => decide (s.1 q ≤ hr)) i ||| (if decide (s.1 i ≤ hr) = true then 2 ^ i else 0) := rfl
    have hki := hk i hi
    rw [e] at hK
    have no : ¬ s.1 i ≤ hr → K (nI (mk (fun q => decide (s.1 q ≤ hr)) i), nI (i + 1)) := fun c => by
      rw [if_neg (by rw [decide_eq_false c]; decide), Nat.or_zero] at hK
      exact hK
    show wb_X7_tookBy_4 I J (nI hr) Post _ K (nI _, nI i)
    unfold wb_X7_tookBy_4
    dsimp only
    rw [cI.1.1, hs.2.2.1, nI_clamp (by omega : i < 2 ^ 31), nb_one i (by omega), nb_or, nI_1 i]
    refine ⟨fun c => absurd c (nI_ge hi (by omega)), fun _ => q_has (lt31 (by omega) (mk_lt _ _)) (by omega) ?_⟩
    rw [mk_at hi]
    refine ⟨fun q => no ?_, fun q => ⟨vp_in_nI (by omega) (by omega), ?_⟩⟩
    · have := of_decide_eq_false q
      omega
    · have q := of_decide_eq_true q
      rw [hs.2.2.2 i hi q, nI_ltI (by omega) (by omega)]
      refine ⟨fun c => no (by omega), fun c => ?_⟩
      rw [if_pos (decide_eq_true (by omega))] at hK
      exact hK
  · show wb_X7_tookBy_4 I J (nI hr) Post _ K (nI _, nI (nP N))
    unfold wb_X7_tookBy_4
    dsimp only
    rw [cI.1.1]
    exact ⟨fun _ => h, fun z => absurd (Int32.le_refl _) z⟩
def sv (v : Int64) : Prop := v = -1 ∨ v = 0 ∨ v = 1
theorem fine_iff {seen : Nat → Int64} {s : ST} {hr q : Nat} (h : sv (seen q)) : fine seen s hr q = true ↔ (decide (s.1 q ≤ hr) && decide (seen q = 1)) = decide (seen q = 1) ∧ (decide (s.1 q ≤ hr) && decide (seen q = 0)) = false := by
  unfold fine
  rcases h with z | z | z <;> rw [z] <;> by_cases c : s.1 q ≤ hr
  · rw [decide_eq_true c]; decide
  · rw [decide_eq_false c]; decide
  · rw [decide_eq_true c]; decide
  · rw [decide_eq_false c]; decide
  · rw [decide_eq_true c]; decide
  · rw [decide_eq_false c]; decide
theorem q_weighSource {I : HI} {J : HJ} {N : NT} {p hr : Nat} {seen : Nat → Int64} (hc : cNet I N) (hN : okN N) (hw : cWt J N) (hp : p < nP N) (hr150 : hr < 150) (hsv : ∀ q, q < nP N → sv (seen q)) {Post : Int64 → HI → Prop} (h : ∀ I', (∀ c, ¬ (48 ≤ c ∧ c ≤ 51) → I' c = I c) → Post (lN (src N seen hr p)) I') : w_X3_weighSource (nI p) (nI hr) (nI (mk (fun q => decide (seen q = 1)) (nP N))) (nI (mk (fun q => decide (seen q = 0)) (nP N))) I J Post := by
  have hP := hN.1
  have hT := hN.2.1
  have hp10 : 2 ^ nT N ≤ 1024 := Nat.pow_le_pow_right (n := 2) (by decide) hT
  refine lp_inv (fun i (s : Int64 × Int32 × HI) => s.1 = lN (sm (fun lot => wt N lot * srw N seen hr p lot) i) ∧ s.2.1 = nI i ∧ ∀ c, ¬ (48 ≤ c ∧ c ≤ 51) → s.2.2 c = I c) (2 ^ nT N) (fun i s hi hq K hK => ?_) (fun s hq K => ?_) (0, 0, I) ⟨rfl, rfl, fun _ _ => rfl⟩
  · obtain ⟨x5, x7, I1⟩ := s
    obtain ⟨a1, a2, g1⟩ := hq
    dsimp only at a1 a2 g1
    subst a1 a2
    have hc1 : cNet I1 N := cNet_of hc (fun c h1 h2 => g1 c (by omega))
    have hwt := wt_le hN i
    have st : sm (fun lot => wt N lot * srw N seen hr p lot) (i + 1) = sm (fun lot => wt N lot * srw N seen hr p lot) i + wt N i * srw N seen hr p i := rfl
    show wb_X3_weighSource_6 J (nI p) (nI hr) _ _ Post _ K (lN _, nI i, I1)
    unfold wb_X3_weighSource_6
    dsimp only
    refine q_count hc1 hN ?_
    rw [nI_clamp (by omega : i < 2 ^ 31), hw i hi, nI_1 i, nb_one p (by omega)]
    refine ⟨fun c => absurd c (nI_ge hi (by omega)), fun _ => ⟨vp_in_nI (by omega) (by omega), fun c => hK _ ⟨?_, rfl, g1⟩, fun c => q_play (bl := 0) (bh := 0) hc1 hN (by decide) (nb_one_lt hp) (Nat.two_pow_pos _) hi (fun I2 s2 => ?_)⟩⟩
    · have w0 : wt N i = 0 := (pk_lEQ (b := 0) (by omega) (by decide)).mp c
      show lN _ = lN (sm _ i + wt N i * _)
      rw [w0, Nat.zero_mul, Nat.add_zero]
    · have hk := fun q hq => (mOk_all hN (2 ^ p) 0 0 i (Nat.le_refl 150) q hq).1
      have g2 : ∀ c, ¬ (48 ≤ c ∧ c ≤ 51) → I2 c = I c := fun c hc => (s2.1 c hc).trans (g1 c hc)
      have e1 : ∀ v, srw N seen hr p i = v → K (lN (sm (fun lot => wt N lot * srw N seen hr p lot) i + wt N i * v), nI (i + 1), I2) := fun v ev => hK _ ⟨by rw [st, ev], rfl, g2⟩
      refine q_tookBy hc1 hN s2 hr150 hk ?_
      rw [nb_and, nb_and, mk_and, mk_and, show (0 : Int32) = nI 0 from rfl, nI_eq (lt31 (by omega) (mk_lt _ _)) (lt31 (by omega) (mk_lt _ _)), nI_eq (lt31 (by omega) (mk_lt _ _)) (by decide), lN_add]
      have no : ¬ (∀ q, q < nP N → fine seen (sts N (2 ^ p) 0 0 i 150) hr q = true) → K (lN (sm (fun lot => wt N lot * srw N seen hr p lot) i), nI (i + 1), I2) := fun c => by
        have := e1 0 (if_neg (fun z => c (alq_t.mp z)))
        rw [Nat.mul_zero, Nat.add_zero] at this
        exact this
      refine ⟨fun c1 => no (fun z => c1 (mk_congr (fun q hq => ((fine_iff (hsv q hq)).mp (z q hq)).1))), fun c1 => ⟨fun c2 => no (fun z => c2 (mk_none (fun q hq => ((fine_iff (hsv q hq)).mp (z q hq)).2))), fun c2 => ⟨vp_in_nI (by omega) (by omega), ?_⟩⟩⟩
      have := e1 1 (if_pos (alq_t.mpr (fun q hq => (fine_iff (hsv q hq)).mpr ⟨mk_inj c1 q hq, mk_inj (c2.trans (mk_0 (nP N)).symm) q hq⟩)))
      rw [Nat.mul_one] at this
      exact this
  · obtain ⟨x5, x7, I1⟩ := s
    obtain ⟨a1, a2, g1⟩ := hq
    dsimp only at a1 a2 g1
    subst a1 a2
    have hc1 : cNet I1 N := cNet_of hc (fun c h1 h2 => g1 c (by omega))
    show wb_X3_weighSource_6 J (nI p) (nI hr) _ _ Post _ K (lN _, nI (2 ^ nT N), I1)
    unfold wb_X3_weighSource_6
    dsimp only
    exact q_count hc1 hN ⟨fun _ => h I1 g1, fun z => absurd (Int32.le_refl _) z⟩
theorem src_0 {N : NT} (hN : okN N) {seen : Nat → Int64} {hr p : Nat} (hp : p < nP N) (h0 : seen p = 0) : src N seen hr p = 0 := by
  have : ∀ lot, wt N lot * srw N seen hr p lot = 0 := fun lot => by
    have : srw N seen hr p lot = 0 := by
      refine if_neg (fun z => ?_)
      have := alq_t.mp z p hp
      have t0 := (mOk_all hN (2 ^ p) 0 0 lot (Nat.le_refl 150) p hp).2.2.2.2.2.2.1 (by decide) (Nat.testBit_two_pow_self)
      unfold fine at this
      rw [h0, t0.1, decide_eq_true (Nat.zero_le hr)] at this
      exact absurd this (by decide)
    rw [this, Nat.mul_zero]
  unfold src
  have e : ∀ n, sm (fun lot => wt N lot * srw N seen hr p lot) n = 0 := fun n => by
    induction n with
    | zero => rfl
    | succ n ih => show sm _ n + wt N n * srw N seen hr p n = 0; rw [ih, this]
  exact e _
theorem q_weighSources {I : HI} {J : HJ} {N : NT} {c1 hr : Nat} {seen : Nat → Int64} (hc : cNet I N) (hN : okN N) (hw : cWt J N) (hr150 : hr < 150) (hsv : ∀ q, q < nP N → J c1 q = seen q ∧ sv (seen q)) {Post : Int64 → HI → HJ → Prop} (h : ∀ I' J', (∀ c, ¬ (48 ≤ c ∧ c ≤ 51) → I' c = I c) → (∀ c, c ≠ 53 → J' c = J c) → (∀ p, p < nP N → J' 53 p = lN (src N seen hr p)) → Post (lN (sm (src N seen hr) (nP N))) I' J') : w_X3_weighSources c1 (nI hr) I J Post := by
  have hP := hN.1
  refine lp_seq (fun i => (nI (mk (fun q => decide (seen q = 1)) i), nI (mk (fun q => decide (seen q = 0)) i), nI i)) (nP N) (fun i hi K hK => ?_) (fun K => ?_)
  · have e1 : mk (fun q => decide (seen q = 1)) (i + 1) = mk (fun q => decide (seen q = 1)) i ||| (if decide (seen i = 1) = true then 2 ^ i else 0) := rfl
    have e0 : mk (fun q => decide (seen q = 0)) (i + 1) = mk (fun q => decide (seen q = 0)) i ||| (if decide (seen i = 0) = true then 2 ^ i else 0) := rfl
    rw [e1, e0] at hK
    have vi : vp_in (nI i) 40 := vp_in_nI (by omega) (by omega)
    have go : ∀ t0, t0 = nI (if decide (seen i = 1) = true then 2 ^ i else 0) → wj_X3_weighSources_45 I J c1 (nI hr) (nI (mk (fun q => decide (seen q = 0)) i)) (nI i) t0 (nI (mk (fun q => decide (seen q = 1)) i)) (fun (x3_1 : Int32) (x4_2 : Int32) => ∃ n, lp (wb_X3_weighSources_81 (nI hr) x3_1 x4_2 Post (fun (x5_8 : Int64) (I_9 : HI) (J_10 : HJ) => Post x5_8 I_9 J_10)) n (0, 0, I, J)) K Post := fun t0 et => by
      subst et
      unfold wj_X3_weighSources_45
      rw [nI_clamp (by omega : i < 2 ^ 31), (hsv i hi).1, nb_or, nb_one i (by omega), nI_1 i, show (0 : Int32) = nI 0 from rfl, nb_or, nb_or]
      refine ⟨vi, fun c => ?_, fun c => ?_⟩
      · rw [if_neg (by rw [decide_eq_false c]; decide : ¬ decide (seen i = 0) = true)] at hK; exact hK
      · rw [if_pos (decide_eq_true c : decide (seen i = 0) = true)] at hK; exact hK
    show wb_X3_weighSources_8 I J c1 (nI hr) Post _ K (nI _, nI _, nI i)
    unfold wb_X3_weighSources_8
    dsimp only
    rw [hc.1.1, nI_clamp (by omega : i < 2 ^ 31), (hsv i hi).1]
    refine ⟨fun c => absurd c (nI_ge hi (by omega)), fun _ => ⟨fun c => absurd c (nI_ge (b := 40) (by omega) (by omega)), fun _ => ⟨vi, fun c => go 0 ?_, fun c => go _ ?_⟩⟩⟩
    · rw [if_neg (by rw [decide_eq_false c]; decide)]; rfl
    · rw [if_pos (decide_eq_true c), nb_one i (by omega)]
  · show wb_X3_weighSources_8 I J c1 (nI hr) Post _ K (nI _, nI _, nI (nP N))
    unfold wb_X3_weighSources_8
    dsimp only
    rw [hc.1.1]
    refine ⟨fun _ => ?_, fun z => absurd (Int32.le_refl _) z⟩
    refine lp_inv (fun i (s : Int64 × Int32 × HI × HJ) => s.1 = lN (sm (src N seen hr) i) ∧ s.2.1 = nI i ∧ (∀ c, ¬ (48 ≤ c ∧ c ≤ 51) → s.2.2.1 c = I c) ∧ (∀ c, c ≠ 53 → s.2.2.2 c = J c) ∧ ∀ p, p < i → s.2.2.2 53 p = lN (src N seen hr p)) (nP N) (fun i s hi hq K hK => ?_) (fun s hq K => ?_) (0, 0, I, J) ⟨rfl, rfl, fun _ _ => rfl, fun _ _ => rfl, fun p hp => absurd hp (Nat.not_lt_zero _)⟩
    · obtain ⟨x5, x7, I1, J1⟩ := s
      obtain ⟨a1, a2, g1, g2, g3⟩ := hq
      dsimp only at a1 a2 g1 g2 g3
      subst a1 a2
      have hc1 : cNet I1 N := cNet_of hc (fun c h1 h2 => g1 c (by omega))
      have hw1 : cWt J1 N := by unfold cWt; rw [g2 40 (by decide)]; exact hw
      have vi : vp_in (nI i) 12 := vp_in_nI (by omega) (by omega)
      have st : sm (src N seen hr) (i + 1) = sm (src N seen hr) i + src N seen hr i := rfl
      have go : ∀ (I2 : HI) (t0 : Int64), (∀ c, ¬ (48 ≤ c ∧ c ≤ 51) → I2 c = I c) → t0 = lN (src N seen hr i) → wj_X3_weighSources_123 I2 J1 (nI hr) (nI (mk (fun q => decide (seen q = 1)) (nP N))) (nI (mk (fun q => decide (seen q = 0)) (nP N))) (lN (sm (src N seen hr) i)) (nI i) t0 (nI i) (fun (x5_8 : Int64) (I_9 : HI) (J_10 : HJ) => Post x5_8 I_9 J_10) K Post := fun I2 t0 g4 et => by
        subst et
        unfold wj_X3_weighSources_123
        rw [nI_clamp (by omega : i < 2 ^ 31), nI_1 i]
        refine ⟨vi, fun J6 e6 => ⟨vi, fun z ez => ?_⟩⟩
        rw [e6, hJ_at, if_pos rfl, lN_add] at ez
        subst ez
        refine hK _ ⟨by rw [st], rfl, g4, fun c hc => ?_, fun q hq => ?_⟩
        · show J6 c = _
          rw [e6, hJ_ne hc]; exact g2 c hc
        · show J6 53 q = _
          rw [e6, hJ_at]
          by_cases y : q = i
          · rw [if_pos y, y]
          · rw [if_neg y]; exact g3 q (by omega)
      show wb_X3_weighSources_81 (nI hr) _ _ Post _ K (lN _, nI i, I1, J1)
      unfold wb_X3_weighSources_81
      dsimp only
      rw [hc1.1.1]
      refine ⟨fun c => absurd c (nI_ge hi (by omega)), fun _ => q_has (lt31 (by omega) (mk_lt _ _)) (by omega) ?_⟩
      rw [mk_at hi]
      refine ⟨fun _ => q_weighSource hc1 hN hw1 hi hr150 (fun q hq => (hsv q hq).2) (fun I2 g4 => go I2 _ (fun c hc => (g4 c hc).trans (g1 c hc)) rfl), fun q => go I1 0 g1 ?_⟩
      rw [src_0 hN hi (of_decide_eq_true q)]
      rfl
    · obtain ⟨x5, x7, I1, J1⟩ := s
      obtain ⟨a1, a2, g1, g2, g3⟩ := hq
      dsimp only at a1 a2 g1 g2 g3
      subst a1 a2
      have hc1 : cNet I1 N := cNet_of hc (fun c h1 h2 => g1 c (by omega))
      show wb_X3_weighSources_81 (nI hr) _ _ Post _ K (lN _, nI (nP N), I1, J1)
      unfold wb_X3_weighSources_81
      dsimp only
      rw [hc1.1.1]
      exact ⟨fun _ => h I1 J1 g1 g2 g3, fun z => absurd (Int32.le_refl _) z⟩
