theorem lN_m1 {a : Nat} (h : a < 2 ^ 63) : ¬ lN a ≤ -1 := by
  rw [Int64.le_iff_toInt_le, pk_lT h, show (-1 : Int64).toInt = -1 from by decide]
  omega
/-- the best answer among the first i, and its mean -/
def bAn (f : Nat → Nat) : Nat → Nat × Nat
  | 0 => (0, 0)
  | i + 1 => if i = 0 ∨ (bAn f i).2 < f i then (i, f i) else bAn f i
theorem bAn_lt (f : Nat → Nat) (m : Nat) (h : ∀ i, f i < m) (hm : 0 < m) : ∀ i, (bAn f i).2 < m ∧ ((bAn f i).1 < i ∨ i = 0) := by
  intro i
  induction i with
  | zero => exact ⟨hm, Or.inr rfl⟩
  | succ i ih =>
    unfold bAn
    split
    · exact ⟨h i, Or.inl (Nat.lt_succ_self i)⟩
    · rename_i c
      refine ⟨ih.1, Or.inl ?_⟩
      rcases ih.2 with z | z
      · omega
      · exact absurd (Or.inl z) c
theorem q_bestAnswer {I : HI} {J : HJ} {N : NT} {rd bh : Nat} (hc : cNet I N) (hN : okN N) (hw : cWt J N) (hbh : bh < 150) (hrd : rd < 2 ^ nP N) (hp0 : 0 < nP N) {Post : Int32 → HI → HJ → Prop} (h : ∀ I' J', (∀ c, ¬ (48 ≤ c ∧ c ≤ 51) → I' c = I c) → (∀ c, c ≠ 52 → J' c = J c) → J' 52 4 = lN (bAn (fun p => mean N rd (2 ^ p) bh 1) (nP N)).2 → Post (nI (bAn (fun p => mean N rd (2 ^ p) bh 1) (nP N)).1) I' J') : w_X3_bestAnswer (nI rd) (nI bh) I J Post := by
  have hP := hN.1
  intro J1 e1
  refine lp_inv (fun i (s : Int32 × Int32 × HI × HJ) => s.2.1 = nI i ∧ (∀ c, ¬ (48 ≤ c ∧ c ≤ 51) → s.2.2.1 c = I c) ∧ (∀ c, c ≠ 52 → s.2.2.2 c = J c) ∧ ((i = 0 ∧ s.1 = -1 ∧ s.2.2.2 52 4 = -1) ∨ (0 < i ∧ s.1 = nI (bAn (fun p => mean N rd (2 ^ p) bh 1) i).1 ∧ s.2.2.2 52 4 = lN (bAn (fun p => mean N rd (2 ^ p) bh 1) i).2))) (nP N) (fun i s hi hq K hK => ?_) (fun s hq K => ?_) (-1, 0, I, J1) ⟨rfl, fun _ _ => rfl, fun c hc => by show J1 c = _; rw [e1, hJ_ne hc], Or.inl ⟨rfl, rfl, by show J1 52 4 = -1; rw [e1, hJ_at, if_pos rfl]⟩⟩
  · obtain ⟨x3, x4, I2, J2⟩ := s
    obtain ⟨a1, g1, g2, g3⟩ := hq
    dsimp only at a1 g1 g2 g3
    subst a1
    have hc2 : cNet I2 N := cNet_of hc (fun c h1 h2 => g1 c (by omega))
    have hw2 : cWt J2 N := by unfold cWt; rw [g2 40 (by decide)]; exact hw
    have hb := bAn_lt (fun p => mean N rd (2 ^ p) bh 1) (2 ^ 45) (fun i => mean_lt hN _ _ _ _) (by decide) i
    have hml := mean_lt hN rd (2 ^ i) bh 1
    have st : bAn (fun p => mean N rd (2 ^ p) bh 1) (i + 1) = if i = 0 ∨ (bAn (fun p => mean N rd (2 ^ p) bh 1) i).2 < mean N rd (2 ^ i) bh 1 then (i, mean N rd (2 ^ i) bh 1) else bAn (fun p => mean N rd (2 ^ p) bh 1) i := rfl
    show wb_X3_bestAnswer_12 (nI rd) (nI bh) Post _ K (x3, nI i, I2, J2)
    unfold wb_X3_bestAnswer_12
    dsimp only
    rw [hc2.1.1, nb_one _ (by omega), nI_1 i]
    refine ⟨fun c => absurd c (nI_ge hi (by omega)), fun _ => q_fought hc2 hN hw2 hbh hrd (nb_one_lt hi) (Or.inl ⟨rfl, rfl⟩) (fun I3 g4 => ?_)⟩
    have g5 : ∀ c, ¬ (48 ≤ c ∧ c ≤ 51) → I3 c = I c := fun c hc => (g4 c hc).trans (g1 c hc)
    refine ⟨fun c => hK _ ⟨rfl, g5, g2, ?_⟩, fun c J4 e4 => hK _ ⟨rfl, g5, fun c hc => ?_, Or.inr ⟨Nat.succ_pos i, ?_, ?_⟩⟩⟩
    · rcases g3 with ⟨z1, z2, z3⟩ | ⟨z1, z2, z3⟩
      · rw [z3] at c; exact absurd c (lN_m1 (by omega))
      · rw [z3, pk_lLE (by omega) (by omega)] at c
        refine Or.inr ⟨Nat.succ_pos i, ?_, ?_⟩
        · rw [st, if_neg (by omega)]; exact z2
        · rw [st, if_neg (by omega)]; exact z3
    · show J4 c = J c
      rw [e4, hJ_ne hc]; exact g2 c hc
    · show nI i = _
      have : i = 0 ∨ (bAn (fun p => mean N rd (2 ^ p) bh 1) i).2 < mean N rd (2 ^ i) bh 1 := by
        rcases g3 with ⟨z1, z2, z3⟩ | ⟨z1, z2, z3⟩
        · exact Or.inl z1
        · rw [z3, pk_lLE (by omega) (by omega)] at c
          exact Or.inr (by omega)
      rw [st, if_pos this]
    · show J4 52 4 = _
      have : i = 0 ∨ (bAn (fun p => mean N rd (2 ^ p) bh 1) i).2 < mean N rd (2 ^ i) bh 1 := by
        rcases g3 with ⟨z1, z2, z3⟩ | ⟨z1, z2, z3⟩
        · exact Or.inl z1
        · rw [z3, pk_lLE (by omega) (by omega)] at c
          exact Or.inr (by omega)
      rw [st, if_pos this, e4, hJ_at, if_pos rfl]
  · obtain ⟨x3, x4, I2, J2⟩ := s
    obtain ⟨a1, g1, g2, g3⟩ := hq
    dsimp only at a1 g1 g2 g3
    subst a1
    have hc2 : cNet I2 N := cNet_of hc (fun c h1 h2 => g1 c (by omega))
    show wb_X3_bestAnswer_12 (nI rd) (nI bh) Post _ K (x3, nI (nP N), I2, J2)
    unfold wb_X3_bestAnswer_12
    dsimp only
    rw [hc2.1.1]
    refine ⟨fun _ => ?_, fun z => absurd (Int32.le_refl _) z⟩
    rcases g3 with ⟨z1, z2, z3⟩ | ⟨z1, z2, z3⟩
    · omega
    · rw [z2]; exact h I2 J2 g1 g2 z3
theorem q_mAnswer {I : HI} {J : HJ} {N : NT} {rd bh : Nat} (hm : mNet I N) (hN : okN N) (hbh : bh < 150) (hrd : rd < 2 ^ nP N) (hp0 : 0 < nP N) {Post : Int32 → HI → HJ → Prop} {E : Int32 → Int64 → HI → Prop} (h : ∀ I', (∀ c, ¬ (92 ≤ c ∧ c ≤ 95) → I' c = I c) → E (nI (bAn (fun p => mean N rd (2 ^ p) bh 1) (nP N)).1) (lN (bAn (fun p => mean N rd (2 ^ p) bh 1) (nP N)).2) I') : ∃ n, lp (wb_X11_answer_64 J (nI rd) (nI bh) Post E) n (-1, 0, 0, I) := by
  have hP := hN.1
  have mn : ∀ I' : HI, (∀ c, ¬ (92 ≤ c ∧ c ≤ 95) → I' c = I c) → mNet I' N := fun I' g1 => mNet_of hm (by rw [g1 72 (by omega)]) (by rw [g1 72 (by omega)]) ⟨g1 77 (by omega), g1 79 (by omega), g1 80 (by omega), g1 81 (by omega), g1 82 (by omega), g1 87 (by omega)⟩
  refine lp_inv (fun i (s : Int32 × Int64 × Int32 × HI) => s.2.2.1 = nI i ∧ (∀ c, ¬ (92 ≤ c ∧ c ≤ 95) → s.2.2.2 c = I c) ∧ ((i = 0 ∧ s.1 = -1) ∨ (0 < i ∧ s.1 = nI (bAn (fun p => mean N rd (2 ^ p) bh 1) i).1 ∧ s.2.1 = lN (bAn (fun p => mean N rd (2 ^ p) bh 1) i).2))) (nP N) (fun i s hi hq K hK => ?_) (fun s hq K => ?_) (-1, 0, 0, I) ⟨rfl, fun _ _ => rfl, Or.inl ⟨rfl, rfl⟩⟩
  · obtain ⟨x3, x4, x6, I2⟩ := s
    obtain ⟨a1, g1, g3⟩ := hq
    dsimp only at a1 g1 g3
    subst a1
    have hb := bAn_lt (fun p => mean N rd (2 ^ p) bh 1) (2 ^ 45) (fun i => mean_lt hN _ _ _ _) (by decide) i
    have hml := mean_lt hN rd (2 ^ i) bh 1
    have st : bAn (fun p => mean N rd (2 ^ p) bh 1) (i + 1) = if i = 0 ∨ (bAn (fun p => mean N rd (2 ^ p) bh 1) i).2 < mean N rd (2 ^ i) bh 1 then (i, mean N rd (2 ^ i) bh 1) else bAn (fun p => mean N rd (2 ^ p) bh 1) i := rfl
    show wb_X11_answer_64 J (nI rd) (nI bh) Post _ K (x3, x4, nI i, I2)
    unfold wb_X11_answer_64
    dsimp only
    rw [(mn I2 g1).1.1, nb_one _ (by omega), nI_1 i]
    refine ⟨fun c => absurd c (nI_ge hi (by omega)), fun _ => q_mMean (g := 1) (mn I2 g1) hN hbh hrd (nb_one_lt hi) (by decide) (fun I3 g4 => ?_)⟩
    have g5 : ∀ c, ¬ (92 ≤ c ∧ c ≤ 95) → I3 c = I c := fun c hc => (g4 c hc).trans (g1 c hc)
    have yes : (i = 0 ∨ (bAn (fun p => mean N rd (2 ^ p) bh 1) i).2 < mean N rd (2 ^ i) bh 1) → K (nI i, lN (mean N rd (2 ^ i) bh 1), nI (i + 1), I3) := fun y => hK _ ⟨rfl, g5, Or.inr ⟨Nat.succ_pos i, by rw [st, if_pos y], by rw [st, if_pos y]⟩⟩
    rcases g3 with ⟨z1, z2⟩ | ⟨z1, z2, z3⟩
    · subst z2
      exact ⟨fun _ => yes (Or.inl z1), fun c => absurd (by decide) c⟩
    · rw [z2, z3, pk_lLT (by omega) (by omega)]
      refine ⟨fun c => absurd c (nI_pos (by omega)), fun _ => ⟨fun c => yes (Or.inr c), fun c => hK _ ⟨rfl, g5, Or.inr ⟨Nat.succ_pos i, ?_, ?_⟩⟩⟩⟩
      · rw [st, if_neg (by omega)]
      · rw [st, if_neg (by omega)]
  · obtain ⟨x3, x4, x6, I2⟩ := s
    obtain ⟨a1, g1, g3⟩ := hq
    dsimp only at a1 g1 g3
    subst a1
    show wb_X11_answer_64 J (nI rd) (nI bh) Post _ K (x3, x4, nI (nP N), I2)
    unfold wb_X11_answer_64
    dsimp only
    rw [(mn I2 g1).1.1]
    refine ⟨fun _ => ?_, fun z => absurd (Int32.le_refl _) z⟩
    rcases g3 with ⟨z1, z2⟩ | ⟨z1, z2, z3⟩
    · omega
    · rw [z2, z3]; exact h I2 g1
theorem same_52 {J J' : HJ} (h : ∀ c, c ≠ 52 → J' c = J c) : sameJ J J' := fun c r => by
  by_cases y : c = 52
  · subst y; cases r
  · exact h c y
theorem op_answer {I : HI} {J : HJ} (h : Inv I J) (x y : Int32) : w_X10_answer x y I J (fun r I1 J1 => w_X11_answer x y I1 J1 (fun r' I2 J2 => r = r' ∧ Inv I2 J2)) := by
  obtain ⟨N, hC, h1, h2⟩ := h
  have hN := hC.1
  have hP := hN.1
  have hT := hN.2.1
  have hm2 : ∀ v, mNet (m0 (cS I v)) N := fun v => mNet_same hC.2.2.1 (sameI_tr (same_cS I v) (same_m0 (cS I v)))
  have er : ∀ v, Inv (mE (cS I v) v) J := fun v => fin_er hC (same_cS I v) (cS_at I v) (sameJ_rf J) h2
  refine q_arePeople hC.2.1 hN ⟨fun b => ?_, fun b => bt_w (lo := 0) (hi := 20) (by decide) (by decide) ?_⟩
  · refine q_failsE (by decide) ⟨fun q => (by cases q), fun _ I1 e1 I2 e2 => ?_⟩
    subst e1 e2
    exact q_areSeeds (hm2 2) hN ⟨fun q => (by rw [b] at q; cases q), fun _ => q_refused ⟨rfl, er 2⟩⟩
  · cases hb : isBt y 0 20
    · refine ⟨fun q => absurd rfl q, fun _ => ?_⟩
      refine q_failsE (by decide) ⟨fun q => (by cases q), fun _ I1 e1 I2 e2 => ?_⟩
      subst e1 e2
      exact q_areSeeds (hm2 5) hN ⟨fun _ => bt_m (lo := 0) (hi := 20) (by decide) (by decide) ⟨fun q => (by rw [hb] at q; cases q), fun _ => q_refused ⟨rfl, er 5⟩⟩, fun q => (by rw [b] at q; cases q)⟩
    · refine ⟨fun _ => ?_, fun q => absurd q (by decide)⟩
      rw [hC.2.1.1.1, show (0 : Int32) = nI 0 from rfl, nI_eq (by omega) (by omega)]
      refine ⟨fun p0 => ?_, fun p0 => ?_⟩
      · obtain ⟨S, hS, rfl⟩ := ofSet (by omega) b
        obtain ⟨k, hk, rfl⟩ := ofBt (n := 20) hb
        refine q_fails0 ⟨fun _ => ?_, fun q => (by cases q)⟩
        refine q_bestAnswer (cNet_same hC.2.1 (same_cS I 0)) hN hC.2.2.2.1 (by omega) hS (by omega) (fun I7 J7 g7 j7 e7 => ?_)
        have s7 : sameI I I7 := sameI_tr (same_cS I 0) (same_st g7)
        have bl := (bAn_lt (fun p => mean N S (2 ^ p) k 1) (2 ^ 45) (fun i => mean_lt hN _ _ _ _) (by decide) (nP N)).1
        rw [e7]
        refine q_whole (cNet_same hC.2.1 s7) hN (q_become bl (p16 hN).1 (p16 hN).2 (fun I1 e1 I2 e2 => ?_))
        subst e1 e2
        have s8 := sameI_tr s7 (same_m0 I7)
        have hm' := mNet_same hC.2.2.1 s8
        refine q_areSeeds hm' hN ⟨fun _ => bt_m (lo := 0) (hi := 20) (by decide) (by decide) ⟨fun _ => ⟨fun _ => ?_, fun q => ?_⟩, fun q => (by rw [hb] at q; cases q)⟩, fun q => (by rw [b] at q; cases q)⟩
        · refine q_mAnswer hm' hN (by omega) hS (by omega) (fun I9 g9 => ?_)
          have s9 := sameI_tr s8 (same_lv g9)
          refine q_mWhole (mNet_same hC.2.2.1 s9) hN (q_mFrac bl (p16 hN).1 (p16 hN).2 ⟨rfl, fin_g hC s9 ?_ (sameJ_tr (same_52 j7) (sameJ_tr (same_cFr _ _ _) (same_mFr _ _ _))) frac_both⟩)
          rw [g9 0 (by omega), g9 72 (by omega), m0_72, m0_ne _ (by decide), g7 0 (by omega), cS_at]
        · exfalso
          have q' : m0 I7 72 20 = 0 := q
          rw [hm'.1.1, show (0 : Int32) = nI 0 from rfl, nI_eq (by omega) (by omega)] at q'
          exact p0 q'
      · refine q_failsE (by decide) ⟨fun q => (by cases q), fun _ I1 e1 I2 e2 => ?_⟩
        subst e1 e2
        refine q_areSeeds (hm2 8) hN ⟨fun _ => bt_m (lo := 0) (hi := 20) (by decide) (by decide) ⟨fun _ => ⟨fun q => ?_, fun q => q_refused ⟨rfl, er 8⟩⟩, fun q => (by rw [hb] at q; cases q)⟩, fun q => (by rw [b] at q; cases q)⟩
        refine absurd ?_ q
        show m0 (cS I 8) 72 20 = 0
        rw [(hm2 8).1.1, p0]
        rfl
/-! the last hour -/
def hx (i : Nat) : Int32 := if i ≤ 20 then nI (20 - i) else -1
theorem hx_s : ∀ i, i < 21 → hx i + (-1) = hx (i + 1) ∧ ¬ hx i < 0 ∧ hx i = nI (20 - i) ∧ ¬ hx i = -1 := by decide
def lst (f : Nat → Bool) (r : Int32) : Prop := (∃ i, i < 21 ∧ r = hx i ∧ f (20 - i) = true ∧ ∀ j, j < i → f (20 - j) = false) ∨ (r = -1 ∧ ∀ j, j < 21 → f (20 - j) = false)
theorem lst_u {f : Nat → Bool} {r r' : Int32} (h : lst f r) (h' : lst f r') : r = r' := by
  rcases h with ⟨i, a1, a2, a3, a4⟩ | ⟨a1, a2⟩ <;> rcases h' with ⟨j, b1, b2, b3, b4⟩ | ⟨b1, b2⟩
  · rcases Nat.lt_trichotomy i j with z | z | z
    · rw [b4 i z] at a3; cases a3
    · rw [a2, b2, z]
    · rw [a4 j z] at b3; cases b3
  · rw [b2 i a1] at a3; cases a3
  · rw [a2 j b1] at b3; cases b3
  · rw [a1, b1]
def enough (N : NT) (rd p : Nat) (h : Nat) : Bool := decide (2 * mean N rd (2 ^ p) h 0 ≤ mean N rd 0 0 0)
theorem two_l {a : Nat} : (2 : Int64) * lN a = lN (2 * a) := by rw [show (2 : Int64) = lN 2 from rfl, lN_mul]
theorem q_lastHour {I : HI} {J : HJ} {N : NT} {rd p : Nat} (hc : cNet I N) (hN : okN N) (hw : cWt J N) (hrd : rd < 2 ^ nP N) (hp : p < nP N) {Post : Int32 → HI → Prop} (h : ∀ r I', (∀ c, ¬ (48 ≤ c ∧ c ≤ 51) → I' c = I c) → lst (enough N rd p) r → Post r I') : w_X3_lastHour (nI rd) (nI p) I J Post := by
  have hP := hN.1
  refine q_fought (bl := 0) (bh := 0) hc hN hw (by decide) hrd (Nat.two_pow_pos _) (Or.inr ⟨rfl, rfl⟩) (fun I2 g2 => ?_)
  have hm0 := mean_lt hN rd 0 0 0
  refine lp_inv (fun i (s : Int32 × HI) => s.1 = hx i ∧ (∀ c, ¬ (48 ≤ c ∧ c ≤ 51) → s.2 c = I c) ∧ ∀ j, j < i → enough N rd p (20 - j) = false) 21 (fun i s hi hq K hK => ?_) (fun s hq K => ?_) (20, I2) ⟨rfl, g2, fun j hj => absurd hj (Nat.not_lt_zero _)⟩
  · obtain ⟨x5, I3⟩ := s
    obtain ⟨a1, g3, g4⟩ := hq
    dsimp only at a1 g3 g4
    subst a1
    obtain ⟨x1, x2, x3, x4⟩ := hx_s i hi
    have hc3 : cNet I3 N := cNet_of hc (fun c h1 h2 => g3 c (by omega))
    refine ⟨fun z => absurd z x2, fun _ => ?_⟩
    rw [x1, x3, nb_one _ (by omega)]
    refine q_fought hc3 hN hw (by omega) hrd (nb_one_lt hp) (Or.inr ⟨rfl, rfl⟩) (fun I4 g5 => ?_)
    have g6 : ∀ c, ¬ (48 ≤ c ∧ c ≤ 51) → I4 c = I c := fun c hc => (g5 c hc).trans (g3 c hc)
    have hml := mean_lt hN rd (2 ^ p) (20 - i) 0
    rw [two_l, pk_lLT (by omega) (by omega), ← x3]
    refine ⟨fun c => hK _ ⟨rfl, g6, fun j hj => ?_⟩, fun c => h _ I4 g6 (Or.inl ⟨i, hi, rfl, decide_eq_true (by omega), g4⟩)⟩
    rcases Nat.lt_or_eq_of_le (Nat.lt_succ_iff.mp hj) with y | y
    · exact g4 j y
    · rw [y]; exact decide_eq_false (by omega)
  · obtain ⟨x5, I3⟩ := s
    obtain ⟨a1, g3, g4⟩ := hq
    dsimp only at a1 g3 g4
    subst a1
    exact ⟨fun _ => h (-1) I3 g3 (Or.inr ⟨rfl, g4⟩), fun z => absurd (by decide) z⟩
theorem q_mLatest {I : HI} {J : HJ} {N : NT} {rd p : Nat} (hm : mNet I N) (hN : okN N) (hrd : rd < 2 ^ nP N) (hp : p < nP N) {Post : Int32 → HI → Prop} {E : HI → Prop} (hE : ∀ I', (∀ c, ¬ (92 ≤ c ∧ c ≤ 95) → I' c = I c) → lst (enough N rd p) (-1) → E I') (h : ∀ r I', (∀ c, ¬ (92 ≤ c ∧ c ≤ 95) → I' c = I c) → ¬ r = -1 → lst (enough N rd p) r → Post r I') : ∃ n, lp (wb_X11_latest_45 J (nI rd) (nI p) (lN (mean N rd 0 0 0)) Post E) n (20, I) := by
  have hP := hN.1
  have hm0 := mean_lt hN rd 0 0 0
  have mn : ∀ I' : HI, (∀ c, ¬ (92 ≤ c ∧ c ≤ 95) → I' c = I c) → mNet I' N := fun I' g1 => mNet_of hm (by rw [g1 72 (by omega)]) (by rw [g1 72 (by omega)]) ⟨g1 77 (by omega), g1 79 (by omega), g1 80 (by omega), g1 81 (by omega), g1 82 (by omega), g1 87 (by omega)⟩
  refine lp_inv (fun i (s : Int32 × HI) => s.1 = hx i ∧ (∀ c, ¬ (92 ≤ c ∧ c ≤ 95) → s.2 c = I c) ∧ ∀ j, j < i → enough N rd p (20 - j) = false) 21 (fun i s hi hq K hK => ?_) (fun s hq K => ?_) (20, I) ⟨rfl, fun _ _ => rfl, fun j hj => absurd hj (Nat.not_lt_zero _)⟩
  · obtain ⟨x5, I3⟩ := s
    obtain ⟨a1, g3, g4⟩ := hq
    dsimp only at a1 g3 g4
    subst a1
    obtain ⟨x1, x2, x3, x4⟩ := hx_s i hi
    refine ⟨fun z => absurd z x2, fun _ => ?_⟩
    rw [x1, x3, nb_one _ (by omega)]
    refine q_mMean (g := 0) (mn I3 g3) hN (by omega) hrd (nb_one_lt hp) (by decide) (fun I4 g5 => ?_)
    have g6 : ∀ c, ¬ (92 ≤ c ∧ c ≤ 95) → I4 c = I c := fun c hc => (g5 c hc).trans (g3 c hc)
    have hml := mean_lt hN rd (2 ^ p) (20 - i) 0
    rw [two_l, pk_lLT (by omega) (by omega), ← x3]
    refine ⟨fun c => hK _ ⟨rfl, g6, fun j hj => ?_⟩, fun c => h _ I4 g6 x4 (Or.inl ⟨i, hi, rfl, decide_eq_true (by omega), g4⟩)⟩
    rcases Nat.lt_or_eq_of_le (Nat.lt_succ_iff.mp hj) with y | y
    · exact g4 j y
    · rw [y]; exact decide_eq_false (by omega)
  · obtain ⟨x5, I3⟩ := s
    obtain ⟨a1, g3, g4⟩ := hq
    dsimp only at a1 g3 g4
    subst a1
    exact ⟨fun _ => hE I3 g3 (Or.inr ⟨rfl, g4⟩), fun z => absurd (by decide) z⟩
theorem op_latest {I : HI} {J : HJ} (h : Inv I J) (x y : Int32) : w_X10_latest x y I J (fun r I1 => w_X11_latest x y I1 J (fun r' I2 => r = r' ∧ Inv I2 J)) := by
  obtain ⟨N, hC, h1, h2⟩ := h
  have hN := hC.1
  have hP := hN.1
  have hT := hN.2.1
  have hm2 : ∀ v, mNet (m0 (cS I v)) N := fun v => mNet_same hC.2.2.1 (sameI_tr (same_cS I v) (same_m0 (cS I v)))
  have er : ∀ v, Inv (mE (cS I v) v) J := fun v => fin_er hC (same_cS I v) (cS_at I v) (sameJ_rf J) h2
  have bad2 : (isSet (nP N) x && isIx (nP N) y) = false → wj_X10_latest_28 I J x y 0 (fun r I1 => w_X11_latest x y I1 J (fun r' I2 => r = r' ∧ Inv I2 J)) := by
    intro hb
    refine oneOf_f (q_failsE (by decide) ⟨fun q => (by cases q), fun _ I1 e1 I2 e2 => ?_⟩)
    subst e1 e2
    have fin : wj_X11_latest_26 (m0 (cS I 2)) J (fun r' I2 => (-1 : Int32) = r' ∧ Inv I2 J) := q_refused ⟨rfl, er 2⟩
    refine q_areSeeds (hm2 2) hN ⟨fun _ => fin, fun b => q_isOne (hm2 2) hN ⟨fun b2 => ?_, fun _ => fin⟩⟩
    rw [b, b2] at hb; cases hb
  refine q_arePeople hC.2.1 hN ⟨fun b => bad2 (by rw [b]; rfl), fun b => q_isPerson hC.2.1 hN ⟨fun b2 => bad2 (by rw [b2, Bool.and_false]), fun b2 => ?_⟩⟩
  obtain ⟨S, hS, rfl⟩ := ofSet (by omega) b
  obtain ⟨p, hp, rfl⟩ := ofIx b2
  refine oneOf_t (q_fails0 ⟨fun _ => ?_, fun q => (by cases q)⟩)
  refine q_lastHour (cNet_same hC.2.1 (same_cS I 0)) hN hC.2.2.2.1 hS hp (fun r I7 g7 hl => ?_)
  have s7 : sameI I I7 := sameI_tr (same_cS I 0) (same_st g7)
  have mod : ∀ v : Int32, ((v = 0 ∧ ¬ r = -1) ∨ (v = 9 ∧ r = -1)) → w_X11_latest (nI S) (nI p) (cS I7 v) J (fun r' I2 => r = r' ∧ Inv I2 J) := fun v hv => by
    intro I1 e1 I2 e2
    subst e1 e2
    have s8 := sameI_tr s7 (sameI_tr (same_cS I7 v) (same_m0 (cS I7 v)))
    have hm' := mNet_same hC.2.2.1 s8
    refine q_areSeeds hm' hN ⟨fun q => (by rw [b] at q; cases q), fun _ => q_isOne hm' hN ⟨fun _ => ?_, fun q => (by rw [b2] at q; cases q)⟩⟩
    refine q_mMean (bl := 0) (bh := 0) (g := 0) hm' hN (by decide) hS (Nat.two_pow_pos _) (by decide) (fun I8 g8 => ?_)
    have s9 := sameI_tr s8 (same_lv g8)
    refine q_mLatest (mNet_same hC.2.2.1 s9) hN hS hp (fun I9 g9 l9 => ?_) (fun r' I9 g9 n9 l9 => ?_)
    · have e := lst_u hl l9
      have ev : v = 9 := by
        rcases hv with z | z
        · exact absurd e z.2
        · exact z.1
      refine q_refused ⟨e, fin_g hC (sameI_tr (sameI_tr s9 (same_lv g9)) (same_w _ _ rfl)) ?_ (sameJ_rf J) h2⟩
      rw [hI_ne (by decide), hI_at, if_pos rfl, g9 0 (by omega), g8 0 (by omega), m0_ne _ (by decide), cS_at, ev]
    · have e := lst_u hl l9
      have ev : v = 0 := by
        rcases hv with z | z
        · exact z.1
        · exact absurd (e.symm.trans z.2) n9
      refine ⟨e, fin_g hC (sameI_tr s9 (same_lv g9)) ?_ (sameJ_rf J) h2⟩
      rw [g9 0 (by omega), g9 72 (by omega), g8 0 (by omega), g8 72 (by omega), m0_72, m0_ne _ (by decide), cS_at, ev]
  refine ⟨fun c => q_fails0 ⟨fun _ => mod 0 (Or.inl ⟨rfl, c⟩), fun q => (by cases q)⟩, fun c => q_failsE (by decide) ⟨fun q => (by cases q), fun _ => ?_⟩⟩
  subst c
  exact mod 9 (Or.inr ⟨rfl, rfl⟩)
