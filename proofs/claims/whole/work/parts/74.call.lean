section
variable {n : Nat} {tx : Nat → Nat} {I0 I : HI} {J0 J : HJ} {e : Nat} {D : DT} {q : Nat × Nat}
def stepR (n : Nat) (tx : Nat → Nat) (e : Nat) (D : DT) : (Nat × Nat) ⊕ (Nat × DT) := if tKd n tx e = 6 then spP n tx e D else if tKd n tx e = 7 then spT n tx e D else if tKd n tx e = 10 then spV n tx e D else .inl (wk (tKd n tx e), tSt n tx e)
theorem spM_l {s s' : MS} (h : spM n tx s = .inl s') : ¬ tKd n tx s.1 = 0 ∧ stepR n tx s.1 s.2 = .inr s' := by
  unfold spM at h
  by_cases c : tKd n tx s.1 = 0
  · rw [if_pos c] at h; cases h
  · rw [if_neg c] at h
    refine ⟨c, ?_⟩
    unfold stepR
    generalize (if tKd n tx s.1 = 6 then spP n tx s.1 s.2 else if tKd n tx s.1 = 7 then spT n tx s.1 s.2 else if tKd n tx s.1 = 10 then spV n tx s.1 s.2 else .inl (wk (tKd n tx s.1), tSt n tx s.1)) = r at h ⊢
    cases r with
    | inl q => cases h
    | inr x => cases h; rfl
theorem spM_r {s : MS} {r : (Nat × Nat) ⊕ DT} (h : spM n tx s = .inr r) : (tKd n tx s.1 = 0 ∧ r = .inr s.2) ∨ (¬ tKd n tx s.1 = 0 ∧ ∃ q, stepR n tx s.1 s.2 = .inl q ∧ r = .inl q) := by
  unfold spM at h
  by_cases c : tKd n tx s.1 = 0
  · rw [if_pos c] at h; cases h; exact Or.inl ⟨c, rfl⟩
  · rw [if_neg c] at h
    refine Or.inr ⟨c, ?_⟩
    unfold stepR
    generalize (if tKd n tx s.1 = 6 then spP n tx s.1 s.2 else if tKd n tx s.1 = 7 then spT n tx s.1 s.2 else if tKd n tx s.1 = 10 then spV n tx s.1 s.2 else .inl (wk (tKd n tx s.1), tSt n tx s.1)) = r at h ⊢
    cases r with
    | inl q => cases h; exact ⟨q, rfl, rfl⟩
    | inr x => cases h
theorem stepR_ok (hn : n ≤ 600) (he : e ≤ n) (hD : okD D) (hk : ¬ tKd n tx e = 0) {x : Nat × DT} (h : stepR n tx e D = .inr x) : x.1 ≤ n ∧ e < x.1 ∧ okD x.2 := by
  unfold stepR at h
  split at h
  · exact spP_ok hn he hD hk h
  · split at h
    · exact spT_ok hn he hD hk h
    · split at h
      · exact spV_ok hn he hD hk h
      · cases h
theorem c_body (hn : n ≤ 600) (he : e ≤ n) (ht : cTx I0 n tx) (hw : rdW J0) (g : cG n tx I0 J0 e D I J) (hD : okD D) (h1 : ¬ tKd n tx e = 1) {x2 : Int32} {E : HI → HJ → Prop} {K : Int32 × HI × HJ → Prop} {Post : HI → HJ → Prop} (hp : ∀ I' J', cR n tx I0 J0 (stepR n tx e D) I' J' → K (x2 + 1, I', J')) : ((I 36 7) = 6 → (w_X5_readPerson I J (fun (I_10 : HI) (J_11 : HJ) => (wj_X5_readAll_130 I_10 J_11 x2 E K Post)))) ∧ ((I 36 7) = 7 → (w_X5_readTie I J (fun (I_14 : HI) (J_15 : HJ) => (wj_X5_readAll_130 I_14 J_15 x2 E K Post)))) ∧ ((I 36 7) = 10 → (w_X5_readValley I J (fun (I_18 : HI) (J_19 : HJ) => (wj_X5_readAll_130 I_18 J_19 x2 E K Post)))) ∧ (¬ (I 36 7) = 6 → ¬ (I 36 7) = 7 → ¬ (I 36 7) = 10 → (w_X5_fail 2 I J (fun (I_20 : HI) => (wj_X5_readAll_130 I_20 J x2 E K Post)))) := by
  have tk := tk_ok (tx := tx) hn he
  rw [g.2.2.2.1.2.2.1, show (6 : Int32) = nI 6 from rfl, show (7 : Int32) = nI 7 from rfl, show (10 : Int32) = nI 10 from rfl, nI_eq (by omega) (by decide), nI_eq (by omega) (by decide), nI_eq (by omega) (by decide)]
  unfold stepR at hp
  refine ⟨fun c => ?_, fun c => ?_, fun c => ?_, fun c6 c7 c10 => ?_⟩
  · rw [if_pos c] at hp
    exact c_person hn he ht hw g hD hp
  · rw [if_neg (by omega), if_pos c] at hp
    exact c_tie hn he ht hw g hD c hp
  · rw [if_neg (by omega), if_neg (by omega), if_pos c] at hp
    exact c_valley hn he ht hw g hD hp
  · rw [if_neg c6, if_neg c7, if_neg c10] at hp
    refine c_fail (k := 2) g hD.1.1 (by omega) (fun I' f => f_pass f (hp I' J ?_))
    unfold wk
    rw [if_neg h1]
    exact f
theorem c_readAll (hn : n ≤ 600) (ht : cTx I n tx) (hw : rdW J) {Post : HI → HJ → Prop} (hp : ∀ I' J', (match prsS n tx with | .inl q => cF I J q I' J' | .inr D => okD D ∧ ∃ e, cG n tx I J e D I' J') → Post I' J') : w_X5_readAll (nI n) I J Post := by
  intro I1 e1 I2 e2 Ia ea Ib eb Ic ec
  refine q_fillI (by decide) (fun I3 f1 f2 I4 e4 I5 e5 I6 e6 => ?_)
  have mn : (if (600 : Int32) < nI n then (600 : Int32) else nI n) = nI n := if_neg (by rw [show (600 : Int32) = nI 600 from rfl, nI_ltI (by decide) (by omega)]; omega)
  rw [mn] at e1
  have i3 : ∀ c, c ≠ 24 → c ≠ 35 → c ≠ 36 → I6 c = I c := fun c h1 h2 h3 => by rw [e6, hI_ne h3, e5, hI_ne h3, e4, hI_ne h3, f1 c h2, ec, hI_ne h1, eb, hI_ne h1, ea, hI_ne h1, e2, hI_ne h3, e1, hI_ne h3]
  have i36 : ∀ k, k ≠ 10 → k ≠ 11 → k ≠ 12 → I6 36 k = if k = 6 then 0 else if k = 4 then nI n else I 36 k := fun k h1 h2 h3 => by rw [e6, hI_at, if_neg h3, e5, hI_at, if_neg h2, e4, hI_at, if_neg h1, f1 36 (by decide), ec, hI_ne (by decide), eb, hI_ne (by decide), ea, hI_ne (by decide), e2, hI_at, e1, hI_at]
  have i36a : I6 36 10 = 0 := by rw [e6, hI_at, if_neg (by decide), e5, hI_at, if_neg (by decide), e4, hI_at, if_pos rfl]
  have i36b : I6 36 11 = 0 := by rw [e6, hI_at, if_neg (by decide), e5, hI_at, if_pos rfl]
  have i36c : I6 36 12 = -1 := by rw [e6, hI_at, if_pos rfl]
  have i24 : I6 24 11 = 0 ∧ I6 24 12 = 0 ∧ I6 24 13 = 0 := by
    have l : I6 24 = Ic 24 := by rw [e6, hI_ne (by decide), e5, hI_ne (by decide), e4, hI_ne (by decide), f1 24 (by decide)]
    rw [l]
    refine ⟨?_, ?_, ?_⟩
    · rw [ec, hI_at, if_neg (by decide), eb, hI_at, if_neg (by decide), ea, hI_at, if_pos rfl]
    · rw [ec, hI_at, if_neg (by decide), eb, hI_at, if_pos rfl]
    · rw [ec, hI_at, if_pos rfl]
  have i35 : ∀ v, v < 4 → I6 35 v = 12 := fun v hv => by rw [e6, hI_ne (by decide), e5, hI_ne (by decide), e4, hI_ne (by decide), f2, if_pos hv]
  refine q_advance (e := 0) hn (Nat.zero_le n) ?_ ?_ i36b (fun k hk => by rw [i3 10 (by decide) (by decide) (by decide)]; exact ht k hk) hw (fun I7 J8 z => ?_)
  · rw [i36 4 (by decide) (by decide) (by decide), if_neg (by decide), if_pos rfl]
  · rw [i36 6 (by decide) (by decide) (by decide), if_pos rfl]; rfl
  obtain ⟨z1, z2, z3, z4, z5, z6⟩ := z
  have fm : cFm I7 I J8 J := ⟨fun c hc => (z1 c (by omega)).trans (i3 c (by omega) (by omega) (by omega)), fun c h1 _ => z3 c h1⟩
  have x0 : cX n tx I J 0 D0 I7 J8 := by
    refine ⟨fun y => ⟨fm, ⟨Nat.le_refl 1, by show 1 ≤ 6; decide⟩, (z5 y).1, (z5 y).2, 0, by decide, ?_⟩, fun y => ⟨fm, ?_, ⟨(z6 y).1, (z6 y).2.trans i36c⟩, z4, ⟨⟨⟨?_, ?_, ?_⟩, fun p hpp => absurd hpp (Nat.not_lt_zero _), fun t htt => absurd htt (Nat.not_lt_zero _), fun v hv => ?_⟩, fun p hpp => absurd hpp (Nat.not_lt_zero _), ?_⟩⟩⟩
    · rw [z1 24 (by decide)]; exact i24.1
    · rw [z2.1, i36 4 (by decide) (by decide) (by decide), if_neg (by decide), if_pos rfl]
    · show I7 24 11 = _
      rw [z1 24 (by decide)]; exact i24.1
    · show I7 24 12 = _
      rw [z1 24 (by decide)]; exact i24.2.1
    · show I7 24 13 = _
      rw [z1 24 (by decide)]; exact i24.2.2
    · show I7 35 v = _
      rw [z1 35 (by decide), i35 v hv]; rfl
    · rw [z2.2, i36a]; rfl
  unfold prsS at hp
  generalize hR : rn (spM n tx) (.inl (0, 0)) 700 (0, D0) = R0 at hp
  generalize hM : (700 : Nat) = M at hR
  refine lp_rn (f := spM n tx) (d := .inl (0, 0)) (R0 := R0) (fun s : MS => n - s.1) (fun (s : MS) (x : Int32 × HI × HJ) => s.1 ≤ n ∧ okD s.2 ∧ (∃ i, i ≤ s.1 ∧ x.1 = nI i) ∧ cX n tx I J s.1 s.2 x.2.1 x.2.2) (fun x => ∃ q, cF I J q x.2.1 x.2.2 ∧ Post x.2.1 x.2.2) (fun x hx K => ?_) (fun s x s' hq hf => ?_) (fun s x hq hf K hK => ?_) M (0, D0) (0, I7, J8) (by show n - 0 < M; omega) hR ⟨Nat.zero_le _, okD_0, ⟨0, Nat.le_refl _, rfl⟩, x0⟩
  · obtain ⟨x2, Ix, Jx⟩ := x
    obtain ⟨q, f, po⟩ := hx
    exact ⟨fun _ => po, fun _ => f_goes f ⟨fun _ => po, fun z => (by cases z)⟩⟩
  · obtain ⟨x2, Ix, Jx⟩ := x
    obtain ⟨e1, D1⟩ := s
    obtain ⟨he1, hD1, ⟨i, hi, v2⟩, x1⟩ := hq
    dsimp only at he1 hD1 hi v2 x1
    subst v2
    obtain ⟨k0, k1⟩ := spM_l hf
    dsimp only at k0 k1
    have ok := stepR_ok hn he1 hD1 k0 k1
    have c1 : ¬ tKd n tx e1 = 1 := fun c => by
      unfold stepR at k1
      rw [if_neg (by omega), if_neg (by omega), if_neg (by omega)] at k1
      cases k1
    have g := x1.2 c1
    have tk := tk_ok (tx := tx) hn he1
    have tk1 := tk.2.2.2.2.1 k0
    refine ⟨by show n - s'.1 < n - e1; omega, fun K hK => ⟨fun z => absurd z (nI_ge (b := 600) (by omega) (by decide)), fun _ => c_goes g ⟨fun z => (by cases z), fun _ => ⟨fun z => ?_, fun _ => c_body hn he1 ht hw g hD1 c1 (fun I' J' r => ?_)⟩⟩⟩⟩
    · rw [g.2.2.2.1.2.2.1, show (0 : Int32) = nI 0 from rfl, nI_eq (by omega) (by decide)] at z
      exact absurd z k0
    · rw [k1] at r
      rw [nI_1 i]
      exact hK _ ⟨ok.1, ok.2.2, ⟨i + 1, by show i + 1 ≤ s'.1; omega, rfl⟩, r⟩
  · obtain ⟨x2, Ix, Jx⟩ := x
    obtain ⟨e1, D1⟩ := s
    obtain ⟨he1, hD1, ⟨i, hi, v2⟩, x1⟩ := hq
    dsimp only at he1 hD1 hi v2 x1
    subst v2
    have tk := tk_ok (tx := tx) hn he1
    rcases spM_r hf with ⟨k0, rfl⟩ | ⟨k0, q, k1, rfl⟩
    · dsimp only at k0
      have g := x1.2 (by omega)
      have po : Post Ix Jx := hp Ix Jx ⟨hD1, e1, g⟩
      refine ⟨fun _ => po, fun _ => c_goes g ⟨fun z => (by cases z), fun _ => ⟨fun _ => po, fun z => ?_⟩⟩⟩
      rw [g.2.2.2.1.2.2.1, k0] at z
      exact absurd rfl z
    · dsimp only at k0 k1
      have tk1 := tk.2.2.2.2.1 k0
      by_cases c1 : tKd n tx e1 = 1
      · have f := x1.1 c1
        have : q = (1, tSt n tx e1) := by
          unfold stepR at k1
          rw [if_neg (by omega), if_neg (by omega), if_neg (by omega), c1] at k1
          cases k1; rfl
        subst this
        have po : Post Ix Jx := hp Ix Jx f
        exact ⟨fun _ => po, fun _ => f_goes f ⟨fun _ => po, fun z => (by cases z)⟩⟩
      · have g := x1.2 c1
        refine ⟨fun z => absurd z (nI_ge (b := 600) (by omega) (by decide)), fun _ => c_goes g ⟨fun z => (by cases z), fun _ => ⟨fun z => ?_, fun _ => c_body hn he1 ht hw g hD1 c1 (fun I' J' r => ?_)⟩⟩⟩
        · rw [g.2.2.2.1.2.2.1, show (0 : Int32) = nI 0 from rfl, nI_eq (by omega) (by decide)] at z
          exact absurd z k0
        · rw [k1] at r
          exact hK _ ⟨q, r, hp I' J' r⟩
end
theorem q_copyFrom {I : HI} {J : HJ} {N : NT} (hc : cNet (fun c => I (c + 12)) N) (hN : okN N) {Post : HI → Prop} (h : ∀ I', (∀ c, ¬ (12 ≤ c ∧ c ≤ 23) → I' c = I c) → cNet I' N → Post I') : w_X4_copyFrom I J Post := by
  have hP := hN.1
  have hT := hN.2.1
  intro I1 e1 I2 e2 I3 e3 I4 e4 I5 e5 I6 e6 I7 e7 I8 e8 I9 e9 I10 e10 I11 e11 I12 e12 I13 e13 I14 e14
  have cp : ∀ (f g : Nat → Int32) (m j : Nat), j < m → va_cpy f g 0 0 m j = f j := fun f g m j hj => by
    rw [pk_cpy_in (Nat.zero_le _) (by omega)]
    congr 1
    omega
  have o3 : ∀ c, c ≠ 12 → I3 c = I c := fun c hc => by rw [e3, hI_ne hc, e2, hI_ne hc, e1, hI_ne hc]
  have oth : ∀ c, ¬ (12 ≤ c ∧ c ≤ 23) → I14 c = I c := fun c hc => by
    rw [e14, sI_ne (by omega), e13, sI_ne (by omega), e12, sI_ne (by omega), e11, sI_ne (by omega), e10, sI_ne (by omega), e9, sI_ne (by omega), e8, sI_ne (by omega), e7, sI_ne (by omega), e6, sI_ne (by omega), e5, sI_ne (by omega), e4, sI_ne (by omega)]
    exact o3 c (by omega)
  have i12 : I14 12 = I3 12 := by rw [e14, sI_ne (by omega), e13, sI_ne (by omega), e12, sI_ne (by omega), e11, sI_ne (by omega), e10, sI_ne (by omega), e9, sI_ne (by omega), e8, sI_ne (by omega), e7, sI_ne (by omega), e6, sI_ne (by omega), e5, sI_ne (by omega), e4, sI_ne (by omega)]
  have f13 : ∀ j, j < 12 → I14 13 j = I 25 j := fun j hj => by rw [e14, sI_ne (by decide), e13, sI_ne (by decide), e12, sI_ne (by decide), e11, sI_ne (by decide), e10, sI_ne (by decide), e9, sI_ne (by decide), e8, sI_ne (by decide), e7, sI_ne (by decide), e6, sI_ne (by decide), e5, sI_ne (by decide), e4, sI_eq, cp _ _ _ _ hj, o3 25 (by decide)]
  have f14 : ∀ j, j < 12 → I14 14 j = I 26 j := fun j hj => by rw [e14, sI_ne (by decide), e13, sI_ne (by decide), e12, sI_ne (by decide), e11, sI_ne (by decide), e10, sI_ne (by decide), e9, sI_ne (by decide), e8, sI_ne (by decide), e7, sI_ne (by decide), e6, sI_ne (by decide), e5, sI_eq, cp _ _ _ _ hj, e4, sI_ne (by decide), o3 26 (by decide)]
  have f15 : ∀ j, j < 12 → I14 15 j = I 27 j := fun j hj => by rw [e14, sI_ne (by decide), e13, sI_ne (by decide), e12, sI_ne (by decide), e11, sI_ne (by decide), e10, sI_ne (by decide), e9, sI_ne (by decide), e8, sI_ne (by decide), e7, sI_ne (by decide), e6, sI_eq, cp _ _ _ _ hj, e5, sI_ne (by decide), e4, sI_ne (by decide), o3 27 (by decide)]
  have f16 : ∀ j, j < 12 → I14 16 j = I 28 j := fun j hj => by rw [e14, sI_ne (by decide), e13, sI_ne (by decide), e12, sI_ne (by decide), e11, sI_ne (by decide), e10, sI_ne (by decide), e9, sI_ne (by decide), e8, sI_ne (by decide), e7, sI_eq, cp _ _ _ _ hj, e6, sI_ne (by decide), e5, sI_ne (by decide), e4, sI_ne (by decide), o3 28 (by decide)]
  have f17 : ∀ j, j < 12 → I14 17 j = I 29 j := fun j hj => by rw [e14, sI_ne (by decide), e13, sI_ne (by decide), e12, sI_ne (by decide), e11, sI_ne (by decide), e10, sI_ne (by decide), e9, sI_ne (by decide), e8, sI_eq, cp _ _ _ _ hj, e7, sI_ne (by decide), e6, sI_ne (by decide), e5, sI_ne (by decide), e4, sI_ne (by decide), o3 29 (by decide)]
  have f18 : ∀ j, j < 12 → I14 18 j = I 30 j := fun j hj => by rw [e14, sI_ne (by decide), e13, sI_ne (by decide), e12, sI_ne (by decide), e11, sI_ne (by decide), e10, sI_ne (by decide), e9, sI_eq, cp _ _ _ _ hj, e8, sI_ne (by decide), e7, sI_ne (by decide), e6, sI_ne (by decide), e5, sI_ne (by decide), e4, sI_ne (by decide), o3 30 (by decide)]
  have f19 : ∀ j, j < 10 → I14 19 j = I 31 j := fun j hj => by rw [e14, sI_ne (by decide), e13, sI_ne (by decide), e12, sI_ne (by decide), e11, sI_ne (by decide), e10, sI_eq, cp _ _ _ _ hj, e9, sI_ne (by decide), e8, sI_ne (by decide), e7, sI_ne (by decide), e6, sI_ne (by decide), e5, sI_ne (by decide), e4, sI_ne (by decide), o3 31 (by decide)]
  have f20 : ∀ j, j < 10 → I14 20 j = I 32 j := fun j hj => by rw [e14, sI_ne (by decide), e13, sI_ne (by decide), e12, sI_ne (by decide), e11, sI_eq, cp _ _ _ _ hj, e10, sI_ne (by decide), e9, sI_ne (by decide), e8, sI_ne (by decide), e7, sI_ne (by decide), e6, sI_ne (by decide), e5, sI_ne (by decide), e4, sI_ne (by decide), o3 32 (by decide)]
  have f21 : ∀ j, j < 10 → I14 21 j = I 33 j := fun j hj => by rw [e14, sI_ne (by decide), e13, sI_ne (by decide), e12, sI_eq, cp _ _ _ _ hj, e11, sI_ne (by decide), e10, sI_ne (by decide), e9, sI_ne (by decide), e8, sI_ne (by decide), e7, sI_ne (by decide), e6, sI_ne (by decide), e5, sI_ne (by decide), e4, sI_ne (by decide), o3 33 (by decide)]
  have f22 : ∀ j, j < 10 → I14 22 j = I 34 j := fun j hj => by rw [e14, sI_ne (by decide), e13, sI_eq, cp _ _ _ _ hj, e12, sI_ne (by decide), e11, sI_ne (by decide), e10, sI_ne (by decide), e9, sI_ne (by decide), e8, sI_ne (by decide), e7, sI_ne (by decide), e6, sI_ne (by decide), e5, sI_ne (by decide), e4, sI_ne (by decide), o3 34 (by decide)]
  have f23 : ∀ j, j < 4 → I14 23 j = I 35 j := fun j hj => by rw [e14, sI_eq, cp _ _ _ _ hj, e13, sI_ne (by decide), e12, sI_ne (by decide), e11, sI_ne (by decide), e10, sI_ne (by decide), e9, sI_ne (by decide), e8, sI_ne (by decide), e7, sI_ne (by decide), e6, sI_ne (by decide), e5, sI_ne (by decide), e4, sI_ne (by decide), o3 35 (by decide)]
  refine h I14 oth ⟨⟨?_, ?_, ?_⟩, fun p hp => ?_, fun t ht => ?_, fun v hv => ?_⟩
  · rw [i12, e3, hI_at, if_neg (by decide), e2, hI_at, if_neg (by decide), e1, hI_at, if_pos rfl]; exact hc.1.1
  · rw [i12, e3, hI_at, if_neg (by decide), e2, hI_at, if_pos rfl, e1, hI_ne (by decide)]; exact hc.1.2.1
  · rw [i12, e3, hI_at, if_pos rfl, e2, hI_ne (by decide), e1, hI_ne (by decide)]; exact hc.1.2.2
  · rw [f13 p (by omega), f14 p (by omega), f15 p (by omega), f16 p (by omega), f17 p (by omega), f18 p (by omega)]; exact hc.2.1 p hp
  · rw [f19 t (by omega), f20 t (by omega), f21 t (by omega), f22 t (by omega)]; exact hc.2.2.1 t ht
  · rw [f23 v hv]; exact hc.2.2.2 v hv
