section
variable {n : Nat} {tx : Nat → Nat} {I0 I : HI} {J0 J : HJ} {e : Nat} {D : DT} {q : Nat × Nat}
theorem spS_s (hn : n ≤ 600) {N : NT} {a b : Nat} {s s' : SS} (hs : s.1 ≤ n) (h : spS n tx N a b s = .inl s') : (tKd n tx s.1 = 17 ∧ ¬ s.2.1 = 1 ∧ ∃ v, numS n tx (tEn n tx s.1) 1 5 = .inr v ∧ s' = (tEn n tx (tEn n tx s.1), 1, v, s.2.2.2)) ∨ (tKd n tx s.1 = 18 ∧ ¬ s.2.2.2 = 1 ∧ ¬ nT N = 9 ∧ thr N b a = false ∧ s' = (tEn n tx s.1, s.2.1, s.2.2.1, 1)) := by
  unfold spS at h
  split at h
  · rename_i c
    split at h
    · cases h
    · rename_i c2
      cases hv : numS n tx (tEn n tx s.1) 1 5 with
      | inl q => rw [hv] at h; cases h
      | inr v => rw [hv] at h; cases h; exact Or.inl ⟨c, c2, v, rfl, rfl⟩
  · split at h
    · rename_i c
      split at h
      · cases h
      · rename_i c2
        split at h
        · cases h
        · rename_i c3
          cases h
          refine Or.inr ⟨c, c2, fun z => c3 (Or.inl z), ?_, rfl⟩
          cases y : thr N b a
          · rfl
          · exact absurd (Or.inr y) c3
    · cases h
theorem spS_e {N : NT} {a b : Nat} {s : SS} {r : (Nat × Nat) ⊕ (Nat × Nat × Nat)} (h : spS n tx N a b s = .inr r) : (tKd n tx s.1 = 17 ∧ s.2.1 = 1 ∧ r = .inl (5, tSt n tx s.1)) ∨ (tKd n tx s.1 = 17 ∧ ¬ s.2.1 = 1 ∧ ∃ q, numS n tx (tEn n tx s.1) 1 5 = .inl q ∧ r = .inl q) ∨ (tKd n tx s.1 = 18 ∧ s.2.2.2 = 1 ∧ r = .inl (5, tSt n tx s.1)) ∨ (tKd n tx s.1 = 18 ∧ ¬ s.2.2.2 = 1 ∧ (nT N = 9 ∨ thr N b a = true) ∧ r = .inl (6, tSt n tx s.1)) ∨ (¬ tKd n tx s.1 = 17 ∧ ¬ tKd n tx s.1 = 18 ∧ r = .inr (s.1, s.2.2.1, s.2.2.2)) := by
  unfold spS at h
  split at h
  · rename_i c
    split at h
    · rename_i c2; cases h; exact Or.inl ⟨c, c2, rfl⟩
    · rename_i c2
      cases hv : numS n tx (tEn n tx s.1) 1 5 with
      | inl q => rw [hv] at h; cases h; exact Or.inr (Or.inl ⟨c, c2, q, rfl, rfl⟩)
      | inr v => rw [hv] at h; cases h
  · rename_i c0
    split at h
    · rename_i c
      split at h
      · rename_i c2; cases h; exact Or.inr (Or.inr (Or.inl ⟨c, c2, rfl⟩))
      · rename_i c2
        split at h
        · rename_i c3; cases h; exact Or.inr (Or.inr (Or.inr (Or.inl ⟨c, c2, c3, rfl⟩)))
        · cases h
    · rename_i c; cases h; exact Or.inr (Or.inr (Or.inr (Or.inr ⟨c0, c, rfl⟩)))
theorem m_t3 (hn : n ≤ 600) (he : e ≤ n) (ht : mTx I0 n tx) (g : mG n tx I0 J0 e D I J) (hD : okD D) {a b o : Nat} (ha : a < nP D.1) (hb : b < nP D.1) (ho : o ≤ 16) (hT9 : nT D.1 < 10) {Post : HI → HJ → Prop} (hp : ∀ I' J', mR n tx I0 J0 (spT3 n tx e o D a b) I' J' → Post I' J') : ∃ n, lp (wb_X11_readTie_140 (nI a) (nI b) (nI o) Post (fun (x4_29 : Int32) (x5_30 : Int32) (I_31 : HI) (J_32 : HJ) => (¬ (I_31 72 14) = 3 → (wj_X11_readTie_288 I_31 J_32 (nI a) (nI b) (nI o) x4_29 x5_30 0 Post)) ∧ ((I_31 72 14) = 3 → (wj_X11_readTie_288 I_31 J_32 (nI a) (nI b) (nI o) x4_29 x5_30 1 Post)))) n ((-1), 0, I, J) := by
  have hP := hD.1.1
  have hT := hD.1.2.1
  unfold spT3 at hp
  generalize hR : rn (spS n tx D.1 a b) (.inl (0, 0)) 700 (e, 0, 1, 0) = R0 at hp
  generalize hM : (700 : Nat) = M at hR
  have hpq : ∀ q, R0 = .inl q → ∀ I' J', mB I0 J0 q I' J' → Post I' J' := fun q eq I' J' f => hp I' J' (by rw [eq]; exact f)
  refine lp_rn (f := spS n tx D.1 a b) (d := .inl (0, 0)) (R0 := R0) (fun s : SS => n - s.1) (fun (s : SS) (x : Int32 × Int32 × HI × HJ) => s.1 ≤ n ∧ s.2.1 ≤ 1 ∧ (1 ≤ s.2.2.1 ∧ s.2.2.1 ≤ 5) ∧ s.2.2.2 ≤ 1 ∧ (s.2.2.2 = 1 → nT D.1 < 9) ∧ (s.2.1 = 0 → s.2.2.1 = 1) ∧ x.1 = (if s.2.1 = 1 then nI s.2.2.1 else -1) ∧ x.2.1 = nI s.2.2.2 ∧ mG n tx I0 J0 s.1 D x.2.2.1 x.2.2.2) (fun x => ∃ q, mB I0 J0 q x.2.2.1 x.2.2.2 ∧ Post x.2.2.1 x.2.2.2) (fun x hx K => ?_) (fun s x s' hq hf => ?_) (fun s x hq hf K hK => ?_) M (e, 0, 1, 0) (-1, 0, I, J) (by show n - e < M; omega) hR ⟨he, Nat.zero_le _, ⟨Nat.le_refl _, by show 1 ≤ 5; decide⟩, Nat.zero_le _, fun z => (by cases z), fun _ => rfl, rfl, rfl, g⟩
  · obtain ⟨x4, x5, I1, J1⟩ := x
    obtain ⟨q, f, po⟩ := hx
    exact ⟨fun _ => b_tE f po, fun z => absurd z (mB_n f)⟩
  · obtain ⟨x4, x5, I1, J1⟩ := x
    obtain ⟨e1, hs, hr, bk⟩ := s
    obtain ⟨he1, l1, l2, l3, l4, l5, v4, v5, g1⟩ := hq
    dsimp only at he1 l1 l2 l3 l4 l5 v4 v5 g1
    have tk := tk_ok (tx := tx) hn he1
    have tk2 := tk_ok (tx := tx) hn tk.2.2.1
    rcases spS_s hn (by exact he1) hf with ⟨c17, ch, v, hv, rfl⟩ | ⟨c18, ch, n9, nth, rfl⟩
    · dsimp only at c17 ch hv
      have st := tk.2.2.2.2.1 (by omega)
      have vv := numS_v hv
      have x4n : x4 < 0 := by rw [v4, if_neg ch]; decide
      refine ⟨by show n - tEn n tx (tEn n tx e1) < n - e1; omega, fun K hK => ⟨fun z => absurd g1.2.1 z, fun _ => m_isHours hn he1 g1.2.2.1 ?_⟩⟩
      rw [decide_eq_true c17]
      refine ⟨fun _ => m_isHours hn he1 g1.2.2.1 ?_, fun z => (by cases z)⟩
      rw [decide_eq_true c17]
      refine ⟨fun z => (by cases z), fun _ => ⟨fun _ => ⟨fun z => absurd g1.2.1 z, fun _ => m_isBack hn he1 g1.2.2.1 ?_⟩, fun z => absurd x4n z⟩⟩
      rw [decide_eq_false (show ¬ tKd n tx e1 = 18 by omega)]
      refine ⟨fun _ => ⟨fun _ => m_isHours hn he1 g1.2.2.1 (m_next hn he1 ht g1 (fun I2 J2 g2 _ _ => ?_)), fun z => absurd (by rw [g1.2.1]; exact Int32.le_refl _) z⟩, fun z => (by cases z)⟩
      rw [decide_eq_true c17]
      refine ⟨fun z => (by cases z), fun _ => m_count (lo := 1) (hi := 5) hn tk.2.2.1 ht g2 (by decide) (by decide) (fun I3 J3 => ?_)⟩
      rw [hv]
      exact fun g3 _ _ => hK _ ⟨tk2.2.2.1, Nat.le_refl _, vv, l3, l4, fun z => (by cases z), rfl, v5, g3⟩
    · dsimp only at c18 ch
      have st := tk.2.2.2.2.1 (by omega)
      have x50 : x5 = 0 := by rw [v5, show bk = 0 by omega]; rfl
      refine ⟨by show n - tEn n tx e1 < n - e1; omega, fun K hK => ⟨fun z => absurd g1.2.1 z, fun _ => m_isHours hn he1 g1.2.2.1 ?_⟩⟩
      rw [decide_eq_false (show ¬ tKd n tx e1 = 17 by omega)]
      refine ⟨fun z => (by cases z), fun _ => m_isBack hn he1 g1.2.2.1 ?_⟩
      rw [decide_eq_true c18]
      refine ⟨fun z => (by cases z), fun _ => m_isHours hn he1 g1.2.2.1 ?_⟩
      rw [decide_eq_false (show ¬ tKd n tx e1 = 17 by omega)]
      refine ⟨fun _ => ⟨fun _ => ⟨fun z => absurd g1.2.1 z, fun _ => m_isBack hn he1 g1.2.2.1 ?_⟩, fun z => absurd x50 z⟩, fun z => (by cases z)⟩
      rw [decide_eq_true c18, g1.2.2.2.1.2, nI_1, show (10 : Int32) = nI 10 from rfl, nI_eq (by omega) (by decide)]
      refine ⟨fun z => (by cases z), fun _ => ⟨fun z => absurd z (by omega), fun _ => m_isThere g1 hD hb ha ?_⟩⟩
      rw [nth]
      refine ⟨fun _ => ⟨fun _ => m_isHours hn he1 g1.2.2.1 (m_next hn he1 ht g1 (fun I2 J2 g2 _ _ => ?_)), fun z => absurd (by rw [g1.2.1]; exact Int32.le_refl _) z⟩, fun z => (by cases z)⟩
      rw [decide_eq_false (show ¬ tKd n tx e1 = 17 by omega)]
      exact ⟨fun _ => hK _ ⟨tk.2.2.1, l1, l2, Nat.le_refl _, fun _ => (by omega), l5, v4, rfl, g2⟩, fun z => (by cases z)⟩
  · obtain ⟨x4, x5, I1, J1⟩ := x
    obtain ⟨e1, hs, hr, bk⟩ := s
    obtain ⟨he1, l1, l2, l3, l4, l5, v4, v5, g1⟩ := hq
    dsimp only at he1 l1 l2 l3 l4 l5 v4 v5 g1
    have tk := tk_ok (tx := tx) hn he1
    have b190 : ∀ (q : Nat × Nat) (I2 : HI), mB I0 J0 q I2 J1 → Post I2 J1 → ∀ E : Int32 → Int32 → HI → HJ → Prop, wj_X11_readTie_190 I2 J1 (nI a) (nI b) (nI o) x4 x5 E K Post := fun q I2 f po E => ⟨fun _ => ⟨fun z => absurd z (mB_p f), fun _ => po⟩, fun z => absurd z (mB_n f)⟩
    rcases spS_e hf with ⟨c17, ch, er⟩ | ⟨c17, ch, q, hv, er⟩ | ⟨c18, ch, er⟩ | ⟨c18, ch, cr, er⟩ | ⟨c17, c18, er⟩
    · dsimp only at c17 ch er
      have x4n : ¬ x4 < 0 := by rw [v4, if_pos ch]; exact nI_pos (by omega)
      refine ⟨fun z => absurd g1.2.1 z, fun _ => m_isHours hn he1 g1.2.2.1 ?_⟩
      rw [decide_eq_true c17]
      refine ⟨fun _ => m_isHours hn he1 g1.2.2.1 ?_, fun z => (by cases z)⟩
      rw [decide_eq_true c17]
      exact ⟨fun z => (by cases z), fun _ => ⟨fun z => absurd z x4n, fun _ => m_fail (k := 5) g1 (by omega) (fun I' f => b190 _ I' f (hpq _ er I' J1 f) _)⟩⟩
    · dsimp only at c17 ch hv
      have x4n : x4 < 0 := by rw [v4, if_neg ch]; decide
      refine ⟨fun z => absurd g1.2.1 z, fun _ => m_isHours hn he1 g1.2.2.1 ?_⟩
      rw [decide_eq_true c17]
      refine ⟨fun _ => m_isHours hn he1 g1.2.2.1 ?_, fun z => (by cases z)⟩
      rw [decide_eq_true c17]
      refine ⟨fun z => (by cases z), fun _ => ⟨fun _ => ⟨fun z => absurd g1.2.1 z, fun _ => m_isBack hn he1 g1.2.2.1 ?_⟩, fun z => absurd x4n z⟩⟩
      rw [decide_eq_false (show ¬ tKd n tx e1 = 18 by omega)]
      refine ⟨fun _ => ⟨fun _ => m_isHours hn he1 g1.2.2.1 (m_next hn he1 ht g1 (fun I2 J2 g2 _ _ => ?_)), fun z => absurd (by rw [g1.2.1]; exact Int32.le_refl _) z⟩, fun z => (by cases z)⟩
      rw [decide_eq_true c17]
      refine ⟨fun z => (by cases z), fun _ => m_count (lo := 1) (hi := 5) hn tk.2.2.1 ht g2 (by decide) (by decide) (fun I3 J3 => ?_)⟩
      rw [hv]
      exact fun f => hK _ ⟨q, f, hpq q er I3 J3 f⟩
    · dsimp only at c18 ch er
      have x51 : ¬ x5 = 0 := by rw [v5, ch]; decide
      refine ⟨fun z => absurd g1.2.1 z, fun _ => m_isHours hn he1 g1.2.2.1 ?_⟩
      rw [decide_eq_false (show ¬ tKd n tx e1 = 17 by omega)]
      refine ⟨fun z => (by cases z), fun _ => m_isBack hn he1 g1.2.2.1 ?_⟩
      rw [decide_eq_true c18]
      refine ⟨fun z => (by cases z), fun _ => m_isHours hn he1 g1.2.2.1 ?_⟩
      rw [decide_eq_false (show ¬ tKd n tx e1 = 17 by omega)]
      exact ⟨fun _ => ⟨fun z => absurd z x51, fun _ => m_fail (k := 5) g1 (by omega) (fun I' f => b190 _ I' f (hpq _ er I' J1 f) _)⟩, fun z => (by cases z)⟩
    · dsimp only at c18 ch er
      have x50 : x5 = 0 := by rw [v5, show bk = 0 by omega]; rfl
      refine ⟨fun z => absurd g1.2.1 z, fun _ => m_isHours hn he1 g1.2.2.1 ?_⟩
      rw [decide_eq_false (show ¬ tKd n tx e1 = 17 by omega)]
      refine ⟨fun z => (by cases z), fun _ => m_isBack hn he1 g1.2.2.1 ?_⟩
      rw [decide_eq_true c18]
      refine ⟨fun z => (by cases z), fun _ => m_isHours hn he1 g1.2.2.1 ?_⟩
      rw [decide_eq_false (show ¬ tKd n tx e1 = 17 by omega)]
      refine ⟨fun _ => ⟨fun _ => ⟨fun z => absurd g1.2.1 z, fun _ => m_isBack hn he1 g1.2.2.1 ?_⟩, fun z => absurd x50 z⟩, fun z => (by cases z)⟩
      have l224 : ∀ E : Int32 → Int32 → HI → HJ → Prop, wj_X11_readTie_224 I1 J1 (nI a) (nI b) (nI o) x4 x5 E K Post := fun E => m_fail (k := 6) g1 (by omega) (fun I' f => ⟨fun z => absurd z (mB_p f), fun _ => hpq _ er I' J1 f⟩)
      rw [decide_eq_true c18, g1.2.2.2.1.2, nI_1, show (10 : Int32) = nI 10 from rfl, nI_eq (by omega) (by decide)]
      refine ⟨fun z => (by cases z), fun _ => ⟨fun _ => l224 _, fun z => m_isThere g1 hD hb ha ?_⟩⟩
      rw [cr.elim (fun y => absurd (show nT D.1 + 1 = 10 by omega) z) id]
      exact ⟨fun z => (by cases z), fun _ => l224 _⟩
    · dsimp only at c17 c18 er
      rw [er] at hp
      dsimp only at hp
      have fin : (¬ (I1 72 14) = 3 → (wj_X11_readTie_288 I1 J1 (nI a) (nI b) (nI o) x4 x5 0 Post)) ∧ ((I1 72 14) = 3 → (wj_X11_readTie_288 I1 J1 (nI a) (nI b) (nI o) x4 x5 1 Post)) := by
        refine m_sign hn he1 ht g1 (fun I2 J2 x2 => ?_)
        cases hx : expS n tx e1 3 with
        | inl q =>
          rw [hx] at x2 hp
          exact ⟨fun z => absurd z (mB_p x2), fun _ => hp I2 J2 x2⟩
        | inr _ =>
          rw [hx] at x2 hp
          dsimp only at x2 hp
          have g2 := x2.1
          have add : ∀ t0 : Int32, t0 = nI hr → wj_X11_readTie_314 I2 J2 (nI a) (nI b) (nI o) x4 x5 t0 (nI o) (nI b) (nI a) Post := fun t0 et => by
            subst et
            refine m_addTie g2 hT9 (fun I3 g3 => ?_)
            rw [v5, show (0 : Int32) = nI 0 from rfl, nI_eq (by omega) (by decide)]
            refine ⟨fun z => hp I3 J2 ?_, fun z => ?_⟩
            · have : addTs D a b o (hr, bk) = addT D a b o hr := if_neg (by show ¬ bk = 1; omega)
              rw [this]
              exact g3
            · have b1 : bk = 1 := by omega
              have add2 : ∀ t0 : Int32, t0 = nI hr → wj_X11_readTie_337 I3 J2 t0 (nI o) (nI a) (nI b) Post := fun t0 et => by
                subst et
                refine m_addTie g3 (show nT D.1 + 1 < 10 from by have := l4 b1; omega) (fun I4 g4 => hp I4 J2 ?_)
                have : addTs D a b o (hr, bk) = addT (addT D a b o hr) b a o hr := if_pos b1
                rw [this]
                exact g4
              rw [v4]
              by_cases ch : hs = 1
              · rw [if_pos ch]
                exact ⟨fun _ => add2 _ rfl, fun z => absurd (nI_pos' (by omega)) z⟩
              · rw [if_neg ch]
                exact ⟨fun z => absurd z (by decide), fun _ => add2 _ (by rw [l5 (by omega)]; rfl)⟩
          refine ⟨fun _ => ?_, fun z => absurd (by rw [g2.2.1]; exact Int32.le_refl _) z⟩
          by_cases ch : hs = 1
          · have e4 : x4 = nI hr := by rw [v4, if_pos ch]
            refine ⟨fun _ => add x4 e4, fun z => ?_⟩
            rw [e4] at z
            exact absurd (nI_pos' (by omega)) z
          · have e4 : x4 = -1 := by rw [v4, if_neg ch]
            refine ⟨fun z => ?_, fun _ => add 1 (by rw [l5 (by omega)]; rfl)⟩
            rw [e4] at z
            exact absurd z (by decide)
      refine ⟨fun _ => fin, fun _ => m_isHours hn he1 g1.2.2.1 ?_⟩
      rw [decide_eq_false c17]
      refine ⟨fun z => (by cases z), fun _ => m_isBack hn he1 g1.2.2.1 ?_⟩
      rw [decide_eq_false c18]
      exact ⟨fun _ => fin, fun z => (by cases z)⟩
theorem m_t118 (hn : n ≤ 600) (he : e ≤ n) (ht : mTx I0 n tx) (g : mG n tx I0 J0 e D I J) (hD : okD D) {a b : Nat} (ha : a < nP D.1) (hb : b < nP D.1) (hT9 : nT D.1 < 10) {Post : HI → HJ → Prop} (hp : ∀ I' J', mR n tx I0 J0 (spT2 n tx e D a b) I' J' → Post I' J') : wj_X11_readTie_118 I J (nI a) (nI b) Post := by
  have h2 := (en_ok (tx := tx) hn he).1
  have h3 := (en_ok (tx := tx) hn h2).1
  unfold spT2 at hp
  refine m_isOdds hn he g.2.2.1 (m_must (k := 9) hn he ht g (fun I2 J2 x2 => ?_))
  cases hs : expS n tx e 9 with
  | inl q =>
    rw [hs] at x2 hp
    exact b_count x2 ⟨1, ⟨fun _ => b_tE x2 (hp I2 J2 x2), fun z => absurd z (mB_n x2)⟩⟩
  | inr _ =>
    rw [hs] at x2 hp
    dsimp only at hp x2
    refine m_count (lo := 0) (hi := 16) hn h2 ht x2.1 (by decide) (by decide) (fun I3 J3 => ?_)
    cases hs2 : numS n tx (tEn n tx e) 0 16 with
    | inl q =>
      rw [hs2] at hp
      exact fun f => ⟨1, ⟨fun _ => b_tE f (hp I3 J3 f), fun z => absurd z (mB_n f)⟩⟩
    | inr o =>
      rw [hs2] at hp
      dsimp only at hp
      exact fun g3 _ _ => m_t3 hn h3 ht g3 hD ha hb (numS_v hs2).2 hT9 hp
theorem m_tie (hn : n ≤ 600) (he : e ≤ n) (ht : mTx I0 n tx) (g : mG n tx I0 J0 e D I J) (hD : okD D) {Post : HI → HJ → Prop} (hp : ∀ I' J', mR n tx I0 J0 (spT n tx e D) I' J' → Post I' J') : w_X11_readTie I J Post := by
  have hP := hD.1.1
  have hT := hD.1.2.1
  have h1 := (en_ok (tx := tx) hn he).1
  have h2 := (en_ok (tx := tx) hn h1).1
  have h3 := (en_ok (tx := tx) hn h2).1
  have h4 := (en_ok (tx := tx) hn h3).1
  unfold spT at hp
  unfold w_X11_readTie
  rw [g.2.2.2.1.2, show (10 : Int32) = nI 10 from rfl, nI_eq (by omega) (by decide)]
  refine ⟨fun c10 => ?_, fun c10 => ?_⟩
  · rw [if_neg c10] at hp
    refine ⟨fun _ => m_next hn he ht g (fun I1 J1 g1 _ _ => m_told hn h1 g1 hD ?_), fun z => absurd (by rw [g.2.1]; exact Int32.le_refl _) z⟩
    cases hs1 : namS n tx (tEn n tx e) D with
    | inl q =>
      rw [hs1] at hp
      exact fun I2 f => ⟨fun _ => b_t47 f (hp I2 J1 f), fun z => absurd z (mB_n f)⟩
    | inr a =>
      rw [hs1] at hp
      dsimp only at hp
      have ha := namS_v hs1
      refine ⟨fun z => absurd g1.2.1 z, fun _ => m_next hn h1 ht g1 (fun I2 J2 g2 _ _ => m_isTo hn h2 g2.2.2.1 (m_must (k := 8) hn h2 ht g2 (fun I3 J3 x3 => ?_)))⟩
      cases hs2 : expS n tx (tEn n tx (tEn n tx e)) 8 with
      | inl q =>
        rw [hs2] at hp x3
        exact b_told x3 ⟨fun _ => b_t81 x3 (hp I3 J3 x3), fun z => absurd z (mB_n x3)⟩
      | inr _ =>
        rw [hs2] at hp x3
        dsimp only at hp x3
        have g3 := x3.1
        unfold spT1 at hp
        refine m_told hn h3 g3 hD ?_
        cases hs3 : namS n tx (tEn n tx (tEn n tx (tEn n tx e))) D with
        | inl q =>
          rw [hs3] at hp
          exact fun I4 f => ⟨fun _ => b_t81 f (hp I4 J3 f), fun z => absurd z (mB_n f)⟩
        | inr b =>
          rw [hs3] at hp
          dsimp only at hp
          have hb := namS_v hs3
          refine ⟨fun z => absurd g3.2.1 z, fun _ => ?_⟩
          rw [nI_eq (by omega) (by omega)]
          refine ⟨fun c => ?_, fun c => ?_⟩
          · rw [if_neg c] at hp
            refine ⟨fun z => absurd g3.2.1 z, fun _ => m_isThere g3 hD ha hb ?_⟩
            cases ht2 : thr D.1 a b
            · rw [ht2, if_neg (by decide)] at hp
              exact ⟨fun _ => ⟨fun z => absurd g3.2.1 z, fun _ => m_next hn h3 ht g3 (fun I4 J4 g4 _ _ => m_t118 hn h4 ht g4 hD ha hb (by omega) hp)⟩, fun z => (by cases z)⟩
            · rw [ht2, if_pos rfl] at hp
              exact ⟨fun z => (by cases z), fun _ => m_fail (k := 6) g3 (by omega) (fun I' f => b_t107 f (hp I' J3 f))⟩
          · rw [if_pos c] at hp
            exact m_fail (k := 5) g3 (by omega) (fun I' f => b_t81 f (hp I' J3 f))
  · rw [if_pos c10] at hp
    exact m_fail (k := 6) g (by omega) (fun I' f => ⟨fun z => absurd z (mB_p f), fun _ => hp I' J f⟩)
end
