section
variable {n : Nat} {tx : Nat → Nat} {I0 I : HI} {J0 J : HJ} {e : Nat} {D : DT} {q : Nat × Nat}
theorem nP_Ts (a b o : Nat) (x : Nat × Nat) : nP (addTs D a b o x).1 = nP D.1 := by unfold addTs; split <;> rfl
theorem c_t3 (hn : n ≤ 600) (he : e ≤ n) (ht : cTx I0 n tx) (hw : rdW J0) (h : cX n tx I0 J0 e D I J) (hD : okD D) {a b o : Nat} (ha : a < nP D.1) (hb : b < nP D.1) (ho : o ≤ 16) (hT9 : nT D.1 < 10) {Post : HI → HJ → Prop} (hp : ∀ I' J', cR n tx I0 J0 (spT3 n tx e o D a b) I' J' → Post I' J') : w_X5_readSpeeds (nI a) (nI b) (nI o) I J (fun I1 J1 => w_X5_pass 3 I1 J1 Post) := by
  refine c_speeds hn he ht hw h hD ha hb ho hT9 (fun I1 J1 x1 => ?_)
  unfold spT3 at hp
  have g := spS_ok (tx := tx) hn he (N := D.1) (a := a) (b := b) hT9 700
  generalize rn (spS n tx D.1 a b) (.inl (0, 0)) 700 (e, 0, 1, 0) = r at hp g x1
  cases r with
  | inl q => exact f_pass x1 (hp I1 J1 x1)
  | inr y =>
    dsimp only at hp
    refine x_pass (k := 3) hn g.1 ht hw x1 (by rw [nP_Ts]; exact hD.1.1) (by decide) (by decide) (fun I2 J2 x2 => hp I2 J2 ?_)
    cases hs : expS n tx y.1 3 with
    | inl q => rw [hs] at x2; exact x2
    | inr _ => rw [hs] at x2; exact x2
theorem c_81 (hn : n ≤ 600) (he : e ≤ n) (ht : cTx I0 n tx) (hw : rdW J0) (h : cG n tx I0 J0 e D I J) (hD : okD D) {a b : Nat} (ha : a < nP D.1) (hb : b < nP D.1) (hT9 : nT D.1 < 10) {Post : HI → HJ → Prop} (hp : ∀ I' J', cR n tx I0 J0 (spT2 n tx (tEn n tx e) D a b) I' J' → Post I' J') : wj_X5_readTie_81 I J (nI a) (nI b) (fun I1 J1 => w_X5_pass 3 I1 J1 Post) := by
  have hP := hD.1.1
  have h1 := (en_ok (tx := tx) hn he).1
  have h2 := (en_ok (tx := tx) hn h1).1
  have h3 := (en_ok (tx := tx) hn h2).1
  refine c_adv hn he ht hw h hP (fun I1 J1 x1 => x_pass (k := 9) hn h1 ht hw x1 hP (by decide) (by decide) (fun I2 J2 x2 => ?_))
  unfold spT2 at hp
  cases hs : expS n tx (tEn n tx e) 9 with
  | inl q =>
    rw [hs] at x2 hp
    exact f_num x2 (f_speeds x2 (f_pass x2 (hp I2 J2 x2)))
  | inr _ =>
    rw [hs] at x2 hp
    dsimp only at hp
    refine x_num (lo := 0) (hi := 16) hn h2 ht hw x2 hP (by decide) (by decide) (fun I3 J3 => ?_)
    cases hs2 : numS n tx (tEn n tx (tEn n tx e)) 0 16 with
    | inl q =>
      rw [hs2] at hp
      exact fun f => f_speeds f (f_pass f (hp I3 J3 f))
    | inr o =>
      rw [hs2] at hp
      dsimp only at hp
      exact fun x3 => c_t3 hn h3 ht hw x3 hD ha hb (numS_v hs2).2 hT9 hp
theorem f_t17 (f : cF I0 J0 q I J) {Post : HI → HJ → Prop} (hp : Post I J) : wj_X5_readTie_17 I J Post := f_pass f (f_known f (fun r => f_adv f (f_pass f (f_known f (fun r2 => f_goes f ⟨fun _ => f_t63 f hp, fun z => (by cases z)⟩)))))
theorem c_tie (hn : n ≤ 600) (he : e ≤ n) (ht : cTx I0 n tx) (hw : rdW J0) (h : cG n tx I0 J0 e D I J) (hD : okD D) (h7 : tKd n tx e = 7) {Post : HI → HJ → Prop} (hp : ∀ I' J', cR n tx I0 J0 (spT n tx e D) I' J' → Post I' J') : w_X5_readTie I J (fun I1 J1 => w_X5_pass 3 I1 J1 Post) := by
  have hP := hD.1.1
  have hT := hD.1.2.1
  have h1 := (en_ok (tx := tx) hn he).1
  have h2 := (en_ok (tx := tx) hn h1).1
  have h3 := (en_ok (tx := tx) hn h2).1
  unfold spT at hp
  refine c_room (k := 1) h hD (by decide) ?_
  by_cases c10 : nT D.1 = 10
  · rw [decide_eq_false (by omega)]
    rw [if_pos c10] at hp
    exact ⟨fun z => (by cases z), fun _ => c_fail (k := 6) h hP (by omega) (fun I' f => f_t17 f (f_pass f (hp I' J f)))⟩
  · rw [decide_eq_true (by omega)]
    rw [if_neg c10] at hp
    refine ⟨fun _ => x_pass (k := 7) hn he ht hw (cX_g (by omega) h) hP (by decide) (by decide) (fun I1 J1 x1 => ?_), fun z => (by cases z)⟩
    have ex : expS n tx e 7 = .inr () := if_pos h7
    rw [ex] at x1
    dsimp only at x1
    refine x_known hn h1 x1 hD ?_
    cases hs1 : namS n tx (tEn n tx e) D with
    | inl q =>
      rw [hs1] at hp
      exact fun r I2 f => f_adv f (f_pass f (f_known f (fun r2 => f_goes f ⟨fun _ => f_t63 f (f_pass f (hp I2 J1 f)), fun z => (by cases z)⟩)))
    | inr a =>
      rw [hs1] at hp
      dsimp only at hp
      have ha := namS_v hs1
      intro g1
      refine c_adv hn h1 ht hw g1 hP (fun I2 J2 x2 => x_pass (k := 8) hn h2 ht hw x2 hP (by decide) (by decide) (fun I3 J3 x3 => ?_))
      cases hs2 : expS n tx (tEn n tx (tEn n tx e)) 8 with
      | inl q =>
        rw [hs2] at hp x3
        exact f_known x3 (fun r2 => f_goes x3 ⟨fun _ => f_t63 x3 (f_pass x3 (hp I3 J3 x3)), fun z => (by cases z)⟩)
      | inr _ =>
        rw [hs2] at hp x3
        dsimp only at hp x3
        unfold spT1 at hp
        refine x_known hn h3 x3 hD ?_
        cases hs3 : namS n tx (tEn n tx (tEn n tx (tEn n tx e))) D with
        | inl q =>
          rw [hs3] at hp
          exact fun r I4 f => f_goes f ⟨fun _ => f_t63 f (f_pass f (hp I4 J3 f)), fun z => (by cases z)⟩
        | inr b =>
          rw [hs3] at hp
          dsimp only at hp
          have hb := namS_v hs3
          intro g3
          refine c_goes g3 ⟨fun z => (by cases z), fun _ => ?_⟩
          rw [nI_eq (by omega) (by omega)]
          refine ⟨fun c => ?_, fun c => ?_⟩
          · rw [if_neg (fun z => c z.symm)] at hp
            refine c_hasTie g3 hD ha hb ?_
            cases ht2 : thr D.1 a b
            · rw [ht2, if_neg (by decide)] at hp
              exact ⟨fun _ => c_81 hn h3 ht hw g3 hD ha hb (by omega) hp, fun z => (by cases z)⟩
            · rw [ht2, if_pos rfl] at hp
              exact ⟨fun z => (by cases z), fun _ => c_fail (k := 6) g3 hP (by omega) (fun I' f => f_t81 f (f_pass f (hp I' J3 f)))⟩
          · rw [if_pos c.symm] at hp
            exact c_fail (k := 5) g3 hP (by omega) (fun I' f => f_t81 f (f_pass f (hp I' J3 f)))
end
section
variable {n : Nat} {tx : Nat → Nat} {I0 I : HI} {J0 J : HJ} {e w : Nat} {D : DT} {q : Nat × Nat} {tr : Nat → Nat}
/-! a person -/
theorem c_addP (h : cG n tx I0 J0 e D I J) (hD : okD D) (hP : nP D.1 < 12) (h5 : 5 ≤ tKd n tx e) {Post : HI → HJ → Prop} (hp : ∀ I' J', cG n tx I0 J0 e (addP D td0 (tWd n tx e)) I' J' → w_X5_advance I' J' (fun (I_7 : HI) (J_8 : HJ) => (∃ n, lp (wb_X5_readPerson_95 (nI (nP D.1)) Post (fun (I_15 : HI) (J_16 : HJ) => Post I_15 J_16)) n (0, 0, I_7, J_8)))) : w_X4_addPerson I J (fun (r_17 : Int32) (I_18 : HI) => (wj_X5_readPerson_70 I_18 J r_17 Post)) := by
  obtain ⟨⟨a1, a2⟩, b4, ⟨c1, c2⟩, ⟨d1, d2, d3, d4, d5⟩, ⟨g1, g2, g3⟩⟩ := h
  have e24 : I 24 11 = nI (nP D.1) := g1.1.1
  have vP : vp_in (nI (nP D.1)) 12 := vp_in_nI hP (by decide)
  unfold w_X4_addPerson w_X4_isFullOfPeople
  rw [e24, show (12 : Int32) = nI 12 from rfl, nI_ltI (by omega) (by decide), nI_clamp (by omega : nP D.1 < 2 ^ 31), nI_1]
  refine ⟨fun _ => ⟨fun _ I2 e2 => ⟨vP, fun I3 e3 => ⟨vP, fun I4 e4 => ⟨vP, fun I5 e5 => ⟨vP, fun I6 e6 => ⟨vP, fun I7 e7 => ⟨vP, fun I8 e8 => ?_⟩⟩⟩⟩⟩⟩, fun z => (by cases z)⟩, fun z => absurd hP z⟩
  refine ⟨fun _ => ⟨vP, fun J6 ej => hp I8 J6 ?_⟩, fun z => ?_⟩
  · have oth : ∀ c, c ≠ 24 → c ≠ 25 → c ≠ 26 → c ≠ 27 → c ≠ 28 → c ≠ 29 → c ≠ 30 → I8 c = I c := fun c h1 h2 h3 h4 h5 h6 h7 => by rw [e8, hI_ne h7, e7, hI_ne h6, e6, hI_ne h5, e5, hI_ne h4, e4, hI_ne h3, e3, hI_ne h2, e2, hI_ne h1]
    have i36 : I8 36 = I 36 := oth 36 (by decide) (by decide) (by decide) (by decide) (by decide) (by decide) (by decide)
    have i24 : ∀ k, I8 24 k = if k = 11 then nI (nP D.1 + 1) else I 24 k := fun k => by rw [e8, hI_ne (by decide), e7, hI_ne (by decide), e6, hI_ne (by decide), e5, hI_ne (by decide), e4, hI_ne (by decide), e3, hI_ne (by decide), e2, hI_at]
    have k25 : ∀ p, I8 25 p = if p = nP D.1 then nI 0 else I 25 p := fun p => by rw [e8, hI_ne (by decide), e7, hI_ne (by decide), e6, hI_ne (by decide), e5, hI_ne (by decide), e4, hI_ne (by decide), e3, hI_at, e2, hI_ne (by decide)]; rfl
    have k26 : ∀ p, I8 26 p = if p = nP D.1 then nI 1 else I 26 p := fun p => by rw [e8, hI_ne (by decide), e7, hI_ne (by decide), e6, hI_ne (by decide), e5, hI_ne (by decide), e4, hI_at, e3, hI_ne (by decide), e2, hI_ne (by decide)]; rfl
    have k27 : ∀ p, I8 27 p = if p = nP D.1 then nI 0 else I 27 p := fun p => by rw [e8, hI_ne (by decide), e7, hI_ne (by decide), e6, hI_ne (by decide), e5, hI_at, e4, hI_ne (by decide), e3, hI_ne (by decide), e2, hI_ne (by decide)]; rfl
    have k28 : ∀ p, I8 28 p = if p = nP D.1 then nI 1 else I 28 p := fun p => by rw [e8, hI_ne (by decide), e7, hI_ne (by decide), e6, hI_at, e5, hI_ne (by decide), e4, hI_ne (by decide), e3, hI_ne (by decide), e2, hI_ne (by decide)]; rfl
    have k29 : ∀ p, I8 29 p = if p = nP D.1 then nI 0 else I 29 p := fun p => by rw [e8, hI_ne (by decide), e7, hI_at, e6, hI_ne (by decide), e5, hI_ne (by decide), e4, hI_ne (by decide), e3, hI_ne (by decide), e2, hI_ne (by decide)]; rfl
    have k30 : ∀ p, I8 30 p = if p = nP D.1 then nI 0 else I 30 p := fun p => by rw [e8, hI_at, e7, hI_ne (by decide), e6, hI_ne (by decide), e5, hI_ne (by decide), e4, hI_ne (by decide), e3, hI_ne (by decide), e2, hI_ne (by decide)]; rfl
    have zi : inM D.1 (nP D.1) = 0 := mk_none (fun t htt => decide_eq_false (by have := (hD.1.2.2.2.1 t htt).2.1; omega))
    have zo : ouM D.1 (nP D.1) = 0 := mk_none (fun t htt => decide_eq_false (by have := (hD.1.2.2.2.1 t htt).1; omega))
    refine ⟨⟨fun c hc => ?_, fun c h1 h2 => ?_⟩, by rw [i36]; exact b4, ⟨by rw [i36]; exact c1, by rw [i36]; exact c2⟩, ⟨by rw [i36]; exact d1, by rw [i36]; exact d2, by rw [i36]; exact d3, fun z => by rw [i36]; exact d4 z, fun z => by rw [ej, hJ_ne (by decide)]; exact d5 z⟩, ⟨⟨⟨?_, ?_, ?_⟩, fun p hpp => ?_, fun t htt => ?_, fun w hww => ?_⟩, fun p hpp => ?_, by rw [i36]; exact g3⟩⟩
    · rw [oth c (by omega) (by omega) (by omega) (by omega) (by omega) (by omega) (by omega)]; exact a1 c hc
    · rw [ej, hJ_ne h2]; exact a2 c h1 h2
    · show I8 24 11 = nI (nP D.1 + 1)
      rw [i24, if_pos rfl]
    · show I8 24 12 = nI (nT D.1)
      rw [i24, if_neg (by decide)]; exact g1.1.2.1
    · show I8 24 13 = nI (nS D.1 ||| 0)
      rw [i24, if_neg (by decide), Nat.or_zero]; exact g1.1.2.2
    · have hpp' : p < nP D.1 + 1 := hpp
      show I8 25 p = nI (sN (nVl D.1) (nP D.1) (td0 0) p) ∧ I8 26 p = nI (sN (nNd D.1) (nP D.1) (td0 1) p) ∧ I8 27 p = nI (sN (nLt D.1) (nP D.1) (td0 2) p) ∧ I8 28 p = nI (sN (nCo D.1) (nP D.1) (td0 4) p) ∧ I8 29 p = nI (inM D.1 p) ∧ I8 30 p = nI (ouM D.1 p)
      rw [k25, k26, k27, k28, k29, k30]
      by_cases y : p = nP D.1
      · rw [if_pos y, if_pos y, if_pos y, if_pos y, if_pos y, if_pos y, y, sN_at, sN_at, sN_at, sN_at, zi, zo]
        exact ⟨rfl, rfl, rfl, rfl, rfl, rfl⟩
      · rw [if_neg y, if_neg y, if_neg y, if_neg y, if_neg y, if_neg y, sN_ne y, sN_ne y, sN_ne y, sN_ne y]
        exact g1.2.1 p (by omega)
    · show I8 31 t = nI (nFr D.1 t) ∧ I8 32 t = nI (nTo D.1 t) ∧ I8 33 t = nI (nOd D.1 t) ∧ I8 34 t = nI (nHr D.1 t)
      rw [oth 31 (by decide) (by decide) (by decide) (by decide) (by decide) (by decide) (by decide), oth 32 (by decide) (by decide) (by decide) (by decide) (by decide) (by decide) (by decide), oth 33 (by decide) (by decide) (by decide) (by decide) (by decide) (by decide) (by decide), oth 34 (by decide) (by decide) (by decide) (by decide) (by decide) (by decide) (by decide)]
      exact g1.2.2.1 t htt
    · show I8 35 w = nI (nMo D.1 w)
      rw [oth 35 (by decide) (by decide) (by decide) (by decide) (by decide) (by decide) (by decide)]; exact g1.2.2.2 w hww
    · have hpp' : p < nP D.1 + 1 := hpp
      show J6 38 p = lN (sN D.2.1 (nP D.1) (tWd n tx e) p)
      rw [ej, nI_clamp (by omega : nP D.1 < 2 ^ 31), hJ_at]
      by_cases y : p = nP D.1
      · rw [if_pos y, y, sN_at]; exact d5 h5
      · rw [if_neg y, sN_ne y]; exact g2 p (by omega)
  · have := nI_toInt (n := nP D.1) (by omega)
    rw [z, nb_m1] at this
    omega
theorem c_trw0 (h : cG n tx I0 J0 e (addP D tr w) I J) (v : Nat) : cG n tx I0 J0 e (addP D (sN tr 0 v) w) (hI I 25 (nP D.1) (nI v)) J := by
  obtain ⟨⟨a1, a2⟩, b4, c, d, ⟨g1, g2, g3⟩⟩ := h
  refine ⟨⟨fun c hc => ?_, a2⟩, by rw [hI_ne (by decide)]; exact b4, by rw [hI_ne (by decide)]; exact c, ?_, ⟨⟨?_, fun p hpp => ?_, fun t htt => ?_, fun w hww => ?_⟩, g2, by rw [hI_ne (by decide)]; exact g3⟩⟩
  · rw [hI_ne (by omega)]; exact a1 c hc
  · unfold cTok at d ⊢
    rw [hI_ne (by decide)]; exact d
  · exact g1.1
  · obtain ⟨h0, h1, h2, h4, h5, h6⟩ := g1.2.1 p hpp
    refine ⟨?_, ?_, ?_, ?_, h5, h6⟩
    · show hI I 25 (nP D.1) (nI v) 25 p = nI (sN (nVl D.1) (nP D.1) v p)
      rw [hI_at]
      by_cases y : p = nP D.1
      · rw [if_pos y, y, sN_at]
      · rw [if_neg y, sN_ne y]
        have : I 25 p = nI (sN (nVl D.1) (nP D.1) (tr 0) p) := h0
        rw [this, sN_ne y]
    · show hI I 25 (nP D.1) (nI v) 26 p = _
      rw [hI_ne (by decide)]; exact h1
    · show hI I 25 (nP D.1) (nI v) 27 p = _
      rw [hI_ne (by decide)]; exact h2
    · show hI I 25 (nP D.1) (nI v) 28 p = _
      rw [hI_ne (by decide)]; exact h4
  · exact g1.2.2.1 t htt
  · exact g1.2.2.2 w hww
theorem c_trw1 (h : cG n tx I0 J0 e (addP D tr w) I J) (v : Nat) : cG n tx I0 J0 e (addP D (sN tr 1 v) w) (hI I 26 (nP D.1) (nI v)) J := by
  obtain ⟨⟨a1, a2⟩, b4, c, d, ⟨g1, g2, g3⟩⟩ := h
  refine ⟨⟨fun c hc => ?_, a2⟩, by rw [hI_ne (by decide)]; exact b4, by rw [hI_ne (by decide)]; exact c, ?_, ⟨⟨?_, fun p hpp => ?_, fun t htt => ?_, fun w hww => ?_⟩, g2, by rw [hI_ne (by decide)]; exact g3⟩⟩
  · rw [hI_ne (by omega)]; exact a1 c hc
  · unfold cTok at d ⊢
    rw [hI_ne (by decide)]; exact d
  · exact g1.1
  · obtain ⟨h0, h1, h2, h4, h5, h6⟩ := g1.2.1 p hpp
    refine ⟨?_, ?_, ?_, ?_, h5, h6⟩
    · show hI I 26 (nP D.1) (nI v) 25 p = _
      rw [hI_ne (by decide)]; exact h0
    · show hI I 26 (nP D.1) (nI v) 26 p = nI (sN (nNd D.1) (nP D.1) v p)
      rw [hI_at]
      by_cases y : p = nP D.1
      · rw [if_pos y, y, sN_at]
      · rw [if_neg y, sN_ne y]
        have : I 26 p = nI (sN (nNd D.1) (nP D.1) (tr 1) p) := h1
        rw [this, sN_ne y]
    · show hI I 26 (nP D.1) (nI v) 27 p = _
      rw [hI_ne (by decide)]; exact h2
    · show hI I 26 (nP D.1) (nI v) 28 p = _
      rw [hI_ne (by decide)]; exact h4
  · exact g1.2.2.1 t htt
  · exact g1.2.2.2 w hww
theorem c_trw2 (h : cG n tx I0 J0 e (addP D tr w) I J) (v : Nat) : cG n tx I0 J0 e (addP D (sN tr 2 v) w) (hI I 27 (nP D.1) (nI v)) J := by
  obtain ⟨⟨a1, a2⟩, b4, c, d, ⟨g1, g2, g3⟩⟩ := h
  refine ⟨⟨fun c hc => ?_, a2⟩, by rw [hI_ne (by decide)]; exact b4, by rw [hI_ne (by decide)]; exact c, ?_, ⟨⟨?_, fun p hpp => ?_, fun t htt => ?_, fun w hww => ?_⟩, g2, by rw [hI_ne (by decide)]; exact g3⟩⟩
  · rw [hI_ne (by omega)]; exact a1 c hc
  · unfold cTok at d ⊢
    rw [hI_ne (by decide)]; exact d
  · exact g1.1
  · obtain ⟨h0, h1, h2, h4, h5, h6⟩ := g1.2.1 p hpp
    refine ⟨?_, ?_, ?_, ?_, h5, h6⟩
    · show hI I 27 (nP D.1) (nI v) 25 p = _
      rw [hI_ne (by decide)]; exact h0
    · show hI I 27 (nP D.1) (nI v) 26 p = _
      rw [hI_ne (by decide)]; exact h1
    · show hI I 27 (nP D.1) (nI v) 27 p = nI (sN (nLt D.1) (nP D.1) v p)
      rw [hI_at]
      by_cases y : p = nP D.1
      · rw [if_pos y, y, sN_at]
      · rw [if_neg y, sN_ne y]
        have : I 27 p = nI (sN (nLt D.1) (nP D.1) (tr 2) p) := h2
        rw [this, sN_ne y]
    · show hI I 27 (nP D.1) (nI v) 28 p = _
      rw [hI_ne (by decide)]; exact h4
  · exact g1.2.2.1 t htt
  · exact g1.2.2.2 w hww
theorem c_trw4 (h : cG n tx I0 J0 e (addP D tr w) I J) (v : Nat) : cG n tx I0 J0 e (addP D (sN tr 4 v) w) (hI I 28 (nP D.1) (nI v)) J := by
  obtain ⟨⟨a1, a2⟩, b4, c, d, ⟨g1, g2, g3⟩⟩ := h
  refine ⟨⟨fun c hc => ?_, a2⟩, by rw [hI_ne (by decide)]; exact b4, by rw [hI_ne (by decide)]; exact c, ?_, ⟨⟨?_, fun p hpp => ?_, fun t htt => ?_, fun w hww => ?_⟩, g2, by rw [hI_ne (by decide)]; exact g3⟩⟩
  · rw [hI_ne (by omega)]; exact a1 c hc
  · unfold cTok at d ⊢
    rw [hI_ne (by decide)]; exact d
  · exact g1.1
  · obtain ⟨h0, h1, h2, h4, h5, h6⟩ := g1.2.1 p hpp
    refine ⟨?_, ?_, ?_, ?_, h5, h6⟩
    · show hI I 28 (nP D.1) (nI v) 25 p = _
      rw [hI_ne (by decide)]; exact h0
    · show hI I 28 (nP D.1) (nI v) 26 p = _
      rw [hI_ne (by decide)]; exact h1
    · show hI I 28 (nP D.1) (nI v) 27 p = _
      rw [hI_ne (by decide)]; exact h2
    · show hI I 28 (nP D.1) (nI v) 28 p = nI (sN (nCo D.1) (nP D.1) v p)
      rw [hI_at]
      by_cases y : p = nP D.1
      · rw [if_pos y, y, sN_at]
      · rw [if_neg y, sN_ne y]
        have : I 28 p = nI (sN (nCo D.1) (nP D.1) (tr 4) p) := h4
        rw [this, sN_ne y]
  · exact g1.2.2.1 t htt
  · exact g1.2.2.2 w hww
theorem c_trw3 (h : cG n tx I0 J0 e (addP D tr w) I J) : cG n tx I0 J0 e (addP D (sN tr 3 1) w) (hI I 24 13 (I 24 13 ||| nI (2 ^ nP D.1))) J := by
  obtain ⟨⟨a1, a2⟩, b4, c, d, ⟨g1, g2, g3⟩⟩ := h
  refine ⟨⟨fun c hc => ?_, a2⟩, by rw [hI_ne (by decide)]; exact b4, by rw [hI_ne (by decide)]; exact c, ?_, ⟨⟨⟨?_, ?_, ?_⟩, fun p hpp => g1.2.1 p hpp, fun t htt => g1.2.2.1 t htt, fun w hww => g1.2.2.2 w hww⟩, g2, by rw [hI_ne (by decide)]; exact g3⟩⟩
  · rw [hI_ne (by omega)]; exact a1 c hc
  · unfold cTok at d ⊢
    rw [hI_ne (by decide)]; exact d
  · show hI I 24 13 _ 24 11 = _
    rw [hI_at, if_neg (by decide)]; exact g1.1.1
  · show hI I 24 13 _ 24 12 = _
    rw [hI_at, if_neg (by decide)]; exact g1.1.2.1
  · show hI I 24 13 _ 24 13 = nI (nS D.1 ||| 2 ^ nP D.1)
    have e13 : I 24 13 = nI (nS D.1 ||| (if tr 3 = 1 then 2 ^ nP D.1 else 0)) := g1.1.2.2
    rw [hI_at, if_pos rfl, e13, nb_or]
    by_cases y : tr 3 = 1
    · rw [if_pos y, Nat.or_assoc, Nat.or_self]
    · rw [if_neg y, Nat.or_zero]
end
