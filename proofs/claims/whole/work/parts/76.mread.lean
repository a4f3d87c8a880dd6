def mR (n : Nat) (tx : Nat → Nat) (I0 : HI) (J0 : HJ) (r : (Nat × Nat) ⊕ (Nat × DT)) (I : HI) (J : HJ) : Prop := match r with
  | .inl q => mB I0 J0 q I J
  | .inr x => mG n tx I0 J0 x.1 x.2 I J
section
variable {n : Nat} {tx : Nat → Nat} {I0 I : HI} {J0 J : HJ} {e : Nat} {D : DT} {q : Nat × Nat}
theorem b_word {x : Int64} {Post : Bool → Prop} (hp : ∀ b, Post b) : w_X11_isWord x I J Post := ⟨fun _ => hp _, fun _ => ⟨fun _ => hp _, fun _ => hp _⟩⟩
theorem b_isMost {Post : Bool → Prop} (hp : ∀ b, Post b) : w_X11_isMost I J Post := q_spelled (b_word hp)
theorem b_isTo {Post : Bool → Prop} (hp : ∀ b, Post b) : w_X11_isTo I J Post := q_spelled (b_word hp)
theorem b_isOdds {Post : Bool → Prop} (hp : ∀ b, Post b) : w_X11_isOdds I J Post := q_spelled (b_word hp)
theorem m_sign (hn : n ≤ 600) (he : e ≤ n) (ht : mTx I0 n tx) (g : mG n tx I0 J0 e D I J) {Post : HI → HJ → Prop} (hp : ∀ I' J', (match expS n tx e 3 with | .inl q => mB I0 J0 q I' J' | .inr _ => mG n tx I0 J0 (tEn n tx e) D I' J' ∧ (∀ k, I' 78 k = I 78 k) ∧ J' 89 = J 89) → Post I' J') : (¬ (I 72 14) = 3 → w_X11_must 0 I J Post) ∧ ((I 72 14) = 3 → w_X11_must 1 I J Post) := by
  have sl := srt_le (tKd n tx e)
  have sv := (srt_v (tKd n tx e)).2.1
  have m := m_must (k := 3) hn he ht g hp
  rw [g.2.2.1.2.2.1, show (3 : Int32) = nI 3 from rfl, nI_eq (by omega) (by decide), sv]
  refine ⟨fun c => ?_, fun c => ?_⟩
  · rw [decide_eq_false c] at m; exact m
  · rw [decide_eq_true c] at m; exact m
/-! valleys -/
theorem b_v77 (h : mB I0 J0 q I J) {x y z : Int32} {Post : HI → HJ → Prop} (hp : Post I J) : wj_X11_readValley_77 I J x y z Post := b_must h ⟨fun z => absurd z (mB_p h), fun _ => hp⟩
theorem b_v47 (h : mB I0 J0 q I J) {x : Int32} {Post : HI → HJ → Prop} (hp : Post I J) : wj_X11_readValley_47 I J x Post := b_isMost (fun _ => b_must h (b_count h ⟨fun _ => b_v77 h hp, fun _ => b_v77 h hp⟩))
theorem b_v36 (h : mB I0 J0 q I J) {x : Int32} {Post : HI → HJ → Prop} (hp : Post I J) : wj_X11_readValley_36 I J x Post := ⟨fun _ => b_v47 h hp, fun z => absurd z (mB_n h)⟩
theorem m_valw (g : mG n tx I0 J0 e D I J) {v m : Nat} (hv : v < 4) : mG n tx I0 J0 e (addV D v m) (hI (hI I 90 v 1) 88 v (nI m)) J := by
  obtain ⟨⟨a1, a2, a3, a4⟩, b, t, ⟨d1, d2, d3, d4, d5⟩⟩ := g
  have i72 : hI (hI I 90 v 1) 88 v (nI m) 72 = I 72 := by rw [hI_ne (by decide), hI_ne (by decide)]
  refine ⟨⟨fun c h1 h2 h3 h4 h5 => ?_, fun k h1 h2 h3 => ?_, a3, a4⟩, by rw [i72]; exact b, ?_, ⟨by rw [i72]; exact d1, fun p hp => ?_, fun s hs => ?_, fun u hu => ?_, d5⟩⟩
  · rw [hI_ne h4, hI_ne h5]; exact a1 c h1 h2 h3 h4 h5
  · rw [i72]; exact a2 k h1 h2 h3
  · unfold mTok at t ⊢
    rw [i72]; exact t
  · exact d2 p hp
  · exact d3 s hs
  · show hI (hI I 90 v 1) 88 v (nI m) 88 u = nI (sN (nMo D.1) v m u) ∧ hI (hI I 90 v 1) 88 v (nI m) 90 u = nI (if (D.2.2 ||| 2 ^ v).testBit u = true then 1 else 0)
    rw [hI_at, hI_ne (by decide), hI_ne (by decide), hI_at, or_bit]
    by_cases y : u = v
    · rw [if_pos y, if_pos y, y, sN_at, decide_eq_true rfl, Bool.or_true]; exact ⟨rfl, rfl⟩
    · rw [if_neg y, if_neg y, sN_ne y, decide_eq_false (fun z => y z.symm), Bool.or_false]; exact d4 u hu
theorem m_valley (hn : n ≤ 600) (he : e ≤ n) (ht : mTx I0 n tx) (g : mG n tx I0 J0 e D I J) (hD : okD D) {Post : HI → HJ → Prop} (hp : ∀ I' J', mR n tx I0 J0 (spV n tx e D) I' J' → Post I' J') : w_X11_readValley I J Post := by
  have he1 := (tk_ok (tx := tx) hn he).2.2.1
  have he2 := (tk_ok (tx := tx) hn he1).2.2.1
  have he3 := (tk_ok (tx := tx) hn he2).2.2.1
  have he4 := (tk_ok (tx := tx) hn he3).2.2.1
  refine m_next hn he ht g (fun I1 J1 g1 _ _ => m_seen (lo := 0) (hi := 3) hn he1 g1 (by decide) (by decide) ?_)
  unfold spV at hp
  cases hs : numS n tx (tEn n tx e) 0 3 with
  | inl q =>
    rw [hs] at hp
    exact fun I' f => ⟨fun _ => b_v36 f (hp I' J1 f), fun z => absurd z (mB_n f)⟩
  | inr v =>
    rw [hs] at hp
    dsimp only at hp
    have hv := numS_v hs
    refine ⟨fun z => absurd g1.2.1 z, fun _ => ⟨vp_in_nI (by omega) (by decide), ?_⟩⟩
    rw [nI_clamp (by omega : v < 2 ^ 31), (g1.2.2.2.2.2.2.1 v (by omega)).2]
    cases tb : D.2.2.testBit v
    · rw [tb, if_neg (by decide)] at hp
      refine ⟨fun _ => ⟨fun z => absurd g1.2.1 z, fun _ => m_next hn he1 ht g1 (fun I2 J2 g2 _ _ => ?_)⟩, fun z => absurd rfl z⟩
      unfold spV2 at hp
      refine m_isMost hn he2 g2.2.2.1 (m_must (k := 11) hn he2 ht g2 (fun I3 J3 x3 => ?_))
      cases hs2 : expS n tx (tEn n tx (tEn n tx e)) 11 with
      | inl q =>
        rw [hs2] at hp x3
        exact b_count x3 ⟨fun _ => b_v77 x3 (hp I3 J3 x3), fun _ => b_v77 x3 (hp I3 J3 x3)⟩
      | inr _ =>
        rw [hs2] at hp x3
        dsimp only at hp x3
        refine m_count (lo := 0) (hi := 12) hn he3 ht x3.1 (by decide) (by decide) (fun I4 J4 => ?_)
        cases hs3 : numS n tx (tEn n tx (tEn n tx (tEn n tx e))) 0 12 with
        | inl q =>
          rw [hs3] at hp
          exact fun f => ⟨fun _ => b_v77 f (hp I4 J4 f), fun _ => b_v77 f (hp I4 J4 f)⟩
        | inr m =>
          rw [hs3] at hp
          dsimp only at hp
          intro g4 _ _
          refine m_sign hn he4 ht g4 (fun I5 J5 x5 => ?_)
          cases hs4 : expS n tx (tEn n tx (tEn n tx (tEn n tx (tEn n tx e)))) 3 with
          | inl q =>
            rw [hs4] at hp x5
            exact ⟨fun z => absurd z (mB_p x5), fun _ => hp I5 J5 x5⟩
          | inr _ =>
            rw [hs4] at hp x5
            dsimp only at hp x5
            refine ⟨fun _ => ⟨vp_in_nI (by omega) (by decide), fun I6 e6 => ⟨vp_in_nI (by omega) (by decide), fun I7 e7 => hp I7 J5 ?_⟩⟩, fun z => absurd (by rw [x5.1.2.1]; exact Int32.le_refl _) z⟩
            rw [nI_clamp (by omega : v < 2 ^ 31)] at e6 e7
            rw [e7, e6]
            exact m_valw x5.1 (by omega)
    · rw [tb, if_pos rfl] at hp
      exact ⟨fun z => absurd z (by decide), fun _ => m_fail (k := 5) g1 (by omega) (fun I' f => b_v36 f (hp I' J1 f))⟩
/-! ties -/
theorem m_addTie (g : mG n tx I0 J0 e D I J) {a b o hr : Nat} (hT9 : nT D.1 < 10) {Post : HI → Prop} (hp : ∀ I', mG n tx I0 J0 e (addT D a b o hr) I' J → Post I') : w_X11_tie (nI a) (nI b) (nI o) (nI hr) I J Post := by
  obtain ⟨⟨a1, a2, a3, a4⟩, b', t, ⟨d1, d2, d3, d4, d5⟩⟩ := g
  have vT : vp_in (nI (nT D.1)) 10 := vp_in_nI hT9 (by decide)
  unfold w_X11_tie
  rw [d1.2]
  refine ⟨vT, fun I1 e1 => ?_⟩
  have f1 : I1 72 23 = nI (nT D.1) := by rw [e1, hI_ne (by decide)]; exact d1.2
  rw [f1]
  refine ⟨vT, fun I2 e2 => ?_⟩
  have f2 : I2 72 23 = nI (nT D.1) := by rw [e2, hI_ne (by decide)]; exact f1
  rw [f2]
  refine ⟨vT, fun I3 e3 => ?_⟩
  have f3 : I3 72 23 = nI (nT D.1) := by rw [e3, hI_ne (by decide)]; exact f2
  rw [f3]
  refine ⟨vT, fun I4 e4 I5 e5 => hp I5 ?_⟩
  have f4 : I4 72 23 = nI (nT D.1) := by rw [e4, hI_ne (by decide)]; exact f3
  rw [f4, nI_1] at e5
  rw [nI_clamp (by omega : nT D.1 < 2 ^ 31)] at e1 e2 e3 e4
  have oth : ∀ c, c ≠ 72 → ¬ (83 ≤ c ∧ c ≤ 86) → I5 c = I c := fun c h1 h2 => by rw [e5, hI_ne h1, e4, hI_ne (by omega), e3, hI_ne (by omega), e2, hI_ne (by omega), e1, hI_ne (by omega)]
  have i72 : ∀ k, k ≠ 23 → I5 72 k = I 72 k := fun k hk => by rw [e5, hI_at, if_neg hk, e4, hI_ne (by decide), e3, hI_ne (by decide), e2, hI_ne (by decide), e1, hI_ne (by decide)]
  refine ⟨⟨fun c h1 h2 h3 h4 h5 => ?_, fun k h1 h2 h3 => ?_, a3, a4⟩, ?_, ?_, ⟨⟨?_, ?_⟩, fun p hpp => ?_, fun s hs => ?_, fun u hu => ?_, d5⟩⟩
  · rw [oth c h1 h3]; exact a1 c h1 h2 h3 h4 h5
  · rw [i72 k h3]; exact a2 k h1 h2 h3
  · rw [i72 12 (by decide)]; exact b'
  · unfold mTok at t ⊢
    rw [i72 15 (by decide), i72 16 (by decide), i72 14 (by decide), i72 17 (by decide), i72 18 (by decide)]; exact t
  · rw [i72 22 (by decide)]; exact d1.1
  · show I5 72 23 = nI (nT D.1 + 1)
    rw [e5, hI_at, if_pos rfl]
  · rw [oth 78 (by decide) (by omega)]; exact d2 p hpp
  · have hs' : s < nT D.1 + 1 := hs
    show I5 83 s = nI (sN (nFr D.1) (nT D.1) a s) ∧ I5 84 s = nI (sN (nTo D.1) (nT D.1) b s) ∧ I5 85 s = nI (sN (nOd D.1) (nT D.1) o s) ∧ I5 86 s = nI (sN (nHr D.1) (nT D.1) hr s)
    have k1 : I5 83 s = if s = nT D.1 then nI a else I 83 s := by rw [e5, hI_ne (by decide), e4, hI_ne (by decide), e3, hI_ne (by decide), e2, hI_ne (by decide), e1, hI_at]
    have k2 : I5 84 s = if s = nT D.1 then nI b else I 84 s := by rw [e5, hI_ne (by decide), e4, hI_ne (by decide), e3, hI_ne (by decide), e2, hI_at, e1, hI_ne (by decide)]
    have k3 : I5 85 s = if s = nT D.1 then nI o else I 85 s := by rw [e5, hI_ne (by decide), e4, hI_ne (by decide), e3, hI_at, e2, hI_ne (by decide), e1, hI_ne (by decide)]
    have k4 : I5 86 s = if s = nT D.1 then nI hr else I 86 s := by rw [e5, hI_ne (by decide), e4, hI_at, e3, hI_ne (by decide), e2, hI_ne (by decide), e1, hI_ne (by decide)]
    rw [k1, k2, k3, k4]
    by_cases y : s = nT D.1
    · rw [if_pos y, if_pos y, if_pos y, if_pos y, y, sN_at, sN_at, sN_at, sN_at]; exact ⟨rfl, rfl, rfl, rfl⟩
    · rw [if_neg y, if_neg y, if_neg y, if_neg y, sN_ne y, sN_ne y, sN_ne y, sN_ne y]; exact d3 s (by omega)
  · rw [oth 88 (by decide) (by omega), oth 90 (by decide) (by omega)]; exact d4 u hu
theorem b_t288 (h : mB I0 J0 q I J) {x1 x2 x3 x4 x5 t : Int32} {Post : HI → HJ → Prop} (hp : Post I J) : wj_X11_readTie_288 I J x1 x2 x3 x4 x5 t Post := b_must h ⟨fun z => absurd z (mB_p h), fun _ => hp⟩
theorem b_tE (h : mB I0 J0 q I J) {x1 x2 x3 x4 x5 : Int32} {Post : HI → HJ → Prop} (hp : Post I J) : (¬ (I 72 14) = 3 → (wj_X11_readTie_288 I J x1 x2 x3 x4 x5 0 Post)) ∧ ((I 72 14) = 3 → (wj_X11_readTie_288 I J x1 x2 x3 x4 x5 1 Post)) := ⟨fun _ => b_t288 h hp, fun _ => b_t288 h hp⟩
theorem b_t118 (h : mB I0 J0 q I J) {x1 x2 : Int32} {Post : HI → HJ → Prop} (hp : Post I J) : wj_X11_readTie_118 I J x1 x2 Post := b_isOdds (fun _ => b_must h (b_count h ⟨1, ⟨fun _ => b_tE h hp, fun z => absurd z (mB_n h)⟩⟩))
theorem b_t107 (h : mB I0 J0 q I J) {x1 x2 : Int32} {Post : HI → HJ → Prop} (hp : Post I J) : wj_X11_readTie_107 I J x1 x2 Post := ⟨fun _ => b_t118 h hp, fun z => absurd z (mB_n h)⟩
theorem b_t81 (h : mB I0 J0 q I J) {x1 x2 : Int32} {Post : HI → HJ → Prop} (hp : Post I J) : wj_X11_readTie_81 I J x1 x2 Post := ⟨fun _ => b_t107 h hp, fun z => absurd z (mB_n h)⟩
theorem b_t47 (h : mB I0 J0 q I J) {x1 : Int32} {Post : HI → HJ → Prop} (hp : Post I J) : wj_X11_readTie_47 I J x1 Post := b_isTo (fun _ => b_must h (b_told h ⟨fun _ => b_t81 h hp, fun z => absurd z (mB_n h)⟩))
end
