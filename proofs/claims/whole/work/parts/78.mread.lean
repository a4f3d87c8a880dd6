def trI (I : HI) (J : HJ) (P : Nat) (tr : Nat → Nat) (w : Nat) : Prop := (∀ j, j < 5 → I 78 (5 * P + j) = nI (tr j)) ∧ J 89 P = lN w
section
variable {n : Nat} {tx : Nat → Nat} {I0 I : HI} {J0 J : HJ} {e w : Nat} {D : DT} {q : Nat × Nat} {tr : Nat → Nat}
theorem trI_of {I' : HI} {J' : HJ} {P : Nat} (h : trI I J P tr w) (h1 : ∀ k, I' 78 k = I 78 k) (h2 : J' 89 = J 89) : trI I' J' P tr w := ⟨fun j hj => (h1 _).trans (h.1 j hj), by rw [h2]; exact h.2⟩
theorem mB_w (h : mB I0 J0 q I J) {k : Nat} {v : Int32} : mB I0 J0 q (hI I 78 k v) J := by
  obtain ⟨⟨a1, a2, a3, a4⟩, b, c1, c2⟩ := h
  refine ⟨⟨fun c h1 h2 h3 h4 h5 => ?_, fun j h1 h2 h3 => ?_, a3, a4⟩, b, ?_, ?_⟩
  · rw [hI_ne h2]; exact a1 c h1 h2 h3 h4 h5
  · rw [hI_ne (by decide)]; exact a2 j h1 h2 h3
  · rw [hI_ne (by decide)]; exact c1
  · rw [hI_ne (by decide)]; exact c2
theorem m_trw (g : mG n tx I0 J0 e D I J) {k : Nat} (hk : 5 * nP D.1 ≤ k) {v : Int32} : mG n tx I0 J0 e D (hI I 78 k v) J := by
  obtain ⟨⟨a1, a2, a3, a4⟩, b, t, ⟨d1, d2, d3, d4, d5⟩⟩ := g
  have i72 : hI I 78 k v 72 = I 72 := hI_ne (by decide)
  refine ⟨⟨fun c h1 h2 h3 h4 h5 => ?_, fun j h1 h2 h3 => ?_, a3, a4⟩, by rw [i72]; exact b, ?_, ⟨by rw [i72]; exact d1, fun p hp => ?_, fun s hs => ?_, fun u hu => ?_, d5⟩⟩
  · rw [hI_ne h2]; exact a1 c h1 h2 h3 h4 h5
  · rw [i72]; exact a2 j h1 h2 h3
  · unfold mTok at t ⊢
    rw [i72]; exact t
  · have w0 : ∀ j, ¬ j = k → hI I 78 k v 78 j = I 78 j := fun j hj => by rw [hI_at, if_neg hj]
    rw [w0 (5 * p) (by omega), w0 (5 * p + 1) (by omega), w0 (5 * p + 2) (by omega), w0 (5 * p + 3) (by omega), w0 (5 * p + 4) (by omega)]; exact d2 p hp
  · rw [hI_ne (by decide), hI_ne (by decide), hI_ne (by decide), hI_ne (by decide)]; exact d3 s hs
  · rw [hI_ne (by decide), hI_ne (by decide)]; exact d4 u hu
theorem trI_w {P : Nat} (h : trI I J P tr w) {j v : Nat} (hj : j < 5) : trI (hI I 78 (5 * P + j) (nI v)) J P (sN tr j v) w := by
  refine ⟨fun i hi => ?_, h.2⟩
  rw [hI_at]
  by_cases y : i = j
  · rw [if_pos (by omega), y, sN_at]
  · rw [if_neg (by omega), sN_ne y]; exact h.1 i hi
theorem m_nm (g : mG n tx I0 J0 e D I J) {v : Int64} : mG n tx I0 J0 e D I (hJ J 89 (nP D.1) v) := by
  obtain ⟨⟨a1, a2, a3, a4⟩, b, t, ⟨d1, d2, d3, d4, d5⟩⟩ := g
  refine ⟨⟨a1, a2, fun c h1 h2 => ?_, fun k hk => ?_⟩, b, ?_, ⟨d1, d2, d3, d4, fun p hp => ?_⟩⟩
  · rw [hJ_ne h2]; exact a3 c h1 h2
  · rw [hJ_ne (by decide)]; exact a4 k hk
  · unfold mTok at t ⊢
    rw [hJ_ne (by decide)]; exact t
  · rw [hJ_at, if_neg (by omega)]; exact d5 p hp
theorem m_addP (g : mG n tx I0 J0 e D I J) (hD : okD D) (ht : okTr tr) (hi : trI I J (nP D.1) tr w) : mG n tx I0 J0 e (addP D tr w) (hI I 72 22 (nI (nP D.1 + 1))) J := by
  obtain ⟨⟨a1, a2, a3, a4⟩, b, t, ⟨d1, d2, d3, d4, d5⟩⟩ := g
  refine ⟨⟨fun c h1 h2 h3 h4 h5 => ?_, fun j h1 h2 h3 => ?_, a3, a4⟩, ?_, ?_, ⟨⟨?_, ?_⟩, fun p hp => ?_, fun s hs => ?_, fun u hu => ?_, fun p hp => ?_⟩⟩
  · rw [hI_ne h1]; exact a1 c h1 h2 h3 h4 h5
  · rw [hI_at, if_neg h2]; exact a2 j h1 h2 h3
  · rw [hI_at, if_neg (by decide)]; exact b
  · unfold mTok at t ⊢
    rw [hI_at, if_neg (by decide), hI_at, if_neg (by decide), hI_at, if_neg (by decide), hI_at, if_neg (by decide), hI_at, if_neg (by decide)]; exact t
  · rw [hI_at, if_pos rfl]; rfl
  · rw [hI_at, if_neg (by decide)]; exact d1.2
  · have hp' : p < nP D.1 + 1 := hp
    show hI I 72 22 _ 78 (5 * p) = nI (sN (nVl D.1) (nP D.1) (tr 0) p) ∧ hI I 72 22 _ 78 (5 * p + 1) = nI (sN (nNd D.1) (nP D.1) (tr 1) p) ∧ hI I 72 22 _ 78 (5 * p + 2) = nI (sN (nLt D.1) (nP D.1) (tr 2) p) ∧ hI I 72 22 _ 78 (5 * p + 3) = nI (if (nS D.1 ||| (if tr 3 = 1 then 2 ^ nP D.1 else 0)).testBit p = true then 1 else 0) ∧ hI I 72 22 _ 78 (5 * p + 4) = nI (sN (nCo D.1) (nP D.1) (tr 4) p)
    rw [hI_ne (by decide)]
    by_cases y : p = nP D.1
    · have tb : (nS D.1 ||| (if tr 3 = 1 then 2 ^ nP D.1 else 0)).testBit (nP D.1) = decide (tr 3 = 1) := by
        rw [Nat.testBit_or, mk_out hD.1.2.2.1 (Nat.le_refl _), Bool.false_or]
        by_cases z : tr 3 = 1
        · rw [if_pos z, Nat.testBit_two_pow_self, decide_eq_true z]
        · rw [if_neg z, Nat.zero_testBit, decide_eq_false z]
      rw [y, sN_at, sN_at, sN_at, sN_at, tb]
      refine ⟨hi.1 0 (by decide), hi.1 1 (by decide), hi.1 2 (by decide), ?_, hi.1 4 (by decide)⟩
      rw [hi.1 3 (by decide)]
      have t3 := ht.2.2.2.1
      by_cases z : tr 3 = 1
      · rw [decide_eq_true z, if_pos rfl, z]
      · rw [decide_eq_false z, if_neg (by decide), show tr 3 = 0 by omega]
    · have tb : (nS D.1 ||| (if tr 3 = 1 then 2 ^ nP D.1 else 0)).testBit p = (nS D.1).testBit p := by
        rw [Nat.testBit_or]
        by_cases z : tr 3 = 1
        · rw [if_pos z, Nat.testBit_two_pow, decide_eq_false (fun q => y q.symm), Bool.or_false]
        · rw [if_neg z, Nat.zero_testBit, Bool.or_false]
      rw [sN_ne y, sN_ne y, sN_ne y, sN_ne y, tb]
      exact d2 p (by omega)
  · show hI I 72 22 _ 83 s = nI (nFr D.1 s) ∧ hI I 72 22 _ 84 s = nI (nTo D.1 s) ∧ hI I 72 22 _ 85 s = nI (nOd D.1 s) ∧ hI I 72 22 _ 86 s = nI (nHr D.1 s)
    rw [hI_ne (by decide), hI_ne (by decide), hI_ne (by decide), hI_ne (by decide)]; exact d3 s hs
  · show hI I 72 22 _ 88 u = nI (nMo D.1 u) ∧ hI I 72 22 _ 90 u = _
    rw [hI_ne (by decide), hI_ne (by decide)]; exact d4 u hu
  · have hp' : p < nP D.1 + 1 := hp
    show J 89 p = lN (sN D.2.1 (nP D.1) w p)
    by_cases y : p = nP D.1
    · rw [y, sN_at]; exact hi.2
    · rw [sN_ne y]; exact d5 p (by omega)
theorem n5 (p j : Nat) : (5 : Int32) * nI p + nI j = nI (5 * p + j) := nI5
theorem n50 (p : Nat) : (5 : Int32) * nI p = nI (5 * p) := by rw [show (5 : Int32) = nI 5 from rfl, pk_mul]
/-- one trait -/
theorem m_183 (hn : n ≤ 600) (he : e ≤ n) (ht : mTx I0 n tx) (g : mG n tx I0 J0 e D I J) (hi : trI I J (nP D.1) tr w) (hP : nP D.1 < 12) (hk : 12 ≤ tKd n tx e ∧ tKd n tx e ≤ 16) {h : Nat} {E : HI → HJ → Prop} {K : Int32 × HI × HJ → Prop} {Post : HI → HJ → Prop} (h15 : tKd n tx e = 15 → ∀ I' J', mG n tx I0 J0 (tEn n tx e) D I' J' → trI I' J' (nP D.1) (sN tr 3 1) w → K (nI h ||| (1 <<< (nI (tKd n tx e - 12) &&& 31)), I', J')) (hno : ¬ tKd n tx e = 15 → (∀ q, numS n tx (tEn n tx e) (tLo (tKd n tx e)) (tHi (tKd n tx e)) = .inl q → ∀ r I' J', mB I0 J0 q I' J' → K (r, I', J')) ∧ ∀ v, numS n tx (tEn n tx e) (tLo (tKd n tx e)) (tHi (tKd n tx e)) = .inr v → ∀ I' J', mG n tx I0 J0 (tEn n tx (tEn n tx e)) D I' J' → trI I' J' (nP D.1) (sN tr (tKd n tx e - 12) v) w → K (nI h ||| (1 <<< (nI (tKd n tx e - 12) &&& 31)), I', J')) : wj_X11_readPerson_183 I J (nI (nP D.1)) (nI h) (nI (tKd n tx e - 12)) E K Post := by
  have h1 := (en_ok (tx := tx) hn he).1
  refine ⟨fun _ => m_next hn he ht g (fun I2 J2 g2 q1 q2 => ?_), fun z => absurd (by rw [g.2.1]; exact Int32.le_refl _) z⟩
  have i2 := trI_of hi q1 q2
  have ks : tKd n tx e = 12 ∨ tKd n tx e = 13 ∨ tKd n tx e = 14 ∨ tKd n tx e = 15 ∨ tKd n tx e = 16 := by omega
  rcases ks with k | k | k | k | k
  · rw [k] at h15 hno ⊢
    rw [show 12 - 12 = 0 from rfl] at h15 hno ⊢
    have n5j := n5 (nP D.1) 0
    have vk : vp_in (nI (5 * nP D.1 + 0)) 60 := vp_in_nI (by omega) (by decide)
    obtain ⟨hno1, hno2⟩ := hno (by decide)
    rw [show tLo 12 = 0 from rfl, show tHi 12 = 3 from rfl] at hno1 hno2
    refine ⟨fun _ => ⟨fun z => absurd rfl z, fun _ => m_count (lo := 0) (hi := 3) hn h1 ht g2 (by decide) (by decide) (fun I5 J6 => ?_)⟩, fun z => absurd z (by decide)⟩
    cases hs : numS n tx (tEn n tx e) 0 3 with
    | inl q =>
      intro f
      rw [n5j]
      refine ⟨vk, fun I7 e7 => hno1 q hs _ I7 J6 ?_⟩
      rw [e7]; exact mB_w f
    | inr v =>
      intro g5 r1 r2
      rw [n5j]
      refine ⟨vk, fun I7 e7 => hno2 v hs I7 J6 ?_ ?_⟩
      · rw [e7, nI_clamp (by omega)]; exact m_trw g5 (by omega)
      · rw [e7, nI_clamp (by omega)]; exact trI_w (trI_of i2 r1 r2) (by decide)
  · rw [k] at h15 hno ⊢
    rw [show 13 - 12 = 1 from rfl] at h15 hno ⊢
    have n5j := n5 (nP D.1) 1
    have vk : vp_in (nI (5 * nP D.1 + 1)) 60 := vp_in_nI (by omega) (by decide)
    obtain ⟨hno1, hno2⟩ := hno (by decide)
    rw [show tLo 13 = 1 from rfl, show tHi 13 = 3 from rfl] at hno1 hno2
    refine ⟨fun _ => ⟨fun _ => ⟨fun z => absurd rfl z, fun _ => m_count (lo := 1) (hi := 3) hn h1 ht g2 (by decide) (by decide) (fun I5 J6 => ?_)⟩, fun z => absurd z (by decide)⟩, fun z => absurd z (by decide)⟩
    cases hs : numS n tx (tEn n tx e) 1 3 with
    | inl q =>
      intro f
      rw [n5j]
      refine ⟨vk, fun I7 e7 => hno1 q hs _ I7 J6 ?_⟩
      rw [e7]; exact mB_w f
    | inr v =>
      intro g5 r1 r2
      rw [n5j]
      refine ⟨vk, fun I7 e7 => hno2 v hs I7 J6 ?_ ?_⟩
      · rw [e7, nI_clamp (by omega)]; exact m_trw g5 (by omega)
      · rw [e7, nI_clamp (by omega)]; exact trI_w (trI_of i2 r1 r2) (by decide)
  · rw [k] at h15 hno ⊢
    rw [show 14 - 12 = 2 from rfl] at h15 hno ⊢
    have n5j := n5 (nP D.1) 2
    have vk : vp_in (nI (5 * nP D.1 + 2)) 60 := vp_in_nI (by omega) (by decide)
    obtain ⟨hno1, hno2⟩ := hno (by decide)
    rw [show tLo 14 = 0 from rfl, show tHi 14 = 5 from rfl] at hno1 hno2
    refine ⟨fun _ => ⟨fun _ => ⟨fun _ => ⟨fun z => absurd rfl z, fun _ => m_count (lo := 0) (hi := 5) hn h1 ht g2 (by decide) (by decide) (fun I5 J6 => ?_)⟩, fun z => absurd z (by decide)⟩, fun z => absurd z (by decide)⟩, fun z => absurd z (by decide)⟩
    cases hs : numS n tx (tEn n tx e) 0 5 with
    | inl q =>
      intro f
      rw [n5j]
      refine ⟨vk, fun I7 e7 => hno1 q hs _ I7 J6 ?_⟩
      rw [e7]; exact mB_w f
    | inr v =>
      intro g5 r1 r2
      rw [n5j]
      refine ⟨vk, fun I7 e7 => hno2 v hs I7 J6 ?_ ?_⟩
      · rw [e7, nI_clamp (by omega)]; exact m_trw g5 (by omega)
      · rw [e7, nI_clamp (by omega)]; exact trI_w (trI_of i2 r1 r2) (by decide)
  · rw [k] at h15 hno ⊢
    rw [show 15 - 12 = 3 from rfl] at h15 hno ⊢
    have n5j := n5 (nP D.1) 3
    have vk : vp_in (nI (5 * nP D.1 + 3)) 60 := vp_in_nI (by omega) (by decide)
    refine ⟨fun z => absurd rfl z, fun _ => ?_⟩
    rw [n5j]
    refine ⟨vk, fun I3 e3 => h15 rfl I3 J2 ?_ ?_⟩
    · rw [e3, nI_clamp (by omega)]
      exact m_trw g2 (by omega)
    · rw [e3, nI_clamp (by omega)]
      exact trI_w i2 (by decide)
  · rw [k] at h15 hno ⊢
    rw [show 16 - 12 = 4 from rfl] at h15 hno ⊢
    have n5j := n5 (nP D.1) 4
    have vk : vp_in (nI (5 * nP D.1 + 4)) 60 := vp_in_nI (by omega) (by decide)
    obtain ⟨hno1, hno2⟩ := hno (by decide)
    rw [show tLo 16 = 0 from rfl, show tHi 16 = 99 from rfl] at hno1 hno2
    refine ⟨fun _ => ⟨fun _ => ⟨fun _ => ⟨fun _ => m_count (lo := 0) (hi := 99) hn h1 ht g2 (by decide) (by decide) (fun I5 J6 => ?_), fun z => absurd z (by decide)⟩, fun z => absurd z (by decide)⟩, fun z => absurd z (by decide)⟩, fun z => absurd z (by decide)⟩
    cases hs : numS n tx (tEn n tx e) 0 99 with
    | inl q =>
      intro f
      rw [n5j]
      refine ⟨vk, fun I7 e7 => hno1 q hs _ I7 J6 ?_⟩
      rw [e7]; exact mB_w f
    | inr v =>
      intro g5 r1 r2
      rw [n5j]
      refine ⟨vk, fun I7 e7 => hno2 v hs I7 J6 ?_ ?_⟩
      · rw [e7, nI_clamp (by omega)]; exact m_trw g5 (by omega)
      · rw [e7, nI_clamp (by omega)]; exact trI_w (trI_of i2 r1 r2) (by decide)
theorem b_285 (h : mB I0 J0 q I J) {x : Int32} {Post : HI → HJ → Prop} (hp : Post I J) : wj_X11_readPerson_285 I J x Post := b_must h ⟨fun _ => hp, fun z => absurd z (mB_n h)⟩
theorem b_pE (h : mB I0 J0 q I J) {Post : HI → HJ → Prop} (hp : Post I J) : (¬ (I 72 14) = 3 → (wj_X11_readPerson_285 I J 0 Post)) ∧ ((I 72 14) = 3 → (wj_X11_readPerson_285 I J 1 Post)) := ⟨fun _ => b_285 h hp, fun _ => b_285 h hp⟩
theorem h5b : ∀ h, h < 32 → ∀ j, j < 5 → nI h ||| (1 <<< (nI j &&& 31)) = nI (h ||| 2 ^ j) := by decide +kernel
theorem m_traits (hn : n ≤ 600) (he : e ≤ n) (ht : mTx I0 n tx) (g : mG n tx I0 J0 e D I J) (hi : trI I J (nP D.1) td0 w) (hD : okD D) (hP : nP D.1 < 12) {Post : HI → HJ → Prop} (hp : ∀ I' J', mR n tx I0 J0 (match rn (trS n tx) (.inl (0, 0)) 700 (e, 0, td0) with | .inl q => .inl q | .inr x => match expS n tx x.1 3 with | .inl q => .inl q | .inr _ => .inr (tEn n tx x.1, addP D x.2 w)) I' J' → Post I' J') : ∃ n, lp (wb_X11_readPerson_146 (nI (nP D.1)) Post (fun (I_34 : HI) (J_35 : HJ) => (¬ (I_34 72 14) = 3 → (wj_X11_readPerson_285 I_34 J_35 0 Post)) ∧ ((I_34 72 14) = 3 → (wj_X11_readPerson_285 I_34 J_35 1 Post)))) n (0, I, J) := by
  generalize hR : rn (trS n tx) (.inl (0, 0)) 700 (e, 0, td0) = R0 at hp
  generalize hM : (700 : Nat) = M at hR
  have hpq : ∀ q, R0 = .inl q → ∀ I' J', mB I0 J0 q I' J' → Post I' J' := fun q eq I' J' f => hp I' J' (by rw [eq]; exact f)
  refine lp_rn (f := trS n tx) (d := .inl (0, 0)) (R0 := R0) (fun s : TS => n - s.1) (fun (s : TS) (x : Int32 × HI × HJ) => s.1 ≤ n ∧ okTr s.2.2 ∧ s.2.1 < 32 ∧ x.1 = nI s.2.1 ∧ mG n tx I0 J0 s.1 D x.2.1 x.2.2 ∧ trI x.2.1 x.2.2 (nP D.1) s.2.2 w) (fun x => ∃ q, mB I0 J0 q x.2.1 x.2.2 ∧ Post x.2.1 x.2.2) (fun x hx K => ?_) (fun s x s' hq hf => ?_) (fun s x hq hf K hK => ?_) M (e, 0, td0) (0, I, J) (by show n - e < M; omega) hR ⟨he, okTr_0, by show 0 < 32; decide, rfl, g, hi⟩
  · obtain ⟨x2, I1, J1⟩ := x
    obtain ⟨q, f, po⟩ := hx
    exact ⟨fun _ => b_pE f po, fun z => absurd z (mB_n f)⟩
  · obtain ⟨x2, I1, J1⟩ := x
    obtain ⟨e1, hh, tr⟩ := s
    obtain ⟨he1, l1, l2, v2, g1, i1⟩ := hq
    dsimp only at he1 l1 l2 v2 g1 i1
    subst v2
    obtain ⟨s1, s2, s3, s4, s5, s6, s7⟩ := trS_s hn ⟨he1, l1⟩ hf
    dsimp only at s2 s4 s5 s6 s7
    obtain ⟨m1, m2, m3⟩ := h32 hh l2 (tKd n tx e1 - 12) (by omega)
    have m4 := h5b hh l2 (tKd n tx e1 - 12) (by omega)
    refine ⟨by show n - s'.1 < n - e1; omega, fun K hK => ⟨fun z => absurd g1.2.1 z, fun _ => m_trait hn he1 g1.2.2.1 ?_⟩⟩
    rw [if_pos s4]
    refine ⟨fun z => absurd z (nI_pos (by omega)), fun _ => m_trait hn he1 g1.2.2.1 ?_⟩
    rw [if_pos s4, nb_bit1 (by omega) (by omega)]
    refine ⟨fun _ => m_183 hn he1 ht g1 i1 hP s4 (fun k15 I' J' g' i' => ?_) (fun k15 => ⟨fun q hq => ?_, fun v hv I' J' g' i' => ?_⟩), fun z => (by rw [s5] at z; cases z)⟩
    · rcases s7 with ⟨k1, k2, k3⟩ | ⟨k1, -⟩
      · rw [m4]
        exact hK _ ⟨s1, s3, by rw [s6]; exact m3, by rw [s6], by rw [k2]; exact g', by rw [k3]; exact i'⟩
      · exact absurd k15 k1
    · rcases s7 with ⟨k1, -⟩ | ⟨-, -, v, k3, -⟩
      · exact absurd k1 k15
      · rw [hq] at k3; cases k3
    · rcases s7 with ⟨k1, -⟩ | ⟨k1, k2, v', k3, k4⟩
      · exact absurd k1 k15
      · rw [hv] at k3
        cases k3
        rw [m4]
        exact hK _ ⟨s1, s3, by rw [s6]; exact m3, by rw [s6], by rw [k2]; exact g', by rw [k4]; exact i'⟩
  · obtain ⟨x2, I1, J1⟩ := x
    obtain ⟨e1, hh, tr⟩ := s
    obtain ⟨he1, l1, l2, v2, g1, i1⟩ := hq
    dsimp only at he1 l1 l2 v2 g1 i1
    subst v2
    have es := trS_e hf
    dsimp only at es
    by_cases ck : 12 ≤ tKd n tx e1 ∧ tKd n tx e1 ≤ 16
    · refine ⟨fun z => absurd g1.2.1 z, fun _ => m_trait hn he1 g1.2.2.1 ?_⟩
      rw [if_pos ck]
      refine ⟨fun z => absurd z (nI_pos (by omega)), fun _ => m_trait hn he1 g1.2.2.1 ?_⟩
      rw [if_pos ck, nb_bit1 (by omega) (by omega)]
      rcases es with ⟨z, -⟩ | ⟨-, tb, er⟩ | ⟨-, tb, k15, q, k3, er⟩
      · exact absurd ck z
      · exact ⟨fun z => absurd tb z, fun _ => m_fail (k := 5) g1 (by omega) (fun I' f => ⟨fun z => absurd z (mB_p f), fun _ => hpq _ er I' J1 f⟩)⟩
      · refine ⟨fun _ => m_183 hn he1 ht g1 i1 hP ck (fun z => absurd z k15) (fun _ => ⟨fun q' hq r I' J' f => ?_, fun v hv => ?_⟩), fun z => (by rw [tb] at z; cases z)⟩
        · rw [k3] at hq
          cases hq
          exact hK _ ⟨q, f, hpq q er I' J' f⟩
        · rw [k3] at hv; cases hv
    · rcases es with ⟨-, er⟩ | ⟨z, -⟩ | ⟨z, -⟩
      · rw [er] at hp
        dsimp only at hp
        have fin : (¬ (I1 72 14) = 3 → (wj_X11_readPerson_285 I1 J1 0 Post)) ∧ ((I1 72 14) = 3 → (wj_X11_readPerson_285 I1 J1 1 Post)) := by
          refine m_sign hn he1 ht g1 (fun I2 J2 x2 => ?_)
          cases hx : expS n tx e1 3 with
          | inl q =>
            rw [hx] at x2 hp
            exact ⟨fun _ => hp I2 J2 x2, fun z => absurd z (mB_n x2)⟩
          | inr _ =>
            rw [hx] at x2 hp
            dsimp only at x2 hp
            refine ⟨fun z => absurd x2.1.2.1 z, fun _ I3 e3 => hp I3 J2 ?_⟩
            rw [x2.1.2.2.2.1.1, nI_1] at e3
            rw [e3]
            exact m_addP x2.1 hD l1 (trI_of i1 x2.2.1 x2.2.2)
        refine ⟨fun _ => fin, fun _ => m_trait hn he1 g1.2.2.1 ?_⟩
        rw [if_neg ck]
        exact ⟨fun _ => fin, fun z => absurd (by decide) z⟩
      · exact absurd z ck
      · exact absurd z ck
theorem b_p64 (h : mB I0 J0 q I J) {Post : HI → HJ → Prop} (hp : Post I J) : wj_X11_readPerson_64 I J Post := ⟨fun z => absurd z (mB_p h), fun _ => hp⟩
theorem b_p38 (h : mB I0 J0 q I J) {Post : HI → HJ → Prop} (hp : Post I J) : wj_X11_readPerson_38 I J Post := ⟨fun _ => b_p64 h hp, fun z => absurd z (mB_n h)⟩
theorem b_p15 (h : mB I0 J0 q I J) {Post : HI → HJ → Prop} (hp : Post I J) : wj_X11_readPerson_15 I J Post := ⟨fun _ => b_p38 h hp, fun z => absurd z (mB_n h)⟩
theorem m_person (hn : n ≤ 600) (he : e ≤ n) (ht : mTx I0 n tx) (g : mG n tx I0 J0 e D I J) (hD : okD D) {Post : HI → HJ → Prop} (hp : ∀ I' J', mR n tx I0 J0 (spP n tx e D) I' J' → Post I' J') : w_X11_readPerson I J Post := by
  have hP := hD.1.1
  have h1 := (en_ok (tx := tx) hn he).1
  have h2 := (en_ok (tx := tx) hn h1).1
  refine m_next hn he ht g (fun I1 J1 g1 _ _ => m_isName hn h1 g1.2.2.1 ⟨fun b => ?_, fun b => m_wrong g1 (fun I' f => b_p15 f (hp I' J1 ?_))⟩)
  · have b := of_decide_eq_true b
    unfold spP at hp
    rw [if_neg (by omega)] at hp
    refine ⟨fun z => absurd g1.2.1 z, fun _ => m_named hn h1 g1 hD (by omega) ?_⟩
    by_cases c2 : fnd D.2.1 (tWd n tx (tEn n tx e)) (nP D.1) < nP D.1
    · rw [if_pos c2] at hp ⊢
      exact ⟨fun z => absurd z (nI_pos (by omega)), fun _ => m_fail (k := 3) g1 (by omega) (fun I' f => b_p38 f (hp I' J1 f))⟩
    · rw [if_neg c2] at hp ⊢
      refine ⟨fun _ => ⟨fun z => absurd g1.2.1 z, fun _ => ?_⟩, fun z => absurd (by decide) z⟩
      rw [g1.2.2.2.1.1, show (12 : Int32) = nI 12 from rfl, nI_eq (by omega) (by decide)]
      refine ⟨fun c3 => ?_, fun c3 => ?_⟩
      · rw [if_neg c3] at hp
        have vP : vp_in (nI (nP D.1)) 12 := vp_in_nI (by omega) (by decide)
        unfold wj_X11_readPerson_64
        have e22 := g1.2.2.2.1.1
        rw [e22, n50, show (1 : Int32) = nI 1 from rfl, show (2 : Int32) = nI 2 from rfl, show (3 : Int32) = nI 3 from rfl, show (4 : Int32) = nI 4 from rfl, nI_add, nI_add, nI_add, nI_add, nI_clamp (by omega : nP D.1 < 2 ^ 31), nI_clamp (by omega : 5 * nP D.1 < 2 ^ 31), nI_clamp (by omega : 5 * nP D.1 + 1 < 2 ^ 31), nI_clamp (by omega : 5 * nP D.1 + 2 < 2 ^ 31), nI_clamp (by omega : 5 * nP D.1 + 3 < 2 ^ 31), nI_clamp (by omega : 5 * nP D.1 + 4 < 2 ^ 31)]
        refine ⟨fun _ => ⟨vP, fun J4 ej => ⟨vp_in_nI (by omega) (by decide), fun I5 e5 => ⟨vp_in_nI (by omega) (by decide), fun I6 e6 => ⟨vp_in_nI (by omega) (by decide), fun I7 e7 => ⟨vp_in_nI (by omega) (by decide), fun I8 e8 => ⟨vp_in_nI (by omega) (by decide), fun I9 e9 => ?_⟩⟩⟩⟩⟩⟩, fun z => absurd (by rw [g1.2.1]; exact Int32.le_refl _) z⟩
        have wd := g1.2.2.1.2.2.2.2.2.2 (by omega)
        have g9 : mG n tx I0 J0 (tEn n tx e) D I9 J4 := by
          rw [e9, e8, e7, e6, e5, ej]
          exact m_nm (m_trw (m_trw (m_trw (m_trw (m_trw g1 (by omega)) (by omega)) (by omega)) (by omega)) (by omega))
        have i9 : trI I9 J4 (nP D.1) td0 (tWd n tx (tEn n tx e)) := by
          refine ⟨fun j hj => ?_, ?_⟩
          · have js : j = 0 ∨ j = 1 ∨ j = 2 ∨ j = 3 ∨ j = 4 := by omega
            rcases js with rfl | rfl | rfl | rfl | rfl
            · rw [e9, hI_at, if_neg (by omega), e8, hI_at, if_neg (by omega), e7, hI_at, if_neg (by omega), e6, hI_at, if_neg (by omega), e5, hI_at, if_pos (by omega)]; rfl
            · rw [e9, hI_at, if_neg (by omega), e8, hI_at, if_neg (by omega), e7, hI_at, if_neg (by omega), e6, hI_at, if_pos rfl]; rfl
            · rw [e9, hI_at, if_neg (by omega), e8, hI_at, if_neg (by omega), e7, hI_at, if_pos rfl]; rfl
            · rw [e9, hI_at, if_neg (by omega), e8, hI_at, if_pos rfl]; rfl
            · rw [e9, hI_at, if_pos rfl]; rfl
          · rw [ej, hJ_at, if_pos rfl]; exact wd
        exact m_next hn h1 ht g9 (fun I10 J11 g10 q1 q2 => m_traits hn h2 ht g10 (trI_of i9 q1 q2) hD (by omega) hp)
      · rw [if_pos c3] at hp
        exact m_fail (k := 6) g1 (by omega) (fun I' f => b_p64 f (hp I' J1 f))
  · unfold spP
    rw [if_pos (of_decide_eq_false b)]
    exact f
end
