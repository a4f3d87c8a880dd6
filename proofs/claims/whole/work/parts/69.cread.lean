section
variable {n : Nat} {tx : Nat → Nat} {I0 I : HI} {J0 J : HJ} {e : Nat} {D : DT} {q : Nat × Nat}
theorem wk_r (k : Nat) : 1 ≤ wk k ∧ wk k ≤ 6 := by unfold wk; split <;> omega
theorem numS_v {lo hi v : Nat} (h : numS n tx e lo hi = .inr v) : lo ≤ v ∧ v ≤ hi := by
  unfold numS at h
  split at h
  · cases h
  · split at h
    · cases h
    · rename_i c
      cases h
      exact Classical.not_not.mp c
theorem namS_v {p : Nat} (h : namS n tx e D = .inr p) : p < nP D.1 := by
  unfold namS at h
  split at h
  · cases h
  · split at h
    · rename_i c
      cases h
      exact c
    · cases h
/-! writes into the draft -/
theorem cF_w (h : cF I0 J0 q I J) {c k : Nat} {v : Int32} (hc : 24 ≤ c ∧ c ≤ 35) (hk : ¬ (c = 24 ∧ k = 11)) : cF I0 J0 q (hI I c k v) J := by
  obtain ⟨⟨a1, a2⟩, b, c1, c2, P, hP, e24⟩ := h
  refine ⟨⟨fun d hd => ?_, a2⟩, b, ?_, ?_, P, hP, ?_⟩
  · rw [hI_ne (by omega)]; exact a1 d hd
  · rw [hI_ne (by omega)]; exact c1
  · rw [hI_ne (by omega)]; exact c2
  · by_cases y : c = 24
    · subst y; rw [hI_at, if_neg (fun z => hk ⟨rfl, z.symm⟩)]; exact e24
    · rw [hI_ne (fun z => y z.symm)]; exact e24
theorem c_valw (h : cG n tx I0 J0 e D I J) {v m : Nat} (hv : v < 4) : cG n tx I0 J0 e (addV D v m) (hI (hI I 36 10 (I 36 10 ||| nI (2 ^ v))) 35 v (nI m)) J := by
  obtain ⟨⟨a1, a2⟩, b, ⟨c1, c2⟩, ⟨d1, d2, d3, d4, d5⟩, ⟨g1, g2, g3⟩⟩ := h
  have i36 : ∀ k, k ≠ 10 → hI (hI I 36 10 (I 36 10 ||| nI (2 ^ v))) 35 v (nI m) 36 k = I 36 k := fun k hk => by rw [hI_ne (by decide), hI_at, if_neg hk]
  refine ⟨⟨fun c hc => ?_, a2⟩, ?_, ⟨?_, ?_⟩, ⟨?_, ?_, ?_, fun z => ?_, d5⟩, ⟨⟨?_, fun p hp => ?_, fun t ht => ?_, fun w hw => ?_⟩, g2, ?_⟩⟩
  · rw [hI_ne (by omega), hI_ne (by omega)]; exact a1 c hc
  · rw [i36 4 (by decide)]; exact b
  · rw [i36 11 (by decide)]; exact c1
  · rw [i36 12 (by decide)]; exact c2
  · rw [i36 5 (by decide)]; exact d1
  · rw [i36 6 (by decide)]; exact d2
  · rw [i36 7 (by decide)]; exact d3
  · rw [i36 8 (by decide)]; exact d4 z
  · exact g1.1
  · exact g1.2.1 p hp
  · exact g1.2.2.1 t ht
  · show hI (hI I 36 10 (I 36 10 ||| nI (2 ^ v))) 35 v (nI m) 35 w = nI (sN (nMo D.1) v m w)
    rw [hI_at]
    by_cases y : w = v
    · rw [if_pos y, y, sN_at]
    · rw [if_neg y, sN_ne y]; exact g1.2.2.2 w hw
  · show hI (hI I 36 10 (I 36 10 ||| nI (2 ^ v))) 35 v (nI m) 36 10 = nI (D.2.2 ||| 2 ^ v)
    rw [hI_ne (by decide), hI_at, if_pos rfl, g3, nb_or]
theorem c_valley (hn : n ≤ 600) (he : e ≤ n) (ht : cTx I0 n tx) (hw : rdW J0) (h : cG n tx I0 J0 e D I J) (hD : okD D) {Post : HI → HJ → Prop} (hp : ∀ I' J', cR n tx I0 J0 (spV n tx e D) I' J' → Post I' J') : w_X5_readValley I J (fun I1 J1 => w_X5_pass 3 I1 J1 Post) := by
  have hP := hD.1.1
  have he1 := (tk_ok (tx := tx) hn he).2.2.1
  have he2 := (tk_ok (tx := tx) hn he1).2.2.1
  have he3 := (tk_ok (tx := tx) hn he2).2.2.1
  have he4 := (tk_ok (tx := tx) hn he3).2.2.1
  refine c_adv hn he ht hw h hP (fun I1 J1 x1 => x_sound (lo := 0) (hi := 3) hn he1 x1 hP (by decide) (by decide) ?_)
  unfold spV at hp
  cases hs : numS n tx (tEn n tx e) 0 3 with
  | inl q =>
    rw [hs] at hp
    try dsimp only at hp
    exact fun I' f => f_goes f ⟨fun _ => f_v34 f (f_pass f (hp I' J1 f)), fun z => (by cases z)⟩
  | inr v =>
    rw [hs] at hp
    try dsimp only at hp
    intro g1
    have hv := numS_v hs
    refine c_goes g1 ⟨fun z => (by cases z), fun _ => ?_⟩
    rw [g1.2.2.2.2.2.2]
    have t16 := hD.2.2
    refine q_has (by omega) (by omega) ⟨fun b => ?_, fun b => c_fail (k := 5) g1 hP (by omega) (fun I' f => f_v34 f (f_pass f (hp I' J1 (by rw [if_pos b]; exact f))))⟩
    rw [if_neg (by rw [b]; decide)] at hp
    refine c_adv hn he1 ht hw g1 hP (fun I2 J2 x2 => x_pass (k := 11) hn he2 ht hw x2 hP (by decide) (by decide) (fun I3 J3 x3 => ?_))
    unfold spV2 at hp
    cases hs2 : expS n tx (tEn n tx (tEn n tx e)) 11 with
    | inl q =>
      rw [hs2] at hp x3
      try dsimp only at hp
      exact f_num x3 (f_goes x3 ⟨fun _ => f_pass x3 (hp I3 J3 x3), fun z => (by cases z)⟩)
    | inr _ =>
      rw [hs2] at hp x3
      try dsimp only at hp
      refine x_num (lo := 0) (hi := 12) hn he3 ht hw x3 hP (by decide) (by decide) (fun I4 J4 => ?_)
      cases hs3 : numS n tx (tEn n tx (tEn n tx (tEn n tx e))) 0 12 with
      | inl q =>
        rw [hs3] at hp
        try dsimp only at hp
        exact fun f => f_goes f ⟨fun _ => f_pass f (hp I4 J4 f), fun z => (by cases z)⟩
      | inr m =>
        rw [hs3] at hp
        try dsimp only at hp
        intro x4
        have hm := numS_v hs3
        have last : ∀ I5 : HI, cX n tx I0 J0 (tEn n tx (tEn n tx (tEn n tx (tEn n tx e)))) (addV D v m) I5 J4 → w_X5_pass 3 I5 J4 Post := fun I5 x5 => x_pass (k := 3) hn he4 ht hw x5 hP (by decide) (by decide) (fun I6 J6 x6 => hp I6 J6 (by
          cases hs4 : expS n tx (tEn n tx (tEn n tx (tEn n tx (tEn n tx e)))) 3 with
          | inl q => rw [hs4] at x6; exact x6
          | inr _ => rw [hs4] at x6; exact x6))
        by_cases c : tKd n tx (tEn n tx (tEn n tx (tEn n tx (tEn n tx e)))) = 1
        · have f := x4.1 c
          exact f_goes f ⟨fun _ => last I4 ⟨fun _ => f, fun z => absurd c z⟩, fun z => (by cases z)⟩
        · have g := x4.2 c
          refine c_goes g ⟨fun z => (by cases z), fun _ I5 e5 => ⟨vp_in_nI (by omega) (by omega), fun I6 e6 => last I6 ⟨fun z => absurd z c, fun _ => ?_⟩⟩⟩
          rw [e6, e5, nb_one v (by omega), nI_clamp (by omega : v < 2 ^ 31)]
          exact c_valw g (by omega)
theorem c_room (h : cG n tx I0 J0 e D I J) (hD : okD D) {k : Nat} (hk : k ≤ 2) {Post : Bool → Prop} (hp : Post (decide (nT D.1 + k ≤ 10))) : w_X4_hasRoomForTies (nI k) I J Post := by
  have hT := hD.1.2.1
  have e12 : I 24 12 = nI (nT D.1) := h.2.2.2.2.1.1.2.1
  unfold w_X4_hasRoomForTies
  rw [e12, nI_add, show (10 : Int32) = nI 10 from rfl, nI_ltI (by omega) (by omega)]
  refine ⟨fun c => ?_, fun c => ?_⟩
  · rw [decide_eq_false (by omega)] at hp; exact hp
  · rw [decide_eq_true (by omega)] at hp; exact hp
theorem c_isP (h : cG n tx I0 J0 e D I J) (hD : okD D) {a : Nat} (ha : a < nP D.1) {Post : Bool → Prop} (hp : Post true) : w_X4_isPerson_24 (nI a) I J Post := by
  have hP := hD.1.1
  have e24 : I 24 11 = nI (nP D.1) := h.2.2.2.2.1.1.1
  unfold w_X4_isPerson_24
  rw [e24]
  exact ⟨fun c => absurd c (nI_pos (by omega)), fun _ => ⟨fun c => absurd c (nI_ge ha (by omega)), fun _ => hp⟩⟩
theorem ou_in (N : NT) (a b : Nat) : ouM N a &&& inM N b = mk (fun t => decide (nFr N t = a) && decide (nTo N t = b)) (nT N) := by
  unfold ouM inM
  rw [mk_and]
theorem thr_0 (N : NT) (a b : Nat) : ouM N a &&& inM N b = 0 ↔ thr N a b = false := by
  rw [ou_in]
  unfold thr
  constructor
  · intro z
    have := mk_inj (z.trans (mk_0 (nT N)).symm)
    rw [cnt_false this]
    exact decide_eq_false (Nat.lt_irrefl 0)
  · intro z
    have := of_decide_eq_false z
    exact mk_none (cnt_no (by omega))
theorem c_hasTie (h : cG n tx I0 J0 e D I J) (hD : okD D) {a b : Nat} (ha : a < nP D.1) (hb : b < nP D.1) {Post : Bool → Prop} (hp : Post (thr D.1 a b)) : w_X4_hasTie (nI a) (nI b) I J Post := by
  have hP := hD.1.1
  have hT := hD.1.2.1
  have ea : I 30 a = nI (ouM D.1 a) := (h.2.2.2.2.1.2.1 a ha).2.2.2.2.2
  have eb : I 29 b = nI (inM D.1 b) := (h.2.2.2.2.1.2.1 b hb).2.2.2.2.1
  refine c_isP h hD ha ⟨fun z => (by cases z), fun _ => c_isP h hD hb ⟨fun z => (by cases z), fun _ => ⟨vp_in_nI (by omega) (by omega), vp_in_nI (by omega) (by omega), ?_⟩⟩⟩
  have l := two10 hD.1 (and_lt (b := inM D.1 b) (ouM_lt D.1 a))
  rw [nI_clamp (by omega : a < 2 ^ 31), nI_clamp (by omega : b < 2 ^ 31), ea, eb, nb_and, show (0 : Int32) = nI 0 from rfl, nI_eq (by omega) (by decide), thr_0]
  refine ⟨fun c => ?_, fun c => ?_⟩
  · rw [c] at hp; exact hp
  · rw [Bool.not_eq_false] at c
    rw [c] at hp; exact hp
theorem inM_T (D : DT) (a b o h p : Nat) : inM (addT D a b o h).1 p = inM D.1 p ||| (if b = p then 2 ^ nT D.1 else 0) := by
  show mk (fun t => decide (sN (nTo D.1) (nT D.1) b t = p)) (nT D.1 + 1) = _
  unfold inM
  show mk _ (nT D.1) ||| _ = _
  rw [mk_congr (g := fun t => decide (nTo D.1 t = p)) (fun t ht => by rw [sN_ne (show t ≠ nT D.1 by omega)])]
  dsimp only
  have e : (sN (nTo D.1) (nT D.1) b (nT D.1) = p) ↔ b = p := by rw [sN_at]
  by_cases y : b = p
  · rw [if_pos y, if_pos (decide_eq_true (e.mpr y))]
  · rw [if_neg y, if_neg (by rw [decide_eq_false (fun z => y (e.mp z))]; decide)]
theorem ouM_T (D : DT) (a b o h p : Nat) : ouM (addT D a b o h).1 p = ouM D.1 p ||| (if a = p then 2 ^ nT D.1 else 0) := by
  show mk (fun t => decide (sN (nFr D.1) (nT D.1) a t = p)) (nT D.1 + 1) = _
  unfold ouM
  show mk _ (nT D.1) ||| _ = _
  rw [mk_congr (g := fun t => decide (nFr D.1 t = p)) (fun t ht => by rw [sN_ne (show t ≠ nT D.1 by omega)])]
  dsimp only
  have e : (sN (nFr D.1) (nT D.1) a (nT D.1) = p) ↔ a = p := by rw [sN_at]
  by_cases y : a = p
  · rw [if_pos y, if_pos (decide_eq_true (e.mpr y))]
  · rw [if_neg y, if_neg (by rw [decide_eq_false (fun z => y (e.mp z))]; decide)]
theorem c_addTie (h : cG n tx I0 J0 e D I J) (hD : okD D) {a b o hr : Nat} (ha : a < nP D.1) (hb : b < nP D.1) (hT9 : nT D.1 < 10) {Post : HI → Prop} (hp : ∀ I', cG n tx I0 J0 e (addT D a b o hr) I' J → Post I') : w_X4_addTie (nI a) (nI b) (nI o) (nI hr) I J Post := by
  have hP := hD.1.1
  have hT := hD.1.2.1
  have e12 : I 24 12 = nI (nT D.1) := h.2.2.2.2.1.1.2.1
  have vT : vp_in (nI (nT D.1)) 10 := vp_in_nI hT9 (by decide)
  have va : vp_in (nI a) 12 := vp_in_nI (by omega) (by decide)
  have vb : vp_in (nI b) 12 := vp_in_nI (by omega) (by decide)
  refine c_isP h hD ha ⟨fun z => (by cases z), fun _ => c_isP h hD hb ⟨fun z => (by cases z), fun _ => c_room (k := 1) h hD (by decide) ?_⟩⟩
  rw [decide_eq_true (by omega)]
  refine ⟨fun _ => ?_, fun z => (by cases z)⟩
  rw [e12]
  refine ⟨vT, fun I4 e4 => ?_⟩
  have f4 : I4 24 12 = nI (nT D.1) := by rw [e4, hI_ne (by decide)]; exact e12
  rw [f4]
  refine ⟨vT, fun I5 e5 => ?_⟩
  have f5 : I5 24 12 = nI (nT D.1) := by rw [e5, hI_ne (by decide)]; exact f4
  rw [f5]
  refine ⟨vT, fun I6 e6 => ?_⟩
  have f6 : I6 24 12 = nI (nT D.1) := by rw [e6, hI_ne (by decide)]; exact f5
  rw [f6]
  refine ⟨vT, fun I7 e7 => ?_⟩
  have f7 : I7 24 12 = nI (nT D.1) := by rw [e7, hI_ne (by decide)]; exact f6
  rw [f7]
  refine ⟨va, va, fun I8 e8 => ?_⟩
  have f8 : I8 24 12 = nI (nT D.1) := by rw [e8, hI_ne (by decide)]; exact f7
  rw [f8]
  refine ⟨vb, vb, fun I9 e9 I10 e10 => hp I10 ?_⟩
  have f9 : I9 24 12 = nI (nT D.1) := by rw [e9, hI_ne (by decide)]; exact f8
  rw [f9, nI_1] at e10
  rw [nI_clamp (by omega : nT D.1 < 2 ^ 31)] at e4 e5 e6 e7
  rw [nI_clamp (by omega : a < 2 ^ 31), nb_one _ (by omega)] at e8
  rw [nI_clamp (by omega : b < 2 ^ 31), nb_one _ (by omega)] at e9
  obtain ⟨⟨a1, a2⟩, b4, ⟨c1, c2⟩, ⟨d1, d2, d3, d4, d5⟩, ⟨g1, g2, g3⟩⟩ := h
  have i36 : I10 36 = I 36 := by rw [e10, hI_ne (by decide), e9, hI_ne (by decide), e8, hI_ne (by decide), e7, hI_ne (by decide), e6, hI_ne (by decide), e5, hI_ne (by decide), e4, hI_ne (by decide)]
  have oth : ∀ c, c ≠ 24 → c ≠ 29 → c ≠ 30 → c ≠ 31 → c ≠ 32 → c ≠ 33 → c ≠ 34 → I10 c = I c := fun c h1 h2 h3 h4 h5 h6 h7 => by rw [e10, hI_ne h1, e9, hI_ne h2, e8, hI_ne h3, e7, hI_ne h7, e6, hI_ne h6, e5, hI_ne h5, e4, hI_ne h4]
  have i24 : ∀ k, k ≠ 12 → I10 24 k = I 24 k := fun k hk => by rw [e10, hI_at, if_neg hk, e9, hI_ne (by decide), e8, hI_ne (by decide), e7, hI_ne (by decide), e6, hI_ne (by decide), e5, hI_ne (by decide), e4, hI_ne (by decide)]
  have s8 : ∀ p, I7 30 p = I 30 p := fun p => by rw [e7, hI_ne (by decide), e6, hI_ne (by decide), e5, hI_ne (by decide), e4, hI_ne (by decide)]
  have s9 : ∀ p, I8 29 p = I 29 p := fun p => by rw [e8, hI_ne (by decide), e7, hI_ne (by decide), e6, hI_ne (by decide), e5, hI_ne (by decide), e4, hI_ne (by decide)]
  have t30 : ∀ p, p < nP D.1 → I10 30 p = nI (ouM (addT D a b o hr).1 p) := fun p hpp => by
    have ep : I 30 p = nI (ouM D.1 p) := (g1.2.1 p hpp).2.2.2.2.2
    rw [ouM_T, e10, hI_ne (by decide), e9, hI_ne (by decide), e8, hI_at, s8, s8]
    by_cases y : p = a
    · rw [if_pos y, if_pos y.symm, ← y, ep, nb_or]
    · rw [if_neg y, if_neg (fun z => y z.symm), Nat.or_zero]; exact ep
  have t29 : ∀ p, p < nP D.1 → I10 29 p = nI (inM (addT D a b o hr).1 p) := fun p hpp => by
    have ep : I 29 p = nI (inM D.1 p) := (g1.2.1 p hpp).2.2.2.2.1
    rw [inM_T, e10, hI_ne (by decide), e9, hI_at, s9, s9]
    by_cases y : p = b
    · rw [if_pos y, if_pos y.symm, ← y, ep, nb_or]
    · rw [if_neg y, if_neg (fun z => y z.symm), Nat.or_zero]; exact ep
  refine ⟨⟨fun c hc => ?_, a2⟩, by rw [i36]; exact b4, ⟨by rw [i36]; exact c1, by rw [i36]; exact c2⟩, ⟨by rw [i36]; exact d1, by rw [i36]; exact d2, by rw [i36]; exact d3, fun z => by rw [i36]; exact d4 z, d5⟩, ⟨⟨⟨?_, ?_, ?_⟩, fun p hpp => ?_, fun t htt => ?_, fun w hww => ?_⟩, g2, by rw [i36]; exact g3⟩⟩
  · rw [oth c (by omega) (by omega) (by omega) (by omega) (by omega) (by omega) (by omega)]; exact a1 c hc
  · show I10 24 11 = _
    rw [i24 11 (by decide)]; exact g1.1.1
  · show I10 24 12 = nI (nT D.1 + 1)
    rw [e10, hI_at, if_pos rfl]
  · show I10 24 13 = _
    rw [i24 13 (by decide)]; exact g1.1.2.2
  · obtain ⟨p1, p2, p3, p4, p5, p6⟩ := g1.2.1 p hpp
    refine ⟨?_, ?_, ?_, ?_, t29 p hpp, t30 p hpp⟩
    · show I10 25 p = _
      rw [oth 25 (by decide) (by decide) (by decide) (by decide) (by decide) (by decide) (by decide)]; exact p1
    · show I10 26 p = _
      rw [oth 26 (by decide) (by decide) (by decide) (by decide) (by decide) (by decide) (by decide)]; exact p2
    · show I10 27 p = _
      rw [oth 27 (by decide) (by decide) (by decide) (by decide) (by decide) (by decide) (by decide)]; exact p3
    · show I10 28 p = _
      rw [oth 28 (by decide) (by decide) (by decide) (by decide) (by decide) (by decide) (by decide)]; exact p4
  · have htt' : t < nT D.1 + 1 := htt
    show I10 31 t = nI (sN (nFr D.1) (nT D.1) a t) ∧ I10 32 t = nI (sN (nTo D.1) (nT D.1) b t) ∧ I10 33 t = nI (sN (nOd D.1) (nT D.1) o t) ∧ I10 34 t = nI (sN (nHr D.1) (nT D.1) hr t)
    have k31 : I10 31 t = if t = nT D.1 then nI a else I 31 t := by rw [e10, hI_ne (by decide), e9, hI_ne (by decide), e8, hI_ne (by decide), e7, hI_ne (by decide), e6, hI_ne (by decide), e5, hI_ne (by decide), e4, hI_at]
    have k32 : I10 32 t = if t = nT D.1 then nI b else I 32 t := by rw [e10, hI_ne (by decide), e9, hI_ne (by decide), e8, hI_ne (by decide), e7, hI_ne (by decide), e6, hI_ne (by decide), e5, hI_at, e4, hI_ne (by decide)]
    have k33 : I10 33 t = if t = nT D.1 then nI o else I 33 t := by rw [e10, hI_ne (by decide), e9, hI_ne (by decide), e8, hI_ne (by decide), e7, hI_ne (by decide), e6, hI_at, e5, hI_ne (by decide), e4, hI_ne (by decide)]
    have k34 : I10 34 t = if t = nT D.1 then nI hr else I 34 t := by rw [e10, hI_ne (by decide), e9, hI_ne (by decide), e8, hI_ne (by decide), e7, hI_at, e6, hI_ne (by decide), e5, hI_ne (by decide), e4, hI_ne (by decide)]
    rw [k31, k32, k33, k34]
    by_cases y : t = nT D.1
    · rw [if_pos y, if_pos y, if_pos y, if_pos y, y, sN_at, sN_at, sN_at, sN_at]; exact ⟨rfl, rfl, rfl, rfl⟩
    · rw [if_neg y, if_neg y, if_neg y, if_neg y, sN_ne y, sN_ne y, sN_ne y, sN_ne y]; exact g1.2.2.1 t (by omega)
  · show I10 35 w = _
    rw [oth 35 (by decide) (by decide) (by decide) (by decide) (by decide) (by decide) (by decide)]; exact g1.2.2.2 w hww
end
