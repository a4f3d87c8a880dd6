section
variable {n : Nat} {tx : Nat → Nat} {I0 I : HI} {J0 J : HJ} {e w : Nat} {D : DT} {q : Nat × Nat} {tr : Nat → Nat}
theorem h32 : ∀ h, h < 32 → ∀ j, j < 5 → (h ||| 2 ^ j) * 4096 = h * 4096 ||| 2 ^ (12 + j) ∧ (h * 4096).testBit (12 + j) = h.testBit j ∧ h ||| 2 ^ j < 32 := by decide +kernel
def tRs (n : Nat) (tx : Nat → Nat) (I0 : HI) (J0 : HJ) (e : Nat) (D : DT) (w : Nat) (tr : Nat → Nat) (I : HI) (J : HJ) : Prop := (tKd n tx e = 15 → cX n tx I0 J0 (tEn n tx e) (addP D (sN tr 3 1) w) I J) ∧ (¬ tKd n tx e = 15 → (∀ q, numS n tx (tEn n tx e) (tLo (tKd n tx e)) (tHi (tKd n tx e)) = .inl q → cF I0 J0 q I J) ∧ ∀ v, numS n tx (tEn n tx e) (tLo (tKd n tx e)) (tHi (tKd n tx e)) = .inr v → cX n tx I0 J0 (tEn n tx (tEn n tx e)) (addP D (sN tr (tKd n tx e - 12) v) w) I J)
theorem x_w0 (h : cX n tx I0 J0 e (addP D tr w) I J) (v : Nat) : cX n tx I0 J0 e (addP D (sN tr 0 v) w) (hI I 25 (nP D.1) (nI v)) J := ⟨fun z => cF_w (h.1 z) (by omega) (by omega), fun z => c_trw0 (h.2 z) v⟩
theorem x_w1 (h : cX n tx I0 J0 e (addP D tr w) I J) (v : Nat) : cX n tx I0 J0 e (addP D (sN tr 1 v) w) (hI I 26 (nP D.1) (nI v)) J := ⟨fun z => cF_w (h.1 z) (by omega) (by omega), fun z => c_trw1 (h.2 z) v⟩
theorem x_w2 (h : cX n tx I0 J0 e (addP D tr w) I J) (v : Nat) : cX n tx I0 J0 e (addP D (sN tr 2 v) w) (hI I 27 (nP D.1) (nI v)) J := ⟨fun z => cF_w (h.1 z) (by omega) (by omega), fun z => c_trw2 (h.2 z) v⟩
theorem x_w4 (h : cX n tx I0 J0 e (addP D tr w) I J) (v : Nat) : cX n tx I0 J0 e (addP D (sN tr 4 v) w) (hI I 28 (nP D.1) (nI v)) J := ⟨fun z => cF_w (h.1 z) (by omega) (by omega), fun z => c_trw4 (h.2 z) v⟩
theorem c_trait (hn : n ≤ 600) (he : e ≤ n) (ht : cTx I0 n tx) (hw : rdW J0) (h : cG n tx I0 J0 e (addP D tr w) I J) (hP : nP D.1 < 12) (hk : 12 ≤ tKd n tx e ∧ tKd n tx e ≤ 16) {Post : HI → HJ → Prop} (hp : ∀ I' J', tRs n tx I0 J0 e D w tr I' J' → Post I' J') : w_X5_readTrait (nI (nP D.1)) (nI (tKd n tx e)) I J Post := by
  have h1 := (en_ok (tx := tx) hn he).1
  have vP : vp_in (nI (nP D.1)) 12 := vp_in_nI hP (by decide)
  have hP1 : nP (addP D tr w).1 ≤ 12 := hP
  refine c_goes h ⟨fun z => ?_, fun z => (by cases z)⟩
  refine c_adv hn he ht hw h hP1 (fun I2 J3 x2 => ?_)
  have ks : tKd n tx e = 12 ∨ tKd n tx e = 13 ∨ tKd n tx e = 14 ∨ tKd n tx e = 15 ∨ tKd n tx e = 16 := by omega
  unfold tRs at hp
  rcases ks with k | k | k | k | k

  · rw [k] at hp ⊢
    refine ⟨fun _ => x_num (lo := 0) (hi := 3) hn h1 ht hw x2 hP1 (by decide) (by decide) (fun I5 J6 => ?_), fun z => absurd z (by decide), fun z => absurd z (by decide), fun z => absurd z (by decide), fun a b c d => absurd rfl a⟩
    have el : tLo 12 = 0 := rfl
    have eh : tHi 12 = 3 := rfl
    rw [el, eh] at hp
    cases hs : numS n tx (tEn n tx e) 0 3 with
    | inl q =>
      refine fun f => ⟨vP, fun I7 e7 => hp I7 J6 ⟨fun z => absurd z (by decide), fun _ => ⟨fun q' hq => ?_, fun v hv => (by rw [hs] at hv; cases hv)⟩⟩⟩
      rw [hs] at hq
      cases hq
      rw [e7]
      exact cF_w f (by omega) (by omega)
    | inr v =>
      refine fun x3 => ⟨vP, fun I7 e7 => hp I7 J6 ⟨fun z => absurd z (by decide), fun _ => ⟨fun q' hq => (by rw [hs] at hq; cases hq), fun v' hv => ?_⟩⟩⟩
      rw [hs] at hv
      cases hv
      rw [nI_clamp (by omega)] at e7
      rw [e7]
      exact x_w0 x3 v
  · rw [k] at hp ⊢
    refine ⟨fun z => absurd z (by decide), fun _ => x_num (lo := 1) (hi := 3) hn h1 ht hw x2 hP1 (by decide) (by decide) (fun I5 J6 => ?_), fun z => absurd z (by decide), fun z => absurd z (by decide), fun a b c d => absurd rfl b⟩
    have el : tLo 13 = 1 := rfl
    have eh : tHi 13 = 3 := rfl
    rw [el, eh] at hp
    cases hs : numS n tx (tEn n tx e) 1 3 with
    | inl q =>
      refine fun f => ⟨vP, fun I7 e7 => hp I7 J6 ⟨fun z => absurd z (by decide), fun _ => ⟨fun q' hq => ?_, fun v hv => (by rw [hs] at hv; cases hv)⟩⟩⟩
      rw [hs] at hq
      cases hq
      rw [e7]
      exact cF_w f (by omega) (by omega)
    | inr v =>
      refine fun x3 => ⟨vP, fun I7 e7 => hp I7 J6 ⟨fun z => absurd z (by decide), fun _ => ⟨fun q' hq => (by rw [hs] at hq; cases hq), fun v' hv => ?_⟩⟩⟩
      rw [hs] at hv
      cases hv
      rw [nI_clamp (by omega)] at e7
      rw [e7]
      exact x_w1 x3 v
  · rw [k] at hp ⊢
    refine ⟨fun z => absurd z (by decide), fun z => absurd z (by decide), fun _ => x_num (lo := 0) (hi := 5) hn h1 ht hw x2 hP1 (by decide) (by decide) (fun I5 J6 => ?_), fun z => absurd z (by decide), fun a b c d => absurd rfl c⟩
    have el : tLo 14 = 0 := rfl
    have eh : tHi 14 = 5 := rfl
    rw [el, eh] at hp
    cases hs : numS n tx (tEn n tx e) 0 5 with
    | inl q =>
      refine fun f => ⟨vP, fun I7 e7 => hp I7 J6 ⟨fun z => absurd z (by decide), fun _ => ⟨fun q' hq => ?_, fun v hv => (by rw [hs] at hv; cases hv)⟩⟩⟩
      rw [hs] at hq
      cases hq
      rw [e7]
      exact cF_w f (by omega) (by omega)
    | inr v =>
      refine fun x3 => ⟨vP, fun I7 e7 => hp I7 J6 ⟨fun z => absurd z (by decide), fun _ => ⟨fun q' hq => (by rw [hs] at hq; cases hq), fun v' hv => ?_⟩⟩⟩
      rw [hs] at hv
      cases hv
      rw [nI_clamp (by omega)] at e7
      rw [e7]
      exact x_w2 x3 v
  · rw [k] at hp ⊢
    refine ⟨fun z => absurd z (by decide), fun z => absurd z (by decide), fun z => absurd z (by decide), fun _ I16 e16 => hp I16 J3 ⟨fun _ => ?_, fun z => absurd rfl z⟩, fun a b c d => absurd rfl d⟩
    rw [nb_one _ (by omega)] at e16
    rw [e16]
    exact ⟨fun z => cF_w (x2.1 z) (by decide) (by decide), fun z => c_trw3 (x2.2 z)⟩
  · rw [k] at hp ⊢
    refine ⟨fun z => absurd z (by decide), fun z => absurd z (by decide), fun z => absurd z (by decide), fun z => absurd z (by decide), fun _ _ _ _ => x_num (lo := 0) (hi := 99) hn h1 ht hw x2 hP1 (by decide) (by decide) (fun I5 J6 => ?_)⟩
    have el : tLo 16 = 0 := rfl
    have eh : tHi 16 = 99 := rfl
    rw [el, eh] at hp
    cases hs : numS n tx (tEn n tx e) 0 99 with
    | inl q =>
      refine fun f => ⟨vP, fun I7 e7 => hp I7 J6 ⟨fun z => absurd z (by decide), fun _ => ⟨fun q' hq => ?_, fun v hv => (by rw [hs] at hv; cases hv)⟩⟩⟩
      rw [hs] at hq
      cases hq
      rw [e7]
      exact cF_w f (by omega) (by omega)
    | inr v =>
      refine fun x3 => ⟨vP, fun I7 e7 => hp I7 J6 ⟨fun z => absurd z (by decide), fun _ => ⟨fun q' hq => (by rw [hs] at hq; cases hq), fun v' hv => ?_⟩⟩⟩
      rw [hs] at hv
      cases hv
      rw [nI_clamp (by omega)] at e7
      rw [e7]
      exact x_w4 x3 v
def tX (n : Nat) (tx : Nat → Nat) (I0 : HI) (J0 : HJ) (D : DT) (w : Nat) (r : (Nat × Nat) ⊕ (Nat × (Nat → Nat))) (I : HI) (J : HJ) : Prop := match r with
  | .inl q => cF I0 J0 q I J
  | .inr x => cX n tx I0 J0 x.1 (addP D x.2 w) I J
theorem c_traits (hn : n ≤ 600) (he : e ≤ n) (ht : cTx I0 n tx) (hw : rdW J0) (h : cX n tx I0 J0 e (addP D td0 w) I J) (hP : nP D.1 < 12) {Post : HI → HJ → Prop} (hp : ∀ I' J', tX n tx I0 J0 D w (rn (trS n tx) (.inl (0, 0)) 700 (e, 0, td0)) I' J' → Post I' J') : ∃ n, lp (wb_X5_readPerson_95 (nI (nP D.1)) Post (fun (I_15 : HI) (J_16 : HJ) => Post I_15 J_16)) n (0, 0, I, J) := by
  generalize hR : rn (trS n tx) (.inl (0, 0)) 700 (e, 0, td0) = R0 at hp
  generalize hM : (700 : Nat) = M at hR
  refine lp_rn (f := trS n tx) (d := .inl (0, 0)) (R0 := R0) (fun s : TS => n - s.1) (fun (s : TS) (x : Int32 × Int32 × HI × HJ) => s.1 ≤ n ∧ okTr s.2.2 ∧ s.2.1 < 32 ∧ x.1 = nI (s.2.1 * 4096) ∧ (∃ i, i ≤ s.1 ∧ x.2.1 = nI i) ∧ cX n tx I0 J0 s.1 (addP D s.2.2 w) x.2.2.1 x.2.2.2) (fun x => ∃ q, cF I0 J0 q x.2.2.1 x.2.2.2 ∧ Post x.2.2.1 x.2.2.2) (fun x hx K => ?_) (fun s x s' hq hf => ?_) (fun s x hq hf K hK => ?_) M (e, 0, td0) (0, 0, I, J) (by show n - e < M; omega) hR ⟨he, okTr_0, by show 0 < 32; decide, by show (0 : Int32) = nI (0 * 4096); simp only [Nat.zero_mul]; rfl, ⟨0, Nat.zero_le _, rfl⟩, h⟩
  · obtain ⟨x2, x3, I1, J1⟩ := x
    obtain ⟨q, f, po⟩ := hx
    exact ⟨fun _ => po, fun _ => f_goes f ⟨fun _ => po, fun z => (by cases z)⟩⟩
  · obtain ⟨x2, x3, I1, J1⟩ := x
    obtain ⟨e1, hh, tr⟩ := s
    obtain ⟨he1, l1, l2, v2, ⟨i, hi, v3⟩, x1⟩ := hq
    dsimp only at he1 l1 l2 v2 hi v3 x1
    subst v2 v3
    obtain ⟨s1, s2, s3, s4, s5, s6, s7⟩ := trS_s hn ⟨he1, l1⟩ hf
    dsimp only at s2 s4 s5 s6 s7
    have tk := tk_ok (tx := tx) hn he1
    have tk1 := tk.2.2.2.2.1 (by omega)
    have g := x1.2 (by omega)
    obtain ⟨m1, m2, m3⟩ := h32 hh l2 (tKd n tx e1 - 12) (by omega)
    rw [show 12 + (tKd n tx e1 - 12) = tKd n tx e1 by omega] at m1 m2
    refine ⟨by show n - s'.1 < n - e1; omega, fun K hK => ⟨fun z => absurd z (nI_ge (b := 600) (by omega) (by decide)), fun _ => c_goes g ⟨fun z => (by cases z), fun _ => ?_⟩⟩⟩
    rw [g.2.2.2.1.2.2.1]
    refine bt_w (lo := 12) (hi := 16) (by decide) (by decide) ?_
    have eb : isBt (nI (tKd n tx e1)) 12 16 = true := by
      unfold isBt
      rw [nI_toInt (by omega)]
      exact decide_eq_true (by omega)
    rw [eb]
    refine ⟨fun z => (by cases z), fun _ => c_once hn he1 g (by show nP D.1 + 1 ≤ 12; omega) (by omega) (fun b => ?_) (fun b => ?_)⟩
    · rw [g.2.2.2.1.2.2.1, nb_one _ (by omega), nb_or, ← m1, nI_1 i]
      refine c_trait hn he1 ht hw g hP s4 (fun I2 J2 x2 => hK _ ⟨s1, s3, by rw [s6]; exact m3, by rw [s6], ⟨i + 1, by omega, rfl⟩, ?_⟩)
      rcases s7 with ⟨k1, k2, k3⟩ | ⟨k1, k2, v, k3, k4⟩
      · rw [k2, k3]; exact x2.1 k1
      · rw [k2, k4]; exact (x2.2 k1).2 v k3
    · rw [m2, s5] at b; cases b
  · obtain ⟨x2, x3, I1, J1⟩ := x
    obtain ⟨e1, hh, tr⟩ := s
    obtain ⟨he1, l1, l2, v2, ⟨i, hi, v3⟩, x1⟩ := hq
    dsimp only at he1 l1 l2 v2 hi v3 x1
    subst v2 v3
    have tk := tk_ok (tx := tx) hn he1
    have es := trS_e hf
    dsimp only at es
    by_cases ck : 12 ≤ tKd n tx e1 ∧ tKd n tx e1 ≤ 16
    · have tk1 := tk.2.2.2.2.1 (by omega)
      have g := x1.2 (by omega)
      obtain ⟨m1, m2, m3⟩ := h32 hh l2 (tKd n tx e1 - 12) (by omega)
      rw [show 12 + (tKd n tx e1 - 12) = tKd n tx e1 by omega] at m1 m2
      refine ⟨fun z => absurd z (nI_ge (b := 600) (by omega) (by decide)), fun _ => c_goes g ⟨fun z => (by cases z), fun _ => ?_⟩⟩
      rw [g.2.2.2.1.2.2.1]
      refine bt_w (lo := 12) (hi := 16) (by decide) (by decide) ?_
      have eb : isBt (nI (tKd n tx e1)) 12 16 = true := by
        unfold isBt
        rw [nI_toInt (by omega)]
        exact decide_eq_true (by omega)
      rw [eb]
      refine ⟨fun z => (by cases z), fun _ => c_once hn he1 g (by show nP D.1 + 1 ≤ 12; omega) (by omega) (fun b => ?_) (fun b r I2 f => ?_)⟩
      · rw [m2] at b
        rcases es with ⟨z, -⟩ | ⟨-, z, -⟩ | ⟨-, -, k15, q, k3, rfl⟩
        · exact absurd ck z
        · rw [b] at z; cases z
        · rw [g.2.2.2.1.2.2.1]
          refine c_trait hn he1 ht hw g hP ck (fun I2 J2 x2 => hK _ ⟨q, (x2.2 k15).1 q k3, hp I2 J2 ((x2.2 k15).1 q k3)⟩)
      · rw [m2] at b
        rcases es with ⟨z, -⟩ | ⟨-, -, rfl⟩ | ⟨-, z, -⟩
        · exact absurd ck z
        · exact f_goes f ⟨fun z => (by cases z), fun _ => hK _ ⟨_, f, hp I2 J1 f⟩⟩
        · rw [b] at z; cases z
    · rcases es with ⟨-, rfl⟩ | ⟨z, -⟩ | ⟨z, -⟩
      · have po : Post I1 J1 := hp I1 J1 x1
        by_cases c1 : tKd n tx e1 = 1
        · have f := x1.1 c1
          exact ⟨fun _ => po, fun _ => f_goes f ⟨fun _ => po, fun z => (by cases z)⟩⟩
        · have g := x1.2 c1
          refine ⟨fun _ => po, fun _ => c_goes g ⟨fun z => (by cases z), fun _ => ?_⟩⟩
          rw [g.2.2.2.1.2.2.1]
          refine bt_w (lo := 12) (hi := 16) (by decide) (by decide) ?_
          have eb : isBt (nI (tKd n tx e1)) 12 16 = false := by
            unfold isBt
            rw [nI_toInt (by omega)]
            exact decide_eq_false (by omega)
          rw [eb]
          exact ⟨fun _ => po, fun z => (by cases z)⟩
      · exact absurd z ck
      · exact absurd z ck
theorem c_person (hn : n ≤ 600) (he : e ≤ n) (ht : cTx I0 n tx) (hw : rdW J0) (h : cG n tx I0 J0 e D I J) (hD : okD D) {Post : HI → HJ → Prop} (hp : ∀ I' J', cR n tx I0 J0 (spP n tx e D) I' J' → Post I' J') : w_X5_readPerson I J (fun I1 J1 => w_X5_pass 3 I1 J1 Post) := by
  have hP := hD.1.1
  have h1 := (en_ok (tx := tx) hn he).1
  have h2 := (en_ok (tx := tx) hn h1).1
  refine c_adv hn he ht hw h hP (fun I1 J1 x1 => ?_)
  unfold spP at hp
  by_cases c1 : tKd n tx (tEn n tx e) = 1
  · have f := x1.1 c1
    rw [if_pos (by omega), c1] at hp
    have l : wj_X5_readPerson_52 I1 J1 (fun I1 J1 => w_X5_pass 3 I1 J1 Post) := f_p52 f (f_pass f (hp I1 J1 f))
    refine ⟨fun _ => f_named f (fun r => ⟨fun _ => ?_, fun _ => f_fail f l⟩), fun _ => f_fail f l⟩
    exact ⟨fun _ => ⟨fun _ => l, fun z => (by cases z)⟩, fun _ => ⟨fun z => (by cases z), fun _ => f_fail f l⟩⟩
  · have g := x1.2 c1
    have tk := tk_ok (tx := tx) hn h1
    rw [g.2.2.2.1.2.2.1, show (5 : Int32) = nI 5 from rfl, nI_eq (by omega) (by decide)]
    refine ⟨fun c => c_named g hD (by omega) hn h1 ?_, fun c => c_fail (k := 2) g hP (by omega) (fun I' f => f_p52 f (f_pass f (hp I' J1 ?_)))⟩
    · rw [if_neg (by omega)] at hp
      by_cases c2 : fnd D.2.1 (tWd n tx (tEn n tx e)) (nP D.1) < nP D.1
      · rw [if_pos c2] at hp ⊢
        refine ⟨fun z => ?_, fun _ => c_fail (k := 3) g hP (by omega) (fun I' f => f_p52 f (f_pass f (hp I' J1 f)))⟩
        have := nI_toInt (n := fnd D.2.1 (tWd n tx (tEn n tx e)) (nP D.1)) (by omega)
        rw [z, nb_m1] at this
        omega
      · rw [if_neg c2] at hp ⊢
        refine ⟨fun _ => ?_, fun z => absurd rfl z⟩
        have e24 : I1 24 11 = nI (nP D.1) := g.2.2.2.2.1.1.1
        unfold w_X4_isFullOfPeople
        rw [e24, show (12 : Int32) = nI 12 from rfl, nI_ltI (by omega) (by decide)]
        by_cases c3 : nP D.1 = 12
        · rw [if_pos c3] at hp
          exact ⟨fun z => absurd z (by omega), fun _ => ⟨fun z => (by cases z), fun _ => c_fail (k := 6) g hP (by omega) (fun I' f => f_p52 f (f_pass f (hp I' J1 f)))⟩⟩
        · rw [if_neg c3] at hp
          refine ⟨fun _ => ⟨fun _ => c_goes g ⟨fun z => (by cases z), fun _ => c_addP g hD (by omega) (by omega) (fun I2 J2 g2 => c_adv hn h1 ht hw g2 (by show nP D.1 + 1 ≤ 12; omega) (fun I3 J3 x3 => c_traits hn h2 ht hw x3 (by omega) (fun I4 J4 x4 => ?_)))⟩, fun z => (by cases z)⟩, fun z => absurd (by omega) z⟩
          have tg := tr_ok (tx := tx) hn h2 700
          generalize rn (trS n tx) (.inl (0, 0)) 700 (tEn n tx (tEn n tx e), 0, td0) = r at hp x4 tg
          cases r with
          | inl q => exact f_pass x4 (hp I4 J4 x4)
          | inr y =>
            dsimp only at hp
            refine x_pass (k := 3) hn tg.1 ht hw x4 (by show nP D.1 + 1 ≤ 12; omega) (by decide) (by decide) (fun I5 J5 x5 => hp I5 J5 ?_)
            cases hs : expS n tx y.1 3 with
            | inl q => rw [hs] at x5; exact x5
            | inr _ => rw [hs] at x5; exact x5
    · rw [if_pos c]
      unfold wk
      rw [if_neg c1]
      exact f
end
