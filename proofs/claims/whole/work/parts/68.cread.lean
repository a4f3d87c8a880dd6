/-! the class reads: the draft, what holds when it goes on, what holds when it failed -/
def dN (I : HI) (J : HJ) (D : DT) : Prop := cNet (fun c => I (c + 12)) D.1 ∧ (∀ p, p < nP D.1 → J 38 p = lN (D.2.1 p)) ∧ I 36 10 = nI D.2.2
def cFm (I I0 : HI) (J J0 : HJ) : Prop := (∀ c, ¬ (24 ≤ c ∧ c ≤ 36) → I c = I0 c) ∧ ∀ c, c ≠ 36 → c ≠ 38 → J c = J0 c
def cF (I0 : HI) (J0 : HJ) (q : Nat × Nat) (I : HI) (J : HJ) : Prop := cFm I I0 J J0 ∧ (1 ≤ q.1 ∧ q.1 ≤ 6) ∧ I 36 11 = nI q.1 ∧ I 36 12 = nI q.2 ∧ ∃ P, P ≤ 12 ∧ I 24 11 = nI P
def cG (n : Nat) (tx : Nat → Nat) (I0 : HI) (J0 : HJ) (e : Nat) (D : DT) (I : HI) (J : HJ) : Prop := cFm I I0 J J0 ∧ I 36 4 = nI n ∧ (I 36 11 = 0 ∧ I 36 12 = -1) ∧ cTok n tx I J e ∧ dN I J D
def cX (n : Nat) (tx : Nat → Nat) (I0 : HI) (J0 : HJ) (e : Nat) (D : DT) (I : HI) (J : HJ) : Prop := (tKd n tx e = 1 → cF I0 J0 (1, tSt n tx e) I J) ∧ (¬ tKd n tx e = 1 → cG n tx I0 J0 e D I J)
def cR (n : Nat) (tx : Nat → Nat) (I0 : HI) (J0 : HJ) (r : (Nat × Nat) ⊕ (Nat × DT)) (I : HI) (J : HJ) : Prop := match r with
  | .inl q => cF I0 J0 q I J
  | .inr x => cX n tx I0 J0 x.1 x.2 I J
section
variable {n : Nat} {tx : Nat → Nat} {I0 I : HI} {J0 J : HJ} {e : Nat} {D : DT} {q : Nat × Nat}
theorem cF_ne (h : cF I0 J0 q I J) : ¬ I 36 11 = 0 := by
  rw [h.2.2.1, show (0 : Int32) = nI 0 from rfl, nI_eq (by have := h.2.1; omega) (by decide)]
  have := h.2.1
  omega
theorem f_adv (h : cF I0 J0 q I J) {Post : HI → HJ → Prop} (hp : Post I J) : w_X5_advance I J Post := ⟨fun _ => ⟨fun z => (by cases z), fun _ => hp⟩, fun z => absurd z (cF_ne h)⟩
theorem f_goes (h : cF I0 J0 q I J) {Post : Bool → Prop} (hp : Post false) : w_X5_goesOn I J Post := ⟨fun _ => hp, fun z => absurd z (cF_ne h)⟩
theorem f_fail (h : cF I0 J0 q I J) {x : Int32} {Post : HI → Prop} (hp : Post I) : w_X5_fail x I J Post := ⟨fun _ => hp, fun z => absurd z (cF_ne h)⟩
theorem f_pass (h : cF I0 J0 q I J) {x : Int32} {Post : HI → HJ → Prop} (hp : Post I J) : w_X5_pass x I J Post := ⟨fun _ => f_adv h hp, fun _ => f_fail h (f_adv h hp)⟩
theorem f_sound (h : cF I0 J0 q I J) {x y : Int32} {Post : Int32 → HI → Prop} (hp : Post x I) : w_X5_soundNumber x y I J Post := by
  have l : wj_X5_soundNumber_33 I J x Post := f_goes h ⟨fun _ => hp, fun z => (by cases z)⟩
  exact ⟨fun _ => q_between (by cases isBt (I 36 8) x.toInt y.toInt; exact ⟨fun z => (by cases z), fun _ => f_fail h l⟩; exact ⟨fun _ => l, fun z => (by cases z)⟩), fun _ => f_fail h l⟩
theorem f_num (h : cF I0 J0 q I J) {x y : Int32} {Post : Int32 → HI → HJ → Prop} (hp : Post x I J) : w_X5_passNumber x y I J Post := f_sound h (f_adv h hp)
theorem f_named (h : cF I0 J0 q I J) {Post : Int32 → Prop} (hp : ∀ r, Post r) : w_X5_personNamed I J Post := by
  obtain ⟨P, hP, e24⟩ := h.2.2.2.2
  refine lp_inv (fun i x => x = nI i) P (fun i x hi hq K hK => ?_) (fun x hq K => ?_) 0 rfl
  · subst hq
    show wb_X5_personNamed_2 I J Post _ K (nI i)
    unfold wb_X5_personNamed_2
    rw [e24, nI_1]
    exact ⟨fun c => absurd c (nI_ge hi (by omega)), fun _ => ⟨vp_in_nI (by omega) (by omega), fun _ => hK _ rfl, fun _ => hp _⟩⟩
  · subst hq
    show wb_X5_personNamed_2 I J Post _ K (nI P)
    unfold wb_X5_personNamed_2
    rw [e24]
    exact ⟨fun _ => hp _, fun c => absurd (Int32.le_refl _) c⟩
theorem f_known (h : cF I0 J0 q I J) {Post : Int32 → HI → Prop} (hp : ∀ r, Post r I) : w_X5_knownPerson I J Post := by
  have l : ∀ r, wj_X5_knownPerson_23 I J r Post := fun r => ⟨fun _ => hp r, fun _ => f_fail h (hp r)⟩
  exact ⟨fun _ => f_named h (fun r => l r), fun _ => f_fail h (l _)⟩
theorem f_isP (h : ∃ P, P ≤ 12 ∧ I 24 11 = nI P) {x : Int32} {Post : Bool → Prop} (hf : Post false) (ht : vp_in x 12 → Post true) : w_X4_isPerson_24 x I J Post := by
  obtain ⟨P, hP, e24⟩ := h
  unfold w_X4_isPerson_24
  rw [e24]
  refine ⟨fun _ => hf, fun c => ⟨fun _ => hf, fun c2 => ht ?_⟩⟩
  obtain ⟨j, hj, ej⟩ := nI_of c
  subst ej
  rw [nI_leI (by omega) (by omega)] at c2
  exact vp_in_nI (by omega) (by omega)
theorem f_tie (h : cF I0 J0 q I J) {x y : Int32} {Post : Bool → Prop} (hp : ∀ b, Post b) : w_X4_hasTie x y I J Post :=
  f_isP h.2.2.2.2 ⟨fun _ => hp _, fun z => (by cases z)⟩ (fun v1 => ⟨fun z => (by cases z), fun _ => f_isP h.2.2.2.2 ⟨fun _ => hp _, fun z => (by cases z)⟩ (fun v2 => ⟨fun z => (by cases z), fun _ => ⟨v1, v2, fun _ => hp _, fun _ => hp _⟩⟩)⟩)
theorem f_speeds (h : cF I0 J0 q I J) {x y z : Int32} {Post : HI → HJ → Prop} (hp : Post I J) : w_X5_readSpeeds x y z I J Post := by
  refine ⟨1, ?_⟩
  show wb_X5_readSpeeds_12 x y z Post _ _ (1, 0, 0, 0, I, J)
  have l : wj_X5_readSpeeds_134 I J x y z 1 0 Post := f_goes h ⟨fun _ => hp, fun q => (by cases q)⟩
  exact ⟨fun q => absurd q (by decide), fun _ => f_goes h ⟨fun _ => f_goes h ⟨fun _ => l, fun q => (by cases q)⟩, fun q => (by cases q)⟩⟩
theorem f_t81 (h : cF I0 J0 q I J) {x y : Int32} {Post : HI → HJ → Prop} (hp : Post I J) : wj_X5_readTie_81 I J x y Post := f_adv h (f_pass h (f_num h (f_speeds h hp)))
theorem f_t63 (h : cF I0 J0 q I J) {x y : Int32} {Post : HI → HJ → Prop} (hp : Post I J) : wj_X5_readTie_63 I J x y Post := f_tie h (fun b => by
  cases b
  · exact ⟨fun _ => f_t81 h hp, fun z => (by cases z)⟩
  · exact ⟨fun z => (by cases z), fun _ => f_fail h (f_t81 h hp)⟩)
theorem f_v34 (h : cF I0 J0 q I J) {x : Int32} {Post : HI → HJ → Prop} (hp : Post I J) : wj_X5_readValley_34 I J x Post := f_adv h (f_pass h (f_num h (f_goes h ⟨fun _ => hp, fun z => (by cases z)⟩)))
theorem f_p52 (h : cF I0 J0 q I J) {Post : HI → HJ → Prop} (hp : Post I J) : wj_X5_readPerson_52 I J Post := f_goes h ⟨fun _ => ⟨fun z => absurd rfl z, fun _ => hp⟩, fun z => (by cases z)⟩
/-! it goes on -/
theorem cX_g (hk : ¬ tKd n tx e = 1) (h : cG n tx I0 J0 e D I J) : cX n tx I0 J0 e D I J := ⟨fun z => absurd z hk, fun _ => h⟩
theorem dN_of {I' : HI} {J' : HJ} (h : dN I J D) (h1 : ∀ c, 24 ≤ c → c ≤ 35 → I' c = I c) (h2 : J' 38 = J 38) (h3 : I' 36 10 = I 36 10) : dN I' J' D := by
  refine ⟨cNet_of h.1 (fun c a b => h1 (c + 12) (by omega) (by omega)), fun p hp => ?_, ?_⟩
  · rw [h2]; exact h.2.1 p hp
  · rw [h3]; exact h.2.2
theorem c_adv (hn : n ≤ 600) (he : e ≤ n) (ht : cTx I0 n tx) (hw : rdW J0) (h : cG n tx I0 J0 e D I J) (hP : nP D.1 ≤ 12) {Post : HI → HJ → Prop} (hp : ∀ I' J', cX n tx I0 J0 (tEn n tx e) D I' J' → Post I' J') : w_X5_advance I J Post := by
  obtain ⟨⟨a1, a2⟩, b, ⟨c1, c2⟩, d, g⟩ := h
  have tk := tk_ok (tx := tx) hn he
  refine q_advance hn tk.2.2.1 b d.2.1 c1 (fun k hk => by rw [a1 10 (by omega)]; exact ht k hk) (fun i hi => by rw [a2 37 (by decide) (by decide)]; exact hw i hi) (fun I' J' z => hp I' J' ?_)
  obtain ⟨z1, z2, z3, z4, z5, z6⟩ := z
  have fm : cFm I' I0 J' J0 := ⟨fun c hc => (z1 c (by omega)).trans (a1 c hc), fun c h1 h2 => (z3 c h1).trans (a2 c h1 h2)⟩
  refine ⟨fun y => ⟨fm, ⟨Nat.le_refl 1, by show 1 ≤ 6; decide⟩, (z5 y).1, (z5 y).2, nP D.1, hP, ?_⟩, fun y => ⟨fm, z2.1.trans b, ⟨(z6 y).1, (z6 y).2.trans c2⟩, z4, dN_of g (fun c h1 h2 => z1 c (by omega)) (z3 38 (by decide)) z2.2⟩⟩
  rw [z1 24 (by decide)]; exact g.1.1.1
theorem c_fail (he : cG n tx I0 J0 e D I J) (hP : nP D.1 ≤ 12) {k : Nat} (hk : 1 ≤ k ∧ k ≤ 6) {Post : HI → Prop} (hp : ∀ I', cF I0 J0 (k, tSt n tx e) I' J → Post I') : w_X5_fail (nI k) I J Post := by
  obtain ⟨⟨a1, a2⟩, b, ⟨c1, c2⟩, d, g⟩ := he
  refine ⟨fun z => absurd c1 z, fun _ I1 e1 I2 e2 => hp I2 ⟨⟨fun c hc => ?_, a2⟩, hk, ?_, ?_, nP D.1, hP, ?_⟩⟩
  · rw [e2, hI_ne (by omega), e1, hI_ne (by omega)]; exact a1 c hc
  · rw [e2, hI_at, if_neg (by decide), e1, hI_at, if_pos rfl]
  · rw [e2, hI_at, if_pos rfl, e1, hI_at, if_neg (by decide)]; exact d.1
  · rw [e2, hI_ne (by decide), e1, hI_ne (by decide)]; exact g.1.1.1
theorem c_goes (h : cG n tx I0 J0 e D I J) {Post : Bool → Prop} (hp : Post true) : w_X5_goesOn I J Post := ⟨fun z => absurd h.2.2.1.1 z, fun _ => hp⟩
/-- a token of kind k, or it fails -/
theorem x_pass (hn : n ≤ 600) (he : e ≤ n) (ht : cTx I0 n tx) (hw : rdW J0) (h : cX n tx I0 J0 e D I J) (hP : nP D.1 ≤ 12) {k : Nat} (hk : k ≤ 18) (hk1 : ¬ k = 1) {Post : HI → HJ → Prop} (hp : ∀ I' J', (match expS n tx e k with | .inl q => cF I0 J0 q I' J' | .inr _ => cX n tx I0 J0 (tEn n tx e) D I' J') → Post I' J') : w_X5_pass (nI k) I J Post := by
  have tk := tk_ok (tx := tx) hn he
  unfold expS at hp
  by_cases c1 : tKd n tx e = 1
  · have f := h.1 c1
    rw [if_neg (by omega), c1] at hp
    exact f_pass f (hp I J f)
  · have g := h.2 c1
    unfold w_X5_pass
    rw [g.2.2.2.1.2.2.1, nI_eq (by omega) (by omega)]
    refine ⟨fun c => c_adv hn he ht hw g hP (fun I' J' z => hp I' J' (by rw [if_pos c]; exact z)), fun c => c_fail (k := 2) g hP (by omega) (fun I' f => f_adv f (hp I' J (by rw [if_neg c]; unfold wk; rw [if_neg c1]; exact f)))⟩
theorem x_sound (hn : n ≤ 600) (he : e ≤ n) (h : cX n tx I0 J0 e D I J) (hP : nP D.1 ≤ 12) {lo hi : Nat} (hlo : lo < 1000) (hhi : hi < 1000) {Post : Int32 → HI → Prop} (hp : (match numS n tx e lo hi with | .inl q => ∀ I', cF I0 J0 q I' J → Post (nI lo) I' | .inr v => cG n tx I0 J0 e D I J → Post (nI v) I)) : w_X5_soundNumber (nI lo) (nI hi) I J Post := by
  have tk := tk_ok (tx := tx) hn he
  unfold numS at hp
  by_cases c1 : tKd n tx e = 1
  · have f := h.1 c1
    rw [if_pos (by omega), c1] at hp
    exact f_sound f (hp I f)
  · have g := h.2 c1
    unfold w_X5_soundNumber
    rw [g.2.2.2.1.2.2.1, show (2 : Int32) = nI 2 from rfl, nI_eq (by omega) (by decide)]
    refine ⟨fun c => ?_, fun c => c_fail (k := 2) g hP (by omega) (fun I' f => f_goes f ⟨fun _ => ?_, fun z => (by cases z)⟩)⟩
    · have nu := g.2.2.2.1.2.2.2.1 c
      have nl := tk_n (tx := tx) hn he c
      rw [if_neg (by omega)] at hp
      rw [nu]
      refine q_between ?_
      rw [nI_toInt (by omega), nI_toInt (by omega)]
      have eb : isBt (nI (tNu n tx e)) lo hi = decide (lo ≤ tNu n tx e ∧ tNu n tx e ≤ hi) := by
        unfold isBt
        rw [nI_toInt (by omega)]
        exact decide_eq_decide.mpr (by omega)
      rw [eb]
      by_cases c2 : lo ≤ tNu n tx e ∧ tNu n tx e ≤ hi
      · rw [decide_eq_true c2]
        rw [if_neg (fun z => z c2)] at hp
        exact ⟨fun _ => c_goes g ⟨fun z => (by cases z), fun _ => by rw [nu]; exact hp g⟩, fun z => (by cases z)⟩
      · rw [decide_eq_false c2]
        rw [if_pos c2] at hp
        exact ⟨fun z => (by cases z), fun _ => c_fail (k := 4) g hP (by omega) (fun I' f => f_goes f ⟨fun _ => hp I' f, fun z => (by cases z)⟩)⟩
    · rw [if_pos c] at hp
      unfold wk at hp
      rw [if_neg c1] at hp
      exact hp I' f
theorem x_num (hn : n ≤ 600) (he : e ≤ n) (ht : cTx I0 n tx) (hw : rdW J0) (h : cX n tx I0 J0 e D I J) (hP : nP D.1 ≤ 12) {lo hi : Nat} (hlo : lo < 1000) (hhi : hi < 1000) {Post : Int32 → HI → HJ → Prop} (hp : ∀ I' J', (match numS n tx e lo hi with | .inl q => cF I0 J0 q I' J' → Post (nI lo) I' J' | .inr v => cX n tx I0 J0 (tEn n tx e) D I' J' → Post (nI v) I' J')) : w_X5_passNumber (nI lo) (nI hi) I J Post := by
  refine x_sound hn he h hP hlo hhi ?_
  cases hs : numS n tx e lo hi with
  | inl q => exact fun I' f => f_adv f (by have := hp I' J; rw [hs] at this; exact this f)
  | inr v => exact fun g => c_adv hn he ht hw g hP (fun I' J' z => by have := hp I' J'; rw [hs] at this; exact this z)
theorem c_named (h : cG n tx I0 J0 e D I J) (hD : okD D) (h5 : 5 ≤ tKd n tx e) (hn : n ≤ 600) (he : e ≤ n) {Post : Int32 → Prop} (hp : Post (if fnd D.2.1 (tWd n tx e) (nP D.1) < nP D.1 then nI (fnd D.2.1 (tWd n tx e) (nP D.1)) else -1)) : w_X5_personNamed I J Post := by
  have hP := hD.1.1
  have w40 := (tk_w hn he h5).2
  have wd := h.2.2.2.1.2.2.2.2 h5
  have e24 : I 24 11 = nI (nP D.1) := h.2.2.2.2.1.1.1
  refine lp_inv (fun i x => x = nI i ∧ ∀ j, j < i → ¬ D.2.1 j = tWd n tx e) (nP D.1) (fun i x hi hq K hK => ?_) (fun x hq K => ?_) 0 ⟨rfl, fun j hj => absurd hj (Nat.not_lt_zero _)⟩
  · obtain ⟨rfl, hq⟩ := hq
    have d40 := hD.2.1 i hi
    show wb_X5_personNamed_2 I J Post _ K (nI i)
    unfold wb_X5_personNamed_2
    rw [e24, nI_1, nI_clamp (by omega), h.2.2.2.2.2.1 i hi, wd, pk_lEQ (by omega) (by omega)]
    refine ⟨fun c => absurd c (nI_ge hi (by omega)), fun _ => ⟨vp_in_nI (by omega) (by omega), fun c => hK _ ⟨rfl, fun j hj => ?_⟩, fun c => ?_⟩⟩
    · rcases Nat.lt_or_eq_of_le (Nat.lt_succ_iff.mp hj) with y | y
      · exact hq j y
      · rw [y]; exact c
    · have ef : fnd D.2.1 (tWd n tx e) (nP D.1) = i := fnd_u (by omega) (fun _ => c) hq
      rw [ef, if_pos hi] at hp
      exact hp
  · obtain ⟨rfl, hq⟩ := hq
    show wb_X5_personNamed_2 I J Post _ K (nI (nP D.1))
    unfold wb_X5_personNamed_2
    rw [e24]
    have ef : fnd D.2.1 (tWd n tx e) (nP D.1) = nP D.1 := fnd_u (Nat.le_refl _) (fun z => absurd z (Nat.lt_irrefl _)) hq
    rw [ef, if_neg (Nat.lt_irrefl _)] at hp
    exact ⟨fun _ => hp, fun c => absurd (Int32.le_refl _) c⟩
theorem x_known (hn : n ≤ 600) (he : e ≤ n) (h : cX n tx I0 J0 e D I J) (hD : okD D) {Post : Int32 → HI → Prop} (hp : (match namS n tx e D with | .inl q => ∀ r I', cF I0 J0 q I' J → Post r I' | .inr p => cG n tx I0 J0 e D I J → Post (nI p) I)) : w_X5_knownPerson I J Post := by
  have tk := tk_ok (tx := tx) hn he
  have hP := hD.1.1
  unfold namS at hp
  by_cases c1 : tKd n tx e = 1
  · have f := h.1 c1
    rw [if_pos (by omega), c1] at hp
    exact f_known f (fun r => hp r I f)
  · have g := h.2 c1
    unfold w_X5_knownPerson
    rw [g.2.2.2.1.2.2.1, show (5 : Int32) = nI 5 from rfl, nI_eq (by omega) (by decide)]
    refine ⟨fun c => c_named g hD (by omega) hn he ?_, fun c => c_fail (k := 2) g hP (by omega) (fun I' f => ⟨fun z => absurd rfl z, fun _ => f_fail f ?_⟩)⟩
    · rw [if_neg (by omega)] at hp
      by_cases c2 : fnd D.2.1 (tWd n tx e) (nP D.1) < nP D.1
      · rw [if_pos c2] at hp ⊢
        refine ⟨fun _ => hp g, fun z => ?_⟩
        have := nI_toInt (n := fnd D.2.1 (tWd n tx e) (nP D.1)) (by omega)
        rw [z, nb_m1] at this
        omega
      · rw [if_neg c2] at hp ⊢
        exact ⟨fun z => absurd rfl z, fun _ => c_fail (k := 3) g hP (by omega) (fun I' f => hp _ I' f)⟩
    · rw [if_pos c] at hp
      unfold wk at hp
      rw [if_neg c1] at hp
      exact hp _ I' f
end
