/-! who is reached: the least set that is closed -/
def ssb (a b : Nat) : Prop := ∀ i, a.testBit i = true → b.testBit i = true
theorem ssb_rf (a : Nat) : ssb a a := fun _ h => h
theorem ssb_tr {a b c : Nat} (h : ssb a b) (g : ssb b c) : ssb a c := fun i hi => g i (h i hi)
theorem ssb_or_l (a b : Nat) : ssb a (a ||| b) := fun i h => by rw [Nat.testBit_or, h]; rfl
theorem ssb_le {a b : Nat} (h : ssb a b) : a ≤ b := by
  have : a ||| b = b := Nat.eq_of_testBit_eq (fun i => by
    rw [Nat.testBit_or]
    cases ha : a.testBit i
    · rfl
    · rw [h i ha]; rfl)
  rw [← this]
  exact Nat.left_le_or
theorem ssb_lt {a b : Nat} (h : ssb a b) {p : Nat} (h1 : b.testBit p = true) (h2 : a.testBit p = false) : a < b := by
  rcases Nat.lt_or_eq_of_le (ssb_le h) with g | g
  · exact g
  · rw [g, h1] at h2; cases h2
def gf (N : NT) (L S p : Nat) (t : Nat) : Bool := decide (nTo N t = p) && (L.testBit t && S.testBit (nFr N t))
def gets (N : NT) (L S p : Nat) : Nat := cnt (gf N L S p) (nT N)
def clo (N : NT) (L X : Nat) : Prop := ∀ p, p < nP N → (nS N).testBit p = false → nNd N p ≤ gets N L X p → X.testBit p = true
noncomputable def rch (N : NT) (S L : Nat) : Nat := mk (fun p => @decide (∀ X, clo N L X → ssb S X → X.testBit p = true) (Classical.propDecidable _)) (nP N)
theorem gets_mono {N : NT} {L X Y : Nat} (h : ssb X Y) (p : Nat) : gets N L X p ≤ gets N L Y p := by
  refine cnt_mono (fun t _ ht => ?_)
  unfold gf at ht ⊢
  simp only [Bool.and_eq_true] at ht ⊢
  exact ⟨ht.1, ht.2.1, h _ ht.2.2⟩
theorem rch_lt (N : NT) (S L : Nat) : rch N S L < 2 ^ nP N := mk_lt _ _
theorem rch_bit {N : NT} {S L p : Nat} (hp : p < nP N) : (rch N S L).testBit p = true ↔ ∀ X, clo N L X → ssb S X → X.testBit p = true := by
  unfold rch
  rw [mk_bit]
  simp [hp]
theorem rch_sup {N : NT} {S L : Nat} (hS : S < 2 ^ nP N) : ssb S (rch N S L) := by
  intro p hp
  have h : p < nP N := by
    rcases Nat.lt_or_ge p (nP N) with h | h
    · exact h
    · rw [mk_out hS h] at hp; cases hp
  exact (rch_bit h).mpr (fun X _ hX => hX p hp)
theorem rch_min {N : NT} {S L Y : Nat} (hY : clo N L Y) (hS : ssb S Y) : ssb (rch N S L) Y := by
  intro p hp
  have h : p < nP N := by
    rcases Nat.lt_or_ge p (nP N) with h | h
    · exact h
    · rw [mk_out (rch_lt N S L) h] at hp; cases hp
  exact (rch_bit h).mp hp Y hY hS
theorem rch_clo (N : NT) (S L : Nat) : clo N L (rch N S L) := by
  intro p hp hs hn
  exact (rch_bit hp).mpr (fun X hX hSX => hX p hp hs (Nat.le_trans hn (gets_mono (rch_min hX hSX) p)))
theorem rch_eq {N : NT} {S L X : Nat} (hX : X < 2 ^ nP N) (h1 : ssb S X) (h2 : clo N L X) (h3 : ∀ Y, clo N L Y → ssb S Y → ssb X Y) : X = rch N S L := by
  refine mk_ext hX (rch_lt N S L) (fun p hp => ?_)
  cases hb : X.testBit p
  · cases hr : (rch N S L).testBit p
    · rfl
    · rw [(rch_bit hp).mp hr X h2 h1] at hb; cases hb
  · exact ((rch_bit hp).mpr (fun Y hY hSY => h3 Y hY hSY p hb)).symm
theorem rch_mono {N : NT} {S S' L : Nat} (hS' : S' < 2 ^ nP N) (h : ssb S S') : ssb (rch N S L) (rch N S' L) := rch_min (rch_clo N S' L) (ssb_tr h (rch_sup hS'))
/-! the model's way -/
theorem nI5 {p k : Nat} : (5 * nI p) + nI k = nI (5 * p + k) := by
  rw [show (5 : Int32) = nI 5 from rfl, pk_mul, nI_add]
theorem q_mStub {I : HI} {J : HJ} {N : NT} {p : Nat} (hm : mNet I N) (hN : okN N) (hp : p < nP N) {Post : Bool → Prop} (h : Post ((nS N).testBit p)) : w_X11_isStubborn (nI p) I J Post := by
  have hP := hN.1
  have h1 : (5 * nI p) + 3 = nI (5 * p + 3) := nI5 (k := 3)
  unfold w_X11_isStubborn
  rw [h1, nI_clamp (by omega), (hm.2.1 p hp).2.2.2.1]
  refine ⟨vp_in_nI (by omega) (by omega), fun c => ?_, fun c => ?_⟩
  · cases hb : (nS N).testBit p
    · rw [hb] at h; exact h
    · rw [hb] at c; exact absurd rfl c
  · cases hb : (nS N).testBit p
    · rw [hb] at c; exact absurd c (by decide)
    · rw [hb] at h; exact h
theorem q_mNeeds {I : HI} {J : HJ} {N : NT} {p : Nat} (hm : mNet I N) (hN : okN N) (hp : p < nP N) {Post : Int32 → Prop} (h : Post (nI (nNd N p))) : w_X11_needs (nI p) I J Post := by
  have hP := hN.1
  have h1 : (5 * nI p) + 1 = nI (5 * p + 1) := nI5 (k := 1)
  unfold w_X11_needs
  rw [h1, nI_clamp (by omega), (hm.2.1 p hp).2.1]
  exact ⟨vp_in_nI (by omega) (by omega), h⟩
theorem i_add0 (x : Int32) : x + 0 = x := Int32.add_zero x
theorem q_mGets {I : HI} {J : HJ} {N : NT} {L S p : Nat} {x4 : Int32} (hm : mNet I N) (hN : okN N) (hL : L < 2 ^ 31) (hS : S < 2 ^ 31) (hp : p < nP N) {E5 : Int32 → Prop} {K5 : Int32 × Int32 → Prop} {E16 : Int32 → Int32 → Prop} {K16 : Int32 × Int32 × Int32 → Prop} {Post : Int32 → Prop} {E : Int32 → Prop} (h : E (nI (gets N L S p))) :
    ∃ n, lp (wb_X11_reach_53 I J (nI L) (nI S) x4 (nI p) E5 K5 E16 K16 Post E) n (0, 0) := by
  have hP := hN.1
  have hT := hN.2.1
  refine lp_seq (fun i => (nI (cnt (gf N L S p) i), nI i)) (nT N) (fun i hi K hK => ?_) (fun K => ?_)
  · have ho := hN.2.2.2.1 i hi
    have e1 := (hm.2.2.1 i hi).1
    have e2 := (hm.2.2.1 i hi).2.1
    have hK0 : gf N L S p i = false → K (nI (cnt (gf N L S p) i) + 0, nI i + 1) := fun q => by
      rw [i_add0, nI_1]
      have hc : cnt (gf N L S p) (i + 1) = cnt (gf N L S p) i := by show _ + (if gf N L S p i then 1 else 0) = _; rw [q]; rfl
      rw [hc] at hK
      exact hK
    have hK1 : gf N L S p i = true → K (nI (cnt (gf N L S p) i) + 1, nI i + 1) := fun q => by
      rw [nI_1, nI_1]
      have hc : cnt (gf N L S p) (i + 1) = cnt (gf N L S p) i + 1 := by show _ + (if gf N L S p i then 1 else 0) = _; rw [q]; rfl
      rw [hc] at hK
      exact hK
    unfold gf at hK0 hK1
    show wb_X11_reach_53 I J (nI L) (nI S) x4 (nI p) E5 K5 E16 K16 Post E K (nI (cnt (gf N L S p) i), nI i)
    unfold wb_X11_reach_53
    dsimp only
    rw [hm.1.2, nI_clamp (by omega : i < 2 ^ 31), e1, e2, nI_eq (by omega) (by omega), nb_bit1 hL (by omega), nb_bit1 hS (by omega)]
    refine ⟨fun c => absurd c (nI_ge hi (by omega)), fun _ => ⟨vp_in_nI (by omega) (by omega), fun c => hK0 ?_, fun c => ⟨fun c2 => hK0 ?_, fun c2 => ⟨vp_in_nI (by omega) (by omega), fun c3 => hK0 ?_, fun c3 => hK1 ?_⟩⟩⟩⟩
    · simp [c]
    · simp [c2]
    · simp [c3]
    · simp [c, c2, c3]
  · show wb_X11_reach_53 I J (nI L) (nI S) x4 (nI p) E5 K5 E16 K16 Post E K (nI (cnt (gf N L S p) (nT N)), nI (nT N))
    unfold wb_X11_reach_53
    dsimp only
    rw [hm.1.2]
    exact ⟨fun _ => h, fun c => absurd (nI_le (Nat.le_refl _) (by omega)) c⟩
theorem q_mReach {I : HI} {J : HJ} {N : NT} {S L : Nat} (hm : mNet I N) (hN : okN N) (hL : L < 2 ^ 31) (hS : S < 2 ^ nP N) {Post : Int32 → Prop} (h : Post (nI (rch N S L))) : w_X11_reach (nI S) (nI L) I J Post := by
  have hP := hN.1
  have lt31' : ∀ {X : Nat}, X < 2 ^ nP N → X < 2 ^ 31 := fun hX => lt31 (by omega) hX
  refine lp_by (fun s => ∃ (X : Nat) (b : Bool), s = (nI X, kb b) ∧ X < 2 ^ nP N ∧ ssb S X ∧ (∀ Y, clo N L Y → ssb S Y → ssb X Y) ∧ (b = false → clo N L X)) (fun s => 2 * (4096 - s.1.toNatClampNeg) + (if s.2 = 0 then 0 else 1)) (fun s K hs hK => ?_) (nI S, 1) ⟨S, true, rfl, hS, ssb_rf S, fun Y _ g => g, fun q => by cases q⟩
  obtain ⟨X, b, rfl, hX, h1, h2, h3⟩ := hs
  have hX12 : X < 4096 := Nat.lt_of_lt_of_le hX (Nat.pow_le_pow_right (n := 2) (by decide) hP)
  refine ⟨fun c => ?_, fun c => ?_⟩
  · have hb : b = false := by cases b; rfl; exact absurd c (by decide)
    show Post (nI X)
    rw [rch_eq hX h1 (h3 hb) h2]
    exact h
  · have hb : b = true := by cases b; exact absurd rfl c; rfl
    subst hb
    refine lp_inv (fun i s => ∃ (Z : Nat) (d : Bool), s = (nI Z, kb d, nI i) ∧ Z < 2 ^ nP N ∧ ssb X Z ∧ (∀ Y, clo N L Y → ssb S Y → ssb Z Y) ∧ (d = false → Z = X ∧ ∀ p, p < i → (nS N).testBit p = false → nNd N p ≤ gets N L X p → X.testBit p = true) ∧ (d = true → X < Z)) (nP N) (fun i s hi hq K' hK' => ?_) (fun s hq K' => ?_) (nI X, 0, 0) ⟨X, false, rfl, hX, ssb_rf X, h2, fun _ => ⟨rfl, fun p hp => absurd hp (Nat.not_lt_zero _)⟩, fun q => by cases q⟩
    · obtain ⟨Z, d, rfl, hZ, g1, g2, g3, g4⟩ := hq
      unfold wb_X11_reach_16
      dsimp only
      rw [hm.1.1, nb_bit1 (lt31' hZ) (by omega)]
      refine ⟨fun c => absurd c (nI_ge hi (by omega)), fun _ => ⟨fun c2 => ?_, fun c2 => q_mStub hm hN hi ⟨fun c3 => q_mGets hm hN hL (lt31' hZ) hi (q_mNeeds hm hN hi ⟨fun c4 => ?_, fun c4 => ?_⟩), fun c3 => ?_⟩⟩⟩
      · rw [nI_1]
        refine hK' _ ⟨Z, d, rfl, hZ, g1, g2, fun hd => ⟨(g3 hd).1, fun p hp a1 a2 => ?_⟩, g4⟩
        rcases Nat.lt_or_eq_of_le (Nat.lt_succ_iff.mp hp) with hp | hp
        · exact (g3 hd).2 p hp a1 a2
        · rw [hp, ← (g3 hd).1]; exact c2
      · have c5 := (nI_leI (by have := (hN.2.2.2.2.1 i hi).2.2.1; omega) (Nat.lt_of_le_of_lt (cnt_le _ _) (by have := hN.2.1; omega))).mp c4
        have c2' : Z.testBit i = false := by cases hz : Z.testBit i; rfl; exact absurd hz c2
        rw [nb_one i (by omega), nb_or, nI_1]
        have hlt : Z < Z ||| 2 ^ i := ssb_lt (ssb_or_l Z _) (p := i) (by rw [or_bit]; simp) c2'
        refine hK' _ ⟨Z ||| 2 ^ i, true, rfl, nb_or_lt hZ (nb_one_lt hi), ssb_tr g1 (ssb_or_l _ _), fun Y hY hSY p hp => ?_, fun q => (by cases q), fun _ => Nat.lt_of_le_of_lt (ssb_le g1) hlt⟩
        rw [or_bit, Bool.or_eq_true, decide_eq_true_eq] at hp
        rcases hp with hp | hp
        · exact g2 Y hY hSY p hp
        · subst hp
          exact hY i hi c3 (Nat.le_trans c5 (gets_mono (g2 Y hY hSY) i))
      · have c5 : ¬ nNd N i ≤ gets N L Z i := fun q => c4 (nI_le q (Nat.lt_of_le_of_lt (cnt_le _ _) (by have := hN.2.1; omega)))
        rw [nI_1]
        refine hK' _ ⟨Z, d, rfl, hZ, g1, g2, fun hd => ⟨(g3 hd).1, fun p hp a1 a2 => ?_⟩, g4⟩
        rcases Nat.lt_or_eq_of_le (Nat.lt_succ_iff.mp hp) with hp | hp
        · exact (g3 hd).2 p hp a1 a2
        · rw [hp, ← (g3 hd).1] at a2; exact absurd a2 c5
      · rw [nI_1]
        refine hK' _ ⟨Z, d, rfl, hZ, g1, g2, fun hd => ⟨(g3 hd).1, fun p hp a1 a2 => ?_⟩, g4⟩
        rcases Nat.lt_or_eq_of_le (Nat.lt_succ_iff.mp hp) with hp | hp
        · exact (g3 hd).2 p hp a1 a2
        · rw [hp, c3] at a1; cases a1
    · obtain ⟨Z, d, rfl, hZ, g1, g2, g3, g4⟩ := hq
      unfold wb_X11_reach_16
      dsimp only
      rw [hm.1.1]
      refine ⟨fun _ => ?_, fun c => absurd (nI_le (Nat.le_refl _) (by omega)) c⟩
      refine hK _ ⟨Z, d, rfl, hZ, ssb_tr h1 g1, g2, fun hd => ?_⟩ ?_
      · rw [(g3 hd).1]
        exact fun p hp a1 a2 => (g3 hd).2 p hp a1 a2
      · have hZ12 : Z < 4096 := Nat.lt_of_lt_of_le hZ (Nat.pow_le_pow_right (n := 2) (by decide) hP)
        dsimp only
        rw [nI_clamp (by omega), nI_clamp (by omega)]
        cases d
        · rw [(g3 rfl).1]
          show 2 * (4096 - X) + 0 < 2 * (4096 - X) + 1
          omega
        · have := g4 rfl
          show 2 * (4096 - Z) + 1 < 2 * (4096 - X) + 1
          omega
/-! the class's way -/
theorem pc_and {N : NT} {p O : Nat} (hN : okN N) : pc (inM N p &&& O) = cnt (fun t => decide (nTo N t = p) && O.testBit t) (nT N) := by
  have hT := hN.2.1
  rw [pc_cnt (n := nT N) (Nat.lt_of_le_of_lt Nat.and_le_left (inM_lt N p)) (by omega)]
  refine cnt_congr (fun t ht => ?_)
  rw [Nat.testBit_and, inM_bit]
  simp [ht]
theorem and_lt {a b n : Nat} (h : a < 2 ^ n) : a &&& b < 2 ^ n := Nat.lt_of_le_of_lt Nat.and_le_left h
theorem two10 {N : NT} (hN : okN N) {a : Nat} (h : a < 2 ^ nT N) : a < 1024 := Nat.lt_of_lt_of_le h (Nat.pow_le_pow_right (n := 2) (by decide) hN.2.1)
theorem two12 {N : NT} (hN : okN N) {a : Nat} (h : a < 2 ^ nP N) : a < 4096 := Nat.lt_of_lt_of_le h (Nat.pow_le_pow_right (n := 2) (by decide) hN.1)
theorem q_isTold {I : HI} {J : HJ} {N : NT} {p O : Nat} (hc : cNet I N) (hN : okN N) (hp : p < nP N) {Post : Bool → Prop} (h : Post (decide (nNd N p ≤ cnt (fun t => decide (nTo N t = p) && O.testBit t) (nT N)))) : w_X4_isTold (nI p) (nI O) I J Post := by
  have hP := hN.1
  have hT := hN.2.1
  have h1 := (hc.2.1 p hp).2.2.2.2.1
  have h2 := (hc.2.1 p hp).2.1
  have h3 := (hN.2.2.2.2.1 p hp).2.2.1
  unfold w_X4_isTold
  rw [nI_clamp (by omega), h1, h2, nb_and]
  refine ⟨vp_in_nI (by omega) (by omega), q_bc (Nat.lt_of_lt_of_le (two10 hN (and_lt (inM_lt N p))) (by decide)) ⟨vp_in_nI (by omega) (by omega), fun c => ?_, fun c => ?_⟩⟩
  · rw [pc_and hN, nI_ltI (Nat.lt_of_le_of_lt (cnt_le _ _) (by omega)) (by omega)] at c
    rw [decide_eq_false (by omega)] at h
    exact h
  · rw [pc_and hN, nI_ltI (Nat.lt_of_le_of_lt (cnt_le _ _) (by omega)) (by omega)] at c
    rw [decide_eq_true (by omega)] at h
    exact h
theorem sd_lt {a b n : Nat} (h : a < 2 ^ n) : sd a b < 2 ^ n := Nat.lt_of_le_of_lt (sd_le a b) h
theorem cnt_or {O t n : Nat} (ht : t < n) (h : O.testBit t = false) : cnt (fun i => (O ||| 2 ^ t).testBit i) n = cnt (fun i => O.testBit i) n + 1 := by
  induction n with
  | zero => omega
  | succ n ih =>
    show cnt _ n + (if (O ||| 2 ^ t).testBit n then 1 else 0) = cnt _ n + (if O.testBit n then 1 else 0) + 1
    by_cases e : t = n
    · subst e
      rw [or_bit, h]
      have : cnt (fun i => (O ||| 2 ^ t).testBit i) t = cnt (fun i => O.testBit i) t := cnt_congr (fun i hi => by rw [or_bit]; simp; omega)
      rw [this]
      simp
    · rw [ih (by omega), or_bit]
      simp only [e, decide_false, Bool.or_false]
      omega
theorem cnt_full {f : Nat → Bool} {n : Nat} (h : n ≤ cnt f n) : ∀ i, i < n → f i = true := by
  induction n with
  | zero => intro i hi; omega
  | succ n ih =>
    have h0 : cnt f (n + 1) = cnt f n + (if f n then 1 else 0) := rfl
    have h1 := cnt_le f n
    intro i hi
    by_cases hf : f n
    · by_cases e : i = n
      · rw [e]; exact hf
      · exact ih (by rw [h0, if_pos hf] at h; omega) i (by omega)
    · rw [h0, if_neg hf] at h; omega
theorem q_takers {I : HI} {J : HJ} {N : NT} {S L : Nat} (hc : cNet I N) (hN : okN N) (hL : L < 2 ^ nT N) (hS : S < 2 ^ nP N) {Post : Int32 → Prop} (h : Post (nI (rch N S L))) : w_X2_takers (nI S) (nI L) I J Post := by
  have hP := hN.1
  have hT := hN.2.1
  have l31 : ∀ {X : Nat}, X < 2 ^ nP N → X < 2 ^ 31 := fun hX => lt31 (by omega) hX
  refine q_tiesFrom hc hN (l31 hS) ?_
  rw [nb_and]
  refine lp_inv (fun i s => ∃ (X O W : Nat), s = (nI X, nI O, nI W, nI i) ∧ X < 2 ^ nP N ∧ O < 2 ^ nT N ∧ W < 2 ^ nT N ∧ ssb S X ∧ (∀ Y, clo N L Y → ssb S Y → ssb X Y) ∧ (∀ t, t < nT N → (O.testBit t || W.testBit t) = (L.testBit t && X.testBit (nFr N t))) ∧ (∀ t, O.testBit t = true → W.testBit t = false) ∧ (∀ p, p < nP N → X.testBit p = false → (nS N).testBit p = false → cnt (fun t => decide (nTo N t = p) && O.testBit t) (nT N) < nNd N p) ∧ cnt (fun t => O.testBit t) (nT N) = i) 10 (fun i s hi hq K hK => ?_) (fun s hq K => ?_) (nI S, 0, nI (fromM N S &&& L), 0) ?_
  · obtain ⟨X, O, W, rfl, hX, hO, hW, h1, h2, h3, h4, h5, h6⟩ := hq
    have hfin : W = 0 → Post (nI X) := by
      intro hw
      rw [rch_eq hX h1 (fun p hp hs hn => ?_) h2]
      · exact h
      · cases hb : X.testBit p
        · have := h5 p hp hb hs
          have e : gets N L X p = cnt (fun t => decide (nTo N t = p) && O.testBit t) (nT N) := cnt_congr (fun t ht => by
            have q := h3 t ht
            rw [hw, Nat.zero_testBit, Bool.or_false] at q
            unfold gf
            rw [q])
          omega
        · rfl
    show wb_X2_takers_20 I J (nI L) Post _ K (nI X, nI O, nI W, nI i)
    unfold wb_X2_takers_20
    dsimp only
    refine ⟨fun c => absurd c (nI_ge (b := 10) hi (by omega)), fun _ => ⟨fun c => hfin ?_, fun c => ?_⟩⟩
    · exact (nI_eq (b := 0) (by have := two10 hN hW; omega) (by omega)).mp c
    · have w0 : W ≠ 0 := fun q => c (by rw [q]; rfl)
      have w1 := two10 hN hW
      obtain ⟨-, -, lb, lm⟩ := low_ok w1 w0
      have lt : low W < nT N := by
        rcases Nat.lt_or_ge (low W) (nT N) with q | q
        · exact q
        · rw [mk_out hW q] at lb; cases lb
      generalize hlo : low W = t at lb lm lt
      have ho := hN.2.2.2.1 t lt
      have ot : O.testBit t = false := by
        cases q : O.testBit t
        · rfl
        · rw [h4 t q] at lb; cases lb
      refine q_nt w1 w0 ?_
      rw [hlo, nI_clamp (by omega), (hc.2.2.1 t lt).2.1, hc.1.2.2, nb_or, nb_one t (by omega), nb_or, lm, nI_1, nI_clamp (by omega)]
      have hXs : X ||| nS N < 2 ^ nP N := nb_or_lt hX hN.2.2.1
      have h3' : ∀ u, u < nT N → ((O ||| 2 ^ t).testBit u || (sd W (2 ^ t)).testBit u) = (L.testBit u && X.testBit (nFr N u)) := by
        intro u hu
        rw [← h3 u hu, or_bit, sd_bit, Nat.testBit_two_pow]
        by_cases e : t = u
        · subst e; rw [lb]; simp
        · simp [e]
      have h4' : ∀ u, (O ||| 2 ^ t).testBit u = true → (sd W (2 ^ t)).testBit u = false := by
        intro u hu
        rw [or_bit, Bool.or_eq_true, decide_eq_true_eq] at hu
        rw [sd_bit, Nat.testBit_two_pow]
        rcases hu with hu | hu
        · rw [h4 u hu]; rfl
        · simp [hu]
      have h6' : cnt (fun u => (O ||| 2 ^ t).testBit u) (nT N) = i + 1 := by rw [cnt_or lt ot, h6]
      have hO' : O ||| 2 ^ t < 2 ^ nT N := nb_or_lt hO (nb_one_lt lt)
      have other : ∀ p, ¬ nTo N t = p → cnt (fun u => decide (nTo N u = p) && (O ||| 2 ^ t).testBit u) (nT N) = cnt (fun u => decide (nTo N u = p) && O.testBit u) (nT N) := by
        intro p hp
        refine cnt_congr (fun u _ => ?_)
        rw [or_bit]
        by_cases e : t = u
        · subst e; simp [hp]
        · simp [e]
      refine ⟨vp_in_nI (by omega) (by omega), q_has (lt31 (by omega) hXs) (by omega) ⟨fun b => ?_, fun b => q_isTold hc hN ho.2.1 ⟨fun d => ?_, fun d z5 e5 => ⟨vp_in_nI (by omega) (by omega), fun z6 e6 => ?_⟩⟩⟩⟩
      · refine hK _ ⟨X, O ||| 2 ^ t, sd W (2 ^ t), rfl, hX, hO', sd_lt hW, h1, h2, h3', h4', fun p hp g1 g2 => ?_, h6'⟩
        rw [other p (fun q => by rw [q, Nat.testBit_or, g1, g2] at b; cases b)]
        exact h5 p hp g1 g2
      · refine hK _ ⟨X, O ||| 2 ^ t, sd W (2 ^ t), rfl, hX, hO', sd_lt hW, h1, h2, h3', h4', fun p hp g1 g2 => ?_, h6'⟩
        by_cases e : nTo N t = p
        · rw [← e]; have := of_decide_eq_false d; omega
        · rw [other p e]; exact h5 p hp g1 g2
      · rw [nb_one _ (by omega : nTo N t < 31), nb_or] at e5
        rw [(hc.2.1 _ ho.2.1).2.2.2.2.2, nb_and, nb_or] at e6
        subst e5 e6
        have hs : (nS N).testBit (nTo N t) = false ∧ X.testBit (nTo N t) = false := by
          rw [Nat.testBit_or, Bool.or_eq_false_iff] at b
          exact ⟨b.2, b.1⟩
        have hcnt := of_decide_eq_true d
        refine hK _ ⟨X ||| 2 ^ nTo N t, O ||| 2 ^ t, sd W (2 ^ t) ||| (ouM N (nTo N t) &&& L), rfl, nb_or_lt hX (nb_one_lt ho.2.1), hO', nb_or_lt (sd_lt hW) (and_lt (ouM_lt N _)), ssb_tr h1 (ssb_or_l _ _), fun Y hY hSY p hp => ?_, fun u hu => ?_, fun u hu => ?_, fun p hp g1 g2 => ?_, h6'⟩
        · rw [or_bit, Bool.or_eq_true, decide_eq_true_eq] at hp
          rcases hp with hp | hp
          · exact h2 Y hY hSY p hp
          · subst hp
            refine hY _ ho.2.1 hs.1 (Nat.le_trans hcnt (Nat.le_trans (cnt_mono (fun u hu hu2 => ?_)) (gets_mono (h2 Y hY hSY) _)))
            simp only [Bool.and_eq_true] at hu2
            have q := h3' u hu
            rw [hu2.2, Bool.true_or] at q
            unfold gf
            rw [← q, hu2.1]; rfl
        · rw [or_bit X, Nat.testBit_or (sd W (2 ^ t)), Nat.testBit_and, ouM_bit, ← Bool.or_assoc, h3' u hu, decide_eq_true hu, Bool.true_and]
          by_cases e : nTo N t = nFr N u
          · cases L.testBit u <;> simp [e]
          · have e' : ¬ nFr N u = nTo N t := fun q => e q.symm
            simp [e, e']
        · rw [Nat.testBit_or, h4' u hu, Nat.testBit_and, ouM_bit, Bool.false_or]
          have hul : u < nT N := by
            rcases Nat.lt_or_ge u (nT N) with q | q
            · exact q
            · rw [mk_out hO' q] at hu; cases hu
          by_cases e : nFr N u = nTo N t
          · have q := h3' u hul
            rw [hu, Bool.true_or, e, hs.2, Bool.and_false] at q
            cases q
          · simp [e]
        · rw [or_bit, Bool.or_eq_false_iff] at g1
          have e : ¬ nTo N t = p := of_decide_eq_false g1.2
          rw [other p e]
          exact h5 p hp g1.1 g2
  · obtain ⟨X, O, W, rfl, hX, hO, hW, h1, h2, h3, h4, h5, h6⟩ := hq
    have t10 : nT N = 10 := by have := cnt_le (fun t => O.testBit t) (nT N); omega
    have full := cnt_full (f := fun t => O.testBit t) (n := nT N) (by omega)
    show wb_X2_takers_20 I J (nI L) Post _ K (nI X, nI O, nI W, nI 10)
    refine ⟨fun _ => ?_, fun c => absurd (Int32.le_refl _) c⟩
    rw [rch_eq hX h1 (fun p hp hs hn => ?_) h2]
    · exact h
    · cases hb : X.testBit p
      · have := h5 p hp hb hs
        have e : gets N L X p = cnt (fun t => decide (nTo N t = p) && O.testBit t) (nT N) := cnt_congr (fun t ht => by
          have q := h3 t ht
          have f1 : O.testBit t = true := full t ht
          rw [h4 t f1, Bool.or_false] at q
          unfold gf
          rw [q])
        omega
      · rfl
  · refine ⟨S, 0, fromM N S &&& L, rfl, hS, Nat.two_pow_pos _, and_lt (mk_lt _ _), ssb_rf S, fun Y _ g => g, fun t ht => ?_, fun t ht => ?_, fun p hp _ _ => ?_, ?_⟩
    · rw [Nat.zero_testBit, Bool.false_or, Nat.testBit_and, fromM_bit, decide_eq_true ht, Bool.true_and, Bool.and_comm]
    · rw [Nat.zero_testBit] at ht; cases ht
    · rw [cnt_false (fun t _ => by rw [Nat.zero_testBit, Bool.and_false])]
      have := (hN.2.2.2.2.1 p hp).2.1
      omega
    · exact cnt_false (fun t _ => Nat.zero_testBit t)
