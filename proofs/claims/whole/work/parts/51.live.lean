/-! the model lives it -/
def rep (I I0 : HI) (N : NT) (tk md wh : Nat → Nat) : Prop := (∀ c, ¬ (92 ≤ c ∧ c ≤ 95) → I c = I0 c) ∧ (∀ p, p < nP N → I 92 p = nI (tk p) ∧ I 93 p = nI (md p) ∧ I 94 p = nI (wh p)) ∧ ∀ t, t < nT N → I 95 t = nI (tel N tk t)
def sN (f : Nat → Nat) (p v : Nat) : Nat → Nat := fun q => if q = p then v else f q
theorem rep_m {I I0 : HI} {N : NT} {tk md wh : Nat → Nat} (hm : mNet I0 N) (h : rep I I0 N tk md wh) : mNet I N :=
  mNet_of hm (by rw [h.1 72 (by omega)]) (by rw [h.1 72 (by omega)]) ⟨h.1 77 (by omega), h.1 79 (by omega), h.1 80 (by omega), h.1 81 (by omega), h.1 82 (by omega), h.1 87 (by omega)⟩
theorem q_mTake {I I0 : HI} {J : HJ} {N : NT} {tk md wh : Nat → Nat} {p h x : Nat} (hm : mNet I0 N) (hN : okN N) (hp : p < nP N) (hh : h < 150) (hr : rep I I0 N tk md wh) {Post : HI → Prop} (hpo : ∀ I', rep I' I0 N (sN tk p h) md (sN wh p x) → Post I') : w_X11_take (nI p) (nI h) (nI x) I J Post := by
  have hP := hN.1
  have hT := hN.2.1
  have vp : vp_in (nI p) 12 := vp_in_nI (by omega) (by omega)
  refine ⟨vp, fun I1 e1 => ⟨vp, fun I2 e2 => ?_⟩⟩
  rw [nI_clamp (by omega)] at e1 e2
  refine lp_inv (fun i (s : Int32 × HI) => s.1 = nI i ∧ (∀ c, ¬ (92 ≤ c ∧ c ≤ 95) → s.2 c = I0 c) ∧ (∀ q, q < nP N → s.2 92 q = nI (sN tk p h q) ∧ s.2 93 q = nI (md q) ∧ s.2 94 q = nI (sN wh p x q)) ∧ (∀ t, t < i → s.2 95 t = nI (tel N (sN tk p h) t)) ∧ ∀ t, i ≤ t → t < nT N → s.2 95 t = nI (tel N tk t)) (nT N) (fun i s hi hq K hK => ?_) (fun s hq K => ?_) (0, I2) ⟨rfl, fun c hc => ?_, fun q hq => ?_, fun t ht => absurd ht (Nat.not_lt_zero _), fun t _ ht => ?_⟩
  · obtain ⟨x4, I3⟩ := s
    obtain ⟨a1, g1, g2, g3, g4⟩ := hq
    dsimp only at a1 g1 g2 g3 g4
    subst a1
    have ho := hN.2.2.2.1 i hi
    have ct := hm.2.2.1 i hi
    have vi : vp_in (nI i) 10 := vp_in_nI (by omega) (by omega)
    show wb_X11_take_17 J (nI p) (nI h) Post _ K (nI i, I3)
    unfold wb_X11_take_17
    dsimp only
    rw [g1 72 (by omega), hm.1.2, nI_clamp (by omega : i < 2 ^ 31), g1 79 (by omega), ct.1, nI_eq (by omega) (by omega), g1 82 (by omega), ct.2.2.2, nI_add, nI_1 i]
    refine ⟨fun z => absurd z (nI_ge hi (by omega)), fun _ => ⟨vi, fun z => hK _ ⟨rfl, g1, g2, fun t ht => ?_, fun t h1 h2 => g4 t (by omega) h2⟩, fun z => ⟨vi, vi, fun I4 e4 => hK _ ⟨rfl, fun c hc => ?_, fun q hq => ?_, fun t ht => ?_, fun t h1 h2 => ?_⟩⟩⟩⟩
    · rcases Nat.lt_or_eq_of_le (Nat.lt_succ_iff.mp ht) with y | y
      · exact g3 t y
      · show I3 95 t = _
        rw [y, g4 i (Nat.le_refl _) hi]
        unfold tel sN
        rw [if_neg z]
    · show I4 c = _
      rw [e4, hI_ne (by omega)]; exact g1 c hc
    · show I4 92 q = _ ∧ I4 93 q = _ ∧ I4 94 q = _
      rw [e4, hI_ne (by decide), hI_ne (by decide), hI_ne (by decide)]; exact g2 q hq
    · show I4 95 t = _
      rw [e4, hI_at]
      by_cases y : t = i
      · rw [if_pos y, y]
        unfold tel sN
        rw [if_pos z, if_neg (by omega)]
      · rw [if_neg y]; exact g3 t (by omega)
    · show I4 95 t = _
      rw [e4, hI_at, if_neg (by omega)]; exact g4 t (by omega) h2
  · obtain ⟨x4, I3⟩ := s
    obtain ⟨a1, g1, g2, g3, g4⟩ := hq
    dsimp only at a1 g1 g2 g3 g4
    subst a1
    show wb_X11_take_17 J (nI p) (nI h) Post _ K (nI (nT N), I3)
    unfold wb_X11_take_17
    dsimp only
    rw [g1 72 (by omega), hm.1.2]
    exact ⟨fun _ => hpo I3 ⟨g1, g2, g3⟩, fun z => absurd (Int32.le_refl _) z⟩
  · show I2 c = _
    rw [e2, hI_ne (by omega), e1, hI_ne (by omega)]; exact hr.1 c hc
  · show I2 92 q = _ ∧ I2 93 q = _ ∧ I2 94 q = _
    obtain ⟨r1, r2, r3⟩ := hr.2.1 q hq
    rw [e2, hI_ne (by decide), hI_ne (by decide), hI_at, e1, hI_at, hI_ne (by decide), hI_ne (by decide)]
    unfold sN
    by_cases y : q = p
    · rw [if_pos y, if_pos y, if_pos y, if_pos y]; exact ⟨rfl, r2, rfl⟩
    · rw [if_neg y, if_neg y, if_neg y, if_neg y]; exact ⟨r1, r2, r3⟩
  · show I2 95 t = _
    rw [e2, hI_ne (by decide), e1, hI_ne (by decide)]; exact hr.2.2 t ht
/-- the first i by one, the others by another -/
def mix (i : Nat) (f g : Nat → Nat) : Nat → Nat := fun q => if q < i then f q else g q
theorem mix_s {i : Nat} {f g : Nat → Nat} : sN (mix i f g) i (f i) = mix (i + 1) f g := by
  funext q
  unfold sN mix
  by_cases c : q = i
  · rw [if_pos c, if_pos (by omega), c]
  · rw [if_neg c]
    by_cases d : q < i
    · rw [if_pos d, if_pos (by omega)]
    · rw [if_neg d, if_neg (by omega)]
theorem mix_at {i : Nat} {f g : Nat → Nat} : mix i f g i = g i := if_neg (Nat.lt_irrefl _)
theorem mix_same {i : Nat} {f g : Nat → Nat} (h : f i = g i) : mix i f g = mix (i + 1) f g := by
  rw [← mix_s, h]
  funext q
  unfold sN
  by_cases c : q = i
  · rw [if_pos c, c, mix_at]
  · rw [if_neg c]
theorem mix_0 {f g : Nat → Nat} : mix 0 f g = g := by funext q; exact if_neg (Nat.not_lt_zero _)
theorem rep_congr {I I0 : HI} {N : NT} (hN : okN N) {tk md wh tk' md' wh' : Nat → Nat} (h : rep I I0 N tk md wh) (h1 : ∀ p, p < nP N → tk' p = tk p ∧ md' p = md p ∧ wh' p = wh p) : rep I I0 N tk' md' wh' := by
  refine ⟨h.1, fun p hp => ?_, fun t ht => ?_⟩
  · obtain ⟨a, b, c⟩ := h1 p hp
    rw [a, b, c]; exact h.2.1 p hp
  · rw [h.2.2 t ht]
    unfold tel
    rw [(h1 _ (hN.2.2.2.1 t ht).1).1]
theorem mix_all {N : NT} {f g : Nat → Nat} {p : Nat} (hp : p < nP N) : mix (nP N) f g p = f p := if_pos hp
theorem q_mPh1 {I I0 : HI} {J : HJ} {N : NT} {rd bl bh lot h : Nat} {s : ST} (hm : mNet I0 N) (hN : okN N) (hh : h < 150) (hbh : bh < 150) (hrd : rd < 2 ^ nP N) (hbl : bl < 2 ^ nP N) (hk : mOk N rd bl lot h s) (hr : rep I I0 N s.1 s.2.1 s.2.2) {E77 : HI → Prop} {K77 : Int32 × HI → Prop} {Post E : HI → Prop} (hE : ∀ I', rep I' I0 N (sA N rd bl bh h s).1 (sA N rd bl bh h s).2.1 (sA N rd bl bh h s).2.2 → E I') : ∃ n, lp (wb_X11_live_88 J (nI rd) (nI bl) (nI bh) (nI lot) (nI h) E77 K77 Post E) n (0, I) := by
  have hP := hN.1
  have hrd12 := two12 hN hrd
  have hbl12 := two12 hN hbl
  refine lp_inv (fun i (st : Int32 × HI) => st.1 = nI i ∧ rep st.2 I0 N (mix i (sA N rd bl bh h s).1 s.1) s.2.1 (mix i (sA N rd bl bh h s).2.2 s.2.2)) (nP N) (fun i st hi hq K hK => ?_) (fun st hq K => ?_) (0, I) ⟨rfl, by rw [mix_0, mix_0]; exact hr⟩
  · obtain ⟨x6, I1⟩ := st
    obtain ⟨a1, g⟩ := hq
    dsimp only at a1 g
    subst a1
    obtain ⟨k1, k2, k3, k4, k5, k6, k7, k8⟩ := hk i hi
    have hl := (hN.2.2.2.2.1 i hi).2.2.2.1
    have vi : vp_in (nI i) 12 := vp_in_nI (by omega) (by omega)
    have t1 : I1 92 i = nI (s.1 i) := by rw [(g.2.1 i hi).1, mix_at]
    have t2 : I1 93 i = nI (s.2.1 i) := (g.2.1 i hi).2.1
    have t3 : I1 94 i = nI (s.2.2 i) := by rw [(g.2.1 i hi).2.2, mix_at]
    have hmI := rep_m hm g
    have eA : (sA N rd bl bh h s).1 i = p1t N rd bl bh h s.1 s.2.1 i := rfl
    have eW : (sA N rd bl bh h s).2.2 i = p1w rd bl bh h s.1 s.2.1 s.2.2 i := rfl
    -- it takes, or nothing happens
    have tk : ∀ x, (sA N rd bl bh h s).1 i = h → (sA N rd bl bh h s).2.2 i = x → w_X11_take (nI i) (nI h) (nI x) I1 J (fun I' => K (nI (i + 1), I')) := fun x q1 q2 => q_mTake hm hN hi hh g (fun I' r' => hK _ ⟨rfl, by
      have z1 : sN (mix i (sA N rd bl bh h s).1 s.1) i h = mix (i + 1) (sA N rd bl bh h s).1 s.1 := by rw [← mix_s, q1]
      have z2 : sN (mix i (sA N rd bl bh h s).2.2 s.2.2) i x = mix (i + 1) (sA N rd bl bh h s).2.2 s.2.2 := by rw [← mix_s, q2]
      rw [z1, z2] at r'
      exact r'⟩)
    have no : (sA N rd bl bh h s).1 i = s.1 i → (sA N rd bl bh h s).2.2 i = s.2.2 i → K (nI (i + 1), I1) := fun q1 q2 => hK _ ⟨rfl, by
      rw [← mix_same q1, ← mix_same q2]; exact g⟩
    -- the third of the cases
    have last : ¬ (s.1 i = 1000 ∧ s.2.1 i = 1000 ∧ h = 0 ∧ rd.testBit i = true) → ¬ (s.1 i = 1000 ∧ s.2.1 i = 1000 ∧ h = bh ∧ bl.testBit i = true) → wj_X11_live_195 I1 J (nI rd) (nI bl) (nI bh) (nI lot) (nI h) (nI i) E77 K77 E K Post := by
      intro c1 c2
      have w0 : (sA N rd bl bh h s).2.2 i = s.2.2 i := by rw [eW]; unfold p1w; rw [if_neg c1, if_neg c2]
      unfold wj_X11_live_195
      rw [nI_clamp (by omega : i < 2 ^ 31), t1, t2, t3, show (1000 : Int32) = nI 1000 from rfl, nI_eq (by omega) (by omega), nI_leI (by omega) (by omega), nI_1 i]
      refine ⟨vi, fun z => no ?_ w0, fun z => ⟨vi, fun z2 => no ?_ w0, fun z2 => ⟨vi, q_mLate hmI hN hi ?_⟩⟩⟩
      · rw [eA]; unfold p1t; rw [if_neg (fun y => z y.1)]
      · rw [eA]; unfold p1t; rw [if_neg]
        rintro ⟨y1, ⟨y2, ⟨y3, y4⟩ | ⟨y3, y4⟩⟩ | ⟨y2, y3⟩⟩
        · exact c1 ⟨y1, y2, y3, y4⟩
        · exact c2 ⟨y1, y2, y3, y4⟩
        · omega
      · rw [nI_add, nI_eq (by omega) (by omega)]
        refine ⟨fun z3 => no ?_ w0, fun z3 => ⟨vi, tk _ ?_ w0⟩⟩
        · rw [eA]; unfold p1t; rw [if_neg]
          rintro ⟨y1, ⟨y2, y3⟩ | ⟨y2, y3⟩⟩
          · omega
          · exact z3 y3
        · rw [eA]; unfold p1t; rw [if_pos ⟨z, Or.inr ⟨by omega, z3⟩⟩]
    have notfree : ¬ (s.1 i = 1000 ∧ s.2.1 i = 1000) → wj_X11_live_127 I1 J (nI rd) (nI bl) (nI bh) (nI lot) (nI h) (nI i) E77 K77 E K Post := fun c => by
      unfold wj_X11_live_127 wj_X11_live_128 wj_X11_live_162
      have := last (fun z => c ⟨z.1, z.2.1⟩) (fun z => c ⟨z.1, z.2.1⟩)
      exact ⟨fun _ => ⟨fun _ => this, fun z => absurd rfl z⟩, fun z => absurd rfl z⟩
    show wb_X11_live_88 J (nI rd) (nI bl) (nI bh) (nI lot) (nI h) E77 K77 Post E K (nI i, I1)
    unfold wb_X11_live_88
    dsimp only
    rw [hmI.1.1, nI_clamp (by omega : i < 2 ^ 31), t1, t2, show (1000 : Int32) = nI 1000 from rfl, nI_eq (by omega) (by omega), nI_eq (by omega) (by omega)]
    refine ⟨fun z => absurd z (nI_ge hi (by omega)), fun _ => ⟨vi, fun z => notfree (fun y => z y.1), fun z => ⟨vi, fun z2 => notfree (fun y => z2 y.2), fun z2 => ?_⟩⟩⟩
    unfold wj_X11_live_128
    have one0 : ¬ (1 : Int32) = 0 := by decide
    have blue : ¬ (h = 0 ∧ rd.testBit i = true) → wj_X11_live_162 I1 J (nI rd) (nI bl) (nI bh) (nI lot) (nI h) (nI i) 1 E77 K77 E K Post := fun c => by
      unfold wj_X11_live_162
      rw [nI_eq (by omega) (by omega), nb_bit1 (by omega) (by omega), nI_1 i]
      have c1 : ¬ (s.1 i = 1000 ∧ s.2.1 i = 1000 ∧ h = 0 ∧ rd.testBit i = true) := fun y => c y.2.2
      refine ⟨fun y => absurd y one0, fun _ => ⟨fun y => last c1 (fun w => y w.2.2.1), fun y => ⟨fun y2 => last c1 (fun w => y2 w.2.2.2), fun y2 => tk 1 ?_ ?_⟩⟩⟩
      · rw [eA]; unfold p1t; rw [if_pos ⟨z, Or.inl ⟨z2, Or.inr ⟨y, y2⟩⟩⟩]
      · rw [eW]; unfold p1w; rw [if_neg c1, if_pos ⟨z, z2, y, y2⟩]
    rw [show (nI h = 0) = (nI h = nI 0) from rfl, nI_eq (by omega) (by omega), nb_bit1 (by omega) (by omega), nI_1 i]
    refine ⟨fun y => absurd y one0, fun _ => ⟨fun y => blue (fun w => y w.1), fun y => ⟨fun y2 => blue (fun w => y2 w.2), fun y2 => tk 0 ?_ ?_⟩⟩⟩
    · rw [eA]; unfold p1t; rw [if_pos ⟨z, Or.inl ⟨z2, Or.inl ⟨y, y2⟩⟩⟩]
    · rw [eW]; unfold p1w; rw [if_pos ⟨z, z2, y, y2⟩]
  · obtain ⟨x6, I1⟩ := st
    obtain ⟨a1, g⟩ := hq
    dsimp only at a1 g
    subst a1
    show wb_X11_live_88 J (nI rd) (nI bl) (nI bh) (nI lot) (nI h) E77 K77 Post E K (nI (nP N), I1)
    unfold wb_X11_live_88
    dsimp only
    rw [(rep_m hm g).1.1]
    refine ⟨fun _ => hE I1 (rep_congr hN g (fun p hp => ⟨(mix_all hp).symm, rfl, (mix_all hp).symm⟩)), fun z => absurd (Int32.le_refl _) z⟩
theorem i_inc {x : Int32} (h1 : -100 ≤ x.toInt) (h2 : x.toInt ≤ 100) : (x + 1).toInt = x.toInt + 1 := by
  rw [Int32.toInt_add, show (1 : Int32).toInt = 1 from by decide]
  apply Int.bmod_eq_of_le <;> omega
theorem i_dec {x : Int32} (h1 : -100 ≤ x.toInt) (h2 : x.toInt ≤ 100) : (x + (-1)).toInt = x.toInt - 1 := by
  rw [Int32.toInt_add, show (-1 : Int32).toInt = -1 from by decide]
  rw [show x.toInt - 1 = x.toInt + -1 by omega]
  apply Int.bmod_eq_of_le <;> omega
theorem q_mDecide {I I0 : HI} {J : HJ} {N : NT} {rd bl lot h i : Nat} {s : ST} (hm : mNet I0 N) (hN : okN N) (hh : h < 150) (hlot : lot < 2 ^ nT N) (hk : mA N rd bl lot h s) (hi : i < nP N) (hr : rep I I0 N (mix i (sB N lot h s).1 s.1) (mix i (sB N lot h s).2.1 s.2.1) (mix i (sB N lot h s).2.2 s.2.2)) {Post : HI → Prop} (hpo : ∀ I', rep I' I0 N (mix (i + 1) (sB N lot h s).1 s.1) (mix (i + 1) (sB N lot h s).2.1 s.2.1) (mix (i + 1) (sB N lot h s).2.2 s.2.2) → Post I') : w_X11_decide (nI i) (nI h) (nI lot) I J Post := by
  have hP := hN.1
  have hT := hN.2.1
  have hlot10 := two10 hN hlot
  obtain ⟨k1, k2, k3, k4, k5, k6, k7, k8⟩ := hk i hi
  have hl := (hN.2.2.2.2.1 i hi).2.2.2.1
  have hnd := (hN.2.2.2.2.1 i hi).2.2.1
  have hmI := rep_m hm hr
  have vi : vp_in (nI i) 12 := vp_in_nI (by omega) (by omega)
  have t1 : I 92 i = nI (s.1 i) := by rw [(hr.2.1 i hi).1, mix_at]
  have t2 : I 93 i = nI (s.2.1 i) := by rw [(hr.2.1 i hi).2.1, mix_at]
  have no : dcs N lot h s.1 s.2.1 i = false → Post I := fun q => by
    have q1 : (sB N lot h s).1 i = s.1 i := if_neg (fun z => by rw [q] at z; cases z.1)
    have q2 : (sB N lot h s).2.1 i = s.2.1 i := if_neg (fun z => by rw [q] at z; cases z)
    have q3 : (sB N lot h s).2.2 i = s.2.2 i := if_neg (fun z => by rw [q] at z; cases z)
    refine hpo I ?_
    rw [← mix_same q1, ← mix_same q2, ← mix_same q3]
    exact hr
  have nd : ¬ ((nS N).testBit i = false ∧ s.1 i = 1000 ∧ s.2.1 i = 1000 ∧ nNd N i ≤ hn N lot s.1 (h + 1) i) → dcs N lot h s.1 s.2.1 i = false := fun q => Bool.eq_false_iff.mpr (fun z => q (dcs_t.mp z))
  -- the told ties, as they stand midway
  have tm : ∀ t, t < nT N → (tel N (mix i (sB N lot h s).1 s.1) t ≤ h ↔ tel N s.1 t < h + 1) ∧ (tel N s.1 t < h + 1 → mix i (sB N lot h s).2.2 s.2.2 (nFr N t) = s.2.2 (nFr N t)) := fun t ht => by
    have ho := hN.2.2.2.1 t ht
    have q := (hk _ ho.1).1
    have v1 := tel_v N s.1 t
    have v2 := tel_v N (mix i (sB N lot h s).1 s.1) t
    have e : mix i (sB N lot h s).1 s.1 (nFr N t) = h ∧ s.1 (nFr N t) = 1000 ∨ mix i (sB N lot h s).1 s.1 (nFr N t) = s.1 (nFr N t) := by
      unfold mix
      split
      · show p2t N lot h s.1 s.2.1 (nFr N t) = _ ∧ _ ∨ p2t N lot h s.1 s.2.1 (nFr N t) = _
        unfold p2t
        split
        · rename_i c; exact Or.inl ⟨rfl, (dcs_t.mp c.1).2.1⟩
        · exact Or.inr rfl
      · exact Or.inr rfl
    refine ⟨by omega, fun z => ?_⟩
    unfold mix
    split
    · show p2w N lot h s.1 s.2.1 s.2.2 (nFr N t) = _
      unfold p2w
      rw [if_neg]
      intro y
      have := (dcs_t.mp y).2.1
      omega
    · rfl
  refine q_mStub hmI hN hi ⟨fun b => no (nd (fun z => by rw [b] at z; cases z.1)), fun b => ⟨vi, ?_⟩⟩
  rw [nI_clamp (by omega : i < 2 ^ 31), t1, t2, show (1000 : Int32) = nI 1000 from rfl, nI_ltI (by omega) (by omega), nI_leI (by omega) (by omega)]
  refine ⟨fun z => no (nd (fun y => by omega)), fun z => ⟨vi, fun z2 => ?_, fun z2 => no (nd (fun y => by omega))⟩⟩
  refine lp_inv (fun j (st : Int32 × Int32 × Int32) => st.1 = nI (cnt (hnf N lot s.1 (h + 1) i) j) ∧ st.2.1.toInt = 2 * (cnt (fun t => hnf N lot s.1 (h + 1) i t && decide (s.2.2 (nFr N t) = 0)) j : Int) - (cnt (hnf N lot s.1 (h + 1) i) j : Int) ∧ st.2.2 = nI j) (nT N) (fun j st hj hq K hK => ?_) (fun st hq K => ?_) (0, 0, 0) ⟨rfl, by show (0 : Int32).toInt = 2 * ((0 : Nat) : Int) - ((0 : Nat) : Int); decide, rfl⟩
  · obtain ⟨x4, x5, x6⟩ := st
    obtain ⟨a1, a2, a3⟩ := hq
    dsimp only at a1 a2 a3
    subst a1 a3
    have ho := hN.2.2.2.1 j hj
    have ct := hmI.2.2.1 j hj
    have vj : vp_in (nI j) 10 := vp_in_nI (by omega) (by omega)
    have b1 := cnt_le (hnf N lot s.1 (h + 1) i) j
    have b2 := cnt_le (fun t => hnf N lot s.1 (h + 1) i t && decide (s.2.2 (nFr N t) = 0)) j
    have s1 : cnt (hnf N lot s.1 (h + 1) i) (j + 1) = cnt (hnf N lot s.1 (h + 1) i) j + (if hnf N lot s.1 (h + 1) i j then 1 else 0) := rfl
    have s2 : cnt (fun t => hnf N lot s.1 (h + 1) i t && decide (s.2.2 (nFr N t) = 0)) (j + 1) = cnt (fun t => hnf N lot s.1 (h + 1) i t && decide (s.2.2 (nFr N t) = 0)) j + (if hnf N lot s.1 (h + 1) i j && decide (s.2.2 (nFr N j) = 0) then 1 else 0) := rfl
    obtain ⟨m1, m2⟩ := tm j hj
    have v2 := tel_v N (mix i (sB N lot h s).1 s.1) j
    have bm : mix i (sB N lot h s).1 s.1 (nFr N j) ≤ 1000 := by
      have q := (hk _ ho.1).1
      unfold mix
      split
      · show p2t N lot h s.1 s.2.1 (nFr N j) ≤ _
        unfold p2t
        split <;> omega
      · omega
    have bw : mix i (sB N lot h s).2.2 s.2.2 (nFr N j) ≤ 2 := by
      have q := (hk _ ho.1).2.2.2.1
      unfold mix
      split
      · show p2w N lot h s.1 s.2.1 s.2.2 (nFr N j) ≤ _
        unfold p2w
        split
        · split <;> omega
        · exact q
      · exact q
    show wb_X11_decide_42 I J (nI i) (nI h) (nI lot) Post _ K (nI (cnt _ j), x5, nI j)
    unfold wb_X11_decide_42
    dsimp only
    rw [hmI.1.2, nI_clamp (by omega : j < 2 ^ 31), ct.2.1, nI_eq (by omega) (by omega), nb_bit (by omega) (by omega), hr.2.2 j hj, nI_leI (a := tel N (mix i (sB N lot h s).1 s.1) j) (b := h) (by omega) (by omega), m1, ct.1, nI_clamp (by omega : nFr N j < 2 ^ 31), (hr.2.1 _ ho.1).2.2, show (nI (mix i (sB N lot h s).2.2 s.2.2 (nFr N j)) = 0) = (nI (mix i (sB N lot h s).2.2 s.2.2 (nFr N j)) = nI 0) from rfl, nI_eq (by omega) (by omega), nI_1 j, nI_1]
    have no : hnf N lot s.1 (h + 1) i j = false → K (nI (cnt (hnf N lot s.1 (h + 1) i) j), x5, nI (j + 1)) := fun q => hK _ ⟨by rw [s1, q]; rfl, by rw [s1, s2, q]; exact a2, rfl⟩
    refine ⟨fun y => absurd y (nI_ge hj (by omega)), fun _ => ⟨vj, fun y => no (by unfold hnf; rw [decide_eq_false y]; rfl), fun y => ⟨fun y2 => no (by unfold hnf; rw [y2]; simp), fun y2 => ⟨vj, fun y3 => ⟨vj, vp_in_nI (by omega) (by omega), ?_⟩, fun y3 => no (by unfold hnf; rw [decide_eq_false y3]; simp)⟩⟩⟩⟩
    have on : hnf N lot s.1 (h + 1) i j = true := by
      unfold hnf
      rw [decide_eq_true y, decide_eq_true y3]
      cases hb : lot.testBit j
      · exact absurd hb y2
      · rfl
    rw [m2 y3]
    refine ⟨fun y4 => hK _ ⟨by rw [s1, on]; rfl, ?_, rfl⟩, fun y4 => hK _ ⟨by rw [s1, on]; rfl, ?_, rfl⟩⟩
    · rw [s1, s2, on, decide_eq_false y4]
      show (x5 + (-1)).toInt = _
      rw [i_dec (by omega) (by omega), a2]
      simp
      omega
    · rw [s1, s2, on, decide_eq_true y4]
      show (x5 + 1).toInt = _
      rw [i_inc (by omega) (by omega), a2]
      simp
      omega
  · obtain ⟨x4, x5, x6⟩ := st
    obtain ⟨a1, a2, a3⟩ := hq
    dsimp only at a1 a2 a3
    subst a1 a3
    have b1 := cnt_le (hnf N lot s.1 (h + 1) i) (nT N)
    show wb_X11_decide_42 I J (nI i) (nI h) (nI lot) Post _ K (nI (cnt _ (nT N)), x5, nI (nT N))
    unfold wb_X11_decide_42
    dsimp only
    rw [hmI.1.2]
    refine ⟨fun _ => q_mNeeds hmI hN hi ?_, fun y => absurd (Int32.le_refl _) y⟩
    rw [nI_leI (by omega) (by omega)]
    refine ⟨fun y => ⟨vi, fun I5 e5 => ?_⟩, fun y => no (nd (fun w => y w.2.2.2))⟩
    have dc : dcs N lot h s.1 s.2.1 i = true := dcs_t.mpr ⟨b, by omega, by omega, y⟩
    have em : (sB N lot h s).2.1 i = h := if_pos dc
    have r5 : rep I5 I0 N (mix i (sB N lot h s).1 s.1) (mix (i + 1) (sB N lot h s).2.1 s.2.1) (mix i (sB N lot h s).2.2 s.2.2) := by
      refine ⟨fun c hc => ?_, fun p hp => ?_, fun t ht => ?_⟩
      · rw [e5, hI_ne (by omega)]; exact hr.1 c hc
      · rw [← mix_s, em, e5, hI_ne (by decide), hI_at, hI_ne (by decide)]
        unfold sN
        obtain ⟨r1, r2, r3⟩ := hr.2.1 p hp
        by_cases w : p = i
        · rw [if_pos w, if_pos w]; exact ⟨r1, rfl, r3⟩
        · rw [if_neg w, if_neg w]; exact ⟨r1, r2, r3⟩
      · rw [e5, hI_ne (by decide)]; exact hr.2.2 t ht
    have fin : ∀ x, (sB N lot h s).2.2 i = x → wj_X11_decide_152 I5 J (nI i) (nI h) (nI x) (nI i) Post := by
      intro x hx
      refine ⟨vi, fun I6 e6 => ?_⟩
      rw [nI_clamp (by omega)] at e6
      have r6 : rep I6 I0 N (mix i (sB N lot h s).1 s.1) (mix (i + 1) (sB N lot h s).2.1 s.2.1) (mix (i + 1) (sB N lot h s).2.2 s.2.2) := by
        refine ⟨fun c hc => ?_, fun p hp => ?_, fun t ht => ?_⟩
        · rw [e6, hI_ne (by omega)]; exact r5.1 c hc
        · rw [← mix_s (f := (sB N lot h s).2.2), hx, e6, hI_ne (by decide), hI_ne (by decide), hI_at]
          unfold sN
          obtain ⟨r1, r2, r3⟩ := r5.2.1 p hp
          by_cases w : p = i
          · rw [if_pos w, if_pos w]; exact ⟨r1, r2, rfl⟩
          · rw [if_neg w, if_neg w]; exact ⟨r1, r2, r3⟩
        · rw [e6, hI_ne (by decide)]; exact r5.2.2 t ht
      refine q_mLate (rep_m hm r6) hN hi ?_
      rw [show (nI (nLt N i) = 0) = (nI (nLt N i) = nI 0) from rfl, nI_eq (by omega) (by omega)]
      refine ⟨fun w => hpo I6 ?_, fun w => ⟨vi, ?_⟩⟩
      · have et : (sB N lot h s).1 i = s.1 i := if_neg (fun z => w z.2)
        rw [← mix_same et]; exact r6
      · have et : (sB N lot h s).1 i = h := if_pos ⟨dc, w⟩
        have e94 : I6 94 (nI i).toNatClampNeg = nI x := by rw [nI_clamp (by omega), e6, hI_at, if_pos rfl]
        rw [e94]
        refine q_mTake hm hN hi hh r6 (fun I7 r7 => hpo I7 ?_)
        have q1 : sN (mix i (sB N lot h s).1 s.1) i h = mix (i + 1) (sB N lot h s).1 s.1 := by rw [← mix_s, et]
        have q2 : sN (mix (i + 1) (sB N lot h s).2.2 s.2.2) i x = mix (i + 1) (sB N lot h s).2.2 s.2.2 := by
          funext q
          unfold sN
          by_cases w2 : q = i
          · rw [if_pos w2, w2, ← hx]; exact (if_pos (by omega)).symm
          · rw [if_neg w2]
        rw [q1, q2] at r7
        exact r7
    have ew : (sB N lot h s).2.2 i = if hn N lot s.1 (h + 1) i ≤ 2 * hrd N lot s.1 s.2.2 (h + 1) i then 0 else 1 := if_pos dc
    rw [i_lt0]
    have a2' : x5.toInt = 2 * (hrd N lot s.1 s.2.2 (h + 1) i : Int) - (hn N lot s.1 (h + 1) i : Int) := a2
    refine ⟨fun w => fin 1 ?_, fun w => fin 0 ?_⟩
    · rw [ew, if_neg (by omega)]
    · rw [ew, if_pos (by omega)]
theorem q_mLive {I0 : HI} {J : HJ} {N : NT} {rd bl bh lot : Nat} (hm : mNet I0 N) (hN : okN N) (hbh : bh < 150) (hrd : rd < 2 ^ nP N) (hbl : bl < 2 ^ nP N) (hlot : lot < 2 ^ nT N) {Post : HI → Prop} (hpo : ∀ I', rep I' I0 N (sts N rd bl bh lot 150).1 (sts N rd bl bh lot 150).2.1 (sts N rd bl bh lot 150).2.2 → Post I') : w_X11_live (nI rd) (nI bl) (nI bh) (nI lot) I0 J Post := by
  have hP := hN.1
  have hT := hN.2.1
  refine lp_inv (fun i (st : Int32 × HI) => st.1 = nI i ∧ (∀ c, ¬ (92 ≤ c ∧ c ≤ 95) → st.2 c = I0 c) ∧ ∀ p, p < i → st.2 92 p = nI 1000 ∧ st.2 93 p = nI 1000 ∧ st.2 94 p = nI 2) (nP N) (fun i st hi hq K hK => ?_) (fun st hq K => ?_) (0, I0) ⟨rfl, fun _ _ => rfl, fun p hp => absurd hp (Nat.not_lt_zero _)⟩
  · obtain ⟨x5, I1⟩ := st
    obtain ⟨a1, g1, g2⟩ := hq
    dsimp only at a1 g1 g2
    subst a1
    have vi : vp_in (nI i) 12 := vp_in_nI (by omega) (by omega)
    show wb_X11_live_3 J (nI rd) (nI bl) (nI bh) (nI lot) Post _ K (nI i, I1)
    unfold wb_X11_live_3
    dsimp only
    rw [g1 72 (by omega), hm.1.1, nI_clamp (by omega : i < 2 ^ 31), nI_1 i]
    refine ⟨fun z => absurd z (nI_ge hi (by omega)), fun _ => ⟨vi, fun I2 e2 => ⟨vi, fun I3 e3 => ⟨vi, fun I4 e4 => hK _ ⟨rfl, fun c hc => ?_, fun p hp => ?_⟩⟩⟩⟩⟩
    · show I4 c = _
      rw [e4, hI_ne (by omega), e3, hI_ne (by omega), e2, hI_ne (by omega)]; exact g1 c hc
    · show I4 92 p = _ ∧ I4 93 p = _ ∧ I4 94 p = _
      have f1 : I4 92 p = if p = i then 1000 else I1 92 p := by rw [e4, hI_ne (by decide), e3, hI_ne (by decide), e2, hI_at]
      have f2 : I4 93 p = if p = i then 1000 else I1 93 p := by rw [e4, hI_ne (by decide), e3, hI_at, e2, hI_ne (by decide)]
      have f3 : I4 94 p = if p = i then 2 else I1 94 p := by rw [e4, hI_at, e3, hI_ne (by decide), e2, hI_ne (by decide)]
      rw [f1, f2, f3]
      by_cases y : p = i
      · rw [if_pos y, if_pos y, if_pos y]; exact ⟨rfl, rfl, rfl⟩
      · rw [if_neg y, if_neg y, if_neg y]; exact g2 p (by omega)
  · obtain ⟨x5, I1⟩ := st
    obtain ⟨a1, g1, g2⟩ := hq
    dsimp only at a1 g1 g2
    subst a1
    show wb_X11_live_3 J (nI rd) (nI bl) (nI bh) (nI lot) Post _ K (nI (nP N), I1)
    unfold wb_X11_live_3
    dsimp only
    rw [g1 72 (by omega), hm.1.1]
    refine ⟨fun _ => ?_, fun z => absurd (Int32.le_refl _) z⟩
    refine lp_inv (fun i (st : Int32 × HI) => st.1 = nI i ∧ (∀ c, ¬ (92 ≤ c ∧ c ≤ 95) → st.2 c = I0 c) ∧ (∀ p, p < nP N → st.2 92 p = nI 1000 ∧ st.2 93 p = nI 1000 ∧ st.2 94 p = nI 2) ∧ ∀ t, t < i → st.2 95 t = nI 1000) (nT N) (fun i st hi hq K hK => ?_) (fun st hq K => ?_) (0, I1) ⟨rfl, g1, g2, fun p hp => absurd hp (Nat.not_lt_zero _)⟩
    · obtain ⟨x5, I2⟩ := st
      obtain ⟨a1, f1, f2, f3⟩ := hq
      dsimp only at a1 f1 f2 f3
      subst a1
      show wb_X11_live_49 J (nI rd) (nI bl) (nI bh) (nI lot) Post _ K (nI i, I2)
      unfold wb_X11_live_49
      dsimp only
      rw [f1 72 (by omega), hm.1.2, nI_clamp (by omega : i < 2 ^ 31), nI_1 i]
      refine ⟨fun z => absurd z (nI_ge hi (by omega)), fun _ => ⟨vp_in_nI (by omega) (by omega), fun I3 e3 => hK _ ⟨rfl, fun c hc => ?_, fun p hp => ?_, fun t ht => ?_⟩⟩⟩
      · show I3 c = _
        rw [e3, hI_ne (by omega)]; exact f1 c hc
      · show I3 92 p = _ ∧ I3 93 p = _ ∧ I3 94 p = _
        rw [e3, hI_ne (by decide), hI_ne (by decide), hI_ne (by decide)]; exact f2 p hp
      · show I3 95 t = _
        rw [e3, hI_at]
        by_cases y : t = i
        · rw [if_pos y]; rfl
        · rw [if_neg y]; exact f3 t (by omega)
    · obtain ⟨x5, I2⟩ := st
      obtain ⟨a1, f1, f2, f3⟩ := hq
      dsimp only at a1 f1 f2 f3
      subst a1
      show wb_X11_live_49 J (nI rd) (nI bl) (nI bh) (nI lot) Post _ K (nI (nT N), I2)
      unfold wb_X11_live_49
      dsimp only
      rw [f1 72 (by omega), hm.1.2]
      refine ⟨fun _ => ?_, fun z => absurd (Int32.le_refl _) z⟩
      refine lp_inv (fun h (st : Int32 × HI) => st.1 = nI h ∧ rep st.2 I0 N (sts N rd bl bh lot h).1 (sts N rd bl bh lot h).2.1 (sts N rd bl bh lot h).2.2) 150 (fun h st hh hq K hK => ?_) (fun st hq K => ?_) (0, I2) ⟨rfl, f1, f2, fun t ht => ?_⟩
      · obtain ⟨x5, I3⟩ := st
        obtain ⟨a1, g⟩ := hq
        dsimp only at a1 g
        subst a1
        refine ⟨fun z => absurd z (nI_ge (b := 150) hh (by omega)), fun _ => ?_⟩
        have hk := mOk_all hN rd bl bh lot (Nat.le_of_lt hh)
        refine q_mPh1 hm hN hh hbh hrd hbl hk g (fun I4 r4 => ?_)
        have hA := mA_of hN (bh := bh) hh hk
        refine lp_inv (fun i (st : Int32 × HI) => st.1 = nI i ∧ rep st.2 I0 N (mix i (sB N lot h (sA N rd bl bh h (sts N rd bl bh lot h))).1 (sA N rd bl bh h (sts N rd bl bh lot h)).1) (mix i (sB N lot h (sA N rd bl bh h (sts N rd bl bh lot h))).2.1 (sA N rd bl bh h (sts N rd bl bh lot h)).2.1) (mix i (sB N lot h (sA N rd bl bh h (sts N rd bl bh lot h))).2.2 (sA N rd bl bh h (sts N rd bl bh lot h)).2.2)) (nP N) (fun i st hi hq K' hK' => ?_) (fun st hq K' => ?_) (0, I4) ⟨rfl, by rw [mix_0, mix_0, mix_0]; exact r4⟩
        · obtain ⟨x6, I5⟩ := st
          obtain ⟨a1, g5⟩ := hq
          dsimp only at a1 g5
          subst a1
          show wb_X11_live_264 J (nI rd) (nI bl) (nI bh) (nI lot) (nI h) _ K Post _ K' (nI i, I5)
          unfold wb_X11_live_264
          dsimp only
          rw [(rep_m hm g5).1.1, nI_1 i]
          exact ⟨fun z => absurd z (nI_ge hi (by omega)), fun _ => q_mDecide hm hN hh hlot hA hi g5 (fun I6 r6 => hK' _ ⟨rfl, r6⟩)⟩
        · obtain ⟨x6, I5⟩ := st
          obtain ⟨a1, g5⟩ := hq
          dsimp only at a1 g5
          subst a1
          show wb_X11_live_264 J (nI rd) (nI bl) (nI bh) (nI lot) (nI h) _ K Post _ K' (nI (nP N), I5)
          unfold wb_X11_live_264
          dsimp only
          rw [(rep_m hm g5).1.1, nI_1 h]
          exact ⟨fun _ => hK _ ⟨rfl, rep_congr hN g5 (fun p hp => ⟨(mix_all hp).symm, (mix_all hp).symm, (mix_all hp).symm⟩)⟩, fun z => absurd (Int32.le_refl _) z⟩
      · obtain ⟨x5, I3⟩ := st
        obtain ⟨a1, g⟩ := hq
        dsimp only at a1 g
        subst a1
        exact ⟨fun _ => hpo I3 g, fun z => absurd (by decide) z⟩
      · show I2 95 t = _
        rw [f3 t ht]
        unfold tel sts
        rfl
