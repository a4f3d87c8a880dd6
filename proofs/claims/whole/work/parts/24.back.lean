/-! the back walk: the least set with the one, closed under who tells -/
def bcl (N : NT) (L X : Nat) : Prop := ∀ t, t < nT N → L.testBit t = true → X.testBit (nTo N t) = true → (nS N).testBit (nTo N t) = false → X.testBit (nFr N t) = true
noncomputable def bwk (N : NT) (p L : Nat) : Nat := mk (fun q => @decide (∀ X, bcl N L X → X.testBit p = true → X.testBit q = true) (Classical.propDecidable _)) (nP N)
theorem bwk_lt (N : NT) (p L : Nat) : bwk N p L < 2 ^ nP N := mk_lt _ _
theorem bwk_bit {N : NT} {p L q : Nat} (hq : q < nP N) : (bwk N p L).testBit q = true ↔ ∀ X, bcl N L X → X.testBit p = true → X.testBit q = true := by
  unfold bwk
  rw [mk_bit]
  simp [hq]
theorem bwk_eq {N : NT} {p L X : Nat} (hX : X < 2 ^ nP N) (h1 : X.testBit p = true) (h2 : bcl N L X) (h3 : ∀ Y, bcl N L Y → Y.testBit p = true → ssb X Y) : X = bwk N p L := by
  refine mk_ext hX (bwk_lt N p L) (fun q hq => ?_)
  cases hb : X.testBit q
  · cases hr : (bwk N p L).testBit q
    · rfl
    · rw [(bwk_bit hq).mp hr X h2 h1] at hb; cases hb
  · exact ((bwk_bit hq).mpr (fun Y hY hpY => h3 Y hY hpY q hb)).symm
theorem two_bit (p : Nat) : (2 ^ p).testBit p = true := Nat.testBit_two_pow_self
theorem two_ssb {p Y : Nat} (h : Y.testBit p = true) : ssb (2 ^ p) Y := by
  intro i hi
  rw [Nat.testBit_two_pow, decide_eq_true_eq] at hi
  rw [← hi]; exact h
theorem q_mWalk {I : HI} {J : HJ} {N : NT} {p L : Nat} (hm : mNet I N) (hN : okN N) (hL : L < 2 ^ 31) (hp : p < nP N) {Post : Int32 → Prop} (h : Post (nI (bwk N p L))) : w_X11_walk (nI p) (nI L) I J Post := by
  have hP := hN.1
  have hT := hN.2.1
  have l31 : ∀ {X : Nat}, X < 2 ^ nP N → X < 2 ^ 31 := fun hX => lt31 (by omega) hX
  unfold w_X11_walk
  rw [nb_one p (by omega)]
  refine lp_by (fun s => ∃ (X : Nat) (b : Bool), s = (nI X, kb b) ∧ X < 2 ^ nP N ∧ X.testBit p = true ∧ (∀ Y, bcl N L Y → Y.testBit p = true → ssb X Y) ∧ (b = false → bcl N L X)) (fun s => 2 * (4096 - s.1.toNatClampNeg) + (if s.2 = 0 then 0 else 1)) (fun s K hs hK => ?_) (nI (2 ^ p), 1) ⟨2 ^ p, true, rfl, nb_one_lt hp, two_bit p, fun Y _ g => two_ssb g, fun q => by cases q⟩
  obtain ⟨X, b, rfl, hX, h1, h2, h3⟩ := hs
  have hX12 : X < 4096 := two12 hN hX
  refine ⟨fun c => ?_, fun c => ?_⟩
  · have hb : b = false := by cases b; rfl; exact absurd c (by decide)
    show Post (nI X)
    rw [bwk_eq hX h1 (h3 hb) h2]
    exact h
  · have hb : b = true := by cases b; exact absurd rfl c; rfl
    subst hb
    refine lp_inv (fun i s => ∃ (Z : Nat) (d : Bool), s = (nI Z, kb d, nI i) ∧ Z < 2 ^ nP N ∧ ssb X Z ∧ (∀ Y, bcl N L Y → Y.testBit p = true → ssb Z Y) ∧ (d = false → Z = X ∧ ∀ t, t < i → L.testBit t = true → X.testBit (nTo N t) = true → (nS N).testBit (nTo N t) = false → X.testBit (nFr N t) = true) ∧ (d = true → X < Z)) (nT N) (fun i s hi hq K' hK' => ?_) (fun s hq K' => ?_) (nI X, 0, 0) ⟨X, false, rfl, hX, ssb_rf X, h2, fun _ => ⟨rfl, fun p hp => absurd hp (Nat.not_lt_zero _)⟩, fun q => by cases q⟩
    · obtain ⟨Z, d, rfl, hZ, g1, g2, g3, g4⟩ := hq
      have ho := hN.2.2.2.1 i hi
      have e1 := (hm.2.2.1 i hi).1
      have e2 := (hm.2.2.1 i hi).2.1
      unfold wb_X11_walk_18
      dsimp only
      rw [hm.1.2, nI_clamp (by omega : i < 2 ^ 31), e1, e2, nb_bit1 hL (by omega), nb_bit1 (l31 hZ) (by omega), nb_bit (l31 hZ) (by omega)]
      have stay : (L.testBit i = true → Z.testBit (nTo N i) = true → (nS N).testBit (nTo N i) = false → Z.testBit (nFr N i) = true) → K' (nI Z, kb d, nI i + 1) := by
        intro q
        rw [nI_1]
        refine hK' _ ⟨Z, d, rfl, hZ, g1, g2, fun hd => ⟨(g3 hd).1, fun t ht a1 a2 a3 => ?_⟩, g4⟩
        rcases Nat.lt_or_eq_of_le (Nat.lt_succ_iff.mp ht) with ht | ht
        · exact (g3 hd).2 t ht a1 a2 a3
        · subst ht
          rw [← (g3 hd).1] at a2 ⊢
          exact q a1 a2 a3
      have stay' : ∀ {E7 : Int32 → Prop} {K7 : Int32 × Int32 → Prop} {E18 : Int32 → Int32 → Prop}, (L.testBit i = true → Z.testBit (nTo N i) = true → (nS N).testBit (nTo N i) = false → Z.testBit (nFr N i) = true) → wj_X11_walk_84 I J (nI L) (nI Z) (kb d) (nI i) E7 K7 E18 K' Post := fun q => ⟨fun c => absurd rfl c, fun _ => stay q⟩
      refine ⟨fun c => absurd c (nI_ge hi (by omega)), fun _ => ⟨fun c2 => stay' (fun a => absurd a c2), fun c2 => ⟨vp_in_nI (by omega) (by omega), fun c3 => stay' (fun _ a => absurd a c3), fun c3 => ⟨vp_in_nI (by omega) (by omega), q_mStub hm hN ho.2.1 ⟨fun c4 => stay' (fun _ _ a => by rw [c4] at a; cases a), fun c4 => ⟨vp_in_nI (by omega) (by omega), fun c5 => stay' (fun _ _ _ => ?_), fun c5 => ⟨fun _ => ⟨vp_in_nI (by omega) (by omega), fun z e => ?_⟩, fun c6 => absurd c6 (by decide)⟩⟩⟩⟩⟩⟩⟩
      · cases hz : Z.testBit (nFr N i)
        · exact absurd hz c5
        · rfl
      · rw [nI_clamp (by omega : i < 2 ^ 31), e1, nb_one _ (by omega), nb_or] at e
        subst e
        rw [nI_1]
        have hlt : Z < Z ||| 2 ^ nFr N i := ssb_lt (ssb_or_l Z _) (p := nFr N i) (by rw [or_bit]; simp) c5
        refine hK' _ ⟨Z ||| 2 ^ nFr N i, true, rfl, nb_or_lt hZ (nb_one_lt ho.1), ssb_tr g1 (ssb_or_l _ _), fun Y hY hpY q hq => ?_, fun q => (by cases q), fun _ => Nat.lt_of_le_of_lt (ssb_le g1) hlt⟩
        rw [or_bit, Bool.or_eq_true, decide_eq_true_eq] at hq
        rcases hq with hq | hq
        · exact g2 Y hY hpY q hq
        · subst hq
          exact hY i hi c2 (g2 Y hY hpY _ c3) c4
    · obtain ⟨Z, d, rfl, hZ, g1, g2, g3, g4⟩ := hq
      unfold wb_X11_walk_18
      dsimp only
      rw [hm.1.2]
      refine ⟨fun _ => ?_, fun c => absurd (nI_le (Nat.le_refl _) (by omega)) c⟩
      refine hK _ ⟨Z, d, rfl, hZ, g1 p h1, g2, fun hd => ?_⟩ ?_
      · rw [(g3 hd).1]
        exact fun t ht a1 a2 a3 => (g3 hd).2 t ht a1 a2 a3
      · have hZ12 : Z < 4096 := two12 hN hZ
        dsimp only
        rw [nI_clamp (by omega), nI_clamp (by omega)]
        cases d
        · rw [(g3 rfl).1]
          show 2 * (4096 - X) + 0 < 2 * (4096 - X) + 1
          omega
        · have := g4 rfl
          show 2 * (4096 - Z) + 1 < 2 * (4096 - X) + 1
          omega
/-- ties that one hears by -/
def heM (N : NT) (p : Nat) : Nat := if (nS N).testBit p then 0 else inM N p
theorem heM_lt (N : NT) (p : Nat) : heM N p < 2 ^ nT N := by unfold heM; split; exact Nat.two_pow_pos _; exact inM_lt N p
theorem heM_bit (N : NT) (p t : Nat) : (heM N p).testBit t = (decide (t < nT N) && (decide (nTo N t = p) && !(nS N).testBit p)) := by
  unfold heM
  split
  · rename_i h; simp [h]
  · rename_i h; rw [inM_bit]; simp [h]
theorem q_heard {I : HI} {J : HJ} {N : NT} {p : Nat} (hc : cNet I N) (hN : okN N) (hp : p < nP N) {Post : Int32 → Prop} (h : Post (nI (heM N p))) : w_X2_tiesHeard (nI p) I J Post := by
  have hP := hN.1
  unfold w_X2_tiesHeard heM at *
  rw [hc.1.2.2, nI_clamp (by omega), (hc.2.1 p hp).2.2.2.2.1]
  refine q_has (lt31 (by omega) hN.2.2.1) (by omega) ⟨fun b => ⟨vp_in_nI (by omega) (by omega), ?_⟩, fun b => ?_⟩
  · rw [if_neg (by rw [b]; decide)] at h; exact h
  · rw [if_pos b] at h; exact h
theorem q_walked {I : HI} {J : HJ} {N : NT} {p L : Nat} (hc : cNet I N) (hN : okN N) (hL : L < 2 ^ nT N) (hp : p < nP N) {Post : Int32 → Prop} (h : Post (nI (bwk N p L))) : w_X2_walkedBack (nI p) (nI L) I J Post := by
  have hP := hN.1
  have hT := hN.2.1
  have l31 : ∀ {X : Nat}, X < 2 ^ nP N → X < 2 ^ 31 := fun hX => lt31 (by omega) hX
  refine q_heard hc hN hp ?_
  rw [nb_and, nb_one p (by omega)]
  refine lp_inv (fun i s => ∃ (X O W : Nat), s = (nI X, nI W, nI i) ∧ X < 2 ^ nP N ∧ O < 2 ^ nT N ∧ W < 2 ^ nT N ∧ X.testBit p = true ∧ (∀ Y, bcl N L Y → Y.testBit p = true → ssb X Y) ∧ (∀ t, t < nT N → (O.testBit t || W.testBit t) = (L.testBit t && (X.testBit (nTo N t) && !(nS N).testBit (nTo N t)))) ∧ (∀ t, O.testBit t = true → W.testBit t = false) ∧ (∀ t, t < nT N → O.testBit t = true → X.testBit (nFr N t) = true) ∧ cnt (fun t => O.testBit t) (nT N) = i) 10 (fun i s hi hq K hK => ?_) (fun s hq K => ?_) (nI (2 ^ p), nI (heM N p &&& L), 0) ?_
  · obtain ⟨X, O, W, rfl, hX, hO, hW, h1, h2, h3, h4, h5, h6⟩ := hq
    have hfin : W = 0 → Post (nI X) := by
      intro hw
      rw [bwk_eq hX h1 (fun t ht a1 a2 a3 => ?_) h2]
      · exact h
      · have q := h3 t ht
        rw [hw, Nat.zero_testBit, Bool.or_false, a1, a2, a3] at q
        exact h5 t ht q
    show wb_X2_walkedBack_16 I J (nI L) Post _ K (nI X, nI W, nI i)
    unfold wb_X2_walkedBack_16
    dsimp only
    refine ⟨fun c => absurd c (nI_ge (b := 10) hi (by omega)), fun _ => ⟨fun c => hfin ?_, fun c => ?_⟩⟩
    · exact (nI_eq (b := 0) (by have := two10 hN hW; omega) (by omega)).mp c
    · have w0 : W ≠ 0 := fun q => c (by rw [q]; rfl)
      have w1 := two10 hN hW
      obtain ⟨-, -, lb, lm⟩ := low_ok w1 w0
      have lt : low W < nT N := by
        rcases Nat.lt_or_ge (low W) (nT N) with q | q
        · exact q
        · rw [mk_out hW q] at lb; cases lb
      generalize hlo : low W = t at lb lm lt
      have ho := hN.2.2.2.1 t lt
      have ot : O.testBit t = false := by
        cases q : O.testBit t
        · rfl
        · rw [h4 t q] at lb; cases lb
      refine q_nt w1 w0 ?_
      rw [hlo, nI_clamp (by omega), (hc.2.2.1 t lt).1, lm, nI_1]
      have h3' : ∀ u, u < nT N → ((O ||| 2 ^ t).testBit u || (sd W (2 ^ t)).testBit u) = (L.testBit u && (X.testBit (nTo N u) && !(nS N).testBit (nTo N u))) := by
        intro u hu
        rw [← h3 u hu, or_bit, sd_bit, Nat.testBit_two_pow]
        by_cases e : t = u
        · subst e; rw [lb]; simp
        · simp [e]
      have h4' : ∀ u, (O ||| 2 ^ t).testBit u = true → (sd W (2 ^ t)).testBit u = false := by
        intro u hu
        rw [or_bit, Bool.or_eq_true, decide_eq_true_eq] at hu
        rw [sd_bit, Nat.testBit_two_pow]
        rcases hu with hu | hu
        · rw [h4 u hu]; rfl
        · simp [hu]
      have h6' : cnt (fun u => (O ||| 2 ^ t).testBit u) (nT N) = i + 1 := by rw [cnt_or lt ot, h6]
      have hO' : O ||| 2 ^ t < 2 ^ nT N := nb_or_lt hO (nb_one_lt lt)
      have ht3 := h3 t lt
      rw [lb, Bool.or_true] at ht3
      have ht3 := ht3.symm
      simp only [Bool.and_eq_true, Bool.not_eq_true'] at ht3
      refine ⟨vp_in_nI (by omega) (by omega), q_has (l31 hX) (by omega) ⟨fun b => ?_, fun b z4 e4 => q_heard hc hN ho.1 ?_⟩⟩
      · refine hK _ ⟨X, O ||| 2 ^ t, sd W (2 ^ t), rfl, hX, hO', sd_lt hW, h1, h2, h3', h4', fun u hu g => ?_, h6'⟩
        rw [or_bit, Bool.or_eq_true, decide_eq_true_eq] at g
        rcases g with g | g
        · exact h5 u hu g
        · rw [← g]; exact b
      · rw [nb_one _ (by omega), nb_or] at e4
        rw [nb_and, nb_or]
        subst e4
        refine hK _ ⟨X ||| 2 ^ nFr N t, O ||| 2 ^ t, sd W (2 ^ t) ||| (heM N (nFr N t) &&& L), rfl, nb_or_lt hX (nb_one_lt ho.1), hO', nb_or_lt (sd_lt hW) (and_lt (heM_lt N _)), ssb_or_l X _ p h1, fun Y hY hpY q hq => ?_, fun u hu => ?_, fun u hu => ?_, fun u hu g => ?_, h6'⟩
        · rw [or_bit, Bool.or_eq_true, decide_eq_true_eq] at hq
          rcases hq with hq | hq
          · exact h2 Y hY hpY q hq
          · subst hq
            exact hY t lt ht3.1 (h2 Y hY hpY _ ht3.2.1) ht3.2.2
        · rw [or_bit X, Nat.testBit_or (sd W (2 ^ t)), Nat.testBit_and, heM_bit, ← Bool.or_assoc, h3' u hu, decide_eq_true hu, Bool.true_and]
          by_cases e : nFr N t = nTo N u
          · rw [← e]; cases L.testBit u <;> cases (nS N).testBit (nFr N t) <;> simp
          · have e' : ¬ nTo N u = nFr N t := fun q => e q.symm
            simp [e, e']
        · rw [Nat.testBit_or, h4' u hu, Nat.testBit_and, heM_bit, Bool.false_or]
          have hul : u < nT N := by
            rcases Nat.lt_or_ge u (nT N) with q | q
            · exact q
            · rw [mk_out hO' q] at hu; cases hu
          by_cases e : nTo N u = nFr N t
          · have q := h3' u hul
            rw [hu, Bool.true_or, e, b, Bool.false_and, Bool.and_false] at q
            cases q
          · simp [e]
        · rw [or_bit, Bool.or_eq_true, decide_eq_true_eq] at g
          rcases g with g | g
          · exact ssb_or_l X _ _ (h5 u hu g)
          · rw [← g, or_bit]; simp
  · obtain ⟨X, O, W, rfl, hX, hO, hW, h1, h2, h3, h4, h5, h6⟩ := hq
    have full := cnt_full (f := fun t => O.testBit t) (n := nT N) (by omega)
    show wb_X2_walkedBack_16 I J (nI L) Post _ K (nI X, nI W, nI 10)
    refine ⟨fun _ => ?_, fun c => absurd (Int32.le_refl _) c⟩
    rw [bwk_eq hX h1 (fun t ht a1 a2 a3 => h5 t ht (full t ht)) h2]
    exact h
  · refine ⟨2 ^ p, 0, heM N p &&& L, rfl, nb_one_lt hp, Nat.two_pow_pos _, and_lt (heM_lt N p), two_bit p, fun Y _ g => two_ssb g, fun t ht => ?_, fun t ht => ?_, fun t _ ht => ?_, ?_⟩
    · rw [Nat.zero_testBit, Bool.false_or, Nat.testBit_and, heM_bit, decide_eq_true ht, Bool.true_and, Bool.and_comm, Nat.testBit_two_pow]
      by_cases e : p = nTo N t
      · subst e; simp
      · have e' : ¬ nTo N t = p := fun q => e q.symm
        simp [e, e']
    · rw [Nat.zero_testBit] at ht; cases ht
    · rw [Nat.zero_testBit] at ht; cases ht
    · exact cnt_false (fun t _ => Nat.zero_testBit t)
