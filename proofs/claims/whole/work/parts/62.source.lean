theorem alq_le {f : Nat → Bool} {n m : Nat} (h : n ≤ m) (hf : alq f n = false) : alq f m = false := by
  refine Bool.eq_false_iff.mpr (fun z => ?_)
  have := alq_t.mpr (fun i (hi : i < n) => alq_t.mp z i (by omega))
  rw [hf] at this
  cases this
theorem q_mBegan {I : HI} {J : HJ} {N : NT} {k p hr : Nat} {seen : Nat → Int64} (hm : mNet I N) (hN : okN N) (hk : k < 4) (hp : p < nP N) (hr150 : hr < 150) (hsv : ∀ q, q < nP N → J 75 (40 * k + q) = seen q ∧ sv (seen q)) {Post : Int64 → HI → Prop} (h : ∀ I', (∀ c, ¬ (92 ≤ c ∧ c ≤ 95) → I' c = I c) → Post (lN (src N seen hr p)) I') : w_X11_beganBy (nI k) (nI hr) (nI p) I J Post := by
  have hP := hN.1
  have hT := hN.2.1
  have hp10 : 2 ^ nT N ≤ 1024 := Nat.pow_le_pow_right (n := 2) (by decide) hT
  have mn : ∀ I' : HI, (∀ c, ¬ (92 ≤ c ∧ c ≤ 95) → I' c = I c) → mNet I' N := fun I' g1 => mNet_of hm (by rw [g1 72 (by omega)]) (by rw [g1 72 (by omega)]) ⟨g1 77 (by omega), g1 79 (by omega), g1 80 (by omega), g1 81 (by omega), g1 82 (by omega), g1 87 (by omega)⟩
  refine lp_inv (fun i (s : Int64 × Int32 × HI) => s.1 = lN (sm (fun lot => wt N lot * srw N seen hr p lot) i) ∧ s.2.1 = nI i ∧ ∀ c, ¬ (92 ≤ c ∧ c ≤ 95) → s.2.2 c = I c) (2 ^ nT N) (fun i s hi hq K hK => ?_) (fun s hq K => ?_) (0, 0, I) ⟨rfl, rfl, fun _ _ => rfl⟩
  · obtain ⟨x5, x7, I1⟩ := s
    obtain ⟨a1, a2, g1⟩ := hq
    dsimp only at a1 a2 g1
    subst a1 a2
    have hm1 := mn I1 g1
    have hwt := wt_le hN i
    have st : sm (fun lot => wt N lot * srw N seen hr p lot) (i + 1) = sm (fun lot => wt N lot * srw N seen hr p lot) i + wt N i * srw N seen hr p i := rfl
    show wb_X11_beganBy_6 J (nI k) (nI hr) (nI p) Post _ K (lN _, nI i, I1)
    unfold wb_X11_beganBy_6
    dsimp only
    rw [hm1.1.2, nb_one (nT N) (by omega), nI_1 i, nb_one p (by omega)]
    refine ⟨fun c => absurd c (nI_ge hi (by omega)), fun _ => q_mWeight hm1 hN (by omega) ⟨fun c => q_mLive (bl := 0) (bh := 0) hm1 hN (by decide) (nb_one_lt hp) (Nat.two_pow_pos _) hi (fun I2 r2 => ?_), fun c => hK _ ⟨?_, rfl, g1⟩⟩⟩
    · have hm2 := rep_m hm1 r2
      have g2 : ∀ c, ¬ (92 ≤ c ∧ c ≤ 95) → I2 c = I c := fun c hc => (r2.1 c hc).trans (g1 c hc)
      have hkk := fun q hq => (mOk_all hN (2 ^ p) 0 0 i (Nat.le_refl 150) q hq).1
      have sw : srw N seen hr p i = if alq (fine seen (sts N (2 ^ p) 0 0 i 150) hr) (nP N) = true then 1 else 0 := rfl
      generalize hst : sts N (2 ^ p) 0 0 i 150 = s at *
      have end0 : alq (fine seen s hr) (nP N) = false → K (lN (sm (fun lot => wt N lot * srw N seen hr p lot) i) + 0, nI (i + 1), I2) := fun z => by
        rw [Int64.add_zero]
        refine hK _ ⟨?_, rfl, g2⟩
        rw [st, sw, z]
        rfl
      have end1 : alq (fine seen s hr) (nP N) = true → K (lN (sm (fun lot => wt N lot * srw N seen hr p lot) i) + lN (wt N i), nI (i + 1), I2) := fun z => by
        rw [lN_add]
        refine hK _ ⟨?_, rfl, g2⟩
        rw [st, sw, z, if_pos rfl, Nat.mul_one]
      refine lp_inv (fun j (t : Int32 × Int32) => t.1 = kb (alq (fine seen s hr) j) ∧ t.2 = nI j) (nP N) (fun j t hj hq K' hK' => ?_) (fun t hq K' => ?_) (1, 0) ⟨rfl, rfl⟩
      · obtain ⟨x9, x10⟩ := t
        obtain ⟨a1, a2⟩ := hq
        dsimp only at a1 a2
        subst a1 a2
        have vj : vp_in (nI j) 12 := vp_in_nI (by omega) (by omega)
        have hkj := hkk j hj
        show wb_X11_beganBy_52 I2 J (nI k) (nI hr) (nI p) _ (nI i) (lN (wt N i)) _ K Post _ K' (kb _, nI j)
        unfold wb_X11_beganBy_52
        dsimp only
        rw [hm2.1.1]
        refine ⟨fun c => absurd c (nI_ge hj (by omega)), fun _ => ⟨fun c => ?_, fun c => ?_⟩⟩
        · have z : alq (fine seen s hr) j = false := by
            cases y : alq (fine seen s hr) j
            · rfl
            · rw [y] at c; exact absurd c (by decide)
          rw [z]
          exact ⟨fun _ => end0 (alq_le (by omega) z), fun q => absurd rfl q⟩
        · have z : alq (fine seen s hr) j = true := by
            cases y : alq (fine seen s hr) j
            · rw [y] at c; exact absurd rfl c
            · rfl
          have nx : ∀ (v : Int32), v = kb (fine seen s hr j) → K' (v, nI (j + 1)) := fun v ev => hK' _ ⟨by
            show v = kb (alq (fine seen s hr) j && fine seen s hr j)
            rw [z, ev, Bool.true_and], rfl⟩
          have w111 : ∀ (b1 b2 : Bool), (b1 == b2) = fine seen s hr j → wj_X11_beganBy_111 I2 J (nI k) (nI hr) (nI p) (lN (sm (fun lot => wt N lot * srw N seen hr p lot) i)) (nI i) (lN (wt N i)) (nI j) (kb b2) (kb b1) (fun (x4_6 : Int64) (I_7 : HI) => Post x4_6 I_7) K (fun (x9_5 : Int32) => (x9_5 = 0 → (K (lN (sm (fun lot => wt N lot * srw N seen hr p lot) i) + 0, nI (i + 1), I2))) ∧ (¬ x9_5 = 0 → (K (lN (sm (fun lot => wt N lot * srw N seen hr p lot) i) + lN (wt N i), nI (i + 1), I2)))) K' Post := fun b1 b2 e => by
            unfold wj_X11_beganBy_111
            rw [nI_1 j]
            refine ⟨fun q => nx 0 ?_, fun q => nx 1 ?_⟩
            · rw [← e]
              cases b1 <;> cases b2
              · exact absurd rfl q
              · rfl
              · rfl
              · exact absurd rfl q
            · rw [← e]
              cases b1 <;> cases b2
              · rfl
              · exact absurd q (by decide)
              · exact absurd q (by decide)
              · rfl
          have w95 : ∀ (b1 : Bool), b1 = decide (seen j = 1) → ¬ seen j < 0 → wj_X11_beganBy_95 I2 J (nI k) (nI hr) (nI p) (lN (sm (fun lot => wt N lot * srw N seen hr p lot) i)) (nI i) (lN (wt N i)) (nI j) (kb b1) (fun (x4_6 : Int64) (I_7 : HI) => Post x4_6 I_7) K (fun (x9_5 : Int32) => (x9_5 = 0 → (K (lN (sm (fun lot => wt N lot * srw N seen hr p lot) i) + 0, nI (i + 1), I2))) ∧ (¬ x9_5 = 0 → (K (lN (sm (fun lot => wt N lot * srw N seen hr p lot) i) + lN (wt N i), nI (i + 1), I2)))) K' Post := fun b1 e1 n0 => by
            unfold wj_X11_beganBy_95
            rw [nI_clamp (by omega : j < 2 ^ 31), (r2.2.1 j hj).1, nI_ltI (by omega) (by omega)]
            refine ⟨vj, fun q => w111 b1 false ?_, fun q => w111 b1 true ?_⟩
            · unfold fine
              rw [e1, decide_eq_false n0, decide_eq_false (show ¬ s.1 j ≤ hr by omega), Bool.false_or]
            · unfold fine
              rw [e1, decide_eq_false n0, decide_eq_true (show s.1 j ≤ hr by omega), Bool.false_or]
          refine q_mNumber hk (by omega) ?_
          rw [(hsv j hj).1, nI_1 j]
          refine ⟨fun q => nx 1 ?_, fun q => q_mNumber hk (by omega) ?_⟩
          · unfold fine
            rw [decide_eq_true q, Bool.true_or]
            rfl
          · rw [(hsv j hj).1]
            exact ⟨fun q2 => w95 false (decide_eq_false q2).symm q, fun q2 => w95 true (decide_eq_true q2).symm q⟩
      · obtain ⟨x9, x10⟩ := t
        obtain ⟨a1, a2⟩ := hq
        dsimp only at a1 a2
        subst a1 a2
        show wb_X11_beganBy_52 I2 J (nI k) (nI hr) (nI p) _ (nI i) (lN (wt N i)) _ K Post _ K' (kb _, nI (nP N))
        unfold wb_X11_beganBy_52
        dsimp only
        rw [hm2.1.1]
        refine ⟨fun _ => ?_, fun z => absurd (Int32.le_refl _) z⟩
        cases y : alq (fine seen s hr) (nP N)
        · exact ⟨fun _ => end0 y, fun q => absurd rfl q⟩
        · exact ⟨fun q => absurd q (by decide), fun _ => end1 y⟩
    · have w0 : wt N i = 0 := (pk_lEQ (b := 0) (by omega) (by decide)).mp c
      show lN _ = lN (sm _ i + wt N i * _)
      rw [w0, Nat.zero_mul, Nat.add_zero]
  · obtain ⟨x5, x7, I1⟩ := s
    obtain ⟨a1, a2, g1⟩ := hq
    dsimp only at a1 a2 g1
    subst a1 a2
    show wb_X11_beganBy_6 J (nI k) (nI hr) (nI p) Post _ K (lN _, nI (2 ^ nT N), I1)
    unfold wb_X11_beganBy_6
    dsimp only
    rw [(mn I1 g1).1.2, nb_one _ (by omega)]
    exact ⟨fun _ => h I1 g1, fun z => absurd (Int32.le_refl _) z⟩
theorem sv_of {v : Int64} (h : -1 ≤ v.toInt ∧ v.toInt ≤ 1) : sv v := by
  have e : v.toInt = -1 ∨ v.toInt = 0 ∨ v.toInt = 1 := by omega
  rcases e with z | z | z
  · exact Or.inl (Int64.toInt_inj.mp (z.trans (by decide)))
  · exact Or.inr (Or.inl (Int64.toInt_inj.mp (z.trans (by decide))))
  · exact Or.inr (Or.inr (Int64.toInt_inj.mp (z.trans (by decide))))
theorem same_53 {J J' : HJ} (h : ∀ c, c ≠ 53 → J' c = J c) : sameJ J J' := fun c r => by
  by_cases y : c = 53
  · subst y; cases r
  · exact h c y
theorem op_source {I : HI} {J : HJ} (h : Inv I J) (x y z : Int32) : w_X10_source x y z I J (fun r I1 J1 => w_X11_source x y z I1 J1 (fun r' I2 J2 => r = r' ∧ Inv I2 J2)) := by
  obtain ⟨N, hC, h1, h2⟩ := h
  have hN := hC.1
  have hP := hN.1
  have hTr := hC.2.2.2.2.1
  have hm2 : ∀ v, mNet (m0 (cS I v)) N := fun v => mNet_same hC.2.2.1 (sameI_tr (same_cS I v) (same_m0 (cS I v)))
  have hs : ∀ v : Int32, sameI I (m0 (cS I v)) := fun v => sameI_tr (same_cS I v) (same_m0 _)
  have er : ∀ v, Inv (mE (cS I v) v) J := fun v => fin_er hC (same_cS I v) (cS_at I v) (sameJ_rf J) h2
  -- a refusal: the class's word, then the model's
  have rf : ∀ v : Int32, ¬ v = 0 → w_X11_source x y z (cS I v) J (fun r' I2 J2 => false = r' ∧ Inv I2 J2) → (¬ v = 0 → wj_X10_source_51 I J z v 0 (fun r I1 J1 => w_X11_source x y z I1 J1 (fun r' I2 J2 => r = r' ∧ Inv I2 J2))) ∧ (v = 0 → (vp_in x 4 ∧ (w_X3_weighSources (2 + 2 * Int32.toNatClampNeg x + 1) y I J (fun (r_6 : Int64) (I_7 : HI) (J_8 : HJ) => ((¬ r_6 = 0 → (wj_X10_source_49 I_7 J_8 z r_6 0 (fun r I1 J1 => w_X11_source x y z I1 J1 (fun r' I2 J2 => r = r' ∧ Inv I2 J2)))) ∧ (r_6 = 0 → (wj_X10_source_49 I_7 J_8 z r_6 9 (fun r I1 J1 => w_X11_source x y z I1 J1 (fun r' I2 J2 => r = r' ∧ Inv I2 J2))))))))) := fun v hv hw => ⟨fun _ => q_failsE hv ⟨fun q => (by cases q), fun _ => hw⟩, fun q => absurd q hv⟩
  unfold w_X10_source w_X10_sourceStatus
  refine q_isTray ⟨fun bt => ?_, fun bt => rf 1 (by decide) (fun I1 e1 I2 e2 => isT4 ?_)⟩
  · refine q_isPerson hC.2.1 hN ⟨fun b => ?_, fun b => rf 2 (by decide) (fun I1 e1 I2 e2 => isT4 ?_)⟩
    · obtain ⟨p, hp, rfl⟩ := ofIx b
      rcases tray_cases hTr x with q | ⟨k, hk, rfl, hm⟩ | ⟨k, m, hk, hm40, rfl, hm, hrow⟩
      · rw [q] at bt; cases bt
      · refine ⟨vp_in_nI hk (by decide), q_missing ?_⟩
        rw [nI_clamp (by omega : k < 2 ^ 31), (hTr k hk).2.1, hm]
        refine ⟨fun q => absurd q (by decide), fun _ => ?_⟩
        have r3 := rf 3 (by decide) (fun I1 e1 I2 e2 => isT4 (by
          subst e1 e2
          rw [bt, show hI (hI (cS I 3) 72 1 0) 72 0 0 = m0 (cS I 3) from rfl, nI_clamp (by omega), hs 3 74 k rfl, hm]
          exact ⟨fun _ => q_isOne (hm2 3) hN ⟨fun _ => ⟨vp_in_nI hk (by decide), fun q => absurd q (by decide), fun _ => q_no ⟨rfl, er 3⟩⟩, fun q => (by rw [b] at q; cases q)⟩, fun q => (by cases q)⟩))
        rw [nI_clamp (by omega : k < 2 ^ 31)] at r3
        exact r3
      · have m0' : 0 ≤ nI m := nI_pos' (by omega)
        have mP : ∀ v : Int32, m0 (cS I v) 72 20 = nI (nP N) := fun v => (hm2 v).1.1
        refine ⟨vp_in_nI hk (by decide), q_missing ?_⟩
        rw [nI_clamp (by omega : k < 2 ^ 31), (hTr k hk).2.1, hm, hC.2.1.1.1, nI_leI (by omega) (by omega), decide_eq_false (show ¬ nI m = -1 from fun q => by rw [q] at m0'; exact absurd m0' (by decide))]
        have rf' := rf
        rw [nI_clamp (by omega : k < 2 ^ 31)] at rf'
        -- the model up to its hour
        have mod : ∀ (I1 : HI) (J1 : HJ) (rr : Bool), sameI I I1 → (isBt y 0 149 = false → rr = false ∧ Inv (mE I1 5) J1) → (isBt y 0 149 = true → (nP N ≤ m → (∃ n, lp (wb_X11_source_97 (m0 I1) J1 (nI k) y (nI p) (fun r' I2 J2 => rr = r' ∧ Inv I2 J2) (∃ n, lp (wb_X11_source_141 J1 (nI k) y (nI p) (fun r' I2 J2 => rr = r' ∧ Inv I2 J2) (fun (x4_12 : Int64) (I_13 : HI) => (¬ x4_12 = 0 → (w_X11_beganBy (nI k) y (nI p) I_13 J1 (fun (r_14 : Int64) (I_15 : HI) => (w_X11_fraction r_14 x4_12 I_15 J1 (fun (J_16 : HJ) => (rr = true ∧ Inv I_15 J_16)))))) ∧ (x4_12 = 0 → (w_X11_no 9 I_13 J1 (fun (r_17 : Bool) (I_18 : HI) => (rr = r_17 ∧ Inv I_18 J1)))))) n (0, 0, m0 I1))) n 0)) ∧ (¬ nP N ≤ m → rr = false ∧ Inv (mE I1 4) J1)) → w_X11_source (nI k) y (nI p) I1 J1 (fun r' I2 J2 => rr = r' ∧ Inv I2 J2) := by
          intro I1 J1 rr hsI g5 gt Ia ea Ib eb
          subst ea eb
          have s8 := sameI_tr hsI (same_m0 I1)
          have hm' := mNet_same hC.2.2.1 s8
          refine isT4 ?_
          rw [bt, show hI (hI I1 72 1 0) 72 0 0 = m0 I1 from rfl, nI_clamp (by omega : k < 2 ^ 31), s8 74 k rfl, hm, hm'.1.1, nI_leI (by omega) (by omega)]
          refine ⟨fun _ => q_isOne hm' hN ⟨fun _ => ⟨vp_in_nI hk (by decide), fun _ => bt_m (lo := 0) (hi := 149) (by decide) (by decide) ⟨fun b5 => ⟨vp_in_nI hk (by decide), fun c => (gt b5).1 c, fun c => q_no ((gt b5).2 c)⟩, fun b5 => q_no (g5 b5)⟩, fun q => absurd m0' q⟩, fun q => (by rw [b] at q; cases q)⟩, fun q => (by cases q)⟩
        refine ⟨fun _ => bt_w (lo := 0) (hi := 149) (by decide) (by decide) ⟨fun b5 => ⟨vp_in_nI hk (by decide), fun hPm => ⟨vp_in_nI hk (by decide), q_allBetween ((hTr k hk).2.1.trans hm) hm40 hPm ?_⟩, fun hPm => ?_⟩, fun b5 => ?_⟩, fun q => (by cases q)⟩
        · rw [show (-1 : Int64).toInt = -1 from by decide, show (1 : Int64).toInt = 1 from by decide, show 2 + 2 * k + 1 = 3 + 2 * k by omega, allB_congr (g := fun q => J 75 (40 * k + q)) (fun q hq => hrow q (by omega))]
          obtain ⟨hr, hr149, rfl⟩ := ofBt (n := 149) b5
          -- the model's own look at the row
          have look : ∀ (I1 : HI) (J1 : HJ) (rr : Bool) (E : Prop), J1 75 = J 75 → m0 I1 72 20 = nI (nP N) → (allB (fun q => J 75 (40 * k + q)) (nP N) (-1) 1 = false → rr = false ∧ Inv (mE I1 5) J1) → (allB (fun q => J 75 (40 * k + q)) (nP N) (-1) 1 = true → E) → ∃ n, lp (wb_X11_source_97 (m0 I1) J1 (nI k) (nI hr) (nI p) (fun r' I2 J2 => rr = r' ∧ Inv I2 J2) E) n 0 := by
            intro I1 J1 rr E e75 e20 gf gt
            refine lp_inv (fun i x => x = nI i ∧ ∀ q, q < i → -1 ≤ (J 75 (40 * k + q)).toInt ∧ (J 75 (40 * k + q)).toInt ≤ 1) (nP N) (fun i x hi hq K hK => ?_) (fun x hq K => ?_) 0 ⟨rfl, fun q hq => absurd hq (Nat.not_lt_zero _)⟩
            · obtain ⟨rfl, hq⟩ := hq
              show wb_X11_source_97 (m0 I1) J1 (nI k) (nI hr) (nI p) _ _ K (nI i)
              unfold wb_X11_source_97
              rw [e20, nI_1]
              refine ⟨fun z => absurd z (nI_ge hi (by omega)), fun _ => q_mNumber hk (by omega) (q_isInL ?_)⟩
              rw [e75, show (-1 : Int64).toInt = -1 from by decide, show (1 : Int64).toInt = 1 from by decide]
              refine ⟨fun z => hK _ ⟨rfl, fun q hq2 => ?_⟩, fun z => q_no (gf (allB_f hi (of_decide_eq_false z)))⟩
              rcases Nat.lt_or_eq_of_le (Nat.lt_succ_iff.mp hq2) with y | y
              · exact hq q y
              · rw [y]; exact of_decide_eq_true z
            · obtain ⟨rfl, hq⟩ := hq
              show wb_X11_source_97 (m0 I1) J1 (nI k) (nI hr) (nI p) _ _ K (nI (nP N))
              unfold wb_X11_source_97
              rw [e20]
              exact ⟨fun _ => gt (allB_t.mpr hq), fun z => absurd (Int32.le_refl _) z⟩
          cases ba : allB (fun q => J 75 (40 * k + q)) (nP N) (-1) 1
          · have rf3 := rf'
            rw [show 2 + 2 * k + 1 = 3 + 2 * k by omega] at rf3
            refine ⟨fun _ => rf3 5 (by decide) (mod (cS I 5) J false (same_cS I 5) (fun q => (by rw [b5] at q; cases q)) (fun _ => ⟨fun _ => look (cS I 5) J false _ rfl (mP 5) (fun _ => ⟨rfl, er 5⟩) (fun q => (by rw [ba] at q; cases q)), fun q => absurd hPm q⟩)), fun q => (by cases q)⟩
          · refine ⟨fun q => (by cases q), fun _ => ⟨fun q => absurd rfl q, fun _ => ⟨vp_in_nI hk (by decide), ?_⟩⟩⟩
            have hv : ∀ q, q < nP N → sv (J 75 (40 * k + q)) := fun q hq => sv_of (allB_t.mp ba q hq)
            refine q_weighSources (seen := fun q => J 75 (40 * k + q)) hC.2.1 hN hC.2.2.2.1 (by omega) (fun q hq => ⟨?_, hv q hq⟩) (fun I7 J7 g7 j7 e7 => ?_)
            · exact hrow q (by omega)
            have s7 : sameI I I7 := same_st g7
            have hsum := src_sum hN (fun q => J 75 (40 * k + q)) hr hP
            have hs1 : src N (fun q => J 75 (40 * k + q)) hr p < 2 ^ 45 := Nat.lt_of_le_of_lt (src_le hN _ _ _) (by decide)
            -- the model sums
            have msum : ∀ (I1 : HI) (J1 : HJ) (rr : Bool) (E : Int64 → HI → Prop), J1 75 = J 75 → mNet I1 N → (∀ I9, (∀ c, ¬ (92 ≤ c ∧ c ≤ 95) → I9 c = I1 c) → E (lN (sm (src N (fun q => J 75 (40 * k + q)) hr) (nP N))) I9) → ∃ n, lp (wb_X11_source_141 J1 (nI k) (nI hr) (nI p) (fun r' I2 J2 => rr = r' ∧ Inv I2 J2) E) n (0, 0, I1) := by
              intro I1 J1 rr E e75 hm1 hE
              have mn : ∀ I' : HI, (∀ c, ¬ (92 ≤ c ∧ c ≤ 95) → I' c = I1 c) → mNet I' N := fun I' g1 => mNet_of hm1 (by rw [g1 72 (by omega)]) (by rw [g1 72 (by omega)]) ⟨g1 77 (by omega), g1 79 (by omega), g1 80 (by omega), g1 81 (by omega), g1 82 (by omega), g1 87 (by omega)⟩
              refine lp_inv (fun i (s : Int64 × Int32 × HI) => s.1 = lN (sm (src N (fun q => J 75 (40 * k + q)) hr) i) ∧ s.2.1 = nI i ∧ ∀ c, ¬ (92 ≤ c ∧ c ≤ 95) → s.2.2 c = I1 c) (nP N) (fun i s hi hq K hK => ?_) (fun s hq K => ?_) (0, 0, I1) ⟨rfl, rfl, fun _ _ => rfl⟩
              · obtain ⟨x5, x7, I3⟩ := s
                obtain ⟨a1, a2, g1⟩ := hq
                dsimp only at a1 a2 g1
                subst a1 a2
                show wb_X11_source_141 J1 (nI k) (nI hr) (nI p) _ _ K (lN _, nI i, I3)
                unfold wb_X11_source_141
                dsimp only
                rw [(mn I3 g1).1.1, nI_1 i]
                refine ⟨fun c => absurd c (nI_ge hi (by omega)), fun _ => q_mBegan (seen := fun q => J 75 (40 * k + q)) (mn I3 g1) hN hk hi (by omega) (fun q hq => ⟨by rw [e75], hv q hq⟩) (fun I4 g4 => hK _ ⟨?_, rfl, fun c hc => (g4 c hc).trans (g1 c hc)⟩)⟩
                rw [lN_add]
                rfl
              · obtain ⟨x5, x7, I3⟩ := s
                obtain ⟨a1, a2, g1⟩ := hq
                dsimp only at a1 a2 g1
                subst a1 a2
                show wb_X11_source_141 J1 (nI k) (nI hr) (nI p) _ _ K (lN _, nI (nP N), I3)
                unfold wb_X11_source_141
                dsimp only
                rw [(mn I3 g1).1.1]
                exact ⟨fun _ => hE I3 g1, fun z => absurd (Int32.le_refl _) z⟩
            rw [show (0 : Int64) = lN 0 from rfl, pk_lEQ (by omega) (by decide)]
            refine ⟨fun c => ?_, fun c => ?_⟩
            · unfold wj_X10_source_49 wj_X10_source_51
              refine q_fails0 ⟨fun _ => ⟨vp_in_nI (by omega) (by omega), ?_⟩, fun q => (by cases q)⟩
              rw [nI_clamp (by omega : p < 2 ^ 31), e7 p hp]
              refine q_become hs1 hsum (by omega) ?_
              have s0 := sameI_tr s7 (same_cS I7 0)
              have j0 : ∀ a b, (cFr J7 a b) 75 = J 75 := fun a b => by unfold cFr; rw [hJ_ne (by decide), hJ_ne (by decide), j7 75 (by decide)]
              refine mod (cS I7 0) _ true s0 (fun q => (by rw [b5] at q; cases q)) (fun _ => ⟨fun _ => look _ _ true _ (j0 _ _) (mNet_same hC.2.2.1 (sameI_tr s0 (same_m0 _))).1.1 (fun q => (by rw [ba] at q; cases q)) (fun _ => ?_), fun q => absurd hPm q⟩)
              have s8 := sameI_tr s0 (same_m0 (cS I7 0))
              refine msum _ _ true _ (j0 _ _) (mNet_same hC.2.2.1 s8) (fun I9 g9 => ⟨fun _ => ?_, fun q => ?_⟩)
              · have s9 := sameI_tr s8 (same_lv g9)
                refine q_mBegan (seen := fun q => J 75 (40 * k + q)) (mNet_same hC.2.2.1 s9) hN hk hp (by omega) (fun q hq => ⟨by rw [j0], hv q hq⟩) (fun I10 g10 => q_mFrac hs1 hsum (by omega) ⟨rfl, fin_g hC (sameI_tr s9 (same_lv g10)) ?_ (sameJ_tr (same_53 j7) (sameJ_tr (same_cFr _ _ _) (same_mFr _ _ _))) frac_both⟩)
                rw [g10 0 (by omega), g10 72 (by omega), g9 0 (by omega), g9 72 (by omega), m0_72, m0_ne _ (by decide), cS_at]
              · rw [show (0 : Int64) = lN 0 from rfl, pk_lEQ (by omega) (by decide)] at q
                exact absurd q c
            · unfold wj_X10_source_49 wj_X10_source_51
              refine q_failsE (by decide) ⟨fun q => (by cases q), fun _ => ?_⟩
              have s0 := sameI_tr s7 (same_cS I7 9)
              refine mod (cS I7 9) _ false s0 (fun q => (by rw [b5] at q; cases q)) (fun _ => ⟨fun _ => look _ _ false _ (j7 75 (by decide)) (mNet_same hC.2.2.1 (sameI_tr s0 (same_m0 _))).1.1 (fun q => (by rw [ba] at q; cases q)) (fun _ => ?_), fun q => absurd hPm q⟩)
              have s8 := sameI_tr s0 (same_m0 (cS I7 9))
              refine msum _ _ false _ (j7 75 (by decide)) (mNet_same hC.2.2.1 s8) (fun I9 g9 => ⟨fun q => ?_, fun q => ?_⟩)
              · rw [c] at q; exact absurd rfl q
              · have s9 := sameI_tr s8 (same_lv g9)
                refine q_no ⟨rfl, fin_g hC (sameI_tr s9 (same_w _ _ rfl)) ?_ (same_53 j7) ?_⟩
                · rw [hI_ne (by decide), hI_at, if_pos rfl, g9 0 (by omega), m0_ne _ (by decide), cS_at]
                · rw [j7 11 (by decide), j7 72 (by decide)]; exact h2
        · exact rf' 4 (by decide) (mod (cS I 4) J false (same_cS I 4) (fun q => (by rw [b5] at q; cases q)) (fun _ => ⟨fun q => absurd q hPm, fun _ => ⟨rfl, er 4⟩⟩))
        · exact rf' 5 (by decide) (mod (cS I 5) J false (same_cS I 5) (fun _ => ⟨rfl, er 5⟩) (fun q => (by rw [b5] at q; cases q)))
    · subst e1 e2
      rw [bt]
      exact ⟨fun _ => q_isOne (hm2 2) hN ⟨fun q => (by rw [b] at q; cases q), fun _ => q_no ⟨rfl, er 2⟩⟩, fun q => (by cases q)⟩
  · subst e1 e2
    rw [bt]
    exact ⟨fun q => (by cases q), fun _ => q_no ⟨rfl, er 1⟩⟩
