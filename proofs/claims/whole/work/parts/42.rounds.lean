theorem q_mFirst {I : HI} {J : HJ} {N : NT} {x1 : Int32} (hx : ¬ x1 = 1) (hm : mNet I N) (hN : okN N) {Post : Int32 → HI → HJ → Prop} {E : Int32 → Int64 → HJ → Prop} (h : ∀ J' : HJ, (∀ c, c ≠ 97 → J' c = J c) → E (sf N (nP N)).1 (lN (sf N (nP N)).2) J') : ∃ n, lp (wb_X11_rounds_49 I x1 Post E) n ((-1), 0, 0, J) := by
  have hP := hN.1
  refine lp_inv (fun i (s : Int32 × Int64 × Int32 × HJ) => s.1 = (sf N i).1 ∧ s.2.1 = lN (sf N i).2 ∧ s.2.2.1 = nI i ∧ ∀ c, c ≠ 97 → s.2.2.2 c = J c) (nP N) (fun i s hi hq K hK => ?_) (fun s hq K => ?_) ((-1), 0, 0, J) ⟨rfl, rfl, rfl, fun _ _ => rfl⟩
  · obtain ⟨x2, x3, x5, J2⟩ := s
    obtain ⟨a1, a2, a3, g1⟩ := hq
    dsimp only at a1 a2 a3 g1
    subst a1 a2 a3
    have st : sf N (i + 1) = if (sf N i).2 < seen N i then (nI i, seen N i) else sf N i := rfl
    have b1 := sf_lt hN (Nat.le_of_lt hi)
    have b2 := seen_lt hN i
    show wb_X11_rounds_49 I x1 Post E K ((sf N i).1, lN (sf N i).2, nI i, J2)
    unfold wb_X11_rounds_49
    dsimp only
    rw [hm.1.1]
    refine ⟨fun c => absurd c (nI_ge hi (by omega)), fun _ => ⟨fun c => absurd c hx, fun _ => q_mSeen hm hN hi (fun J3 k1 => ?_)⟩⟩
    have g1' : ∀ c, c ≠ 97 → J3 c = J c := fun c hc => (k1 c hc).trans (g1 c hc)
    rw [pk_lLT (by omega) (by omega), nI_1 i]
    have yes : (sf N i).2 < seen N i → K (nI i, lN (seen N i), nI (i + 1), J3) := fun q => hK _ ⟨by rw [st, if_pos q], by rw [st, if_pos q], rfl, g1'⟩
    have no : ¬ (sf N i).2 < seen N i → K ((sf N i).1, lN (sf N i).2, nI (i + 1), J3) := fun q => hK _ ⟨by rw [st, if_neg q], by rw [st, if_neg q], rfl, g1'⟩
    rcases sf_ok hN (Nat.le_of_lt hi) with ⟨q1, q2⟩ | ⟨a, ha, q1, q2, q3⟩
    · have := seen_pos hN hi
      refine ⟨fun _ => yes (by rw [q2]; exact this), fun c => absurd ?_ c⟩
      rw [q2]; decide
    · refine ⟨fun c => absurd c ?_, fun _ => ⟨yes, no⟩⟩
      rw [q1]; exact nI_pos (by omega)
  · obtain ⟨x2, x3, x5, J2⟩ := s
    obtain ⟨a1, a2, a3, g1⟩ := hq
    dsimp only at a1 a2 a3 g1
    subst a1 a2 a3
    show wb_X11_rounds_49 I x1 Post E K ((sf N (nP N)).1, lN (sf N (nP N)).2, nI (nP N), J2)
    unfold wb_X11_rounds_49
    dsimp only
    rw [hm.1.1]
    exact ⟨fun _ => h J2 g1, fun c => absurd (Int32.le_refl _) c⟩
theorem q_mBlind {I : HI} {J : HJ} {N : NT} {x1 : Int32} {x3 : Int64} (hm : mNet I N) (hN : okN N) (h0 : 0 < nP N) {Post : Int32 → HI → HJ → Prop} {E : Int32 → Int64 → Prop} (h : ∀ c, cand N c → (∀ k, cand N k → bet N c k) → E (nI c) (lN (tot N c 0))) : ∃ n, lp (wb_X11_rounds_123 I J x1 x3 Post E) n (0, (-1), 1) := by
  have hP := hN.1
  have hp : 2 ^ nP N ≤ 4096 := Nat.pow_le_pow_right (n := 2) (by decide) hP
  have hp0 : 2 ^ 1 ≤ 2 ^ nP N := Nat.pow_le_pow_right (n := 2) (by decide) h0
  refine lp_inv (fun i (s : Int32 × Int64 × Int32) => s.2.2 = nI (i + 1) ∧ ((i = 0 ∧ s.1 = 0 ∧ s.2.1 = -1) ∨ (∃ c, s.1 = nI c ∧ s.2.1 = lN (tot N c 0) ∧ cand N c ∧ pc c ≤ i ∧ ∀ k, cand N k → pc k ≤ i → bet N c k))) 2 (fun i s hi hq K hK => ?_) (fun s hq K => ?_) (0, (-1), 1) ⟨rfl, Or.inl ⟨rfl, rfl, rfl⟩⟩
  · obtain ⟨x5, x6, x8⟩ := s
    obtain ⟨a1, hq⟩ := hq
    dsimp only at a1 hq
    subst a1
    refine ⟨fun c => absurd c (nI_ge (b := 3) (by omega) (by omega)), fun _ => ?_⟩
    refine lp_inv (fun j (s : Int32 × Int64 × Int32) => s.2.2 = nI (j + 1) ∧ ((i = 0 ∧ j = 0 ∧ s.1 = 0 ∧ s.2.1 = -1) ∨ (∃ c, s.1 = nI c ∧ s.2.1 = lN (tot N c 0) ∧ cand N c ∧ pc c ≤ i + 1 ∧ (pc c ≤ i ∨ c ≤ j) ∧ (∀ k, cand N k → pc k ≤ i → bet N c k) ∧ ∀ k, k ≤ j → cand N k → pc k = i + 1 → bet N c k))) (2 ^ nP N - 1) (fun j s hj hq K' hK' => ?_) (fun s hq K' => ?_) (x5, x6, 1) ⟨rfl, ?_⟩
    · obtain ⟨x5, x6, x9⟩ := s
      obtain ⟨a1, hq⟩ := hq
      dsimp only at a1 hq
      subst a1
      have b2 := tot_lt hN (j + 1) 0
      have p1 := pc_le (j + 1)
      have pp := pc_pos (k := j + 1) (n := nP N) (by omega) (by omega) (by omega)
      show wb_X11_rounds_132 I J x1 x3 (nI (i + 1)) _ K Post _ K' (x5, x6, nI (j + 1))
      unfold wb_X11_rounds_132
      dsimp only
      rw [hm.1.1, nb_one _ (by omega), nI_1 (j + 1)]
      refine ⟨fun q => absurd q (nI_ge (by omega) (by omega)), fun _ => q_bc (by omega) ?_⟩
      rw [nI_eq (by omega) (by omega)]
      rcases hq with ⟨q1, q2, q3, q4⟩ | ⟨c, q1, q2, q3, q4, q5, q6, q7⟩
      · subst q1 q2 q3 q4
        have pc1 : pc (0 + 1) = 1 := by decide
        refine ⟨fun z => q_mSpread (C := 0) hm hN (by omega) ⟨fun _ => ?_, fun z2 => absurd ?_ z2⟩, fun z => absurd (by omega) z⟩
        · refine hK' _ ⟨rfl, Or.inr ⟨0 + 1, rfl, rfl, ⟨by omega, by omega, by omega⟩, by omega, Or.inr (Nat.le_refl _), fun k hck hk => ?_, fun k hk hck hpk => ?_⟩⟩
          · have := pc_pos hck.1 hck.2.1 (by omega); omega
          · have : k = 0 + 1 := by have := hck.1; omega
            rw [this]; exact Or.inr ⟨rfl, Or.inr ⟨rfl, Nat.le_refl _⟩⟩
        · rw [Int64.lt_iff_toInt_lt, pk_lT (by omega)]
          have : (-1 : Int64).toInt = -1 := by decide
          rw [this]; omega
      · subst q1 q2
        have b1 := tot_lt hN c 0
        have stay : (cand N (j + 1) → pc (j + 1) = i + 1 → bet N c (j + 1)) → K' (nI c, lN (tot N c 0), nI (j + 1 + 1)) := fun q => by
          refine hK' _ ⟨rfl, Or.inr ⟨c, rfl, rfl, q3, q4, by omega, q6, fun k hk hck hpk => ?_⟩⟩
          rcases Nat.lt_or_eq_of_le hk with z | z
          · exact q7 k (by omega) hck hpk
          · rw [z] at hck hpk ⊢; exact q hck hpk
        refine ⟨fun z => q_mSpread (C := 0) hm hN (by omega) ?_, fun z => stay (fun _ q => absurd q z)⟩
        rw [pk_lLT (by omega) (by omega)]
        refine ⟨fun z2 => ?_, fun z2 => stay (fun hck hpk => ?_)⟩
        · refine hK' _ ⟨rfl, Or.inr ⟨j + 1, rfl, rfl, ⟨by omega, by omega, by omega⟩, by omega, Or.inr (Nat.le_refl _), fun k hck hk => ?_, fun k hk hck hpk => ?_⟩⟩
          · have := q6 k hck hk
            unfold bet at this ⊢
            omega
          · rcases Nat.lt_or_eq_of_le hk with y | y
            · have := q7 k (by omega) hck hpk
              unfold bet at this ⊢
              omega
            · rw [y]; exact Or.inr ⟨rfl, Or.inr ⟨rfl, Nat.le_refl _⟩⟩
        · unfold bet
          omega
    · obtain ⟨x5, x6, x9⟩ := s
      obtain ⟨a1, hq⟩ := hq
      dsimp only at a1 hq
      subst a1
      show wb_X11_rounds_132 I J x1 x3 (nI (i + 1)) _ K Post _ K' (x5, x6, nI (2 ^ nP N - 1 + 1))
      unfold wb_X11_rounds_132
      dsimp only
      rw [hm.1.1, nb_one _ (by omega), show 2 ^ nP N - 1 + 1 = 2 ^ nP N by omega]
      refine ⟨fun _ => ?_, fun c => absurd (Int32.le_refl _) c⟩
      rcases hq with ⟨q1, q2, q3, q4⟩ | ⟨c, q1, q2, q3, q4, q5, q6, q7⟩
      · omega
      · refine hK _ ⟨nI_1 (i + 1), Or.inr ⟨c, q1, q2, q3, q4, fun k hck hk => ?_⟩⟩
        rcases Nat.lt_or_eq_of_le hk with z | z
        · exact q6 k hck (by omega)
        · exact q7 k (by have := hck.2.1; omega) hck z
    · rcases hq with ⟨q1, q2, q3⟩ | ⟨c, q1, q2, q3, q4, q5⟩
      · exact Or.inl ⟨q1, rfl, q2, q3⟩
      · exact Or.inr ⟨c, q1, q2, q3, by omega, Or.inl q4, q5, fun k hk hck _ => absurd hck.1 (by omega)⟩
  · obtain ⟨x5, x6, x8⟩ := s
    obtain ⟨a1, hq⟩ := hq
    dsimp only at a1 hq
    subst a1
    refine ⟨fun _ => ?_, fun c => absurd (by decide) c⟩
    rcases hq with ⟨q1, q2, q3⟩ | ⟨c, q1, q2, q3, q4, q5⟩
    · omega
    · subst q1 q2
      exact h c q3 (fun k hck => q5 k hck hck.2.2)
/-- two that were seen do no worse -/
theorem cand_two {N : NT} (hN : okN N) {k : Nat} (h : cand N k) : ∃ a b, a < nP N ∧ b < nP N ∧ k = 2 ^ a ||| 2 ^ b := by
  have hP := hN.1
  obtain ⟨a, ha, hka⟩ := cand_bit h
  by_cases c : sd k (2 ^ a) = 0
  · refine ⟨a, a, ha, ha, ?_⟩
    apply Nat.eq_of_testBit_eq
    intro i
    have := sd_bit k (2 ^ a) i
    rw [c, Nat.zero_testBit, Nat.testBit_two_pow] at this
    rw [Nat.testBit_or, Nat.testBit_two_pow, Bool.or_self]
    by_cases e : a = i
    · subst e; rw [hka]; simp
    · rw [decide_eq_false e] at this ⊢; simpa using this.symm
  · have hs : sd k (2 ^ a) < 2 ^ nP N := sd_lt h.2.1
    obtain ⟨b, hb⟩ := Nat.exists_testBit_of_ne_zero c
    have hbP : b < nP N := by
      rcases Nat.lt_or_ge b (nP N) with q | q
      · exact q
      · rw [mk_out hs q] at hb; cases hb
    refine ⟨a, b, ha, hbP, ?_⟩
    have hc1 := cnt_sd (W := k) (t := a) ha hka
    have hc2 := cnt_sd (W := sd k (2 ^ a)) (t := b) hbP hb
    have hpc := pc_cnt h.2.1 (by omega : nP N ≤ 16)
    have h0 : sd (sd k (2 ^ a)) (2 ^ b) = 0 := cnt_zero (n := nP N) (sd_lt hs) (by have := h.2.2; omega)
    apply Nat.eq_of_testBit_eq
    intro i
    have := sd_bit (sd k (2 ^ a)) (2 ^ b) i
    rw [h0, Nat.zero_testBit, sd_bit, Nat.testBit_two_pow, Nat.testBit_two_pow] at this
    rw [sd_bit, Nat.testBit_two_pow] at hb
    rw [Nat.testBit_or, Nat.testBit_two_pow, Nat.testBit_two_pow]
    by_cases e : a = i
    · subst e; rw [hka]; simp
    · by_cases e2 : b = i
      · subst e2
        rw [Bool.and_eq_true] at hb
        rw [hb.1]; simp
      · rw [decide_eq_false e, decide_eq_false e2] at this ⊢
        simpa using this.symm
theorem sf_ge {N : NT} (hN : okN N) {k : Nat} (h : cand N k) : tot N k 0 ≤ (sf N (nP N)).2 := by
  obtain ⟨a, b, ha, hb, rfl⟩ := cand_two hN h
  rcases sf_ok hN (Nat.le_refl (nP N)) with ⟨q, -⟩ | ⟨a', -, -, -, q⟩
  · omega
  · exact Nat.le_trans (seen_ge hN hb) (q a ha)
theorem op_rounds {I : HI} {J : HJ} (h : Inv I J) (x : Int32) : w_X10_rounds x I J (fun r I1 J1 => w_X11_rounds x I1 J1 (fun r' I2 J2 => r = r' ∧ Inv I2 J2)) := by
  obtain ⟨N, hC, h1, h2⟩ := h
  have hN := hC.1
  have hP := hN.1
  have p16' : 16 ^ nT N < 2 ^ 62 := by have := (p16 hN).1; omega
  have isI : ∀ {v : Bool → Prop}, v (isBt x 0 2) → w_X11_isIn (Int32.toInt64 x) 0 2 v := fun {v} q => q_isIn (a := 0) (b := 2) (by rw [show (0 : Int64).toInt = 0 from by decide, show (2 : Int64).toInt = 2 from by decide]; exact q)
  refine q_between (a := 0) (b := 2) ?_
  rw [show (0 : Int32).toInt = 0 from by decide, show (2 : Int32).toInt = 2 from by decide]
  cases b : isBt x 0 2
  · refine ⟨fun q => absurd rfl q, fun _ => q_failsE (v := 5) (by decide) ⟨fun q => (by cases q), fun _ I1 e1 I2 e2 => isI ⟨fun q => (by rw [b] at q; cases q), fun _ => ?_⟩⟩⟩
    subst e1 e2
    exact q_refused ⟨rfl, fin_er hC (same_cS I 5) (cS_at I 5) (sameJ_rf J) h2⟩
  · refine ⟨fun _ => ?_, fun q => absurd q (by decide)⟩
    rw [hC.2.1.1.1, show (0 : Int32) = nI 0 from rfl, nI_eq (by omega) (by omega)]
    refine ⟨fun p0 => q_fails0 ⟨fun _ => ?_, fun q => (by cases q)⟩, fun p0 => q_failsE (v := 8) (by decide) ⟨fun q => (by cases q), fun _ I1 e1 I2 e2 => isI ⟨fun _ => ⟨fun q => ?_, fun _ => ?_⟩, fun q => (by rw [b] at q; cases q)⟩⟩⟩
    · have hpos : 0 < nP N := by omega
      have hc' := cNet_same hC.2.1 (same_cS I 0)
      have hw := hC.2.2.2.1
      -- the model's part, from cells that hold the same
      have mod : ∀ (I1 : HI) (J1 : HJ) (r : Int32) (v : Nat), sameI I I1 → I1 0 12 = 0 → sameJ J J1 → v < 2 ^ 62 → (x = 0 → r = (sf N (nP N)).1 ∧ v = (sf N (nP N)).2) → (∀ c, ¬ x = 0 → cand N c → (∀ k, cand N k → bet N c k) → r = nI c ∧ v = if x = 1 then tot N c 0 else (sf N (nP N)).2 - tot N c 0) → w_X11_rounds x I1 (cFr J1 v (16 ^ nT N)) (fun r' I2 J2 => r = r' ∧ Inv I2 J2) := by
        intro I1 J1 r v hs h0 hj hv hx0 hx1 Ia ea Ib eb
        subst ea eb
        rw [show hI (hI I1 72 1 0) 72 0 0 = m0 I1 from rfl]
        have hm' := mNet_same hC.2.2.1 (sameI_tr hs (same_m0 I1))
        have fin : ∀ J3 : HJ, (∀ c, c ≠ 97 → J3 c = cFr J1 v (16 ^ nT N) c) → w_X11_whole (m0 I1) J3 (fun r2 => w_X11_fraction (lN v) r2 (m0 I1) J3 (fun J' => r = r ∧ Inv (m0 I1) J')) := fun J3 hJ3 => by
          refine q_mWhole hm' hN (q_mFracL hv p16' (p16 hN).2 ⟨rfl, fin_ok hC hs h0 (sameJ_tr hj (sameJ_tr (same_cFr _ _ _) (sameJ_tr (fun c r => hJ3 c (fun q => by subst q; cases r)) (same_mFr _ _ _)))) ?_⟩)
          have e11 := hJ3 11 (by decide)
          have := frac_both (J := J1) (a := v) (b := 16 ^ nT N)
          unfold mFr at this ⊢
          rw [hJ_ne (by decide : (11 : Nat) ≠ 72), hJ_ne (by decide : (11 : Nat) ≠ 72), hJ_at, if_neg (by decide), hJ_at, if_pos rfl, hJ_at, if_pos rfl] at this ⊢
          rw [e11]; exact this
        refine isI ⟨fun _ => ⟨fun _ => ?_, fun q => ?_⟩, fun q => (by rw [b] at q; cases q)⟩
        · have bl : ∀ (J3 : HJ) (x3 : Int64), (∀ c, c ≠ 97 → J3 c = cFr J1 v (16 ^ nT N) c) → ¬ x = 0 → (¬ x = 1 → x3 = lN (sf N (nP N)).2) → ∃ n, lp (wb_X11_rounds_123 (m0 I1) J3 x x3 (fun r' I2 J2 => r = r' ∧ Inv I2 J2) (fun (x5_13 : Int32) (x6_14 : Int64) => (¬ x = 1 → (wj_X11_rounds_211 (m0 I1) J3 x5_13 (x3 - x6_14) (fun r' I2 J2 => r = r' ∧ Inv I2 J2))) ∧ (x = 1 → (wj_X11_rounds_211 (m0 I1) J3 x5_13 x6_14 (fun r' I2 J2 => r = r' ∧ Inv I2 J2))))) n (0, (-1), 1) := fun J3 x3 hJ3 hx hx3 => by
            refine q_mBlind hm' hN hpos (fun c hc hb => ?_)
            obtain ⟨q1, q2⟩ := hx1 c hx hc hb
            unfold wj_X11_rounds_211
            refine ⟨fun z => ?_, fun z => ?_⟩
            · rw [hx3 z, lN_sub (sf_ge hN hc)]
              rw [if_neg z] at q2
              rw [← q2, ← q1]
              exact fin J3 hJ3
            · rw [if_pos z] at q2
              rw [← q2, ← q1]
              exact fin J3 hJ3
          by_cases z : x = 1
          · refine lp_inv (fun i s => s = ((-1 : Int32), (0 : Int64), (0 : Int32), cFr J1 v (16 ^ nT N))) 0 (fun i s hi _ => absurd hi (Nat.not_lt_zero _)) (fun s hq K => ?_) _ rfl
            subst hq
            have x0 : ¬ x = 0 := by rw [z]; decide
            refine ⟨fun _ => ⟨fun _ => bl _ _ (fun _ _ => rfl) x0 (fun y => absurd z y), fun y => absurd y x0⟩, fun _ => ⟨fun _ => ⟨fun _ => bl _ _ (fun _ _ => rfl) x0 (fun y => absurd z y), fun y => absurd y x0⟩, fun y => absurd z y⟩⟩
          · refine q_mFirst z hm' hN (fun J3 hJ3 => ⟨fun y => bl J3 _ hJ3 y (fun _ => rfl), fun y => ?_⟩)
            obtain ⟨q1, q2⟩ := hx0 y
            rw [← q1, ← q2]
            exact fin J3 hJ3
        · rw [hm'.1.1] at q
          exact absurd ((nI_eq (b := 0) (by omega) (by omega)).mp q) (by omega)
      have sj : ∀ J1 : HJ, (∀ c, c ≠ 43 → c ≠ 46 → c ≠ 47 → J1 c = J c) → sameJ J J1 := fun J1 hq c r => hq c (fun q => by subst q; cases r) (fun q => by subst q; cases r) (fun q => by subst q; cases r)
      have si : ∀ I1 : HI, (∀ c, c ≠ 44 → c ≠ 45 → I1 c = cS I 0 c) → sameI I I1 ∧ I1 0 12 = 0 := fun I1 hq => ⟨sameI_tr (same_cS I 0) (fun c k r => by rw [hq c (fun q => by subst q; cases r) (fun q => by subst q; cases r)]), by rw [hq 0 (by decide) (by decide)]; exact cS_at I 0⟩
      have sfb := sf_lt hN (Nat.le_refl (nP N))
      refine ⟨fun x0 => q_blindly hc' hN hpos (fun c J6 hc hb g1 g2 => ⟨fun x2 => ?_, fun x2 => q_seeing hc' hN (fun l hl => by rw [g1 40 (by decide)]; exact hw l hl) (fun I1 J1 k1 k2 k3 => ?_)⟩), fun x0 => q_seeing hc' hN hw (fun I1 J1 k1 k2 k3 => q_whole (cNet_of hc' (fun c h1 h2 => k1 c (by omega) (by omega))) hN ?_)⟩
      · have ht := tot_lt hN c 0
        have x1 : x = 1 := by
          have q := isBt_iff.mp b
          refine x_of ?_
          have e0 : ¬ x.toInt = 0 := fun z => x0 (x_of z)
          have e2 : ¬ x.toInt = 2 := fun z => x2 (x_of z)
          rw [show (1 : Int32).toInt = 1 from by decide]; omega
        unfold wj_X10_rounds_93
        rw [g2]
        refine q_whole hc' hN (q_becomeL (by omega) (p16 hN).1 (p16 hN).2 (mod (cS I 0) J6 _ _ (same_cS I 0) (cS_at I 0) (sj J6 (fun c h1 _ _ => g1 c h1)) (by omega) (fun y => absurd y x0) (fun c' _ hc' hb' => ?_)))
        have := bet_anti (hb c' hc') (hb' c hc)
        subst this
        exact ⟨rfl, by rw [if_pos x1]⟩
      · unfold wj_X10_rounds_93
        have sg := sf_ge hN hc
        rw [k3, g2, lN_sub sg]
        obtain ⟨s1, s2⟩ := si I1 k1
        refine q_whole (cNet_of hc' (fun c h1 h2 => k1 c (by omega) (by omega))) hN (q_becomeL (by omega) (p16 hN).1 (p16 hN).2 (mod I1 J1 _ _ s1 s2 (sj J1 (fun c h1 h3 h4 => (k2 c h1 h3 h4).trans (g1 c h1))) (by omega) (fun y => absurd y x0) (fun c' _ hc' hb' => ?_)))
        have := bet_anti (hb c' hc') (hb' c hc)
        subst this
        exact ⟨rfl, by rw [if_neg (by rw [x2]; decide)]⟩
      · rw [k3]
        obtain ⟨s1, s2⟩ := si I1 k1
        exact q_becomeL sfb (p16 hN).1 (p16 hN).2 (mod I1 J1 _ _ s1 s2 (sj J1 k2) sfb (fun _ => ⟨rfl, rfl⟩) (fun c' y => absurd x0 y))
    · subst e1 e2
      rw [show hI (hI (cS I 8) 72 1 0) 72 0 0 = m0 (cS I 8) from rfl, (mNet_same hC.2.2.1 (sameI_tr (same_cS I 8) (same_m0 (cS I 8)))).1.1, p0] at q
      exact absurd rfl q
    · subst e1 e2
      exact q_refused ⟨rfl, fin_er hC (same_cS I 8) (cS_at I 8) (sameJ_rf J) h2⟩
