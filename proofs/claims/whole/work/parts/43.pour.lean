/-! pour -/
def str (m n : Nat) (x : Int32) : Bool := decide (0 ≤ x.toInt ∧ x.toInt + n ≤ m)
theorem str_iff {m n : Nat} {x : Int32} : str m n x = true ↔ 0 ≤ x.toInt ∧ x.toInt + n ≤ m := by unfold str; exact decide_eq_true_iff
theorem q_stretch {I : HI} {J : HJ} {c m n : Nat} {x : Int32} (hm : I c 2 = nI m) (hm40 : m ≤ 40) (hn : n < 2 ^ 31) {Post : Bool → Prop} (h : Post (str m n x)) : w_X8_hasStretch c x (nI n) I J Post := by
  unfold w_X8_hasStretch
  rw [hm, i_lt0, nI_ltI (by omega) (by omega)]
  have no : ¬ (0 ≤ x.toInt ∧ x.toInt + n ≤ m) → Post false := fun q => by rw [show str m n x = false from decide_eq_false q] at h; exact h
  refine ⟨fun c => no (by omega), fun c => ⟨fun c2 => no (by omega), fun c2 => ?_⟩⟩
  rw [pk_sub (by omega), Int32.lt_iff_toInt_lt, nI_toInt (by omega)]
  refine ⟨fun c3 => no (by omega), fun c3 => ?_⟩
  rw [str_iff.mpr ⟨by omega, by omega⟩] at h; exact h
theorem sum64 {x : Int32} {n : Nat} (hn : n < 2 ^ 31) : ((Int32.toInt64 x) + (Int32.toInt64 (nI n))).toInt = x.toInt + n := by
  rw [Int64.toInt_add, Int32.toInt_toInt64, Int32.toInt_toInt64, nI_toInt hn]
  have h1 := Int32.toInt_lt x
  have h2 := Int32.le_toInt x
  apply Int.bmod_eq_of_le <;> omega
/-- what is copied, whichever way -/
theorem q_mCopy {I : HI} {J : HJ} {a c i j n : Nat} {up : Int32} {s d : Nat} (hs : s = 40 * a + i) (hd : d = 40 * c + j) (hs2 : s + n ≤ 160) (hd2 : d + n ≤ 160) (hup : (up = 0 ∧ (d ≤ s ∨ s + n ≤ d)) ∨ (¬ up = 0 ∧ (s ≤ d ∨ d + n ≤ s))) {Post : Bool → HI → HJ → Prop} {E : HJ → Prop} (h : ∀ J' : HJ, (∀ e, e ≠ 75 → J' e = J e) → (∀ q, J' 75 q = if d ≤ q ∧ q < d + n then J 75 (s + (q - d)) else J 75 q) → E J') :
    ∃ k, lp (wb_X11_pour_158 I (nI a) (nI i) (nI c) (nI j) (nI n) up Post E) k (0, J) := by
  have ix : ∀ t, ((40 * nI a) + nI i) + nI t = nI (s + t) := fun t => by rw [n40, nI_add, ← hs]
  have ix2 : ∀ t, ((40 * nI c) + nI j) + nI t = nI (d + t) := fun t => by rw [n40, nI_add, ← hd]
  rcases hup with ⟨hup, ho⟩ | ⟨hup, ho⟩
  · refine lp_inv (fun k (st : Int32 × HJ) => st.1 = nI k ∧ (∀ e, e ≠ 75 → st.2 e = J e) ∧ ∀ q, st.2 75 q = if d ≤ q ∧ q < d + k then J 75 (s + (q - d)) else J 75 q) n (fun k st hk hq K hK => ?_) (fun st hq K => ?_) (0, J) ⟨rfl, fun _ _ => rfl, fun q => (if_neg (by omega)).symm⟩
    · obtain ⟨x7, J1⟩ := st
      obtain ⟨a1, g1, g2⟩ := hq
      dsimp only at a1 g1 g2
      subst a1
      show wb_X11_pour_158 I _ _ _ _ _ up Post E K (nI k, J1)
      unfold wb_X11_pour_158 wj_X11_pour_182
      dsimp only
      rw [ix, ix2, nI_clamp (by omega : s + k < 2 ^ 31), nI_clamp (by omega : d + k < 2 ^ 31), nI_1 k]
      refine ⟨fun z => absurd z (nI_ge hk (by omega)), fun _ => ⟨fun _ => ⟨vp_in_nI (by omega) (by omega), vp_in_nI (by omega) (by omega), fun J9 e9 => hK _ ⟨rfl, fun e he => ?_, fun q => ?_⟩⟩, fun z => absurd hup z⟩⟩
      · show J9 e = _
        rw [e9, hJ_ne he]; exact g1 e he
      · show J9 75 q = _
        rw [e9, hJ_at, g2 (s + k), g2 q, if_neg (by omega : ¬ (d ≤ s + k ∧ s + k < d + k))]
        by_cases z : q = d + k
        · rw [if_pos z, if_pos (by omega), z, show d + k - d = k by omega]
        · rw [if_neg z]
          by_cases z2 : d ≤ q ∧ q < d + k
          · rw [if_pos z2, if_pos (by omega)]
          · rw [if_neg z2, if_neg (by omega)]
    · obtain ⟨x7, J1⟩ := st
      obtain ⟨a1, g1, g2⟩ := hq
      dsimp only at a1 g1 g2
      subst a1
      exact ⟨fun _ => h J1 g1 g2, fun z => absurd (Int32.le_refl _) z⟩
  · refine lp_inv (fun k (st : Int32 × HJ) => st.1 = nI k ∧ (∀ e, e ≠ 75 → st.2 e = J e) ∧ ∀ q, st.2 75 q = if d + (n - k) ≤ q ∧ q < d + n then J 75 (s + (q - d)) else J 75 q) n (fun k st hk hq K hK => ?_) (fun st hq K => ?_) (0, J) ⟨rfl, fun _ _ => rfl, fun q => (if_neg (by omega)).symm⟩
    · obtain ⟨x7, J1⟩ := st
      obtain ⟨a1, g1, g2⟩ := hq
      dsimp only at a1 g1 g2
      subst a1
      have e0 : (nI n - 1) - nI k = nI (n - 1 - k) := by rw [show (1 : Int32) = nI 1 from rfl, pk_sub (by omega), pk_sub (by omega)]
      show wb_X11_pour_158 I _ _ _ _ _ up Post E K (nI k, J1)
      unfold wb_X11_pour_158 wj_X11_pour_182
      dsimp only
      rw [e0, ix (n - 1 - k), ix2 (n - 1 - k), nI_clamp (by omega : s + (n - 1 - k) < 2 ^ 31), nI_clamp (by omega : d + (n - 1 - k) < 2 ^ 31), nI_1 k]
      refine ⟨fun z => absurd z (nI_ge hk (by omega)), fun _ => ⟨fun z => absurd z hup, fun _ => ⟨vp_in_nI (by omega) (by omega), vp_in_nI (by omega) (by omega), fun J9 e9 => hK _ ⟨rfl, fun e he => ?_, fun q => ?_⟩⟩⟩⟩
      · show J9 e = _
        rw [e9, hJ_ne he]; exact g1 e he
      · show J9 75 q = _
        rw [e9, hJ_at, g2 (s + (n - 1 - k)), g2 q, if_neg (by omega : ¬ (d + (n - k) ≤ s + (n - 1 - k) ∧ s + (n - 1 - k) < d + n))]
        by_cases z : q = d + (n - 1 - k)
        · rw [if_pos z, if_pos (by omega), z, show d + (n - 1 - k) - d = n - 1 - k by omega]
        · rw [if_neg z]
          by_cases z2 : d + (n - k) ≤ q ∧ q < d + n
          · rw [if_pos z2, if_pos (by omega)]
          · rw [if_neg z2, if_neg (by omega)]
    · obtain ⟨x7, J1⟩ := st
      obtain ⟨a1, g1, g2⟩ := hq
      dsimp only at a1 g1 g2
      subst a1
      refine ⟨fun _ => h J1 g1 (fun q => ?_), fun z => absurd (Int32.le_refl _) z⟩
      rw [g2 q, Nat.sub_self, Nat.add_zero]
theorem op_pour {I : HI} {J : HJ} (h : Inv I J) (x1 x2 x3 x4 x5 : Int32) : w_X10_pour x1 x2 x3 x4 x5 I J (fun r I1 J1 => w_X11_pour x1 x2 x3 x4 x5 I1 J1 (fun r' I2 J2 => r = r' ∧ Inv I2 J2)) := by
  obtain ⟨N, hC, h1, h2⟩ := h
  have hT := hC.2.2.2.2.1
  have er : ∀ v : Int32, false = false ∧ Inv (mE (cS I v) v) J := fun v => ⟨rfl, fin_er hC (same_cS I v) (cS_at I v) (sameJ_rf J) h2⟩
  have s74 : ∀ (v : Int32) k, m0 (cS I v) 74 k = I 74 k := fun v k => (sameI_tr (same_cS I v) (same_m0 _)) 74 k rfl
  have s73 : ∀ (v : Int32) k, m0 (cS I v) 73 k = I 73 k := fun v k => (sameI_tr (same_cS I v) (same_m0 _)) 73 k rfl
  have ng : ∀ {x : Int32}, isIx 4 x = false → ¬ x < 0 → ¬ x < 4 := fun {x} b q1 q2 => by
    rw [i_lt0] at q1
    rw [show (4 : Int32) = nI 4 from rfl, i_lt (by decide)] at q2
    rw [ix_iff.mpr ⟨by omega, q2⟩] at b; cases b
  have fin : ∀ v : Int32, ¬ v = 0 → w_X11_pour x1 x2 x3 x4 x5 (cS I v) J (fun r' I2 J2 => false = r' ∧ Inv I2 J2) → w_X10_fails v I J (fun (r_2 : Bool) (I_3 : HI) => ((r_2 = false → (vp_in x1 4 ∧ (vp_in x3 4 ∧ ((¬ x2 < 0 ∧ ¬ x4 < 0 ∧ ¬ x5 < 0 ∧ (Int32.toNatClampNeg x2) + (Int32.toNatClampNeg x5) ≤ 40 ∧ (Int32.toNatClampNeg x4) + (Int32.toNatClampNeg x5) ≤ 40) ∧ (∀ J_6 : HJ, J_6 = sJ J (2 + 2 * Int32.toNatClampNeg x3 + 1) (va_cpy (J (2 + 2 * Int32.toNatClampNeg x1 + 1)) (J (2 + 2 * Int32.toNatClampNeg x3 + 1)) (Int32.toNatClampNeg x2) (Int32.toNatClampNeg x4) (Int32.toNatClampNeg x5)) → w_X11_pour x1 x2 x3 x4 x5 I_3 J_6 (fun r' I2 J2 => true = r' ∧ Inv I2 J2)))))) ∧ (r_2 = true → w_X11_pour x1 x2 x3 x4 x5 I_3 J (fun r' I2 J2 => false = r' ∧ Inv I2 J2)))) := fun v hv g => q_failsE hv ⟨fun q => (by cases q), fun _ => g⟩
  unfold w_X10_pour w_X10_pourStatus
  cases b1 : isIx 4 x1
  · refine q_isTray ⟨fun _ => fin 1 (by decide) (fun I1 e1 I2 e2 => ?_), fun q => (by rw [b1] at q; cases q)⟩
    subst e1 e2
    have f1 : wj_X11_pour_28 (m0 (cS I 1)) J (fun r' I2 J2 => false = r' ∧ Inv I2 J2) := q_no (er 1)
    refine ⟨fun _ => f1, fun z => ⟨fun _ => f1, fun z2 => ?_⟩⟩
    have := ng b1 z
    rw [i_lt0] at z
    rw [show (4 : Int32) = nI 4 from rfl, i_ge (by decide)] at z2
    rw [show (4 : Int32) = nI 4 from rfl, i_lt (by decide)] at this
    omega
  · obtain ⟨a, ha, rfl⟩ := ofIx b1
    have a1 : ¬ nI a < 0 := nI_pos (by omega)
    have a2 : ¬ (4 : Int32) ≤ nI a := nI_ge (b := 4) ha (by decide)
    refine q_isTray ⟨fun q => (by rw [b1] at q; cases q), fun _ => ?_⟩
    cases b2 : isIx 4 x3
    · refine q_isTray ⟨fun q => (by rw [b2] at q; cases q), fun _ => fin 1 (by decide) (fun I1 e1 I2 e2 => ?_)⟩
      subst e1 e2
      have f1 : wj_X11_pour_28 (m0 (cS I 1)) J (fun r' I2 J2 => false = r' ∧ Inv I2 J2) := q_no (er 1)
      exact ⟨fun q => absurd q a1, fun _ => ⟨fun q => absurd q a2, fun _ => ⟨fun _ => f1, fun z => ⟨fun z2 => absurd z2 (ng b2 z), fun _ => f1⟩⟩⟩⟩
    · obtain ⟨c, hc, rfl⟩ := ofIx b2
      have c1 : ¬ nI c < 0 := nI_pos (by omega)
      have c2 : nI c < 4 := nI_lt (b := 4) hc (by decide)
      obtain ⟨t1, t2, ⟨so, hso, t3⟩, t4⟩ := hT a ha
      obtain ⟨u1, u2, ⟨so', hso', u3⟩, u4⟩ := hT c hc
      have va : vp_in (nI a) 4 := vp_in_nI ha (by decide)
      have vc : vp_in (nI c) 4 := vp_in_nI hc (by decide)
      refine q_isTray ⟨fun _ => ⟨va, ?_⟩, fun q => (by rw [b2] at q; cases q)⟩
      rw [nI_clamp (by omega : a < 2 ^ 31), nI_clamp (by omega : c < 2 ^ 31)]
      refine q_missing ?_
      rw [t2]
      rcases t4 with t4 | ⟨m, hm, t4, t5⟩
      · rw [decide_eq_true t4]
        refine ⟨fun _ => ?_, fun q => (by cases q)⟩
        have := fin 3 (by decide) (fun I1 e1 I2 e2 => ?_)
        · rw [nI_clamp (by omega : a < 2 ^ 31), nI_clamp (by omega : c < 2 ^ 31)] at this; exact this
        · subst e1 e2
          rw [show hI (hI (cS I 3) 72 1 0) 72 0 0 = m0 (cS I 3) from rfl, nI_clamp (by omega : a < 2 ^ 31), nI_clamp (by omega : c < 2 ^ 31), s74, t4]
          exact ⟨fun q => absurd q a1, fun _ => ⟨fun q => absurd q a2, fun _ => ⟨fun q => absurd q c1, fun _ => ⟨fun _ => ⟨va, fun _ => q_no (er 3), fun q => absurd (by decide) q⟩, fun q => absurd c2 q⟩⟩⟩⟩
      · rw [t4, decide_eq_false (nI_nm1 (by omega))]
        refine ⟨fun q => (by cases q), fun _ => ⟨vc, q_missing ?_⟩⟩
        rw [u2]
        have m0' : ¬ nI m < 0 := nI_pos (by omega)
        rcases u4 with u4 | ⟨m', hm', u4, u5⟩
        · rw [decide_eq_true u4]
          refine ⟨fun q => (by cases q), fun _ => ?_⟩
          have := fin 3 (by decide) (fun I1 e1 I2 e2 => ?_)
          · rw [nI_clamp (by omega : a < 2 ^ 31), nI_clamp (by omega : c < 2 ^ 31)] at this; exact this
          · subst e1 e2
            rw [show hI (hI (cS I 3) 72 1 0) 72 0 0 = m0 (cS I 3) from rfl, nI_clamp (by omega : a < 2 ^ 31), nI_clamp (by omega : c < 2 ^ 31), s74, s74, t4, u4]
            exact ⟨fun q => absurd q a1, fun _ => ⟨fun q => absurd q a2, fun _ => ⟨fun q => absurd q c1, fun _ => ⟨fun _ => ⟨va, fun q => absurd q m0', fun _ => ⟨vc, fun q => absurd q (by decide), fun _ => q_no (er 3)⟩⟩, fun q => absurd c2 q⟩⟩⟩⟩
        · rw [u4, decide_eq_false (nI_nm1 (by omega)), t1, u1]
          have m1' : 0 ≤ nI m' := nI_pos' (by omega)
          refine ⟨fun _ => ⟨va, vc, ?_⟩, fun q => (by cases q)⟩
          refine ⟨fun es => ⟨fun x50 => ⟨va, ?_⟩, fun x50 => ?_⟩, fun es => ?_⟩
          · obtain ⟨n, hn, rfl⟩ := nI_of (x := x5) (fun q => by rw [Int32.lt_iff_toInt_lt] at q; rw [Int32.le_iff_toInt_le] at x50; omega)
            have n0 : ¬ nI n < 0 := nI_pos hn
            -- what the model does when a stretch wants
            have bad : (str m n x2 && str m' n x4) = false → w_X10_fails 4 I J (fun (r_2 : Bool) (I_3 : HI) => ((r_2 = false → (vp_in (nI a) 4 ∧ (vp_in (nI c) 4 ∧ ((¬ x2 < 0 ∧ ¬ x4 < 0 ∧ ¬ nI n < 0 ∧ (Int32.toNatClampNeg x2) + (Int32.toNatClampNeg (nI n)) ≤ 40 ∧ (Int32.toNatClampNeg x4) + (Int32.toNatClampNeg (nI n)) ≤ 40) ∧ (∀ J_6 : HJ, J_6 = sJ J (2 + 2 * c + 1) (va_cpy (J (2 + 2 * a + 1)) (J (2 + 2 * c + 1)) (Int32.toNatClampNeg x2) (Int32.toNatClampNeg x4) (Int32.toNatClampNeg (nI n))) → w_X11_pour (nI a) x2 (nI c) x4 (nI n) I_3 J_6 (fun r' I2 J2 => true = r' ∧ Inv I2 J2)))))) ∧ (r_2 = true → w_X11_pour (nI a) x2 (nI c) x4 (nI n) I_3 J (fun r' I2 J2 => false = r' ∧ Inv I2 J2)))) := by
              intro hb
              have := fin 4 (by decide) (fun I1 e1 I2 e2 => ?_)
              · rw [nI_clamp (by omega : a < 2 ^ 31), nI_clamp (by omega : c < 2 ^ 31)] at this; exact this
              · subst e1 e2
                rw [show hI (hI (cS I 4) 72 1 0) 72 0 0 = m0 (cS I 4) from rfl, nI_clamp (by omega : a < 2 ^ 31), nI_clamp (by omega : c < 2 ^ 31), s74, s74, s73, s73, t4, u4]
                have f4 : wj_X11_pour_136 (m0 (cS I 4)) J (fun r' I2 J2 => false = r' ∧ Inv I2 J2) := q_no (er 4)
                refine ⟨fun q => absurd q a1, fun _ => ⟨fun q => absurd q a2, fun _ => ⟨fun q => absurd q c1, fun _ => ⟨fun _ => ⟨va, fun q => absurd q m0', fun _ => ⟨vc, fun _ => ⟨va, vc, fun _ => ⟨fun _ => ⟨fun _ => f4, fun z2 => ⟨fun _ => f4, fun z4 => ⟨va, fun _ => f4, fun z5 => ⟨vc, fun z6 => ?_, fun _ => f4⟩⟩⟩⟩, fun q => absurd x50 q⟩, fun q => absurd es q⟩, fun q => absurd m1' q⟩⟩, fun q => absurd c2 q⟩⟩⟩⟩
                exfalso
                rw [i_lt0] at z2 z4
                rw [Int64.lt_iff_toInt_lt, sum64 hn, Int32.toInt_toInt64, nI_toInt (by omega)] at z5
                rw [Int64.le_iff_toInt_le, sum64 hn, Int32.toInt_toInt64, nI_toInt (by omega)] at z6
                rw [str_iff.mpr ⟨by omega, by omega⟩, str_iff.mpr ⟨by omega, by omega⟩] at hb
                cases hb
            refine q_stretch (t2.trans t4) hm hn ⟨fun z => bad (by rw [z]; rfl), fun z => ⟨vc, q_stretch (u2.trans u4) hm' hn ⟨fun z2 => bad (by rw [z2, Bool.and_false]), fun z2 => ?_⟩⟩⟩
            have z' := str_iff.mp z
            have z2' := str_iff.mp z2
            obtain ⟨i, hi, rfl⟩ := nI_of (x := x2) (fun q => by rw [i_lt0] at q; omega)
            obtain ⟨j, hj, rfl⟩ := nI_of (x := x4) (fun q => by rw [i_lt0] at q; omega)
            rw [nI_toInt hi] at z'
            rw [nI_toInt hj] at z2'
            refine q_fails0 ⟨fun _ => ⟨va, vc, ⟨nI_pos hi, nI_pos hj, n0, by rw [nI_clamp hi, nI_clamp hn]; omega, by rw [nI_clamp hj, nI_clamp hn]; omega⟩, fun J1 e1 => ?_⟩, fun q => (by cases q)⟩
            rw [nI_clamp hi, nI_clamp hj, nI_clamp hn, show 2 + 2 * a + 1 = 3 + 2 * a by omega, show 2 + 2 * c + 1 = 3 + 2 * c by omega] at e1
            intro Ia ea Ib eb
            subst ea eb
            rw [show hI (hI (cS I 0) 72 1 0) 72 0 0 = m0 (cS I 0) from rfl, nI_clamp (by omega : a < 2 ^ 31), nI_clamp (by omega : c < 2 ^ 31), s74, s74, s73, s73, t4, u4]
            have last : ∀ J2 : HJ, (∀ e, e ≠ 75 → J2 e = J1 e) → (∀ q, J2 75 q = if 40 * c + j ≤ q ∧ q < 40 * c + j + n then J1 75 (40 * a + i + (q - (40 * c + j))) else J1 75 q) → true = true ∧ Inv (m0 (cS I 0)) J2 := by
              intro J2 g1 g2
              have e75 : J1 75 = J 75 := by rw [e1]; exact sJ_ne (by omega)
              have eo : ∀ e, e ≠ 75 → e ≠ 3 + 2 * c → J2 e = J e := fun e q1 q2 => by rw [g1 e q1, e1]; exact sJ_ne q2
              have ec : J2 (3 + 2 * c) = va_cpy (J (3 + 2 * a)) (J (3 + 2 * c)) i j n := by rw [g1 _ (by omega), e1]; exact sJ_eq _ _ _
              have hs3 : sameI I (m0 (cS I 0)) := sameI_tr (same_cS I 0) (same_m0 _)
              refine ⟨rfl, N, ?_, ?_, ?_⟩
              · refine Core_tray hC (fun e k r _ _ _ => hs3 e k r) ⟨eo 37 (by decide) (by omega), eo 40 (by decide) (by omega)⟩ (fun k hk => ?_)
                obtain ⟨v1, v2, v3, v4⟩ := hT k hk
                unfold tOk
                rw [hs3 _ 1 (rel_tr hk), hs3 _ 2 (rel_tr hk), hs3 73 k rfl, hs3 74 k rfl]
                refine ⟨v1, v2, v3, ?_⟩
                rcases v4 with v4 | ⟨mk, hmk, v4, v5⟩
                · exact Or.inl v4
                · refine Or.inr ⟨mk, hmk, v4, fun q hq => ?_⟩
                  rw [g2, e75]
                  by_cases ek : k = c
                  · subst ek
                    rw [ec]
                    by_cases zq : j ≤ q ∧ q < j + n
                    · rw [pk_cpy_in zq.1 zq.2, if_pos (by omega), t5 _ (by omega)]
                      congr 1; omega
                    · rw [pk_cpy_out (by omega), if_neg (by omega)]
                      exact v5 q hq
                  · rw [eo _ (by omega) (by omega), if_neg (by omega)]
                    exact v5 q hq
              · exact (fin_ok hC (same_cS I 0) (cS_at I 0) (sameJ_rf J) h2).choose_spec.2.1
              · rw [eo 11 (by decide) (by omega), eo 72 (by decide) (by omega)]; exact h2
            have cpy : ∀ up : Int32, (up = 0 ∧ j ≤ i) ∨ (¬ up = 0 ∧ i < j) → ∃ k, lp (wb_X11_pour_158 (m0 (cS I 0)) (nI a) (nI i) (nI c) (nI j) (nI n) up (fun r' I2 J2 => true = r' ∧ Inv I2 J2) (fun J' => true = true ∧ Inv (m0 (cS I 0)) J')) k (0, J1) := by
              intro up hu
              refine q_mCopy (s := 40 * a + i) (d := 40 * c + j) rfl rfl (by omega) (by omega) ?_ last
              rcases hu with ⟨q1, q2⟩ | ⟨q1, q2⟩
              · refine Or.inl ⟨q1, ?_⟩
                rcases Nat.lt_trichotomy a c with z | z | z <;> omega
              · refine Or.inr ⟨q1, ?_⟩
                rcases Nat.lt_trichotomy a c with z | z | z <;> omega
            refine ⟨fun q => absurd q a1, fun _ => ⟨fun q => absurd q a2, fun _ => ⟨fun q => absurd q c1, fun _ => ⟨fun _ => ⟨va, fun q => absurd q m0', fun _ => ⟨vc, fun _ => ⟨va, vc, fun _ => ⟨fun _ => ⟨fun q => absurd q (nI_pos hi), fun _ => ⟨fun q => absurd q (nI_pos hj), fun _ => ⟨va, fun q => absurd q ?_, fun _ => ⟨vc, fun _ => ⟨fun q => ?_, fun q => ?_⟩, fun q => absurd ?_ q⟩⟩⟩⟩, fun q => absurd x50 q⟩, fun q => absurd es q⟩, fun q => absurd m1' q⟩⟩, fun q => absurd c2 q⟩⟩⟩⟩
            · rw [Int64.lt_iff_toInt_lt, sum64 hn, Int32.toInt_toInt64, nI_toInt (by omega), nI_toInt hi]; omega
            · rw [nI_leI hj hi] at q
              exact cpy 0 (Or.inl ⟨rfl, q⟩)
            · rw [nI_leI hj hi] at q
              exact cpy 1 (Or.inr ⟨by decide, by omega⟩)
            · rw [Int64.le_iff_toInt_le, sum64 hn, Int32.toInt_toInt64, nI_toInt hj, nI_toInt (by omega : m' < 2 ^ 31)]; omega
          · have := fin 6 (by decide) (fun I1 e1 I2 e2 => ?_)
            · rw [nI_clamp (by omega : a < 2 ^ 31), nI_clamp (by omega : c < 2 ^ 31)] at this; exact this
            · subst e1 e2
              rw [show hI (hI (cS I 6) 72 1 0) 72 0 0 = m0 (cS I 6) from rfl, nI_clamp (by omega : a < 2 ^ 31), nI_clamp (by omega : c < 2 ^ 31), s74, s74, s73, s73, t4, u4]
              exact ⟨fun q => absurd q a1, fun _ => ⟨fun q => absurd q a2, fun _ => ⟨fun q => absurd q c1, fun _ => ⟨fun _ => ⟨va, fun q => absurd q m0', fun _ => ⟨vc, fun _ => ⟨va, vc, fun _ => ⟨fun q => absurd q x50, fun _ => q_no (er 6)⟩, fun q => absurd es q⟩, fun q => absurd m1' q⟩⟩, fun q => absurd c2 q⟩⟩⟩⟩
          · have := fin 11 (by decide) (fun I1 e1 I2 e2 => ?_)
            · rw [nI_clamp (by omega : a < 2 ^ 31), nI_clamp (by omega : c < 2 ^ 31)] at this; exact this
            · subst e1 e2
              rw [show hI (hI (cS I 11) 72 1 0) 72 0 0 = m0 (cS I 11) from rfl, nI_clamp (by omega : a < 2 ^ 31), nI_clamp (by omega : c < 2 ^ 31), s74, s74, s73, s73, t4, u4]
              exact ⟨fun q => absurd q a1, fun _ => ⟨fun q => absurd q a2, fun _ => ⟨fun q => absurd q c1, fun _ => ⟨fun _ => ⟨va, fun q => absurd q m0', fun _ => ⟨vc, fun _ => ⟨va, vc, fun q => absurd q es, fun _ => q_no (er 11)⟩, fun q => absurd m1' q⟩⟩, fun q => absurd c2 q⟩⟩⟩⟩
