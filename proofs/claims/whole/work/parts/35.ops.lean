theorem op_tie {I : HI} {J : HJ} (h : Inv I J) (x y : Int32) : w_X10_tie x y I J (fun r I1 => w_X11_tie_ x y I1 J (fun r' I2 => r = r' ∧ Inv I2 J)) := by
  obtain ⟨N, hC, h1, h2⟩ := h
  have hN := hC.1
  have hT := hN.2.1
  have isT : ∀ {I' : HI} {v : Bool → Prop}, mNet I' N → v (isIx (nT N) x) → w_X11_isIn (Int32.toInt64 x) 0 (Int32.toInt64 ((I' 72 21) - 1)) v := fun {I'} {v} hm q => by
    rw [hm.1.2]
    refine q_isIn ?_
    rw [j0, m1I (by omega)]
    have : isBt x 0 ((nT N : Int) - 1) = isIx (nT N) x := by unfold isBt isIx; apply decide_eq_decide.mpr; omega
    rw [this]; exact q
  refine q_isTie hC.2.1 hN (q_between (a := 0) (b := 3) (q_oneOf rfl rfl ?_))
  rw [show (0 : Int32).toInt = 0 from by decide, show (3 : Int32).toInt = 3 from by decide]
  cases b : isIx (nT N) x
  · refine q_failsE (v := 2) (by decide) ⟨fun q => (by cases q), fun _ I1 e1 I2 e2 => ?_⟩
    subst e1 e2
    exact isT (mNet_same hC.2.2.1 (sameI_tr (same_cS I 2) (same_m0 _))) ⟨fun q => (by rw [b] at q; cases q), fun _ => q_refused ⟨rfl, fin_er hC (same_cS I 2) (cS_at I 2) (sameJ_rf J) h2⟩⟩
  · obtain ⟨t, ht, rfl⟩ := ofIx b
    cases b2 : isBt y 0 3
    · refine q_failsE (by decide) ⟨fun q => (by cases q), fun _ I1 e1 I2 e2 => ?_⟩
      subst e1 e2
      have ne : ∀ k : Nat, k ≤ 3 → ¬ y = nI k := fun k hk q => by
        subst q
        rw [isBt_iff.mpr ⟨by rw [nI_toInt (by omega)]; omega, by rw [nI_toInt (by omega)]; omega⟩] at b2; cases b2
      exact isT (mNet_same hC.2.2.1 (sameI_tr (same_cS I 5) (same_m0 _))) ⟨fun _ => ⟨fun _ => ⟨fun _ => ⟨fun _ => ⟨fun _ => q_refused ⟨rfl, fin_er hC (same_cS I 5) (cS_at I 5) (sameJ_rf J) h2⟩, fun q => absurd q (ne 3 (by decide))⟩, fun q => absurd q (ne 2 (by decide))⟩, fun q => absurd q (ne 1 (by decide))⟩, fun q => absurd q (ne 0 (by decide))⟩, fun q => (by rw [b] at q; cases q)⟩
    · obtain ⟨k, hk, rfl⟩ := ofBt (n := 3) b2
      have hc' := (cNet_same hC.2.1 (same_cS I 0)).2.2.1 t ht
      have hm' := mNet_same hC.2.2.1 (sameI_tr (same_cS I 0) (same_m0 (cS I 0)))
      have hmt := hm'.2.2.1 t ht
      have fin := fin_ok hC (same_cS I 0) (cS_at I 0) (sameJ_rf J) h2
      have vin : vp_in (nI t) 10 := vp_in_nI (by omega) (by omega)
      refine q_fails0 ⟨fun _ => ?_, fun q => (by cases q)⟩
      rw [nI_clamp (by omega : t < 2 ^ 31)]
      rcases (show k = 0 ∨ k = 1 ∨ k = 2 ∨ k = 3 by omega) with rfl | rfl | rfl | rfl
      · refine ⟨fun _ => ⟨vin, fun I1 e1 I2 e2 => ?_⟩, fun c => absurd c (by decide), fun c => absurd c (by decide), fun c => absurd rfl c⟩
        subst e1 e2
        refine isT hm' ⟨fun _ => ⟨fun c => absurd rfl c, fun _ => ⟨vin, ?_⟩⟩, fun q => (by rw [b] at q; cases q)⟩
        rw [nI_clamp (by omega)]
        exact ⟨by rw [hc'.1]; exact hmt.1.symm, fin⟩
      · refine ⟨fun c => absurd c (by decide), fun _ => ⟨vin, fun I1 e1 I2 e2 => ?_⟩, fun c => absurd c (by decide), fun _ c => absurd rfl c⟩
        subst e1 e2
        refine isT hm' ⟨fun _ => ⟨fun _ => ⟨fun c => absurd rfl c, fun _ => ⟨vin, ?_⟩⟩, fun c => absurd c (by decide)⟩, fun q => (by rw [b] at q; cases q)⟩
        rw [nI_clamp (by omega)]
        exact ⟨by rw [hc'.2.1]; exact hmt.2.1.symm, fin⟩
      · refine ⟨fun c => absurd c (by decide), fun c => absurd c (by decide), fun _ => ⟨vin, fun I1 e1 I2 e2 => ?_⟩, fun _ _ c => absurd rfl c⟩
        subst e1 e2
        refine isT hm' ⟨fun _ => ⟨fun _ => ⟨fun _ => ⟨fun c => absurd rfl c, fun _ => ⟨vin, ?_⟩⟩, fun c => absurd c (by decide)⟩, fun c => absurd c (by decide)⟩, fun q => (by rw [b] at q; cases q)⟩
        rw [nI_clamp (by omega)]
        exact ⟨by rw [hc'.2.2.1]; exact hmt.2.2.1.symm, fin⟩
      · refine ⟨fun c => absurd c (by decide), fun c => absurd c (by decide), fun c => absurd c (by decide), fun _ _ _ => ⟨vin, fun I1 e1 I2 e2 => ?_⟩⟩
        subst e1 e2
        refine isT hm' ⟨fun _ => ⟨fun _ => ⟨fun _ => ⟨fun _ => ⟨fun c => absurd rfl c, fun _ => ⟨vin, ?_⟩⟩, fun c => absurd c (by decide)⟩, fun c => absurd c (by decide)⟩, fun c => absurd c (by decide)⟩, fun q => (by rw [b] at q; cases q)⟩
        rw [nI_clamp (by omega)]
        exact ⟨by rw [hc'.2.2.2]; exact hmt.2.2.2.symm, fin⟩
/-- a net with other stubborn ones -/
def setS (N : NT) (s : Nat) : NT := ((nP N, nT N, s), N.2)
theorem wtk_setS (N : NT) (s lot k : Nat) : wtk (setS N s) lot k = wtk N lot k := by
  induction k with
  | zero => rfl
  | succ k ih => show wtk (setS N s) lot k * _ = wtk N lot k * _; rw [ih]; rfl
theorem Core_stub {I I' : HI} {J : HJ} {N : NT} {p s : Nat} {v : Int32} (h : Core I J N) (hp : p < nP N) (hs : s < 2 ^ nP N) (hb : ∀ q, q < nP N → s.testBit q = if q = p then decide (v = 1) else (nS N).testBit q) (hv : v = 0 ∨ v = 1) (hI : ∀ c k, rel c k = true → I' c k = if c = 12 ∧ k = 13 then nI s else if c = 77 ∧ k = 5 * p + 3 then v else I c k) : Core I' J (setS N s) := by
  obtain ⟨h1, h2, h3, h4, h5, h6, h7, h8, h9⟩ := h
  have oth : ∀ c k, rel c k = true → ¬ (c = 12 ∧ k = 13) → ¬ (c = 77 ∧ k = 5 * p + 3) → I' c k = I c k := fun c k r a b => by rw [hI c k r, if_neg a, if_neg b]
  have hP := h1.1
  refine ⟨⟨h1.1, h1.2.1, hs, h1.2.2.2⟩, ⟨⟨?_, ?_, ?_⟩, fun q hq => ?_, fun t ht => ?_, fun w hw => ?_⟩, ⟨⟨?_, ?_⟩, fun q hq => ?_, fun t ht => ?_, fun w hw => ?_⟩, fun lot hl => (h4 lot hl).trans (congrArg lN (wtk_setS N s lot (nT N)).symm), fun k hk => ?_, ?_, ?_, ?_, h9⟩
  · rw [oth 12 11 rfl (by omega) (by omega)]; exact h2.1.1
  · rw [oth 12 12 rfl (by omega) (by omega)]; exact h2.1.2.1
  · rw [hI 12 13 rfl, if_pos ⟨rfl, rfl⟩]; rfl
  · rw [oth 13 q rfl (by omega) (by omega), oth 14 q rfl (by omega) (by omega), oth 15 q rfl (by omega) (by omega), oth 16 q rfl (by omega) (by omega), oth 17 q rfl (by omega) (by omega), oth 18 q rfl (by omega) (by omega)]
    exact h2.2.1 q hq
  · rw [oth 19 t rfl (by omega) (by omega), oth 20 t rfl (by omega) (by omega), oth 21 t rfl (by omega) (by omega), oth 22 t rfl (by omega) (by omega)]
    exact h2.2.2.1 t ht
  · rw [oth 23 w rfl (by omega) (by omega)]; exact h2.2.2.2 w hw
  · rw [oth 72 20 rfl (by omega) (by omega)]; exact h3.1.1
  · rw [oth 72 21 rfl (by omega) (by omega)]; exact h3.1.2
  · have hq' : q < nP N := hq
    obtain ⟨a1, a2, a3, a4, a5⟩ := h3.2.1 q hq'
    rw [oth 77 (5 * q) rfl (by omega) (by omega), oth 77 (5 * q + 1) rfl (by omega) (by omega), oth 77 (5 * q + 2) rfl (by omega) (by omega), oth 77 (5 * q + 4) rfl (by omega) (by omega)]
    refine ⟨a1, a2, a3, ?_, a5⟩
    show I' 77 (5 * q + 3) = nI (if s.testBit q then 1 else 0)
    rw [hI 77 (5 * q + 3) rfl, if_neg (by omega), hb q hq']
    by_cases e : q = p
    · subst e
      rw [if_pos ⟨rfl, rfl⟩, if_pos rfl]
      rcases hv with rfl | rfl
      · rfl
      · rfl
    · rw [if_neg (by omega), if_neg e]; exact a4
  · rw [oth 79 t rfl (by omega) (by omega), oth 80 t rfl (by omega) (by omega), oth 81 t rfl (by omega) (by omega), oth 82 t rfl (by omega) (by omega)]
    exact h3.2.2.1 t ht
  · rw [oth 87 w rfl (by omega) (by omega)]; exact h3.2.2.2 w hw
  · have h5k := h5 k hk
    unfold tOk at h5k ⊢
    rw [oth _ 1 (rel_tr hk) (by omega) (by omega), oth _ 2 (rel_tr hk) (by omega) (by omega), oth 73 k rfl (by omega) (by omega), oth 74 k rfl (by omega) (by omega)]
    exact h5k
  · obtain ⟨m, a1, a2, a3, a4⟩ := h6
    exact ⟨m, a1, by rw [oth 0 13 rfl (by omega) (by omega)]; exact a2, by rw [oth 72 8 rfl (by omega) (by omega)]; exact a3, fun k hk => by rw [oth 10 k rfl (by omega) (by omega), oth 76 k rfl (by omega) (by omega)]; exact a4 k hk⟩
  · rw [oth 0 14 rfl (by omega) (by omega), oth 0 15 rfl (by omega) (by omega), oth 72 10 rfl (by omega) (by omega), oth 72 11 rfl (by omega) (by omega)]; exact h7
  · obtain ⟨r, a1, a2, a3, a4⟩ := h8
    exact ⟨r, a1, by rw [oth 54 3 rfl (by omega) (by omega)]; exact a2, by rw [oth 72 38 rfl (by omega) (by omega)]; exact a3, fun a ha q hq => by rw [oth (56 + a) q (rel_rn (by omega)) (by omega) (by omega), oth 91 _ rfl (by omega) (by omega)]; exact a4 a ha q hq⟩
theorem op_refuse {I : HI} {J : HJ} (h : Inv I J) (x y : Int32) : w_X10_refuse x y I J (fun r I1 => w_X11_refuse x y I1 J (fun r' I2 => r = r' ∧ Inv I2 J)) := by
  obtain ⟨N, hC, h1, h2⟩ := h
  have hN := hC.1
  have hP := hN.1
  refine q_isPerson hC.2.1 hN ?_
  cases b : isIx (nP N) x
  · refine oneOf_f (q_failsE (by decide) ⟨fun q => (by cases q), fun _ I1 e1 I2 e2 => ?_⟩)
    subst e1 e2
    exact q_isOne (mNet_same hC.2.2.1 (sameI_tr (same_cS I 2) (same_m0 _))) hN ⟨fun q => (by rw [b] at q; cases q), fun _ => q_no ⟨rfl, fin_er hC (same_cS I 2) (cS_at I 2) (sameJ_rf J) h2⟩⟩
  · obtain ⟨p, hp, rfl⟩ := ofIx b
    have hS := hN.2.2.1
    have key : ∀ (s : Nat) (v : Int32), s < 2 ^ nP N → (v = 0 ∨ v = 1) → (∀ q, q < nP N → s.testBit q = if q = p then decide (v = 1) else (nS N).testBit q) → ∀ I5 : HI, I5 = hI (cS I 0) 12 13 (nI s) → mNet (m0 I5) N ∧ ∀ I7 : HI, I7 = hI (m0 I5) 77 (Int32.toNatClampNeg (5 * nI p + 3)) v → Inv I7 J := by
      intro s v hs hv hb I5 e5
      subst e5
      have hx : (5 * nI p) + 3 = nI (5 * p + 3) := nI5 (k := 3)
      refine ⟨mNet_of hC.2.2.1 ?_ ?_ ⟨?_, ?_, ?_, ?_, ?_, ?_⟩, fun I7 e7 => ?_⟩
      · unfold m0 cS; rw [hI_at, if_neg (by decide), hI_at, if_neg (by decide), hI_ne (by decide), hI_ne (by decide)]
      · unfold m0 cS; rw [hI_at, if_neg (by decide), hI_at, if_neg (by decide), hI_ne (by decide), hI_ne (by decide)]
      · unfold m0 cS; rw [hI_ne (by decide), hI_ne (by decide), hI_ne (by decide), hI_ne (by decide)]
      · unfold m0 cS; rw [hI_ne (by decide), hI_ne (by decide), hI_ne (by decide), hI_ne (by decide)]
      · unfold m0 cS; rw [hI_ne (by decide), hI_ne (by decide), hI_ne (by decide), hI_ne (by decide)]
      · unfold m0 cS; rw [hI_ne (by decide), hI_ne (by decide), hI_ne (by decide), hI_ne (by decide)]
      · unfold m0 cS; rw [hI_ne (by decide), hI_ne (by decide), hI_ne (by decide), hI_ne (by decide)]
      · unfold m0 cS; rw [hI_ne (by decide), hI_ne (by decide), hI_ne (by decide), hI_ne (by decide)]
      · rw [hx, nI_clamp (by omega)] at e7
        refine ⟨setS N s, Core_stub hC hp hs hb hv (fun c k r => ?_), ?_, h2⟩
        · subst e7
          by_cases c1 : c = 77
          · subst c1
            rw [hI_at, if_neg (by omega : ¬ (77 = 12 ∧ k = 13))]
            by_cases k1 : k = 5 * p + 3
            · rw [if_pos k1, if_pos ⟨rfl, k1⟩]
            · rw [if_neg k1, if_neg (fun q => k1 q.2)]
              unfold m0 cS; rw [hI_ne (by decide), hI_ne (by decide), hI_ne (by decide), hI_ne (by decide)]
          · rw [hI_ne c1, if_neg (fun q : c = 77 ∧ k = 5 * p + 3 => c1 q.1), (same_m0 _) c k r]
            by_cases c2 : c = 12
            · subst c2
              rw [hI_at]
              by_cases k1 : k = 13
              · rw [if_pos k1, if_pos ⟨rfl, k1⟩]
              · rw [if_neg k1, if_neg (fun q => k1 q.2)]
                unfold cS; rw [hI_ne (by decide)]
            · rw [hI_ne c2, if_neg (fun q => c2 q.1)]
              exact (same_cS I 0) c k r
        · subst e7
          rw [hI_ne (by decide), hI_ne (by decide)]
          unfold m0
          rw [hI_ne (by decide), hI_ne (by decide), hI_ne (by decide), cS_at, hI_at, if_pos rfl]
    refine oneOf_t (q_fails0 ⟨fun _ => ?_, fun q => (by cases q)⟩)
    rw [(same_cS I 0) 12 13 rfl, hC.2.1.1.2.2, nb_one p (by omega), nb_not, nb_or]
    have vin : vp_in ((5 * nI p) + 3) 60 := by rw [show (5 * nI p) + 3 = nI (5 * p + 3) from nI5 (k := 3)]; exact vp_in_nI (by omega) (by decide)
    refine ⟨fun c I5 e5 I1 e1 I2 e2 => ?_, fun c I5 e5 I1 e1 I2 e2 => ?_⟩
    · subst e1 e2
      obtain ⟨k1, k2⟩ := key (sd (nS N) (2 ^ p)) 0 (sd_lt hS) (Or.inl rfl) (fun q _ => by
        rw [sd_bit, Nat.testBit_two_pow]
        by_cases e : q = p
        · subst e; simp
        · rw [if_neg e, decide_eq_false (fun z => e z.symm)]; simp) I5 e5
      exact q_isOne k1 hN ⟨fun _ => ⟨fun _ => ⟨vin, fun I7 e7 => ⟨rfl, k2 I7 e7⟩⟩, fun q => absurd c q⟩, fun q => (by rw [b] at q; cases q)⟩
    · subst e1 e2
      obtain ⟨k1, k2⟩ := key (nS N ||| 2 ^ p) 1 (nb_or_lt hS (nb_one_lt hp)) (Or.inr rfl) (fun q _ => by
        rw [or_bit]
        by_cases e : q = p
        · subst e; simp
        · rw [if_neg e, decide_eq_false (fun z => e z.symm)]; simp) I5 e5
      exact q_isOne k1 hN ⟨fun _ => ⟨fun q => absurd q c, fun _ => ⟨vin, fun I7 e7 => ⟨rfl, k2 I7 e7⟩⟩⟩, fun q => (by rw [b] at q; cases q)⟩
/-! feeding the tape -/
def shf (j : Nat) : Int32 := if j = 0 then 24 else if j = 1 then 16 else if j = 2 then 8 else 0
def byt (x : Int32) (j : Nat) : Int32 := Int8.toInt32 (Int32.toInt8 (x >>> (shf j &&& 31)))
def tp4 (tp : Nat → Int32) (m : Nat) (x : Int32) : Nat → Int32 := fun k => if m ≤ k then byt x (k - m) else tp k
theorem nar_b (z : Int32) : vp_nar .byte (Int8.toInt32 (Int32.toInt8 z)) = Int8.toInt32 (Int32.toInt8 z) := pk_vb z
theorem byt_b (x : Int32) (j : Nat) : Int8.toInt32 (Int32.toInt8 (byt x j)) = byt x j := by
  have := nar_b (x >>> (shf j &&& 31))
  rw [vp_nar_byte] at this
  exact this
def cTp (I0 I : HI) (m : Nat) (tp : Nat → Int32) : Prop := I 0 13 = nI m ∧ (∀ k, k < m → I 10 k = tp k) ∧ ∀ c k, c ≠ 10 → ¬ (c = 0 ∧ k = 13) → I c k = I0 c k
def mTp (I0 I : HI) (m : Nat) (tp : Nat → Int32) : Prop := I 72 8 = nI m ∧ (∀ k, k < m → I 76 k = tp k) ∧ ∀ c k, c ≠ 76 → ¬ (c = 72 ∧ k = 8) → I c k = I0 c k
theorem c_put {I0 I : HI} {m j : Nat} {x : Int32} {tp : Nat → Int32} (h : cTp I0 I (m + j) (tp4 tp m x)) : cTp I0 (hI (hI I 10 (m + j) (byt x j)) 0 13 (nI (m + j + 1))) (m + (j + 1)) (tp4 tp m x) := by
  obtain ⟨h1, h2, h3⟩ := h
  refine ⟨by rw [hI_at, if_pos rfl]; rfl, fun k hk => ?_, fun c k a b => ?_⟩
  · rw [hI_ne (by decide), hI_at]
    by_cases e : k = m + j
    · subst e; rw [if_pos rfl]; unfold tp4; rw [if_pos (by omega), show m + j - m = j by omega]
    · rw [if_neg e]; exact h2 k (by omega)
  · by_cases c0 : c = 0
    · subst c0; rw [hI_at, if_neg (fun q => b ⟨rfl, q⟩), hI_ne (by decide)]; exact h3 0 k a b
    · rw [hI_ne c0, hI_ne a]; exact h3 c k a b
theorem m_put {I0 I : HI} {m j : Nat} {x : Int32} {tp : Nat → Int32} (h : mTp I0 I (m + j) (tp4 tp m x)) : mTp I0 (hI (hI I 76 (m + j) (byt x j)) 72 8 (nI (m + j + 1))) (m + (j + 1)) (tp4 tp m x) := by
  obtain ⟨h1, h2, h3⟩ := h
  refine ⟨by rw [hI_at, if_pos rfl]; rfl, fun k hk => ?_, fun c k a b => ?_⟩
  · rw [hI_ne (by decide), hI_at]
    by_cases e : k = m + j
    · subst e; rw [if_pos rfl]; unfold tp4; rw [if_pos (by omega), show m + j - m = j by omega]
    · rw [if_neg e]; exact h2 k (by omega)
  · by_cases c0 : c = 72
    · subst c0; rw [hI_at, if_neg (fun q => b ⟨rfl, q⟩), hI_ne (by decide)]; exact h3 72 k a b
    · rw [hI_ne c0, hI_ne a]; exact h3 c k a b
def xs4 (j : Nat) : Int32 := if j = 0 then 24 else if j = 1 then 16 else if j = 2 then 8 else if j = 3 then 0 else -8
def xm4 (j : Nat) : Int32 := if j = 0 then 3 else if j = 1 then 2 else if j = 2 then 1 else if j = 3 then 0 else -1
theorem q_layC {I0 I : HI} {J : HJ} {m : Nat} {x : Int32} {tp : Nat → Int32} (hm : m + 4 ≤ 600) (h : cTp I0 I m tp) {Post : HI → Prop} (hp : ∀ I', cTp I0 I' (m + 4) (tp4 tp m x) → Post I') : w_X10_layOnTape x I J Post := by
  refine lp_inv (fun j (s : Int32 × HI) => s.1 = xs4 j ∧ cTp I0 s.2 (m + j) (tp4 tp m x)) 4 (fun j s hj hq K hK => ?_) (fun s hq K => ?_) (24, I) ⟨rfl, h.1, fun k hk => by show I 10 k = _; rw [h.2.1 k hk]; unfold tp4; rw [if_neg (by omega)], h.2.2⟩
  · obtain ⟨w, I1⟩ := s
    obtain ⟨e, g⟩ := hq
    dsimp only at e g
    subst e
    show wb_X10_layOnTape_3 J x Post _ K (xs4 j, I1)
    unfold wb_X10_layOnTape_3
    dsimp only
    have e13 : I1 0 13 = nI (m + j) := g.1
    rw [e13, nI_clamp (by omega), nar_b]
    have x0 : ¬ xs4 j < 0 := by rcases (show j = 0 ∨ j = 1 ∨ j = 2 ∨ j = 3 by omega) with rfl | rfl | rfl | rfl <;> decide
    refine ⟨fun q => absurd q x0, fun _ => ⟨fun q => absurd q (nI_ge (b := 600) (by omega) (by decide)), fun _ => ⟨vp_in_nI (by omega) (by decide), fun I2 e2 I3 e3 => hK _ ⟨?_, ?_⟩⟩⟩⟩
    · show xs4 j + (-8) = xs4 (j + 1)
      rcases (show j = 0 ∨ j = 1 ∨ j = 2 ∨ j = 3 by omega) with rfl | rfl | rfl | rfl <;> decide
    · have eb : Int8.toInt32 (Int32.toInt8 (x >>> (xs4 j &&& 31))) = byt x j := by
        unfold byt
        congr 4
        rcases (show j = 0 ∨ j = 1 ∨ j = 2 ∨ j = 3 by omega) with rfl | rfl | rfl | rfl <;> rfl
      rw [eb] at e2
      have e4 : I2 0 13 = nI (m + j) := by rw [e2, hI_ne (by decide)]; exact e13
      rw [e4, nI_1] at e3
      subst e3 e2
      exact c_put g
  · obtain ⟨w, I1⟩ := s
    obtain ⟨e, g⟩ := hq
    dsimp only at e g
    subst e
    exact ⟨fun _ => hp I1 g, fun q => absurd (by decide) q⟩
theorem q_layM {I0 I : HI} {J : HJ} {m : Nat} {x : Int32} {tp : Nat → Int32} (hm : m + 4 ≤ 600) (h : mTp I0 I m tp) {Post : HI → Prop} (hp : ∀ I', mTp I0 I' (m + 4) (tp4 tp m x) → Post I') : w_X11_lay x I J Post := by
  refine lp_inv (fun j (s : Int32 × HI) => s.1 = xm4 j ∧ mTp I0 s.2 (m + j) (tp4 tp m x)) 4 (fun j s hj hq K hK => ?_) (fun s hq K => ?_) (3, I) ⟨rfl, h.1, fun k hk => by show I 76 k = _; rw [h.2.1 k hk]; unfold tp4; rw [if_neg (by omega)], h.2.2⟩
  · obtain ⟨w, I1⟩ := s
    obtain ⟨e, g⟩ := hq
    dsimp only at e g
    subst e
    show wb_X11_lay_2 J x Post _ K (xm4 j, I1)
    unfold wb_X11_lay_2
    dsimp only
    have e13 : I1 72 8 = nI (m + j) := g.1
    rw [e13, nI_clamp (by omega), nar_b]
    have x0 : ¬ xm4 j < 0 := by rcases (show j = 0 ∨ j = 1 ∨ j = 2 ∨ j = 3 by omega) with rfl | rfl | rfl | rfl <;> decide
    refine ⟨fun q => absurd q x0, fun _ => ⟨vp_in_nI (by omega) (by decide), fun I2 e2 I3 e3 => hK _ ⟨?_, ?_⟩⟩⟩
    · show xm4 j + (-1) = xm4 (j + 1)
      rcases (show j = 0 ∨ j = 1 ∨ j = 2 ∨ j = 3 by omega) with rfl | rfl | rfl | rfl <;> decide
    · have eb : Int8.toInt32 (Int32.toInt8 (x >>> ((8 * xm4 j) &&& 31))) = byt x j := by
        unfold byt
        congr 4
        rcases (show j = 0 ∨ j = 1 ∨ j = 2 ∨ j = 3 by omega) with rfl | rfl | rfl | rfl <;> decide
      rw [eb] at e2
      have e4 : I2 72 8 = nI (m + j) := by rw [e2, hI_ne (by decide)]; exact e13
      rw [e4, nI_1] at e3
      subst e3 e2
      exact m_put g
  · obtain ⟨w, I1⟩ := s
    obtain ⟨e, g⟩ := hq
    dsimp only at e g
    subst e
    exact ⟨fun _ => hp I1 g, fun q => absurd (by decide) q⟩
theorem tp4_b {tp : Nat → Int32} {m : Nat} {x : Int32} (h : ∀ k, k < m → Int8.toInt32 (Int32.toInt8 (tp k)) = tp k) : ∀ k, k < m + 4 → Int8.toInt32 (Int32.toInt8 (tp4 tp m x k)) = tp4 tp m x k := by
  intro k hk
  unfold tp4
  split
  · exact byt_b x _
  · exact h k (by omega)
theorem op_feed {I : HI} {J : HJ} (h : Inv I J) (a b c d e : Int32) : w_X10_feed a b c d e I J (fun r I1 => w_X11_feed a b c d e I1 J (fun r' I2 => r = r' ∧ Inv I2 J)) := by
  obtain ⟨N, hC, h1, h2⟩ := h
  obtain ⟨m, hm, t1, t2, t3⟩ := hC.2.2.2.2.2.1
  have hlay : ∀ I' : HI, (I' 0 13 = nI m ∧ I' 72 8 = nI m) → (I 0 13 + 20 = nI (m + 20)) := fun _ _ => by rw [t1, show (20 : Int32) = nI 20 from rfl, nI_add]
  have e20 : I 0 13 + 20 = nI (m + 20) := by rw [t1, show (20 : Int32) = nI 20 from rfl, nI_add]
  unfold w_X10_feed
  rw [e20, show (600 : Int32) = nI 600 from rfl, nI_leI (by omega) (by omega)]
  refine ⟨fun hle => ?_, fun hle I1 e1 => ?_⟩
  · refine q_layC (I0 := I) (m := m) (tp := I 10) (by omega) ⟨t1, fun _ _ => rfl, fun _ _ _ _ => rfl⟩ (fun I1 g1 => q_layC (by omega) g1 (fun I2 g2 => q_layC (by omega) g2 (fun I3 g3 => q_layC (by omega) g3 (fun I4 g4 => q_layC (by omega) g4 (fun I5 g5 I6 e6 => ?_)))))
    subst e6
    have s6 : ∀ c k, c ≠ 10 → ¬ (c = 0 ∧ k = 13) → ¬ (c = 72 ∧ k = 1) → hI I5 72 1 0 c k = I c k := by
      intro c k q1 q2 q3
      by_cases c0 : c = 72
      · subst c0; rw [hI_at, if_neg (fun z => q3 ⟨rfl, z⟩)]; exact g5.2.2 72 k q1 q2
      · rw [hI_ne c0]; exact g5.2.2 c k q1 q2
    have e8 : hI I5 72 1 0 72 8 = nI m := by rw [s6 72 8 (by decide) (by omega) (by omega)]; exact t2
    rw [e8, show (20 : Int32) = nI 20 from rfl, nI_add, show (600 : Int32) = nI 600 from rfl, nI_leI (by omega) (by omega)]
    refine ⟨fun _ => ?_, fun q => absurd hle q⟩
    refine q_layM (I0 := hI I5 72 1 0) (m := m) (tp := I 10) (by omega) ⟨e8, fun k hk => ?_, fun _ _ _ _ => rfl⟩ (fun I7 f1 => q_layM (by omega) f1 (fun I8 f2 => q_layM (by omega) f2 (fun I9 f3 => q_layM (by omega) f3 (fun I10 f4 => q_layM (by omega) f4 (fun I11 f5 => ?_)))))
    · rw [s6 76 k (by decide) (by omega) (by omega)]; exact (t3 k hk).1.symm
    · have hall : ∀ c k, c ≠ 10 → c ≠ 76 → ¬ (c = 0 ∧ k = 13) → ¬ (c = 72 ∧ (k = 1 ∨ k = 8)) → I11 c k = I c k := fun c k q1 q2 q3 q4 => by rw [f5.2.2 c k q2 (by omega)]; exact s6 c k q1 q3 (by omega)
      have t0 : ∀ k, I11 10 k = I5 10 k := fun k => by rw [f5.2.2 10 k (by decide) (by omega), hI_ne (by decide)]
      have t13 : I11 0 13 = nI (m + 20) := by rw [f5.2.2 0 13 (by decide) (by omega), hI_ne (by decide), g5.1]
      refine ⟨by rw [g5.1, f5.1], N, ?_, ?_, h2⟩
      · obtain ⟨h1', h2', h3', h4', h5', h6', h7', h8', h9'⟩ := hC
        have oth : ∀ c k, rel c k = true → c ≠ 10 → c ≠ 76 → ¬ (c = 0 ∧ k = 13) → ¬ (c = 72 ∧ k = 8) → I11 c k = I c k := fun c k r q1 q2 q3 q4 => hall c k q1 q2 q3 (by rintro ⟨rfl, rfl | rfl⟩; exact absurd r (by decide); exact q4 ⟨rfl, rfl⟩)
        refine ⟨h1', cNet_s h2' (fun c k u v => hall c k (by omega) (by omega) (by omega) (by omega)), mNet_of h3' (hall 72 20 (by decide) (by decide) (by omega) (by omega)) (hall 72 21 (by decide) (by decide) (by omega) (by omega)) ⟨funext (fun k => hall 77 k (by decide) (by decide) (by omega) (by omega)), funext (fun k => hall 79 k (by decide) (by decide) (by omega) (by omega)), funext (fun k => hall 80 k (by decide) (by decide) (by omega) (by omega)), funext (fun k => hall 81 k (by decide) (by decide) (by omega) (by omega)), funext (fun k => hall 82 k (by decide) (by decide) (by omega) (by omega)), funext (fun k => hall 87 k (by decide) (by decide) (by omega) (by omega))⟩, h4', fun k hk => ?_, ?_, ?_, ?_, h9'⟩
        · have q := h5' k hk
          unfold tOk at q ⊢
          rw [hall (2 + 2 * k) 1 (by omega) (by omega) (by omega) (by omega), hall (2 + 2 * k) 2 (by omega) (by omega) (by omega) (by omega), hall 73 k (by decide) (by decide) (by omega) (by omega), hall 74 k (by decide) (by decide) (by omega) (by omega)]
          exact q
        · refine ⟨m + 20, hle, t13, f5.1, fun k hk => ?_⟩
          rw [t0 k, g5.2.1 k hk, f5.2.1 k hk]
          refine ⟨rfl, ?_⟩
          exact tp4_b (tp4_b (tp4_b (tp4_b (tp4_b (fun k hk => (t3 k hk).2))))) k hk
        · rw [hall 0 14 (by decide) (by decide) (by omega) (by omega), hall 0 15 (by decide) (by decide) (by omega) (by omega), hall 72 10 (by decide) (by decide) (by omega) (by omega), hall 72 11 (by decide) (by decide) (by omega) (by omega)]
          exact h7'
        · obtain ⟨r, a1, a2, a3, a4⟩ := h8'
          exact ⟨r, a1, by rw [hall 54 3 (by decide) (by decide) (by omega) (by omega)]; exact a2, by rw [hall 72 38 (by decide) (by decide) (by omega) (by omega)]; exact a3, fun q hq p hp => by rw [hall (56 + q) p (by omega) (by omega) (by omega) (by omega), hall 91 _ (by decide) (by decide) (by omega) (by omega)]; exact a4 q hq p hp⟩
      · rw [hall 0 12 (by decide) (by decide) (by omega) (by omega), hall 72 0 (by decide) (by decide) (by omega) (by omega)]
        exact h1
  · subst e1
    have e8 : hI I 72 1 0 72 8 = nI m := by rw [hI_at, if_neg (by decide)]; exact t2
    rw [e8, show (20 : Int32) = nI 20 from rfl, nI_add, show (600 : Int32) = nI 600 from rfl, nI_leI (by omega) (by omega)]
    exact ⟨fun q => absurd q hle, fun _ => ⟨rfl, inv_mT ⟨N, hC, h1, h2⟩⟩⟩
