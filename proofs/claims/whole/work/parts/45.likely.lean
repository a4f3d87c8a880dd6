/-! ties that were tried, that told -/
def trd (N : NT) (f : Nat → Int32) (t : Nat) : Bool := !decide (f (nFr N t) = -1) && (decide (f (nTo N t) = -1) || !decide (f (nTo N t) < f (nFr N t) + nI (nHr N t)))
def tld (N : NT) (f : Nat → Int32) (t : Nat) : Bool := !decide (f (nFr N t) = -1) && decide (f (nTo N t) = (f (nFr N t) + nI (nHr N t)) + nI (nLt N (nTo N t)))
def vh (v : Int32) : Prop := v = -1 ∨ ∃ h, h < 150 ∧ v = nI h
theorem vh_neg {v : Int32} (h : vh v) : v < 0 ↔ v = -1 := by
  rcases h with rfl | ⟨k, hk, rfl⟩
  · exact ⟨fun _ => rfl, fun _ => by decide⟩
  · exact ⟨fun q => absurd q (nI_pos (by omega)), fun q => absurd q (nI_nm1 (by omega))⟩
theorem tld_trd {N : NT} (hN : okN N) {f : Nat → Int32} {t : Nat} (ht : t < nT N) (hv : vh (f (nFr N t))) (h : tld N f t = true) : trd N f t = true := by
  have ho := hN.2.2.2.1 t ht
  have hl := (hN.2.2.2.2.1 _ ho.2.1).2.2.2.1
  unfold tld at h
  unfold trd
  rw [Bool.and_eq_true, Bool.not_eq_true', decide_eq_false_iff_not, decide_eq_true_eq] at h
  rcases hv with q | ⟨k, hk, q⟩
  · exact absurd q h.1
  · rw [h.2, q, nI_add, nI_add, decide_eq_false (nI_nm1 (by omega)), decide_eq_false (nI_nm1 (by omega)), decide_eq_false (nI_nlt (by omega) (by omega))]
    rfl
theorem q_wasTried {I : HI} {J : HJ} {N : NT} {c t : Nat} {f : Nat → Int32} (hc : cNet I N) (hN : okN N) (ht : t < nT N) (hf : ∀ p, p < nP N → I c p = f p) {Post : Bool → Prop} (h : Post (trd N f t)) : w_X6_wasTried (nI t) c I J Post := by
  have hP := hN.1
  have hT := hN.2.1
  have ho := hN.2.2.2.1 t ht
  have ct := hc.2.2.1 t ht
  unfold w_X6_wasTried
  rw [nI_clamp (by omega : t < 2 ^ 31), ct.1, ct.2.1, ct.2.2.2, nI_clamp (by omega : nFr N t < 2 ^ 31), nI_clamp (by omega : nTo N t < 2 ^ 31), hf _ ho.1, hf _ ho.2.1]
  have vt : vp_in (nI t) 10 := vp_in_nI (by omega) (by omega)
  unfold trd at h
  refine ⟨vt, vp_in_nI (by omega) (by omega), fun z1 e1 => ⟨vt, vp_in_nI (by omega) (by omega), fun z2 e2 => ?_⟩⟩
  subst e1 e2
  refine ⟨fun q => ?_, fun q => ⟨fun q2 => ?_, fun q2 => ⟨vt, fun q3 => ?_, fun q3 => ?_⟩⟩⟩
  · rw [decide_eq_true q] at h; exact h
  · rw [decide_eq_false q, decide_eq_true q2] at h; exact h
  · rw [decide_eq_false q, decide_eq_false q2, decide_eq_true q3] at h; exact h
  · rw [decide_eq_false q, decide_eq_false q2, decide_eq_false q3] at h; exact h
theorem q_didTell {I : HI} {J : HJ} {N : NT} {c t : Nat} {f : Nat → Int32} (hc : cNet I N) (hN : okN N) (ht : t < nT N) (hf : ∀ p, p < nP N → I c p = f p) {Post : Bool → Prop} (h : Post (tld N f t)) : w_X6_didTell (nI t) c I J Post := by
  have hP := hN.1
  have hT := hN.2.1
  have ho := hN.2.2.2.1 t ht
  have ct := hc.2.2.1 t ht
  unfold w_X6_didTell
  rw [nI_clamp (by omega : t < 2 ^ 31), ct.1, ct.2.1, ct.2.2.2, nI_clamp (by omega : nFr N t < 2 ^ 31), nI_clamp (by omega : nTo N t < 2 ^ 31), hf _ ho.1, hf _ ho.2.1, (hc.2.1 _ ho.2.1).2.2.1]
  have vt : vp_in (nI t) 10 := vp_in_nI (by omega) (by omega)
  have vo : vp_in (nI (nTo N t)) 12 := vp_in_nI (by omega) (by omega)
  unfold tld at h
  refine ⟨vt, vp_in_nI (by omega) (by omega), fun z1 e1 => ⟨vt, fun q => ?_, fun q => ⟨vo, vt, vo, fun q2 => ?_, fun q2 => ?_⟩⟩⟩
  · subst e1; rw [decide_eq_true q] at h; exact h
  · subst e1; rw [decide_eq_false q, decide_eq_false q2] at h; exact h
  · subst e1; rw [decide_eq_false q, decide_eq_true q2] at h; exact h
theorem q_mTried {I : HI} {J : HJ} {N : NT} {a t : Nat} {f : Nat → Int32} (hm : mNet I N) (hN : okN N) (ht : t < nT N) (ha : a < 15) (hf : ∀ p, p < nP N → I 91 (12 * a + p) = f p ∧ vh (f p)) {Post : Bool → Prop} (h : Post (trd N f t)) : w_X11_isTried (nI a) (nI t) I J Post := by
  have hP := hN.1
  have hT := hN.2.1
  have ho := hN.2.2.2.1 t ht
  have ct := hm.2.2.1 t ht
  unfold w_X11_isTried
  rw [nI_clamp (by omega : t < 2 ^ 31), ct.1, ct.2.1, ct.2.2.2, n12, n12, nI_clamp (by omega : 12 * a + nFr N t < 2 ^ 31), nI_clamp (by omega : 12 * a + nTo N t < 2 ^ 31), (hf _ ho.1).1, (hf _ ho.2.1).1]
  have vt : vp_in (nI t) 10 := vp_in_nI (by omega) (by omega)
  unfold trd at h
  refine ⟨vt, vp_in_nI (by omega) (by omega), fun z1 e1 => ⟨vt, vp_in_nI (by omega) (by omega), fun z2 e2 => ?_⟩⟩
  subst e1 e2
  rw [vh_neg (hf _ ho.1).2, vh_neg (hf _ ho.2.1).2]
  refine ⟨fun q => ?_, fun q => ⟨fun q2 => ?_, fun q2 => ⟨vt, fun q3 => ?_, fun q3 => ?_⟩⟩⟩
  · rw [decide_eq_true q] at h; exact h
  · rw [decide_eq_false q, decide_eq_true q2] at h; exact h
  · rw [decide_eq_false q, decide_eq_false q2, decide_eq_true q3] at h; exact h
  · rw [decide_eq_false q, decide_eq_false q2, decide_eq_false q3] at h; exact h
theorem q_mLate {I : HI} {J : HJ} {N : NT} {p : Nat} (hm : mNet I N) (hN : okN N) (hp : p < nP N) {Post : Int32 → Prop} (h : Post (nI (nLt N p))) : w_X11_late (nI p) I J Post := by
  have hP := hN.1
  have h1 : (5 * nI p) + 2 = nI (5 * p + 2) := nI5 (k := 2)
  unfold w_X11_late
  rw [h1, nI_clamp (by omega), (hm.2.1 p hp).2.2.1]
  exact ⟨vp_in_nI (by omega) (by omega), h⟩
theorem q_mHasTold {I : HI} {J : HJ} {N : NT} {t : Nat} {f : Nat → Int32} {x y : Int32} (hm : mNet I N) (hN : okN N) (ht : t < nT N) (hx : x = f (nFr N t)) (hy : y = f (nTo N t)) (hv : vh (f (nFr N t))) {Post : Bool → Prop} (h : Post (tld N f t)) : w_X11_hasTold (nI t) x y I J Post := by
  have hP := hN.1
  have hT := hN.2.1
  have ho := hN.2.2.2.1 t ht
  have ct := hm.2.2.1 t ht
  subst hx hy
  unfold w_X11_hasTold
  rw [nI_clamp (by omega : t < 2 ^ 31), ct.2.1, ct.2.2.2, vh_neg hv]
  have vt : vp_in (nI t) 10 := vp_in_nI (by omega) (by omega)
  unfold tld at h
  refine ⟨fun q => ?_, fun q => ⟨vt, vt, q_mLate hm hN ho.2.1 ⟨fun q2 => ?_, fun q2 => ?_⟩⟩⟩
  · rw [decide_eq_true q] at h; exact h
  · rw [decide_eq_false q, decide_eq_false q2] at h; exact h
  · rw [decide_eq_false q, decide_eq_true q2] at h; exact h
/-- the runs, as both sides hold them -/
def rnH (I : HI) (P r : Nat) (H : Nat → Nat → Int32) : Prop := r ≤ 15 ∧ I 54 3 = nI r ∧ I 72 38 = nI r ∧ ∀ a, a < r → ∀ p, p < P → I (56 + a) p = H a p ∧ I 91 (12 * a + p) = H a p ∧ vh (H a p)
theorem rn_H {I : HI} {P : Nat} (h : rnOk I P) : ∃ r H, ∀ I', sameI I I' → rnH I' P r H := by
  obtain ⟨r, h1, h2, h3, h4⟩ := h
  exact ⟨r, fun a p => I (56 + a) p, fun I' hs => ⟨h1, (hs 54 3 rfl).trans h2, (hs 72 38 rfl).trans h3, fun a ha p hp => ⟨hs (56 + a) p (rel_rn (by omega)), (hs 91 _ rfl).trans (h4 a ha p hp).1.symm, (h4 a ha p hp).2⟩⟩⟩
theorem q_timesTried {I : HI} {J : HJ} {N : NT} {t r : Nat} {H : Nat → Nat → Int32} (hc : cNet I N) (hN : okN N) (hr : rnH I (nP N) r H) (ht : t < nT N) {Post : Int32 → Prop} (h : Post (nI (cnt (fun a => trd N (H a) t) r))) : w_X6_timesTried (nI t) I J Post := by
  have hr15 := hr.1
  refine lp_seq (fun i => (nI (cnt (fun a => trd N (H a) t) i), nI i)) r (fun i hi K hK => ?_) (fun K => ?_)
  · show wb_X6_timesTried_4 I J (nI t) Post _ K (nI (cnt _ i), nI i)
    unfold wb_X6_timesTried_4
    dsimp only
    rw [hr.2.1, nI_clamp (by omega : i < 2 ^ 31), show 56 + 1 * i = 56 + i by omega, i_add0, nI_1 i]
    have st : cnt (fun a => trd N (H a) t) (i + 1) = cnt (fun a => trd N (H a) t) i + (if trd N (H i) t then 1 else 0) := rfl
    refine ⟨fun z => absurd z (nI_ge hi (by omega)), fun _ => ⟨vp_in_nI (by omega) (by omega), q_wasTried hc hN ht (fun p hp => (hr.2.2.2 i hi p hp).1) ⟨fun b => ?_, fun b => ?_⟩⟩⟩
    · rw [st, b] at hK; exact hK
    · rw [st, b] at hK; rw [nI_1]; exact hK
  · show wb_X6_timesTried_4 I J (nI t) Post _ K (nI (cnt _ r), nI r)
    unfold wb_X6_timesTried_4
    dsimp only
    rw [hr.2.1]
    exact ⟨fun _ => h, fun z => absurd (Int32.le_refl _) z⟩
theorem q_timesTold {I : HI} {J : HJ} {N : NT} {t r : Nat} {H : Nat → Nat → Int32} (hc : cNet I N) (hN : okN N) (hr : rnH I (nP N) r H) (ht : t < nT N) {Post : Int32 → Prop} (h : Post (nI (cnt (fun a => tld N (H a) t) r))) : w_X6_timesTold (nI t) I J Post := by
  have hr15 := hr.1
  refine lp_seq (fun i => (nI (cnt (fun a => tld N (H a) t) i), nI i)) r (fun i hi K hK => ?_) (fun K => ?_)
  · show wb_X6_timesTold_4 I J (nI t) Post _ K (nI (cnt _ i), nI i)
    unfold wb_X6_timesTold_4
    dsimp only
    rw [hr.2.1, nI_clamp (by omega : i < 2 ^ 31), show 56 + 1 * i = 56 + i by omega, i_add0, nI_1 i]
    have st : cnt (fun a => tld N (H a) t) (i + 1) = cnt (fun a => tld N (H a) t) i + (if tld N (H i) t then 1 else 0) := rfl
    refine ⟨fun z => absurd z (nI_ge hi (by omega)), fun _ => ⟨vp_in_nI (by omega) (by omega), q_didTell hc hN ht (fun p hp => (hr.2.2.2 i hi p hp).1) ⟨fun b => ?_, fun b => ?_⟩⟩⟩
    · rw [st, b] at hK; exact hK
    · rw [st, b] at hK; rw [nI_1]; exact hK
  · show wb_X6_timesTold_4 I J (nI t) Post _ K (nI (cnt _ r), nI r)
    unfold wb_X6_timesTold_4
    dsimp only
    rw [hr.2.1]
    exact ⟨fun _ => h, fun z => absurd (Int32.le_refl _) z⟩
theorem q_power {b n : Nat} (hn : n < 2 ^ 31) {Post : Int64 → Prop} (h : Post (lN (b ^ n))) : w_X6_power (lN b) (nI n) Post := by
  refine lp_seq (fun i => (lN (b ^ i), nI i)) n (fun i hi K hK => ?_) (fun K => ⟨fun _ => h, fun z => absurd (Int32.le_refl _) z⟩)
  show wb_X6_power_5 (lN b) (nI n) Post _ K (lN (b ^ i), nI i)
  unfold wb_X6_power_5
  dsimp only
  rw [lN_mul, nI_1, ← Nat.pow_succ]
  exact ⟨fun z => absurd z (nI_ge hi hn), fun _ => hK⟩
theorem q_mPower {b n : Nat} (hn : n < 2 ^ 31) {Post : Int64 → Prop} (h : Post (lN (b ^ n))) : w_X11_power (lN b) (nI n) Post := by
  refine lp_seq (fun i => (lN (b ^ i), nI i)) n (fun i hi K hK => ?_) (fun K => ⟨fun _ => h, fun z => absurd (Int32.le_refl _) z⟩)
  show wb_X11_power_5 (lN b) (nI n) Post _ K (lN (b ^ i), nI i)
  unfold wb_X11_power_5
  dsimp only
  rw [lN_mul, nI_1, ← Nat.pow_succ]
  exact ⟨fun z => absurd z (nI_ge hi hn), fun _ => hK⟩
def lik (y n k : Nat) : Nat := k ^ y * (16 - k) ^ n
theorem lik_lt {y n k : Nat} (h : y + n ≤ 15) (hk : k ≤ 16) : lik y n k < 2 ^ 62 := by
  have h1 : lik y n k ≤ 16 ^ y * 16 ^ n := Nat.mul_le_mul (Nat.pow_le_pow_left hk y) (Nat.pow_le_pow_left (by omega) n)
  rw [← Nat.pow_add] at h1
  have h2 : 16 ^ (y + n) ≤ 16 ^ 15 := Nat.pow_le_pow_right (by decide) h
  have h3 : (16 : Nat) ^ 15 < 2 ^ 62 := by decide
  omega
theorem cnt_two (f g : Nat → Bool) (n : Nat) : cnt (fun i => f i && g i) n + cnt (fun i => f i && !g i) n = cnt f n := by
  induction n with
  | zero => rfl
  | succ n ih =>
    have h0 : ∀ f : Nat → Bool, cnt f (n + 1) = cnt f n + (if f n then 1 else 0) := fun _ => rfl
    rw [h0, h0, h0, ← ih]
    cases f n <;> cases g n <;> simp <;> omega
theorem op_likeliest {I : HI} {J : HJ} (h : Inv I J) (x : Int32) : w_X10_likeliest x I J (fun r I1 => w_X11_likeliest x I1 J (fun r' I2 => r = r' ∧ Inv I2 J)) := by
  obtain ⟨N, hC, h1, h2⟩ := h
  have hN := hC.1
  have hT := hN.2.1
  have isT : ∀ {I' : HI} {v : Bool → Prop}, mNet I' N → v (isIx (nT N) x) → w_X11_isIn (Int32.toInt64 x) 0 (Int32.toInt64 ((I' 72 21) - 1)) v := fun {I'} {v} hm q => by
    rw [hm.1.2]
    refine q_isIn ?_
    rw [j0, m1I (by omega)]
    have : isBt x 0 ((nT N : Int) - 1) = isIx (nT N) x := by unfold isBt isIx; apply decide_eq_decide.mpr; omega
    rw [this]; exact q
  obtain ⟨r, H, hrn⟩ := rn_H hC.2.2.2.2.2.2.2.1
  have hr15 := (hrn I (sameI_rf I)).1
  refine q_isTie hC.2.1 hN ?_
  cases b : isIx (nT N) x
  · refine ⟨fun _ => q_failsE (v := 2) (by decide) ⟨fun q => (by cases q), fun _ I1 e1 I2 e2 => ?_⟩, fun q => (by cases q)⟩
    subst e1 e2
    exact isT (mNet_same hC.2.2.1 (sameI_tr (same_cS I 2) (same_m0 _))) ⟨fun q => (by rw [b] at q; cases q), fun _ => q_refused ⟨rfl, fin_er hC (same_cS I 2) (cS_at I 2) (sameJ_rf J) h2⟩⟩
  · obtain ⟨t, ht, rfl⟩ := ofIx b
    refine ⟨fun q => (by cases q), fun _ => q_timesTried hC.2.1 hN (hrn I (sameI_rf I)) ht ?_⟩
    have hTT : cnt (fun a => trd N (H a) t) r ≤ r := cnt_le _ _
    have hDT : cnt (fun a => tld N (H a) t) r ≤ cnt (fun a => trd N (H a) t) r := cnt_mono (fun a ha q => tld_trd hN ht ((hrn I (sameI_rf I)).2.2.2 a ha _ (hN.2.2.2.1 t ht).1).2.2 q)
    have hyes : cnt (fun a => trd N (H a) t && tld N (H a) t) r = cnt (fun a => tld N (H a) t) r := cnt_congr (fun a ha => by
      cases q : tld N (H a) t
      · rw [Bool.and_false]
      · rw [tld_trd hN ht ((hrn I (sameI_rf I)).2.2.2 a ha _ (hN.2.2.2.1 t ht).1).2.2 q]; rfl)
    have hnay := cnt_two (fun a => trd N (H a) t) (fun a => tld N (H a) t) r
    rw [hyes] at hnay
    generalize hD : cnt (fun a => tld N (H a) t) r = D at *
    generalize hNy : cnt (fun a => trd N (H a) t && !tld N (H a) t) r = M at *
    rw [← hnay] at hTT hDT ⊢
    rw [show (0 : Int32) = nI 0 from rfl, nI_eq (by omega) (by omega)]
    -- the model's two counts
    have mod : ∀ (I1 : HI) (rr : Int32), sameI I I1 → (D + M = 0 → rr = -1 ∧ Inv (mE I1 8) J) → (¬ D + M = 0 → rr = nI (amx (lik D M) 16) ∧ Inv (m0 I1) J) → w_X11_likeliest (nI t) I1 J (fun r' I2 => rr = r' ∧ Inv I2 J) := by
      intro I1 rr hs g1 g2 Ia ea Ib eb
      subst ea eb
      rw [show hI (hI I1 72 1 0) 72 0 0 = m0 I1 from rfl]
      have hm' := mNet_same hC.2.2.1 (sameI_tr hs (same_m0 I1))
      have hr := hrn (m0 I1) (sameI_tr hs (same_m0 I1))
      have ct := hm'.2.2.1 t ht
      have ho := hN.2.2.2.1 t ht
      have hP := hN.1
      refine isT hm' ⟨fun _ => ?_, fun q => (by rw [b] at q; cases q)⟩
      refine lp_seq (fun i => (nI (cnt (fun a => trd N (H a) t && tld N (H a) t) i), nI (cnt (fun a => trd N (H a) t && !tld N (H a) t) i), nI i)) r (fun i hi K hK => ?_) (fun K => ?_)
      · show wb_X11_likeliest_39 (m0 I1) J (nI t) _ _ K (nI (cnt _ i), nI (cnt _ i), nI i)
        unfold wb_X11_likeliest_39
        dsimp only
        have s1 : cnt (fun a => trd N (H a) t && tld N (H a) t) (i + 1) = cnt (fun a => trd N (H a) t && tld N (H a) t) i + (if trd N (H i) t && tld N (H i) t then 1 else 0) := rfl
        have s2 : cnt (fun a => trd N (H a) t && !tld N (H a) t) (i + 1) = cnt (fun a => trd N (H a) t && !tld N (H a) t) i + (if trd N (H i) t && !tld N (H i) t then 1 else 0) := rfl
        have ha := hr.2.2.2 i hi
        rw [hr.2.2.1, nI_clamp (by omega : t < 2 ^ 31), ct.1, ct.2.1, n12, n12, nI_clamp (by omega : 12 * i + nFr N t < 2 ^ 31), nI_clamp (by omega : 12 * i + nTo N t < 2 ^ 31), nI_1 i, nI_1, nI_1]
        rw [s1, s2] at hK
        have vt : vp_in (nI t) 10 := vp_in_nI (by omega) (by omega)
        refine ⟨fun z => absurd z (nI_ge hi (by omega)), fun _ => q_mTried hm' hN ht (by omega) (fun p hp => (ha p hp).2) ⟨fun q => ⟨vt, vp_in_nI (by omega) (by omega), vt, vp_in_nI (by omega) (by omega), q_mHasTold (f := H i) hm' hN ht (ha _ ho.1).2.1 (ha _ ho.2.1).2.1 (ha _ ho.1).2.2 ⟨fun q2 => ?_, fun q2 => ?_⟩⟩, fun q => ?_⟩⟩
        · rw [q, q2] at hK; exact hK
        · rw [q, q2] at hK; exact hK
        · rw [q] at hK; exact hK
      · show wb_X11_likeliest_39 (m0 I1) J (nI t) _ _ K (nI (cnt _ r), nI (cnt _ r), nI r)
        unfold wb_X11_likeliest_39
        dsimp only
        rw [hr.2.2.1, hyes, hNy]
        refine ⟨fun _ => ?_, fun z => absurd (Int32.le_refl _) z⟩
        rw [nI_add, show (0 : Int32) = nI 0 from rfl, nI_eq (by omega) (by omega)]
        refine ⟨fun z => ?_, fun z => q_refused (g1 z)⟩
        obtain ⟨k1, k2⟩ := g2 z
        refine lp_seq (fun i => (nI (amx (lik D M) i), nI (i + 1))) 16 (fun i hi K hK => ?_) (fun K => ⟨fun _ => ⟨k1, k2⟩, fun q => absurd (by decide) q⟩)
        have ha := amx_le (lik D M) i
        have l1 := lik_lt (y := D) (n := M) (k := i + 1) (by omega) (by omega)
        have l2 := lik_lt (y := D) (n := M) (k := amx (lik D M) i) (by omega) (by omega)
        show wb_X11_likeliest_137 (m0 I1) J (nI D) (nI M) _ _ K (nI (amx (lik D M) i), nI (i + 1))
        unfold wb_X11_likeliest_137
        dsimp only
        rw [n16 (by omega : i + 1 ≤ 16), n16 (by omega : amx (lik D M) i ≤ 16), nI_l (by omega : i + 1 < 2 ^ 31), nI_l (by omega : 16 - (i + 1) < 2 ^ 31), nI_l (by omega : amx (lik D M) i < 2 ^ 31), nI_l (by omega : 16 - amx (lik D M) i < 2 ^ 31), nI_1 (i + 1)]
        refine ⟨fun q => absurd q (nI_nlt (b := i + 1) (a := 16) (by omega) (by omega)), fun _ => q_mPower (by omega) (q_mPower (by omega) (q_mPower (by omega) (q_mPower (by omega) ?_)))⟩
        rw [lN_mul, lN_mul]
        have e1 : (i + 1) ^ D * (16 - (i + 1)) ^ M = lik D M (i + 1) := rfl
        have e2 : amx (lik D M) i ^ D * (16 - amx (lik D M) i) ^ M = lik D M (amx (lik D M) i) := rfl
        rw [e1, e2, pk_lLE (by omega) (by omega)]
        have st : amx (lik D M) (i + 1) = if lik D M (amx (lik D M) i) < lik D M (i + 1) then i + 1 else amx (lik D M) i := rfl
        rw [st] at hK
        refine ⟨fun q => ?_, fun q => ?_⟩
        · rw [if_neg (by omega)] at hK; exact hK
        · rw [if_pos (by omega)] at hK; exact hK
    unfold wj_X10_likeliest_30 wj_X10_likeliest_31
    refine ⟨fun z => q_fails0 ⟨fun _ => ?_, fun q => (by cases q)⟩, fun z => q_failsE (v := 8) (by decide) ⟨fun q => (by cases q), fun _ => mod (cS I 8) (-1) (same_cS I 8) (fun _ => ⟨rfl, fin_er hC (same_cS I 8) (cS_at I 8) (sameJ_rf J) h2⟩) (fun q => absurd z q)⟩⟩
    have hc' := cNet_same hC.2.1 (same_cS I 0)
    have hr := hrn (cS I 0) (same_cS I 0)
    refine q_timesTold hc' hN hr ht (q_timesTried hc' hN hr ht ?_)
    rw [hD, ← hnay, pk_sub (by omega), show D + M - D = M by omega]
    refine lp_inv (fun i (s : Int32 × Int64 × Int32) => s.2.2 = nI i ∧ ((i = 0 ∧ s.1 = 0 ∧ s.2.1 = -1) ∨ ∃ j, i = j + 1 ∧ s.1 = nI (amx (lik D M) j) ∧ s.2.1 = lN (lik D M (amx (lik D M) j)))) 17 (fun i s hi hq K hK => ?_) (fun s hq K => ?_) (0, (-1), 0) ⟨rfl, Or.inl ⟨rfl, rfl, rfl⟩⟩
    · obtain ⟨x4, x5, x7⟩ := s
      obtain ⟨a1, hq⟩ := hq
      dsimp only at a1 hq
      subst a1
      have l1 := lik_lt (y := D) (n := M) (k := i) (by omega) (by omega)
      show wb_X6_likeliestOdds_25 (cS I 0) J (nI D) (nI M) _ _ K (x4, x5, nI i)
      unfold wb_X6_likeliestOdds_25
      dsimp only
      rw [n16 (by omega : i ≤ 16), nI_l (by omega : i < 2 ^ 31), nI_l (by omega : 16 - i < 2 ^ 31), nI_1 i]
      refine ⟨fun q => absurd q (nI_nlt (b := i) (a := 16) (by omega) (by omega)), fun _ => q_power (by omega) (q_power (by omega) ?_)⟩
      rw [lN_mul]
      have e1 : i ^ D * (16 - i) ^ M = lik D M i := rfl
      rw [e1]
      rcases hq with ⟨q1, q2, q3⟩ | ⟨j, q1, q2, q3⟩
      · subst q1 q2 q3
        refine ⟨fun q => ?_, fun _ => hK _ ⟨rfl, Or.inr ⟨0, rfl, rfl, rfl⟩⟩⟩
        rw [Int64.le_iff_toInt_le, pk_lT (by omega), show (-1 : Int64).toInt = -1 from by decide] at q
        omega
      · subst q1 q2 q3
        have ha := amx_le (lik D M) j
        have l2 := lik_lt (y := D) (n := M) (k := amx (lik D M) j) (by omega) (by omega)
        have st : amx (lik D M) (j + 1) = if lik D M (amx (lik D M) j) < lik D M (j + 1) then j + 1 else amx (lik D M) j := rfl
        rw [pk_lLE (by omega) (by omega)]
        refine ⟨fun q => hK _ ⟨rfl, Or.inr ⟨j + 1, rfl, ?_, ?_⟩⟩, fun q => hK _ ⟨rfl, Or.inr ⟨j + 1, rfl, ?_, ?_⟩⟩⟩
        · rw [st, if_neg (by omega)]
        · rw [st, if_neg (by omega)]
        · rw [st, if_pos (by omega)]
        · rw [st, if_pos (by omega)]
    · obtain ⟨x4, x5, x7⟩ := s
      obtain ⟨a1, hq⟩ := hq
      dsimp only at a1 hq
      subst a1
      refine ⟨fun _ => ?_, fun q => absurd (by decide) q⟩
      rcases hq with ⟨q1, q2, q3⟩ | ⟨j, q1, q2, q3⟩
      · omega
      · have : j = 16 := by omega
        subst this
        rw [q2]
        exact mod (cS I 0) _ (same_cS I 0) (fun q => absurd q z) (fun _ => ⟨rfl, fin_ok hC (same_cS I 0) (cS_at I 0) (sameJ_rf J) h2⟩)
