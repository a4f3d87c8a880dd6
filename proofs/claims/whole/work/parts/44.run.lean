/-! runs -/
theorem Core_rn {I I' : HI} {J : HJ} {N : NT} (h : Core I J N) (hs : ∀ c k, rel c k = true → c ≠ 54 → ¬ (56 ≤ c ∧ c ≤ 70) → ¬ (c = 72 ∧ k = 38) → c ≠ 91 → I' c k = I c k) (hr : rnOk I' (nP N)) : Core I' J N := by
  obtain ⟨h1, h2, h3, h4, h5, h6, h7, h8, h9⟩ := h
  refine ⟨h1, cNet_s h2 (fun c k a b => hs c k (rel_net a b) (by omega) (by omega) (by omega) (by omega)), mNet_of h3 (hs 72 20 rfl (by omega) (by omega) (by omega) (by omega)) (hs 72 21 rfl (by omega) (by omega) (by omega) (by omega)) ⟨funext (fun k => hs 77 k rfl (by omega) (by omega) (by omega) (by omega)), funext (fun k => hs 79 k rfl (by omega) (by omega) (by omega) (by omega)), funext (fun k => hs 80 k rfl (by omega) (by omega) (by omega) (by omega)), funext (fun k => hs 81 k rfl (by omega) (by omega) (by omega) (by omega)), funext (fun k => hs 82 k rfl (by omega) (by omega) (by omega) (by omega)), funext (fun k => hs 87 k rfl (by omega) (by omega) (by omega) (by omega))⟩, h4, fun k hk => ?_, ?_, ?_, hr, h9⟩
  · unfold tOk
    rw [hs _ 1 (rel_tr hk) (by omega) (by omega) (by omega) (by omega), hs _ 2 (rel_tr hk) (by omega) (by omega) (by omega) (by omega), hs 73 k rfl (by omega) (by omega) (by omega) (by omega), hs 74 k rfl (by omega) (by omega) (by omega) (by omega)]
    exact h5 k hk
  · obtain ⟨m, a1, a2, a3, a4⟩ := h6
    exact ⟨m, a1, by rw [hs 0 13 rfl (by omega) (by omega) (by omega) (by omega)]; exact a2, by rw [hs 72 8 rfl (by omega) (by omega) (by omega) (by omega)]; exact a3, fun k hk => by rw [hs 10 k rfl (by omega) (by omega) (by omega) (by omega), hs 76 k rfl (by omega) (by omega) (by omega) (by omega)]; exact a4 k hk⟩
  · rw [hs 0 14 rfl (by omega) (by omega) (by omega) (by omega), hs 0 15 rfl (by omega) (by omega) (by omega) (by omega), hs 72 10 rfl (by omega) (by omega) (by omega) (by omega), hs 72 11 rfl (by omega) (by omega) (by omega) (by omega)]; exact h7
noncomputable def allB (f : Nat → Int64) (P : Nat) (lo hi : Int) : Bool := @decide (∀ q, q < P → lo ≤ (f q).toInt ∧ (f q).toInt ≤ hi) (Classical.propDecidable _)
theorem allB_t {f : Nat → Int64} {P : Nat} {lo hi : Int} : allB f P lo hi = true ↔ ∀ q, q < P → lo ≤ (f q).toInt ∧ (f q).toInt ≤ hi := by
  unfold allB
  exact @decide_eq_true_iff _ (Classical.propDecidable _)
theorem allB_f {f : Nat → Int64} {P q : Nat} {lo hi : Int} (hq : q < P) (h : ¬ (lo ≤ (f q).toInt ∧ (f q).toInt ≤ hi)) : allB f P lo hi = false := Bool.eq_false_iff.mpr (fun z => h (allB_t.mp z q hq))
theorem allB_congr {f g : Nat → Int64} {P : Nat} {lo hi : Int} (h : ∀ q, q < P → f q = g q) : allB f P lo hi = allB g P lo hi := by
  cases b : allB g P lo hi
  · refine Bool.eq_false_iff.mpr (fun z => ?_)
    have : allB g P lo hi = true := allB_t.mpr (fun q hq => by rw [← h q hq]; exact allB_t.mp z q hq)
    rw [this] at b; cases b
  · exact allB_t.mpr (fun q hq => by rw [h q hq]; exact allB_t.mp b q hq)
theorem q_allBetween {I : HI} {J : HJ} {c P m : Nat} {lo hi : Int64} (hm : I c 2 = nI m) (hm40 : m ≤ 40) (hP : P ≤ m) {Post : Bool → Prop} (h : Post (allB (J (c + 1)) P lo.toInt hi.toInt)) : w_X8_allBetween c (nI P) lo hi I J Post := by
  refine lp_inv (fun i x => x = nI i ∧ ∀ q, q < i → lo.toInt ≤ (J (c + 1) q).toInt ∧ (J (c + 1) q).toInt ≤ hi.toInt) P (fun i x hi2 hq K hK => ?_) (fun x hq K => ?_) 0 ⟨rfl, fun q hq => absurd hq (Nat.not_lt_zero _)⟩
  · obtain ⟨rfl, hq⟩ := hq
    show wb_X8_allBetween_3 I J c (nI P) lo hi Post _ K (nI i)
    unfold wb_X8_allBetween_3
    rw [hm, nI_clamp (by omega : i < 2 ^ 31), Int64.lt_iff_toInt_lt, Int64.le_iff_toInt_le, nI_1]
    refine ⟨fun z => absurd z (nI_ge hi2 (by omega)), fun _ => ⟨fun z => absurd z (nI_ge (by omega) (by omega)), fun _ => ⟨vp_in_nI (by omega) (by omega), fun z => ?_, fun z => ⟨vp_in_nI (by omega) (by omega), fun z2 => hK _ ⟨rfl, fun q hq2 => ?_⟩, fun z2 => ?_⟩⟩⟩⟩
    · rw [allB_f hi2 (by omega)] at h; exact h
    · rcases Nat.lt_or_eq_of_le (Nat.lt_succ_iff.mp hq2) with y | y
      · exact hq q y
      · rw [y]; exact ⟨by omega, z2⟩
    · rw [allB_f hi2 (by omega)] at h; exact h
  · obtain ⟨rfl, hq⟩ := hq
    rw [allB_t.mpr hq] at h
    exact ⟨fun _ => h, fun z => absurd (Int32.le_refl _) z⟩
theorem q_isInL {r a b : Int64} {Post : Bool → Prop} (h : Post (decide (a.toInt ≤ r.toInt ∧ r.toInt ≤ b.toInt))) : w_X11_isIn r a b Post := by
  unfold w_X11_isIn
  rw [Int64.lt_iff_toInt_lt, Int64.lt_iff_toInt_lt]
  refine ⟨fun c => ?_, fun c => ⟨fun c2 => ?_, fun c2 => ?_⟩⟩
  · rw [decide_eq_false (by omega)] at h; exact h
  · rw [decide_eq_false (by omega)] at h; exact h
  · rw [decide_eq_true (by omega)] at h; exact h
theorem q_mNumber {I : HI} {J : HJ} {k p : Nat} (hk : k < 4) (hp : p < 40) {Post : Int64 → Prop} (h : Post (J 75 (40 * k + p))) : w_X11_numberOf (nI k) (nI p) I J Post := by
  unfold w_X11_numberOf
  rw [n40, nI_clamp (by omega)]
  exact ⟨vp_in_nI (by omega) (by omega), h⟩
theorem tray_cases {I : HI} {J : HJ} (hT : ∀ k, k < 4 → tOk I J k) (x : Int32) : isIx 4 x = false ∨ (∃ k, k < 4 ∧ x = nI k ∧ I 74 k = -1) ∨ (∃ k m, k < 4 ∧ m ≤ 40 ∧ x = nI k ∧ I 74 k = nI m ∧ ∀ q, q < m → J (3 + 2 * k) q = J 75 (40 * k + q)) := by
  cases b : isIx 4 x
  · exact Or.inl rfl
  · obtain ⟨k, hk, rfl⟩ := ofIx b
    rcases (hT k hk).2.2.2 with h | ⟨m, hm, h, h2⟩
    · exact Or.inr (Or.inl ⟨k, hk, rfl, h⟩)
    · exact Or.inr (Or.inr ⟨k, m, hk, hm, rfl, h, h2⟩)
theorem ts1 {I : HI} {J : HJ} {x : Int32} (b : isIx 4 x = false) {Post : Int32 → Prop} (h : Post 1) : w_X10_trayStatus x I J Post := q_isTray ⟨fun q => (by rw [b] at q; cases q), fun _ => h⟩
theorem ts3 {I : HI} {J : HJ} {k : Nat} (hk : k < 4) (hm : I (2 + 2 * k) 2 = -1) {Post : Int32 → Prop} (h : Post 3) : w_X10_trayStatus (nI k) I J Post := by
  refine q_isTray ⟨fun _ => ⟨vp_in_nI hk (by decide), q_missing ?_⟩, fun q => (by rw [ix_nI hk (by decide)] at q; cases q)⟩
  rw [nI_clamp (by omega), decide_eq_true hm]
  exact ⟨fun q => (by cases q), fun _ => h⟩
theorem ts0 {I : HI} {J : HJ} {k m : Nat} (hk : k < 4) (hm40 : m ≤ 40) (hm : I (2 + 2 * k) 2 = nI m) {Post : Int32 → Prop} (h : Post 0) : w_X10_trayStatus (nI k) I J Post := by
  refine q_isTray ⟨fun _ => ⟨vp_in_nI hk (by decide), q_missing ?_⟩, fun q => (by rw [ix_nI hk (by decide)] at q; cases q)⟩
  rw [nI_clamp (by omega), hm, decide_eq_false (nI_nm1 (by omega))]
  exact ⟨fun _ => h, fun q => (by cases q)⟩
theorem isT4 {x : Int32} {v : Bool → Prop} (h : v (isIx 4 x)) : w_X11_isIn (Int32.toInt64 x) 0 3 v := by
  refine q_isIn (a := 0) (b := 3) ?_
  have : isBt x (0 : Int64).toInt (3 : Int64).toInt = isIx 4 x := by
    unfold isBt isIx
    rw [show (0 : Int64).toInt = 0 from by decide, show (3 : Int64).toInt = 3 from by decide]
    apply decide_eq_decide.mpr; omega
  rw [this]; exact h
/-- an hour, or none -/
theorem hr_of {v : Int64} (h1 : -1 ≤ v.toInt) (h2 : v.toInt ≤ 149) : Int64.toInt32 v = -1 ∨ ∃ h, h < 150 ∧ Int64.toInt32 v = nI h := by
  rcases Int.lt_or_le v.toInt 0 with q | q
  · refine Or.inl ?_
    have : v = -1 := Int64.toInt_inj.mp (by rw [show (-1 : Int64).toInt = -1 from by decide]; omega)
    rw [this]; decide
  · obtain ⟨k, hk, rfl⟩ := pk_lOf (x := v) (fun z => by rw [Int64.lt_iff_toInt_lt, j0] at z; omega)
    rw [pk_lT hk] at h2
    exact Or.inr ⟨k, by omega, lN_i k⟩
theorem op_run {I : HI} {J : HJ} (h : Inv I J) (x : Int32) : w_X10_run x I J (fun r I1 => w_X11_run x I1 J (fun r' I2 => r = r' ∧ Inv I2 J)) := by
  obtain ⟨N, hC, h1, h2⟩ := h
  have hN := hC.1
  have hP := hN.1
  have hT := hC.2.2.2.2.1
  have er : ∀ v : Int32, (-1 : Int32) = -1 ∧ Inv (mE (cS I v) v) J := fun v => ⟨rfl, fin_er hC (same_cS I v) (cS_at I v) (sameJ_rf J) h2⟩
  have hs : ∀ v : Int32, sameI I (m0 (cS I v)) := fun v => sameI_tr (same_cS I v) (same_m0 _)
  unfold w_X10_run w_X10_runStatus
  rcases tray_cases hT x with b | ⟨k, hk, rfl, hm⟩ | ⟨k, m, hk, hm40, rfl, hm, hrow⟩
  · refine ts1 b ⟨fun q => absurd q (by decide), fun _ => q_failsE (by decide) ⟨fun q => (by cases q), fun _ I1 e1 I2 e2 => isT4 ?_⟩⟩
    subst e1 e2
    rw [b]
    exact ⟨fun q => (by cases q), fun _ => q_refused (er 1)⟩
  · refine ts3 hk ((hT k hk).2.1.trans hm) ⟨fun q => absurd q (by decide), fun _ => q_failsE (by decide) ⟨fun q => (by cases q), fun _ I1 e1 I2 e2 => isT4 ?_⟩⟩
    subst e1 e2
    rw [ix_nI hk (by decide), show hI (hI (cS I 3) 72 1 0) 72 0 0 = m0 (cS I 3) from rfl, nI_clamp (by omega), hs 3 74 k rfl, hm]
    exact ⟨fun _ => ⟨vp_in_nI hk (by decide), fun q => absurd q (by decide), fun _ => q_refused (er 3)⟩, fun q => (by cases q)⟩
  · have m0' : 0 ≤ nI m := nI_pos' (by omega)
    refine ts0 hk hm40 ((hT k hk).2.1.trans hm) ⟨fun _ => ⟨vp_in_nI hk (by decide), ?_⟩, fun q => absurd rfl q⟩
    rw [nI_clamp (by omega : k < 2 ^ 31), (hT k hk).2.1, hm, hC.2.1.1.1, nI_leI (by omega) (by omega)]
    have mP : ∀ v : Int32, m0 (cS I v) 72 20 = nI (nP N) := fun v => (mNet_same hC.2.2.1 (hs v)).1.1
    refine ⟨fun hPm => ⟨vp_in_nI hk (by decide), ?_⟩, fun hPm => q_failsE (by decide) ⟨fun q => (by cases q), fun _ I1 e1 I2 e2 => isT4 ?_⟩⟩
    · refine q_allBetween ((hT k hk).2.1.trans hm) hm40 hPm ?_
      rw [show (-1 : Int64).toInt = -1 from by decide, show (149 : Int64).toInt = 149 from by decide, show 2 + 2 * k + 1 = 3 + 2 * k by omega, allB_congr (g := fun q => J 75 (40 * k + q)) (fun q hq => hrow q (by omega))]
      obtain ⟨r, hr, r1, r2, r3⟩ := hC.2.2.2.2.2.2.2.1
      -- the model, up to its count of runs
      have mod : ∀ (I1 : HI) (rr : Int32) (v : Int32), m0 I1 74 k = nI m → m0 I1 72 20 = nI (nP N) → (allB (fun q => J 75 (40 * k + q)) (nP N) (-1) 149 = false → rr = -1 ∧ Inv (mE I1 5) J) → (allB (fun q => J 75 (40 * k + q)) (nP N) (-1) 149 = true → (¬ (m0 I1 72 38) = 15 → (∃ n, lp (wb_X11_run_120 J (nI k) (fun r' I2 => rr = r' ∧ Inv I2 J) (fun (I_10 : HI) => ∀ I_11 : HI, I_11 = hI I_10 72 38 ((I_10 72 38) + 1) → (rr = ((I_11 72 38) - 1) ∧ Inv I_11 J))) n (0, m0 I1))) ∧ ((m0 I1 72 38) = 15 → (rr = -1 ∧ Inv (mE I1 7) J))) → w_X11_run (nI k) I1 J (fun r' I2 => rr = r' ∧ Inv I2 J) := by
        intro I1 rr v g74 g20 gf gt Ia ea Ib eb
        subst ea eb
        refine isT4 ?_
        rw [ix_nI hk (by decide), show hI (hI I1 72 1 0) 72 0 0 = m0 I1 from rfl, nI_clamp (by omega : k < 2 ^ 31), g74, g20, nI_leI (by omega) (by omega)]
        refine ⟨fun _ => ⟨vp_in_nI hk (by decide), fun _ => ⟨vp_in_nI hk (by decide), fun _ => ?_, fun q => absurd hPm q⟩, fun q => absurd m0' q⟩, fun q => (by cases q)⟩
        refine lp_inv (fun i x => x = nI i ∧ ∀ q, q < i → -1 ≤ (J 75 (40 * k + q)).toInt ∧ (J 75 (40 * k + q)).toInt ≤ 149) (nP N) (fun i x hi hq K hK => ?_) (fun x hq K => ?_) 0 ⟨rfl, fun q hq => absurd hq (Nat.not_lt_zero _)⟩
        · obtain ⟨rfl, hq⟩ := hq
          show wb_X11_run_64 (m0 I1) J (nI k) _ _ K (nI i)
          unfold wb_X11_run_64
          rw [g20, nI_1]
          refine ⟨fun z => absurd z (nI_ge hi (by omega)), fun _ => q_mNumber hk (by omega) (q_isInL ?_)⟩
          rw [show (-1 : Int64).toInt = -1 from by decide, show (149 : Int64).toInt = 149 from by decide]
          refine ⟨fun z => hK _ ⟨rfl, fun q hq2 => ?_⟩, fun z => q_refused (gf (allB_f hi (of_decide_eq_false z)))⟩
          rcases Nat.lt_or_eq_of_le (Nat.lt_succ_iff.mp hq2) with y | y
          · exact hq q y
          · rw [y]; exact of_decide_eq_true z
        · obtain ⟨rfl, hq⟩ := hq
          show wb_X11_run_64 (m0 I1) J (nI k) _ _ K (nI (nP N))
          unfold wb_X11_run_64
          rw [g20]
          obtain ⟨gt1, gt2⟩ := gt (allB_t.mpr hq)
          exact ⟨fun _ => ⟨gt1, fun z => q_refused (gt2 z)⟩, fun z => absurd (Int32.le_refl _) z⟩
      cases ba : allB (fun q => J 75 (40 * k + q)) (nP N) (-1) 149
      · exact ⟨fun q => (by cases q), fun _ => q_failsE (by decide) ⟨fun q => (by cases q), fun _ => mod (cS I 5) (-1) 5 ((hs 5 74 k rfl).trans hm) (mP 5) (fun _ => er 5) (fun q => (by rw [ba] at q; cases q))⟩⟩
      · refine ⟨fun _ => ?_, fun q => (by cases q)⟩
        rw [r1]
        refine ⟨fun c => q_failsE (by decide) ⟨fun q => (by cases q), fun _ => mod (cS I 7) (-1) 7 ((hs 7 74 k rfl).trans hm) (mP 7) (fun q => (by rw [ba] at q; cases q)) (fun _ => ⟨fun q => ?_, fun _ => er 7⟩)⟩, fun c => q_fails0 ⟨fun _ => ⟨vp_in_nI hk (by decide), ?_⟩, fun q => (by cases q)⟩⟩
        · rw [hs 7 72 38 rfl, r2] at q
          have := (nI_leI (a := 15) (by decide) (by omega)).mp c
          rw [show r = 15 by omega] at q
          exact absurd rfl q
        · have r15 : r < 15 := by
            rcases Nat.lt_or_ge r 15 with z | z
            · exact z
            · exact absurd (nI_le (a := 15) z (by omega)) c
          have hv := allB_t.mp ba
          have c54 : cS I 0 54 3 = nI r := (same_cS I 0 54 3 rfl).trans r1
          unfold w_X6_keep
          rw [c54]
          refine ⟨fun _ => ?_, fun q => absurd (nI_lt (b := 15) r15 (by decide)) q⟩
          refine lp_inv (fun i (s : Int32 × HI) => s.1 = nI i ∧ (∀ c j, ¬ (c = 56 + r) → s.2 c j = cS I 0 c j) ∧ ∀ p, p < i → s.2 (56 + r) p = Int64.toInt32 (J 75 (40 * k + p))) (nP N) (fun i s hi hq K hK => ?_) (fun s hq K => ?_) (0, cS I 0) ⟨rfl, fun _ _ _ => rfl, fun p hp => absurd hp (Nat.not_lt_zero _)⟩
          · obtain ⟨x2, I1⟩ := s
            obtain ⟨a1, g1, g2⟩ := hq
            dsimp only at a1 g1 g2
            subst a1
            show wb_X6_keep_13 J (3 + 2 * k) _ _ K (nI i, I1)
            unfold wb_X6_keep_13
            dsimp only
            rw [g1 12 11 (by omega), (cNet_same hC.2.1 (same_cS I 0)).1.1, g1 54 3 (by omega), c54, nI_clamp (by omega : r < 2 ^ 31), nI_clamp (by omega : i < 2 ^ 31), hrow i (by omega), nI_1 i]
            refine ⟨fun z => absurd z (nI_ge hi (by omega)), fun _ => ⟨fun z => absurd z (nI_ge (b := 40) (by omega) (by omega)), fun _ => ⟨vp_in_nI (by omega) (by omega), vp_in_nI (by omega) (by omega), vp_in_nI (by omega) (by omega), fun I2 e2 => hK _ ⟨rfl, fun c j hcj => ?_, fun p hp => ?_⟩⟩⟩⟩
            · show I2 c j = _
              rw [e2, hI_ne (by omega)]; exact g1 c j hcj
            · show I2 (56 + r) p = _
              rw [e2, show 56 + 1 * r = 56 + r by omega, hI_at]
              by_cases z : p = i
              · rw [if_pos z, z]
              · rw [if_neg z]; exact g2 p (by omega)
          · obtain ⟨x2, I1⟩ := s
            obtain ⟨a1, g1, g2⟩ := hq
            dsimp only at a1 g1 g2
            subst a1
            show wb_X6_keep_13 J (3 + 2 * k) _ _ K (nI (nP N), I1)
            unfold wb_X6_keep_13
            dsimp only
            rw [g1 12 11 (by omega), (cNet_same hC.2.1 (same_cS I 0)).1.1, g1 54 3 (by omega), c54]
            refine ⟨fun _ I4 e4 => ?_, fun z => absurd (Int32.le_refl _) z⟩
            have i54 : I4 54 3 = nI (r + 1) := by rw [e4, hI_at, if_pos rfl, nI_1]
            have i4 : ∀ c j, c ≠ 54 → ¬ (c = 56 + r) → I4 c j = cS I 0 c j := fun c j q1 q2 => by rw [e4, hI_ne q1]; exact g1 c j q2
            have i4r : ∀ p, p < nP N → I4 (56 + r) p = Int64.toInt32 (J 75 (40 * k + p)) := fun p hp => by rw [e4, hI_ne (by omega)]; exact g2 p hp
            have i54' : ∀ j, j ≠ 3 → I4 54 j = cS I 0 54 j := fun j hj => by rw [e4, hI_at, if_neg hj]; exact g1 54 j (by omega)
            have hm4 : ∀ c j, c ≠ 54 → ¬ (c = 56 + r) → ¬ (c = 72 ∧ (j = 0 ∨ j = 1)) → m0 I4 c j = cS I 0 c j := fun c j q1 q2 q3 => by
              unfold m0
              by_cases z : c = 72
              · subst z
                rw [hI_at, if_neg (by omega), hI_at, if_neg (by omega)]; exact i4 72 j q1 q2
              · rw [hI_ne z, hI_ne z]; exact i4 c j q1 q2
            have e38 : m0 I4 72 38 = nI r := by rw [hm4 72 38 (by decide) (by omega) (by omega), same_cS I 0 72 38 rfl]; exact r2
            have e20 : m0 I4 72 20 = nI (nP N) := by rw [hm4 72 20 (by decide) (by omega) (by omega), same_cS I 0 72 20 rfl]; exact hC.2.2.1.1.1
            rw [i54, nI_pred r]
            refine mod I4 (nI r) 0 (by rw [hm4 74 k (by decide) (by omega) (by omega), same_cS I 0 74 k rfl]; exact hm) e20 (fun q => (by rw [ba] at q; cases q)) (fun _ => ⟨fun _ => ?_, fun q => ?_⟩)
            · refine lp_inv (fun i (s : Int32 × HI) => s.1 = nI i ∧ (∀ c j, ¬ (c = 91) → s.2 c j = m0 I4 c j) ∧ (∀ p, p < i → s.2 91 (12 * r + p) = Int64.toInt32 (J 75 (40 * k + p))) ∧ ∀ q, q < 12 * r → s.2 91 q = m0 I4 91 q) (nP N) (fun i s hi hq K hK => ?_) (fun s hq K => ?_) (0, m0 I4) ⟨rfl, fun _ _ _ => rfl, fun p hp => absurd hp (Nat.not_lt_zero _), fun _ _ => rfl⟩
              · obtain ⟨x2, I5⟩ := s
                obtain ⟨a1, f1, f2, f3⟩ := hq
                dsimp only at a1 f1 f2 f3
                subst a1
                show wb_X11_run_120 J (nI k) _ _ K (nI i, I5)
                unfold wb_X11_run_120
                dsimp only
                rw [f1 72 20 (by decide), e20, f1 72 38 (by decide), e38, n12, nI_clamp (by omega : 12 * r + i < 2 ^ 31), nI_1 i]
                refine ⟨fun z => absurd z (nI_ge hi (by omega)), fun _ => q_mNumber hk (by omega) ⟨vp_in_nI (by omega) (by omega), fun I6 e6 => hK _ ⟨rfl, fun c j hc => ?_, fun p hp => ?_, fun q hq => ?_⟩⟩⟩
                · show I6 c j = _
                  rw [e6, hI_ne hc]; exact f1 c j hc
                · show I6 91 (12 * r + p) = _
                  rw [e6, hI_at]
                  by_cases z : p = i
                  · rw [if_pos (by omega), z]
                  · rw [if_neg (by omega)]; exact f2 p (by omega)
                · show I6 91 q = _
                  rw [e6, hI_at, if_neg (by omega)]; exact f3 q hq
              · obtain ⟨x2, I5⟩ := s
                obtain ⟨a1, f1, f2, f3⟩ := hq
                dsimp only at a1 f1 f2 f3
                subst a1
                show wb_X11_run_120 J (nI k) _ _ K (nI (nP N), I5)
                unfold wb_X11_run_120
                dsimp only
                rw [f1 72 20 (by decide), e20, f1 72 38 (by decide), e38]
                refine ⟨fun _ I6 e6 => ?_, fun z => absurd (Int32.le_refl _) z⟩
                have j38 : I6 72 38 = nI (r + 1) := by rw [e6, hI_at, if_pos rfl, nI_1]
                rw [j38, nI_pred r]
                have j6 : ∀ c j, ¬ (c = 91) → ¬ (c = 72 ∧ j = 38) → I6 c j = m0 I4 c j := fun c j q1 q2 => by
                  rw [e6]
                  by_cases z : c = 72
                  · subst z; rw [hI_at, if_neg (by omega)]; exact f1 72 j q1
                  · rw [hI_ne z]; exact f1 c j q1
                have j91 : I6 91 = I5 91 := by rw [e6]; exact hI_ne (by decide)
                have j54 : I6 54 3 = nI (r + 1) := by
                  rw [j6 54 3 (by decide) (by omega)]
                  unfold m0
                  rw [hI_ne (by decide), hI_ne (by decide)]; exact i54
                have jr : ∀ p, p < nP N → I6 (56 + r) p = Int64.toInt32 (J 75 (40 * k + p)) := fun p hp => by
                  rw [j6 (56 + r) p (by omega) (by omega)]
                  unfold m0
                  rw [hI_ne (by omega), hI_ne (by omega)]; exact i4r p hp
                refine ⟨rfl, N, Core_rn hC (fun c j rl q1 q2 q3 q4 => ?_) ⟨r + 1, by omega, j54, j38, fun a ha p hp => ?_⟩, ?_, h2⟩
                · rw [j6 c j q4 q3, hm4 c j q1 (by omega) ?_, same_cS I 0 c j rl]
                  rintro ⟨rfl, rfl | rfl⟩
                  · cases rl
                  · cases rl
                · by_cases z : a = r
                  · subst z
                    rw [jr p hp, j91, f2 p hp]
                    exact ⟨rfl, hr_of (hv p hp).1 (hv p hp).2⟩
                  · rw [j6 (56 + a) p (by omega) (by omega), hm4 (56 + a) p (by omega) (by omega) (by omega), same_cS I 0 (56 + a) p (rel_rn (by omega)), j91, f3 _ (by omega), hm4 91 _ (by decide) (by omega) (by omega), same_cS I 0 91 _ rfl]
                    exact r3 a (by omega) p hp
                · rw [j6 0 12 (by decide) (by omega), hm4 0 12 (by decide) (by omega) (by omega), cS_at, j6 72 0 (by decide) (by omega)]
                  unfold m0
                  rw [hI_at, if_pos rfl]
            · rw [e38] at q
              have := (nI_eq (b := 15) (by omega) (by decide)).mp q
              omega
    · subst e1 e2
      rw [ix_nI hk (by decide), show hI (hI (cS I 4) 72 1 0) 72 0 0 = m0 (cS I 4) from rfl, nI_clamp (by omega : k < 2 ^ 31), hs 4 74 k rfl, hm, mP 4, nI_leI (by omega) (by omega)]
      exact ⟨fun _ => ⟨vp_in_nI hk (by decide), fun _ => ⟨vp_in_nI hk (by decide), fun q => absurd q hPm, fun _ => q_refused (er 4)⟩, fun q => absurd m0' q⟩, fun q => (by cases q)⟩
