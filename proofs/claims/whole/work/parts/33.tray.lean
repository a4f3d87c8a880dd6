/-! trays -/
theorem q_isTray {x : Int32} {Post : Bool → Prop} (h : Post (isIx 4 x)) : w_X10_isTray x Post := by
  unfold w_X10_isTray isIx at *
  rw [Int32.lt_iff_toInt_lt, i0, Int32.le_iff_toInt_le, show (4 : Int32).toInt = 4 from by decide]
  refine ⟨fun c => ?_, fun c => ⟨fun c2 => ?_, fun c2 => ?_⟩⟩
  · rw [decide_eq_false (by omega)] at h; exact h
  · rw [decide_eq_false (by omega)] at h; exact h
  · rw [decide_eq_true (by omega)] at h; exact h
theorem ix_iff {n : Nat} {x : Int32} : isIx n x = true ↔ 0 ≤ x.toInt ∧ x.toInt < n := by unfold isIx; exact decide_eq_true_iff
theorem ix_nI {n k : Nat} (h : k < n) (hn : n < 2 ^ 31) : isIx n (nI k) = true := ix_iff.mpr (by rw [nI_toInt (by omega)]; omega)
theorem q_fillJ {I : HI} {J : HJ} {c n : Nat} {v : Int64} (hn : n < 2 ^ 31) {Post : HJ → Prop} (h : ∀ J' : HJ, (∀ a, a ≠ c → J' a = J a) → (∀ k, J' c k = if k < n then v else J c k) → Post J') : w_J7_fill_d0a16 c n v I J Post := by
  refine lp_inv (fun i (s : Int32 × HJ) => s.1 = nI i ∧ (∀ a, a ≠ c → s.2 a = J a) ∧ ∀ k, s.2 c k = if k < i then v else J c k) n (fun i s hi hq K hK => ?_) (fun s hq K => ?_) (0, J) ⟨rfl, fun _ _ => rfl, fun k => by rw [if_neg (Nat.not_lt_zero _)]⟩
  · obtain ⟨x, J1⟩ := s
    obtain ⟨e, h1, h2⟩ := hq
    dsimp only at e h1 h2
    subst e
    show wb_J7_fill_d0a16_6 I c n v (nI n) Post _ K (nI i, J1)
    unfold wb_J7_fill_d0a16_6
    dsimp only
    rw [nI_clamp (by omega), nI_1]
    refine ⟨fun q => absurd q (nI_ge hi hn), fun _ => ⟨vp_in_nI hi hn, fun J2 e2 => hK _ ⟨rfl, fun a ha => ?_, fun k => ?_⟩⟩⟩
    · show J2 a = J a
      rw [e2, hJ_ne ha]; exact h1 a ha
    · show J2 c k = _
      rw [e2, hJ_at, h2 k]
      by_cases e : k = i
      · rw [if_pos e, if_pos (by omega)]
      · rw [if_neg e]
        by_cases e2 : k < i
        · rw [if_pos e2, if_pos (by omega)]
        · rw [if_neg e2, if_neg (by omega)]
  · obtain ⟨x, J1⟩ := s
    obtain ⟨e, h1, h2⟩ := hq
    dsimp only at e h1 h2
    subst e
    show wb_J7_fill_d0a16_6 I c n v (nI n) Post _ K (nI n, J1)
    exact ⟨fun _ => h J1 h1 h2, fun q => absurd (Int32.le_refl _) q⟩
theorem q_fillI {I : HI} {J : HJ} {c n : Nat} {v : Int32} (hn : n < 2 ^ 31) {Post : HI → Prop} (h : ∀ I' : HI, (∀ a, a ≠ c → I' a = I a) → (∀ k, I' c k = if k < n then v else I c k) → Post I') : w_J7_fill_53178 c n v I J Post := by
  refine lp_inv (fun i (s : Int32 × HI) => s.1 = nI i ∧ (∀ a, a ≠ c → s.2 a = I a) ∧ ∀ k, s.2 c k = if k < i then v else I c k) n (fun i s hi hq K hK => ?_) (fun s hq K => ?_) (0, I) ⟨rfl, fun _ _ => rfl, fun k => by rw [if_neg (Nat.not_lt_zero _)]⟩
  · obtain ⟨x, J1⟩ := s
    obtain ⟨e, h1, h2⟩ := hq
    dsimp only at e h1 h2
    subst e
    show wb_J7_fill_53178_5 J c n v (nI n) Post _ K (nI i, J1)
    unfold wb_J7_fill_53178_5
    dsimp only
    rw [nI_clamp (by omega), nI_1]
    refine ⟨fun q => absurd q (nI_ge hi hn), fun _ => ⟨vp_in_nI hi hn, fun J2 e2 => hK _ ⟨rfl, fun a ha => ?_, fun k => ?_⟩⟩⟩
    · show J2 a = I a
      rw [e2, hI_ne ha]; exact h1 a ha
    · show J2 c k = _
      rw [e2, hI_at, h2 k]
      by_cases e : k = i
      · rw [if_pos e, if_pos (by omega)]
      · rw [if_neg e]
        by_cases e2 : k < i
        · rw [if_pos e2, if_pos (by omega)]
        · rw [if_neg e2, if_neg (by omega)]
  · obtain ⟨x, J1⟩ := s
    obtain ⟨e, h1, h2⟩ := hq
    dsimp only at e h1 h2
    subst e
    show wb_J7_fill_53178_5 J c n v (nI n) Post _ K (nI n, J1)
    exact ⟨fun _ => h J1 h1 h2, fun q => absurd (Int32.le_refl _) q⟩
theorem Core_tray {I I' : HI} {J J' : HJ} {N : NT} (h : Core I J N) (hs : ∀ c k, rel c k = true → ¬ (2 ≤ c ∧ c ≤ 9) → c ≠ 73 → c ≠ 74 → I' c k = I c k) (hj : J' 37 = J 37 ∧ J' 40 = J 40) (ht : ∀ k, k < 4 → tOk I' J' k) : Core I' J' N := by
  obtain ⟨h1, h2, h3, h4, h5, h6, h7, h8, h9⟩ := h
  refine ⟨h1, cNet_s h2 (fun c k a b => hs c k (rel_net a b) (by omega) (by omega) (by omega)), mNet_of h3 (hs 72 20 rfl (by omega) (by omega) (by omega)) (hs 72 21 rfl (by omega) (by omega) (by omega)) ⟨funext (fun k => hs 77 k rfl (by omega) (by omega) (by omega)), funext (fun k => hs 79 k rfl (by omega) (by omega) (by omega)), funext (fun k => hs 80 k rfl (by omega) (by omega) (by omega)), funext (fun k => hs 81 k rfl (by omega) (by omega) (by omega)), funext (fun k => hs 82 k rfl (by omega) (by omega) (by omega)), funext (fun k => hs 87 k rfl (by omega) (by omega) (by omega))⟩, ?_, ht, ?_, ?_, ?_, ?_⟩
  · unfold cWt; rw [hj.2]; exact h4
  · obtain ⟨m, a1, a2, a3, a4⟩ := h6
    exact ⟨m, a1, by rw [hs 0 13 rfl (by omega) (by omega) (by omega)]; exact a2, by rw [hs 72 8 rfl (by omega) (by omega) (by omega)]; exact a3, fun k hk => by rw [hs 10 k rfl (by omega) (by omega) (by omega), hs 76 k rfl (by omega) (by omega) (by omega)]; exact a4 k hk⟩
  · rw [hs 0 14 rfl (by omega) (by omega) (by omega), hs 0 15 rfl (by omega) (by omega) (by omega), hs 72 10 rfl (by omega) (by omega) (by omega), hs 72 11 rfl (by omega) (by omega) (by omega)]; exact h7
  · obtain ⟨r, a1, a2, a3, a4⟩ := h8
    exact ⟨r, a1, by rw [hs 54 3 rfl (by omega) (by omega) (by omega)]; exact a2, by rw [hs 72 38 rfl (by omega) (by omega) (by omega)]; exact a3, fun a ha p hp => by rw [hs (56 + a) p (rel_rn (by omega)) (by omega) (by omega) (by omega), hs 91 _ rfl (by omega) (by omega) (by omega)]; exact a4 a ha p hp⟩
  · unfold rdW; rw [hj.1]; exact h9
theorem in_true {x : Int32} {n : Nat} (hn : n < 2 ^ 31) (h : isIx n x = true) : vp_in x n := by
  obtain ⟨k, hk, rfl⟩ := ofIx h
  exact vp_in_nI hk hn
theorem i_lt0 {x : Int32} : x < 0 ↔ x.toInt < 0 := by rw [Int32.lt_iff_toInt_lt, i0]
theorem i_le {x : Int32} {n : Nat} (h : n < 2 ^ 31) : x ≤ nI n ↔ x.toInt ≤ n := by rw [Int32.le_iff_toInt_le, nI_toInt h]
theorem i_ge {x : Int32} {n : Nat} (h : n < 2 ^ 31) : nI n ≤ x ↔ (n : Int) ≤ x.toInt := by rw [Int32.le_iff_toInt_le, nI_toInt h]
theorem i_lt {x : Int32} {n : Nat} (h : n < 2 ^ 31) : x < nI n ↔ x.toInt < n := by rw [Int32.lt_iff_toInt_lt, nI_toInt h]
theorem n40 {k q : Nat} : (40 * nI k) + nI q = nI (40 * k + q) := by rw [show (40 : Int32) = nI 40 from rfl, pk_mul, nI_add]
theorem op_tray {I : HI} {J : HJ} (h : Inv I J) (x y z : Int32) : w_X10_tray x y z I J (fun r I1 J1 => w_X11_tray x y z I1 J1 (fun r' I2 J2 => r = r' ∧ Inv I2 J2)) := by
  obtain ⟨N, hC, h1, h2⟩ := h
  have fin : ∀ v : Int32, ¬ v = 0 → w_X11_tray x y z (cS I v) J (fun r' I2 J2 => false = r' ∧ Inv I2 J2) → wj_X10_tray_45 I J x y z v (fun r I1 J1 => w_X11_tray x y z I1 J1 (fun r' I2 J2 => r = r' ∧ Inv I2 J2)) := fun v hv g => q_failsE hv ⟨fun q => (by cases q), fun _ => g⟩
  have er : ∀ v : Int32, false = false ∧ Inv (mE (cS I v) v) J := fun v => ⟨rfl, fin_er hC (same_cS I v) (cS_at I v) (sameJ_rf J) h2⟩
  have bad1 : (isIx 4 x && isIx 4 y) = false → wj_X10_tray_19 I J x y z (fun r I1 J1 => w_X11_tray x y z I1 J1 (fun r' I2 J2 => r = r' ∧ Inv I2 J2)) := by
    intro hb
    refine fin 1 (by decide) (fun I1 e1 I2 e2 => ?_)
    subst e1 e2
    have f1 : wj_X11_tray_28 (m0 (cS I 1)) J (fun r' I2 J2 => false = r' ∧ Inv I2 J2) := q_no (er 1)
    refine ⟨fun _ => f1, fun a1 => ⟨fun _ => f1, fun a2 => ⟨fun _ => f1, fun a3 => ⟨fun a4 => ?_, fun _ => f1⟩⟩⟩⟩
    exfalso
    rw [i_lt0] at a1 a3
    rw [show (4 : Int32) = nI 4 from rfl, i_ge (by decide)] at a2
    rw [show (3 : Int32) = nI 3 from rfl, i_le (by decide)] at a4
    rw [ix_iff.mpr ⟨by omega, by omega⟩, ix_iff.mpr ⟨by omega, by omega⟩] at hb
    cases hb
  refine q_isTray ⟨fun b => bad1 (by rw [b]; rfl), fun b => ⟨fun c => bad1 ?_, fun c => ⟨fun c2 => ?_, fun c2 => bad1 ?_⟩⟩⟩
  · rw [i_lt0] at c
    rw [b, Bool.true_and]; exact Bool.eq_false_iff.mpr (fun q => by have := ix_iff.mp q; omega)
  · obtain ⟨k, hk, rfl⟩ := ofIx b
    obtain ⟨so, hso, rfl⟩ := ofIx (n := 4) (x := y) (ix_iff.mpr ⟨by rw [i_lt0] at c; omega, by rw [show (4 : Int32) = nI 4 from rfl, i_lt (by decide)] at c2; exact c2⟩)
    have k1 : ¬ nI k < 0 := nI_pos (by omega)
    have k2 : ¬ (4 : Int32) ≤ nI k := nI_ge (b := 4) hk (by decide)
    have s1 : ¬ nI so < 0 := nI_pos (by omega)
    have s2 : nI so ≤ 3 := nI_le (b := 3) (by omega) (by decide)
    refine ⟨fun d => ⟨fun d2 => ?_, fun d2 => fin 6 (by decide) (fun I1 e1 I2 e2 => ?_)⟩, fun d => fin 5 (by decide) (fun I1 e1 I2 e2 => ?_)⟩
    · obtain ⟨m, hm, rfl⟩ : ∃ m, m ≤ 40 ∧ z = nI m := by
        refine ofBt (n := 40) (isBt_iff.mpr ⟨?_, ?_⟩)
        · rw [show (0 : Int32) = nI 0 from rfl, i_ge (by decide)] at d2; exact d2
        · rw [show (40 : Int32) = nI 40 from rfl, i_le (by decide)] at d; exact d
      refine q_fails0 ⟨fun _ => ⟨vp_in_nI hk (by decide), fun I1 e1 I2 e2 => ?_⟩, fun q => (by cases q)⟩
      rw [nI_clamp (by omega)] at *
      refine q_fillJ (by decide) (fun J1 hj1 hj2 I3 e3 I4 e4 => ?_)
      refine ⟨fun q => absurd q k1, fun _ => ⟨fun q => absurd q k2, fun _ => ⟨fun q => absurd q s1, fun _ => ⟨fun _ => ⟨fun _ => ⟨fun _ => ⟨vp_in_nI hk (by decide), fun I5 e5 => ⟨vp_in_nI hk (by decide), fun I6 e6 => ?_⟩⟩, fun q => absurd d2 q⟩, fun q => absurd d q⟩, fun q => absurd s2 q⟩⟩⟩⟩
      rw [nI_clamp (by omega)] at e5 e6
      refine lp_inv (fun i (s : Int32 × HJ) => s.1 = nI i ∧ (∀ a, a ≠ 75 → s.2 a = J1 a) ∧ ∀ q, s.2 75 q = if 40 * k ≤ q ∧ q < 40 * k + i then 0 else J1 75 q) m (fun i s hi hq K hK => ?_) (fun s hq K => ?_) (0, J1) ⟨rfl, fun _ _ => rfl, fun q => by rw [if_neg (by omega)]⟩
      · obtain ⟨w, J2⟩ := s
        obtain ⟨e, g1, g2⟩ := hq
        dsimp only at e g1 g2
        subst e
        show wb_X11_tray_74 I6 (nI k) (nI m) _ _ K (nI i, J2)
        unfold wb_X11_tray_74
        dsimp only
        rw [n40, nI_clamp (by omega), nI_1]
        refine ⟨fun q => absurd q (nI_ge hi (by omega)), fun _ => ⟨vp_in_nI (by omega) (by decide), fun J3 e3 => hK _ ⟨rfl, fun a ha => ?_, fun q => ?_⟩⟩⟩
        · show J3 a = J1 a
          rw [e3, hJ_ne ha]; exact g1 a ha
        · show J3 75 q = _
          rw [e3, hJ_at, g2 q]
          by_cases e : q = 40 * k + i
          · rw [if_pos e, if_pos (by omega)]
          · rw [if_neg e]
            by_cases e2 : 40 * k ≤ q ∧ q < 40 * k + i
            · rw [if_pos e2, if_pos (by omega)]
            · rw [if_neg e2, if_neg (by omega)]
      · obtain ⟨w, J2⟩ := s
        obtain ⟨e, g1, g2⟩ := hq
        dsimp only at e g1 g2
        subst e
        refine ⟨fun _ => ⟨rfl, N, ?_, ?_, ?_⟩, fun q => absurd (Int32.le_refl _) q⟩
        · have hI : ∀ c j, I6 c j = if c = 74 ∧ j = k then nI m else if c = 73 ∧ j = k then nI so else if c = 72 ∧ (j = 0 ∨ j = 1) then 0 else if c = 2 + 2 * k ∧ j = 2 then nI m else if c = 2 + 2 * k ∧ j = 1 then nI so else if c = 0 ∧ j = 12 then 0 else I c j := by
            intro c j
            subst e6 e5 e4 e3 e2 e1
            unfold cS hI sI upd
            by_cases c1 : c = 74
            · subst c1; by_cases j1 : j = k <;> simp [j1, show ¬ 74 = 2 + 2 * k by omega]
            · by_cases c2 : c = 73
              · subst c2; by_cases j1 : j = k <;> simp [j1, show ¬ 73 = 2 + 2 * k by omega]
              · by_cases c3 : c = 72
                · subst c3; by_cases j1 : j = 0 <;> by_cases j2 : j = 1 <;> simp [j1, j2, show ¬ 72 = 2 + 2 * k by omega]
                · by_cases c4 : c = 2 + 2 * k
                  · subst c4; by_cases j1 : j = 2 <;> by_cases j2 : j = 1 <;> simp [j1, j2, c1, c2, c3, show ¬ 2 + 2 * k = 0 by omega]
                  · by_cases c5 : c = 0
                    · subst c5; by_cases j1 : j = 12 <;> simp [j1, c4]
                    · simp [c1, c2, c3, c4, c5]
          refine Core_tray hC (fun c j r a1 a2 a3 => ?_) ⟨?_, ?_⟩ (fun k' hk' => ?_)
          · rw [hI, if_neg (by omega), if_neg (by omega), if_neg ?_, if_neg (by omega), if_neg (by omega), if_neg ?_]
            · rintro ⟨rfl, rfl⟩; exact absurd r (by decide)
            · rintro ⟨rfl, rfl | rfl⟩
              · exact absurd r (by decide)
              · exact absurd r (by decide)
          · rw [g1 37 (by decide), hj1 37 (by omega)]
          · rw [g1 40 (by decide), hj1 40 (by omega)]
          · obtain ⟨t1, t2, t3, t4⟩ := hC.2.2.2.2.1 k' hk'
            unfold tOk
            rw [hI (2 + 2 * k') 1, hI (2 + 2 * k') 2, hI 73 k', hI 74 k']
            by_cases ek : k' = k
            · subst ek
              rw [if_neg (by omega), if_neg (by omega), if_neg (by omega), if_neg (by omega), if_pos ⟨rfl, rfl⟩, if_neg (by omega), if_pos ⟨rfl, rfl⟩, if_neg (by omega), if_neg (by omega), if_neg (by omega), if_pos ⟨rfl, rfl⟩, if_pos ⟨rfl, rfl⟩]
              refine ⟨rfl, rfl, ⟨so, hso, rfl⟩, Or.inr ⟨m, hm, rfl, fun q hq => ?_⟩⟩
              rw [g1 _ (by omega), show 3 + 2 * k' = 2 + 2 * k' + 1 by omega, hj2, if_pos (by omega), g2, if_pos (by omega)]
            · rw [if_neg (by omega), if_neg (by omega), if_neg (by omega), if_neg (by omega), if_neg (by omega), if_neg (by omega), if_neg (by omega), if_neg (by omega), if_neg (by omega), if_neg (by omega), if_neg (by omega), if_neg (by omega), if_neg (by omega), if_neg (by omega), if_neg (by omega), if_neg (by omega), if_neg (by omega), if_neg (by omega), if_neg (by omega), if_neg (by omega), if_neg (by omega), if_neg (by omega), if_neg (by omega), if_neg (by omega)]
              refine ⟨t1, t2, t3, ?_⟩
              rcases t4 with t4 | ⟨m', hm', t5, t6⟩
              · exact Or.inl t4
              · refine Or.inr ⟨m', hm', t5, fun q hq => ?_⟩
                rw [g1 _ (by omega), hj1 _ (by omega), g2, if_neg (by omega), hj1 75 (by omega)]
                exact t6 q hq
        · subst e6 e5 e4 e3 e2 e1
          rw [hI_ne (by decide), hI_ne (by decide), hI_ne (by decide), hI_ne (by decide), hI_ne (by omega), hI_ne (by omega), cS_at, hI_ne (by decide), hI_ne (by decide), hI_at, if_pos rfl]
        · rw [g1 11 (by decide), hj1 11 (by omega), g1 72 (by decide), hj1 72 (by omega)]
          exact h2
    · subst e1 e2
      exact ⟨fun q => absurd q k1, fun _ => ⟨fun q => absurd q k2, fun _ => ⟨fun q => absurd q s1, fun _ => ⟨fun _ => ⟨fun _ => ⟨fun q => absurd q d2, fun _ => q_no (er 6)⟩, fun q => absurd d q⟩, fun q => absurd s2 q⟩⟩⟩⟩
    · subst e1 e2
      exact ⟨fun q => absurd q k1, fun _ => ⟨fun q => absurd q k2, fun _ => ⟨fun q => absurd q s1, fun _ => ⟨fun _ => ⟨fun q => absurd q d, fun _ => q_no (er 5)⟩, fun q => absurd s2 q⟩⟩⟩⟩
  · rw [show (4 : Int32) = nI 4 from rfl, i_lt (by decide)] at c2
    rw [b, Bool.true_and]; exact Bool.eq_false_iff.mpr (fun q => by have := ix_iff.mp q; omega)
