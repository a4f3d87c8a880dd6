/-- the class's token is the one behind e -/
def cTok (n : Nat) (tx : Nat → Nat) (I : HI) (J : HJ) (e : Nat) : Prop := I 36 5 = nI (tSt n tx e) ∧ I 36 6 = nI (tEn n tx e) ∧ I 36 7 = nI (tKd n tx e) ∧ (tKd n tx e = 2 → I 36 8 = nI (tNu n tx e)) ∧ (5 ≤ tKd n tx e → J 36 9 = lN (tWd n tx e))
def cAdv (n : Nat) (tx : Nat → Nat) (e : Nat) (I : HI) (J : HJ) (I' : HI) (J' : HJ) : Prop := (∀ c, c ≠ 36 → I' c = I c) ∧ (I' 36 4 = I 36 4 ∧ I' 36 10 = I 36 10) ∧ (∀ c, c ≠ 36 → J' c = J c) ∧ cTok n tx I' J' e ∧ (tKd n tx e = 1 → I' 36 11 = 1 ∧ I' 36 12 = nI (tSt n tx e)) ∧ (¬ tKd n tx e = 1 → I' 36 11 = 0 ∧ I' 36 12 = I 36 12)
theorem q_183 {n e : Nat} {tx : Nat → Nat} {I I1 : HI} {J J1 : HJ} (hn : n ≤ 600) (he : e ≤ n) (h1 : ∀ c, c ≠ 36 → I1 c = I c) (h2 : I1 36 4 = I 36 4 ∧ I1 36 10 = I 36 10 ∧ I1 36 12 = I 36 12) (h3 : ∀ c, c ≠ 36 → J1 c = J c) (h4 : cTok n tx I1 J1 e) (h0 : I1 36 11 = 0) {Post : HI → HJ → Prop} (h : ∀ I' J', cAdv n tx e I J I' J' → Post I' J') : wj_X5_advance_183 I1 J1 Post := by
  have tk := tk_ok (tx := tx) hn he
  obtain ⟨k1, k2, k3, k4, k5⟩ := h4
  unfold wj_X5_advance_183
  rw [k3, show (1 : Int32) = nI 1 from rfl, nI_eq (by omega) (by omega)]
  refine ⟨fun c => h I1 J1 ⟨h1, ⟨h2.1, h2.2.1⟩, h3, ⟨k1, k2, k3, k4, k5⟩, fun z => absurd z c, fun _ => ⟨h0, h2.2.2⟩⟩, fun c => ⟨fun z => absurd h0 z, fun _ I2 e2 I3 e3 => h I3 J1 ⟨fun c hc => ?_, ⟨?_, ?_⟩, h3, ⟨?_, ?_, ?_, fun z => ?_, fun z => ?_⟩, fun _ => ⟨?_, ?_⟩, fun z => absurd c z⟩⟩⟩
  · rw [e3, hI_ne hc, e2, hI_ne hc]; exact h1 c hc
  · rw [e3, hI_at, if_neg (by decide), e2, hI_at, if_neg (by decide)]; exact h2.1
  · rw [e3, hI_at, if_neg (by decide), e2, hI_at, if_neg (by decide)]; exact h2.2.1
  · rw [e3, hI_at, if_neg (by decide), e2, hI_at, if_neg (by decide)]; exact k1
  · rw [e3, hI_at, if_neg (by decide), e2, hI_at, if_neg (by decide)]; exact k2
  · rw [e3, hI_at, if_neg (by decide), e2, hI_at, if_neg (by decide)]; exact k3
  · omega
  · omega
  · rw [e3, hI_at, if_neg (by decide), e2, hI_at, if_pos rfl]; rfl
  · rw [e3, hI_at, if_pos rfl, e2, hI_at, if_neg (by decide)]; exact k1
theorem q_advance {I : HI} {J : HJ} {n e : Nat} {tx : Nat → Nat} (hn : n ≤ 600) (he : e ≤ n) (h4 : I 36 4 = nI n) (h6 : I 36 6 = nI e) (h11 : I 36 11 = 0) (htx : cTx I n tx) (hw : rdW J) {Post : HI → HJ → Prop} (h : ∀ I' J', cAdv n tx e I J I' J' → Post I' J') : w_X5_advance I J Post := by
  have tk := tk_ok (tx := tx) hn he
  obtain ⟨p1, p2, p3, p4⟩ := pst_ok n tx isB 600 e he (by omega)
  have p1' : e ≤ tSt n tx e := p1
  have p2' : tSt n tx e ≤ n := p2
  have p3' : ∀ k, e ≤ k → k < tSt n tx e → isB (tx k) = true := p3
  have p4' : tSt n tx e < n → isB (tx (tSt n tx e)) = false := p4
  refine ⟨fun z => absurd h11 z, fun _ => ⟨fun _ I2 e2 => ?_, fun z => (by cases z)⟩⟩
  refine lp_inv (fun i (I3 : HI) => (∀ c, c ≠ 36 → I3 c = I c) ∧ (∀ k, k ≠ 5 → I3 36 k = I 36 k) ∧ I3 36 5 = nI (e + i)) (tSt n tx e - e) (fun i I3 hi hq K hK => ?_) (fun I3 hq K => ?_) I2 ⟨fun c hc => by rw [e2, hI_ne hc], fun k hk => by rw [e2, hI_at, if_neg hk], by rw [e2, hI_at, if_pos rfl]; exact h6⟩
  · obtain ⟨g1, g2, g3⟩ := hq
    obtain ⟨t1, t2⟩ := htx (e + i) (by omega)
    have lt := isB_iff.mp (p3' (e + i) (by omega) (by omega))
    obtain ⟨b1, b2, b3, b4, b5, b6, b7, b8, b9⟩ := sb_ok t1
    have v6 : vp_in (nI (e + i)) 600 := vp_in_nI (by omega) (by omega)
    have nx : ∀ I4 : HI, I4 = hI I3 36 5 (nI (e + i + 1)) → K I4 := fun I4 e4 => hK _ ⟨fun c hc => by rw [e4, hI_ne hc]; exact g1 c hc, fun k hk => by rw [e4, hI_at, if_neg hk]; exact g2 k hk, by rw [e4, hI_at, if_pos rfl]; rfl⟩
    show wb_X5_advance_16 J Post _ K I3
    unfold wb_X5_advance_16
    rw [g2 4 (by decide), h4, g3, nI_clamp (by omega : e + i < 2 ^ 31), g1 10 (by decide), t2, b1, b2, nI_1]
    exact ⟨fun c => absurd c (nI_ge (by omega) (by omega)), fun _ => ⟨v6, fun _ => nx, fun c1 => ⟨v6, fun c2 => absurd lt (fun z => z.elim c1 c2), fun _ => nx⟩⟩⟩
  · obtain ⟨g1, g2, g3⟩ := hq
    rw [show e + (tSt n tx e - e) = tSt n tx e by omega] at g3
    have fin : ∀ I6 : HI, I6 = hI I3 36 6 (I3 36 5) → (((I6 36 4) ≤ (I6 36 5) → (wj_X5_advance_100 I6 J 0 Post)) ∧ (¬ (I6 36 4) ≤ (I6 36 5) → (vp_in (I6 36 5) 600 ∧ (wj_X5_advance_100 I6 J (I6 10 (Int32.toNatClampNeg (I6 36 5))) Post)))) := fun I6 e6 => by
      have f1 : ∀ c, c ≠ 36 → I6 c = I c := fun c hc => by rw [e6, hI_ne hc]; exact g1 c hc
      have f2 : ∀ k, k ≠ 5 → k ≠ 6 → I6 36 k = I 36 k := fun k k5 k6 => by rw [e6, hI_at, if_neg k6]; exact g2 k k5
      have f5 : I6 36 5 = nI (tSt n tx e) := by rw [e6, hI_at, if_neg (by decide)]; exact g3
      have f6 : I6 36 6 = nI (tSt n tx e) := by rw [e6, hI_at, if_pos rfl]; exact g3
      have f4 : I6 36 4 = nI n := (f2 4 (by decide) (by decide)).trans h4
      have ftx : cTx I6 n tx := fun k hk => by rw [f1 10 (by decide)]; exact htx k hk
      rw [f4, f5, nI_leI (by omega) (by omega), nI_clamp (by omega : tSt n tx e < 2 ^ 31), f1 10 (by decide)]
      refine ⟨fun c => ?_, fun c => ⟨vp_in_nI (by omega) (by omega), ?_⟩⟩
      · unfold wj_X5_advance_100
        rw [f4, f5, nI_eq (by omega) (by omega)]
        refine ⟨fun z => absurd (by omega) z, fun _ I7 e7 => q_183 hn he (fun c hc => ?_) ⟨?_, ?_, ?_⟩ (fun _ _ => rfl) ⟨?_, ?_, ?_, fun z => ?_, fun z => ?_⟩ ?_ h⟩
        · rw [e7, hI_ne hc]; exact f1 c hc
        · rw [e7, hI_at, if_neg (by decide)]; exact f2 4 (by decide) (by decide)
        · rw [e7, hI_at, if_neg (by decide)]; exact f2 10 (by decide) (by decide)
        · rw [e7, hI_at, if_neg (by decide)]; exact f2 12 (by decide) (by decide)
        · rw [e7, hI_at, if_neg (by decide)]; exact f5
        · rw [e7, hI_at, if_neg (by decide), f6]; unfold tEn; rw [if_pos c]
        · rw [e7, hI_at, if_pos rfl]; unfold tKd; rw [if_pos c]; rfl
        · unfold tKd at z; rw [if_pos c] at z; omega
        · unfold tKd at z; rw [if_pos c] at z; omega
        · rw [e7, hI_at, if_neg (by decide), f2 11 (by decide) (by decide)]; exact h11
      · obtain ⟨t1, t2⟩ := htx (tSt n tx e) (by omega)
        obtain ⟨b1, b2, b3, b4, b5, b6, b7, b8, b9⟩ := sb_ok t1
        unfold wj_X5_advance_100
        rw [f4, f5, nI_eq (by omega) (by omega), t2, b3, b4]
        refine ⟨fun _ => ?_, fun z => (by omega)⟩
        have notL : ¬ (97 ≤ tx (tSt n tx e) ∧ tx (tSt n tx e) ≤ 122) → wj_X5_advance_139 I6 J (sb (tx (tSt n tx e))) Post := fun nl => by
          have nL := isL_f.mpr nl
          have notD : ¬ (48 ≤ tx (tSt n tx e) ∧ tx (tSt n tx e) ≤ 57) → wj_X5_advance_158 I6 J (sb (tx (tSt n tx e))) Post := fun nd => by
            have nD := isD_f.mpr nd
            have kd : tKd n tx e = if tx (tSt n tx e) = 59 then 3 else 1 := by unfold tKd; rw [if_neg c, if_neg (by rw [nL]; decide), if_neg (by rw [nD]; decide)]
            have en : tEn n tx e = tSt n tx e + 1 := by unfold tEn; rw [if_neg c, if_neg (by rw [nL]; decide), if_neg (by rw [nD]; decide)]
            have go : ∀ v : Nat, v = tKd n tx e → v ≤ 3 → ¬ v = 2 → wj_X5_advance_170 I6 J (nI v) Post := fun v ev v3 v2 => by
              intro I7 e7 I8 e8
              refine q_183 hn he (fun c hc => ?_) ⟨?_, ?_, ?_⟩ (fun _ _ => rfl) ⟨?_, ?_, ?_, fun z => (by omega), fun z => (by omega)⟩ ?_ h
              · rw [e8, hI_ne hc, e7, hI_ne hc]; exact f1 c hc
              · rw [e8, hI_at, if_neg (by decide), e7, hI_at, if_neg (by decide)]; exact f2 4 (by decide) (by decide)
              · rw [e8, hI_at, if_neg (by decide), e7, hI_at, if_neg (by decide)]; exact f2 10 (by decide) (by decide)
              · rw [e8, hI_at, if_neg (by decide), e7, hI_at, if_neg (by decide)]; exact f2 12 (by decide) (by decide)
              · rw [e8, hI_at, if_neg (by decide), e7, hI_at, if_neg (by decide)]; exact f5
              · rw [e8, hI_at, if_pos rfl, e7, hI_at, if_neg (by decide), f5, nI_1, en]
              · rw [e8, hI_at, if_neg (by decide), e7, hI_at, if_pos rfl, ev]
              · rw [e8, hI_at, if_neg (by decide), e7, hI_at, if_neg (by decide), f2 11 (by decide) (by decide)]; exact h11
            unfold wj_X5_advance_158
            rw [b7]
            exact ⟨fun z => go 1 (by rw [kd, if_neg z]) (by decide) (by decide), fun z => go 3 (by rw [kd, if_pos z]) (by decide) (by decide)⟩
          unfold wj_X5_advance_139
          rw [b5, b6]
          refine ⟨fun z => notD (by omega), fun z => ⟨fun z2 => notD (by omega), fun z2 => ?_⟩⟩
          have yD : isD (tx (tSt n tx e)) = true := isD_iff.mpr (by omega)
          have rn : run n tx isD (tSt n tx e) (tDe n tx e) := pst_ok n tx isD 600 (tSt n tx e) p2' (by omega)
          have kd : tKd n tx e = if 3 < tDe n tx e - tSt n tx e then 1 else 2 := by unfold tKd; rw [if_neg c, if_neg (by rw [nL]; decide), if_pos yD]
          have en : tEn n tx e = tDe n tx e := by unfold tEn; rw [if_neg c, if_neg (by rw [nL]; decide), if_pos yD]
          refine q_takeNumber hn f4 f5 f6 ftx rn (fun I7 i1 i2 i3 i4 i5 => q_183 hn he (fun c hc => (i1 c hc).trans (f1 c hc)) ⟨?_, ?_, ?_⟩ (fun _ _ => rfl) ⟨?_, ?_, ?_, fun z => ?_, fun z => ?_⟩ ?_ h)
          · exact (i2 4 (by decide) (by decide) (by decide)).trans (f2 4 (by decide) (by decide))
          · exact (i2 10 (by decide) (by decide) (by decide)).trans (f2 10 (by decide) (by decide))
          · exact (i2 12 (by decide) (by decide) (by decide)).trans (f2 12 (by decide) (by decide))
          · exact (i2 5 (by decide) (by decide) (by decide)).trans f5
          · rw [i3, en]
          · rw [i4, kd]
          · refine i5 ?_
            rw [kd] at z
            rcases Nat.lt_or_ge 3 (tDe n tx e - tSt n tx e) with y | y
            · rw [if_pos y] at z; omega
            · exact y
          · rw [kd] at z
            split at z <;> omega
          · rw [i2 11 (by decide) (by decide) (by decide), f2 11 (by decide) (by decide)]; exact h11
        refine ⟨fun z => notL (by omega), fun z => ⟨fun z2 => notL (by omega), fun z2 => ?_⟩⟩
        have yL : isL (tx (tSt n tx e)) = true := isL_iff.mpr (by omega)
        have rn : run n tx isL (tSt n tx e) (tWe n tx e) := pst_ok n tx isL 600 (tSt n tx e) p2' (by omega)
        have kd : tKd n tx e = if 8 < tWe n tx e - tSt n tx e then 4 else kwl (wvl tx (tSt n tx e) (tWe n tx e - tSt n tx e)) 13 := by unfold tKd; rw [if_neg c, if_pos yL]
        have en : tEn n tx e = tWe n tx e := by unfold tEn; rw [if_neg c, if_pos yL]
        have kr := kwl_r (wvl tx (tSt n tx e) (tWe n tx e - tSt n tx e)) 13
        refine q_takeWord hn f4 f5 f6 ftx hw rn (fun I7 J7 i1 i2 i3 i4 i5 i6 => q_183 hn he (fun c hc => (i1 c hc).trans (f1 c hc)) ⟨?_, ?_, ?_⟩ i5 ⟨?_, ?_, ?_, fun z => ?_, fun z => ?_⟩ ?_ h)
        · exact (i2 4 (by decide) (by decide)).trans (f2 4 (by decide) (by decide))
        · exact (i2 10 (by decide) (by decide)).trans (f2 10 (by decide) (by decide))
        · exact (i2 12 (by decide) (by decide)).trans (f2 12 (by decide) (by decide))
        · exact (i2 5 (by decide) (by decide)).trans f5
        · rw [i3, en]
        · rw [i4, kd]
        · rw [kd] at z
          split at z <;> omega
        · refine i6 ?_
          rw [kd] at z
          rcases Nat.lt_or_ge 8 (tWe n tx e - tSt n tx e) with y | y
          · rw [if_pos y] at z; omega
          · exact y
        · rw [i2 11 (by decide) (by decide), f2 11 (by decide) (by decide)]; exact h11
    show wb_X5_advance_16 J Post _ K I3
    unfold wb_X5_advance_16
    rw [g2 4 (by decide), h4, g3]
    refine ⟨fun _ => fin, fun c => ?_⟩
    rw [nI_leI (by omega) (by omega)] at c
    obtain ⟨t1, t2⟩ := htx (tSt n tx e) (by omega)
    have lt := isB_f.mp (p4' (by omega))
    obtain ⟨b1, b2, b3, b4, b5, b6, b7, b8, b9⟩ := sb_ok t1
    have v6 : vp_in (nI (tSt n tx e)) 600 := vp_in_nI (by omega) (by omega)
    rw [nI_clamp (by omega : tSt n tx e < 2 ^ 31), g1 10 (by decide), t2, b1, b2]
    exact ⟨v6, fun c1 => absurd (Or.inl c1) lt, fun _ => ⟨v6, fun _ => fin, fun c1 => absurd (Or.inr c1) lt⟩⟩
