/-! net: both, and alike -/
def cNR (I : HI) (J : HJ) (p : (Nat × Nat) ⊕ DT) (r : Int32) (I' : HI) (J' : HJ) : Prop := (∀ c, c ≠ 0 → ¬ (12 ≤ c ∧ c ≤ 36) → c ≠ 54 → I' c = I c) ∧ I' 0 13 = 0 ∧ (∀ c, c ≠ 36 → c ≠ 38 → c ≠ 40 → J' c = J c) ∧ match p with
  | .inl q => (1 ≤ q.1 ∧ q.1 ≤ 6) ∧ r = -1 ∧ I' 0 12 = 10 ∧ I' 0 14 = nI q.1 ∧ I' 0 15 = nI q.2 ∧ (∀ c, 12 ≤ c → c ≤ 23 → I' c = I c) ∧ I' 54 = I 54 ∧ J' 40 = J 40
  | .inr D => okD D ∧ r = nI (nP D.1) ∧ I' 0 12 = 0 ∧ I' 0 14 = 0 ∧ I' 0 15 = -1 ∧ cNet I' D.1 ∧ cWt J' D.1 ∧ I' 54 3 = 0
theorem c_net {I : HI} {J : HJ} {n : Nat} {tx : Nat → Nat} (hn : n ≤ 600) (ht : cTx I n tx) (hw : rdW J) {Post : Int32 → HI → HJ → Prop} (hp : ∀ r I' J', cNR I J (prsS n tx) r I' J' → Post r I' J') : wj_X10_net_18 I J (nI n) 0 Post := by
  refine q_fails0 ⟨fun _ I3 e3 => ?_, fun z => (by cases z)⟩
  have o3 : ∀ c, c ≠ 0 → I3 c = I c := fun c hc => by rw [e3, hI_ne hc]; unfold cS; rw [hI_ne hc]
  have ht3 : cTx I3 n tx := fun k hk => by rw [o3 10 (by decide)]; exact ht k hk
  refine c_readAll hn ht3 hw (fun I4 J5 x => ?_)
  intro I6 e6 I7 e7
  have z14 : I7 0 14 = I4 36 11 := by rw [e7, hI_at, if_neg (by decide), e6, hI_at, if_pos rfl]
  have z15 : I7 0 15 = I4 36 12 := by rw [e7, hI_at, if_pos rfl, e6, hI_ne (by decide)]
  have o7 : ∀ c, c ≠ 0 → I7 c = I4 c := fun c hc => by rw [e7, hI_ne hc, e6, hI_ne hc]
  have z7 : ∀ k, k ≠ 14 → k ≠ 15 → I7 0 k = I4 0 k := fun k h1 h2 => by rw [e7, hI_at, if_neg h2, e6, hI_at, if_neg h1]
  have s13 : I3 0 13 = 0 := by rw [e3, hI_at, if_pos rfl]
  rw [z14]
  cases hs : prsS n tx with
  | inl q =>
    rw [hs] at x hp
    dsimp only at x
    obtain ⟨⟨a1, a2⟩, b, c1, c2, -⟩ := x
    refine ⟨fun z => absurd z (by rw [c1]; exact nI_ne0 (by omega) (by omega)), fun _ => ?_⟩
    refine q_failsE (by decide) ⟨fun z => (by cases z), fun _ => hp _ _ _ ⟨fun c h1 h2 h3 => ?_, ?_, fun c h1 h2 h3 => a2 c h1 h2, b, rfl, cS_at _ _, ?_, ?_, fun c h1 h2 => ?_, ?_, a2 40 (by decide) (by decide)⟩⟩
    · unfold cS; rw [hI_ne h1, o7 c h1, a1 c (by omega)]; exact o3 c h1
    · unfold cS; rw [hI_at, if_neg (by decide), z7 13 (by decide) (by decide), a1 0 (by omega)]; exact s13
    · unfold cS; rw [hI_at, if_neg (by decide), z14]; exact c1
    · unfold cS; rw [hI_at, if_neg (by decide), z15]; exact c2
    · unfold cS; rw [hI_ne (by omega), o7 c (by omega), a1 c (by omega)]; exact o3 c (by omega)
    · unfold cS; rw [hI_ne (by decide), o7 54 (by decide), a1 54 (by omega)]; exact o3 54 (by decide)
  | inr D =>
    rw [hs] at x hp
    dsimp only at x
    obtain ⟨hD, e, ⟨a1, a2⟩, b, ⟨c1, c2⟩, d, g⟩ := x
    refine ⟨fun _ => ?_, fun z => absurd c1 z⟩
    refine q_fails0 ⟨fun _ => ?_, fun z => (by cases z)⟩
    have oS : ∀ c, c ≠ 0 → cS I7 0 c = I4 c := fun c hc => by unfold cS; rw [hI_ne hc, o7 c hc]
    have dS : cNet (fun c => cS I7 0 (c + 12)) D.1 := cNet_of g.1 (fun c h1 h2 => oS (c + 12) (by omega))
    refine q_copyFrom dS hD.1 (fun I10 f10 n10 => q_weighAll n10 hD.1 (fun J11 j11 w11 => fun I12 e12 => ?_))
    have o12 : ∀ c, c ≠ 54 → I12 c = I10 c := fun c hc => by rw [e12, hI_ne hc]
    have n12 : cNet I12 D.1 := cNet_of n10 (fun c h1 h2 => o12 c (by omega))
    have r12 : I12 12 11 = nI (nP D.1) := n12.1.1
    show Post (I12 12 11) I12 J11
    rw [r12]
    refine hp _ _ _ ⟨fun c h1 h2 h3 => ?_, ?_, fun c h1 h2 h3 => ?_, hD, rfl, ?_, ?_, ?_, n12, w11, ?_⟩
    · rw [o12 c h3, f10 c (by omega), oS c h1, a1 c (by omega)]; exact o3 c h1
    · rw [o12 0 (by decide), f10 0 (by omega)]
      unfold cS
      rw [hI_at, if_neg (by decide), z7 13 (by decide) (by decide), a1 0 (by omega)]; exact s13
    · rw [j11 c h3]; exact a2 c h1 h2
    · rw [o12 0 (by decide), f10 0 (by omega)]; exact cS_at _ _
    · rw [o12 0 (by decide), f10 0 (by omega)]
      unfold cS
      rw [hI_at, if_neg (by decide), z14]; exact c1
    · rw [o12 0 (by decide), f10 0 (by omega)]
      unfold cS
      rw [hI_at, if_neg (by decide), z15]; exact c2
    · rw [e12, hI_at, if_pos rfl]
def mNR (I : HI) (J : HJ) (p : (Nat × Nat) ⊕ DT) (r : Int32) (I' : HI) (J' : HJ) : Prop := (∀ c, c ≠ 72 → ¬ (77 ≤ c ∧ c ≤ 90) → I' c = I c) ∧ I' 72 8 = 0 ∧ ((∀ c, c ≠ 72 → c ≠ 89 → J' c = J c) ∧ ∀ k, k ≠ 19 → J' 72 k = J 72 k) ∧ match p with
  | .inl q => r = -1 ∧ I' 72 0 = 10 ∧ I' 72 10 = nI q.1 ∧ I' 72 11 = nI q.2 ∧ (I' 77 = I 77 ∧ I' 79 = I 79 ∧ I' 80 = I 80 ∧ I' 81 = I 81 ∧ I' 82 = I 82 ∧ I' 87 = I 87) ∧ I' 72 20 = I 72 20 ∧ I' 72 21 = I 72 21 ∧ I' 72 38 = I 72 38
  | .inr D => okD D ∧ r = nI (nP D.1) ∧ I' 72 0 = 0 ∧ I' 72 10 = 0 ∧ I' 72 11 = -1 ∧ mNet I' D.1 ∧ I' 72 38 = 0
theorem m_net {I : HI} {J : HJ} {n m : Nat} {tx : Nat → Nat} (hnm : n ≤ m) (hm600 : m ≤ 600) (h8 : I 72 8 = nI m) (htx : ∀ k, k < n → tx k < 256 ∧ I 76 k = sb (tx k)) {Post : Int32 → HI → HJ → Prop} (hp : ∀ r I' J', mNR I J (prsS n tx) r I' J' → Post r I' J') : w_X11_net (nI n) I J Post := by
  have hn : n ≤ 600 := by omega
  intro I1 e1 I2 e2
  have e28 : I2 72 8 = nI m := by rw [e2, hI_at, if_neg (by decide), e1, hI_at, if_neg (by decide)]; exact h8
  rw [e28, nI_leI (by omega) (by omega)]
  refine ⟨fun z => absurd z (nI_pos (by omega)), fun _ => ⟨fun _ I5 e5 I6 e6 I7 e7 I8 e8 I9 e9 I10 e10 => ?_, fun z => absurd hnm z⟩⟩
  have o10 : ∀ c, c ≠ 72 → I10 c = I c := fun c hc => by rw [e10, hI_ne hc, e9, hI_ne hc, e8, hI_ne hc, e7, hI_ne hc, e6, hI_ne hc, e5, hI_ne hc, e2, hI_ne hc, e1, hI_ne hc]
  have k10 : ∀ k, I10 72 k = if k = 23 then 0 else if k = 22 then 0 else if k = 12 then 0 else if k = 16 then 0 else if k = 8 then 0 else if k = 9 then nI n else if k = 0 then 0 else if k = 1 then 0 else I 72 k := fun k => by rw [e10, hI_at, e9, hI_at, e8, hI_at, e7, hI_at, e6, hI_at, e5, hI_at, e2, hI_at, e1, hI_at]
  refine lp_inv (fun i (s : Int32 × HI) => s.1 = nI i ∧ (∀ c, c ≠ 88 → c ≠ 90 → s.2 c = I10 c) ∧ ∀ v, v < i → s.2 88 v = 12 ∧ s.2 90 v = 0) 4 (fun i s hi hq K hK => ?_) (fun s hq K => ?_) (0, I10) ⟨rfl, fun _ _ _ => rfl, fun v hv => absurd hv (Nat.not_lt_zero _)⟩
  · obtain ⟨x2, I11⟩ := s
    obtain ⟨a1, g1, g2⟩ := hq
    dsimp only at a1 g1 g2
    subst a1
    have vi : vp_in (nI i) 4 := vp_in_nI hi (by decide)
    show wb_X11_net_60 J Post _ K (nI i, I11)
    unfold wb_X11_net_60
    dsimp only
    rw [nI_clamp (by omega : i < 2 ^ 31), nI_1 i]
    refine ⟨fun z => absurd z (nI_ge (b := 4) hi (by decide)), fun _ => ⟨vi, fun I12 e12 => ⟨vi, fun I13 e13 => hK _ ⟨rfl, fun c h1 h2 => ?_, fun v hv => ?_⟩⟩⟩⟩
    · show I13 c = _
      rw [e13, hI_ne h1, e12, hI_ne h2]; exact g1 c h1 h2
    · show I13 88 v = _ ∧ I13 90 v = _
      have q1 : I13 88 v = if v = i then 12 else I11 88 v := by rw [e13, hI_at, e12, hI_ne (by decide)]
      have q2 : I13 90 v = if v = i then 0 else I11 90 v := by rw [e13, hI_ne (by decide), e12, hI_at]; rfl
      rw [q1, q2]
      by_cases y : v = i
      · rw [if_pos y, if_pos y]; exact ⟨rfl, rfl⟩
      · rw [if_neg y, if_neg y]; exact g2 v (by omega)
  · obtain ⟨x2, I13⟩ := s
    obtain ⟨a1, g1, g2⟩ := hq
    dsimp only at a1 g1 g2
    subst a1
    refine ⟨fun _ => ?_, fun z => absurd (by decide) z⟩
    have k13 : ∀ k, I13 72 k = if k = 23 then 0 else if k = 22 then 0 else if k = 12 then 0 else if k = 16 then 0 else if k = 8 then 0 else if k = 9 then nI n else if k = 0 then 0 else if k = 1 then 0 else I 72 k := fun k => by rw [g1 72 (by decide) (by decide)]; exact k10 k
    have t13 : mTx I13 n tx := ⟨by rw [k13]; rfl, fun k hk => by rw [g1 76 (by decide) (by decide), o10 76 (by decide)]; exact htx k hk⟩
    refine q_next (e := 0) hn (Nat.zero_le n) (by rw [k13]; rfl) t13 (fun I14 J15 f tk => ?_)
    have g14 : mG n tx I13 J 0 D0 I14 J15 := by
      refine ⟨⟨fun c h1 _ _ _ _ => f.1 c h1, fun k h1 _ _ => f.2.1 k (by omega), fun c h1 _ => f.2.2.1 c h1, f.2.2.2⟩, ?_, tk, ⟨⟨?_, ?_⟩, fun p hpp => absurd hpp (Nat.not_lt_zero _), fun t htt => absurd htt (Nat.not_lt_zero _), fun v hv => ?_, fun p hpp => absurd hpp (Nat.not_lt_zero _)⟩⟩
      · rw [f.2.1 12 (by omega), k13]; rfl
      · rw [f.2.1 22 (by omega), k13]; rfl
      · rw [f.2.1 23 (by omega), k13]; rfl
      · rw [f.1 88 (by decide), f.1 90 (by decide), (g2 v hv).1, (g2 v hv).2]
        refine ⟨rfl, ?_⟩
        show (0 : Int32) = nI (if (0 : Nat).testBit v = true then 1 else 0)
        rw [Nat.zero_testBit]
        rfl
    refine m_loop hn t13 g14 (fun I26 J27 x => ?_)
    intro I28 e28
    have o28 : ∀ c, c ≠ 72 → I28 c = I26 c := fun c hc => by rw [e28, hI_ne hc]
    have k28 : ∀ k, k ≠ 10 → I28 72 k = I26 72 k := fun k hk => by rw [e28, hI_at, if_neg hk]
    have z28 : I28 72 10 = I26 72 12 := by rw [e28, hI_at, if_pos rfl]
    rw [k28 12 (by decide), k28 13 (by decide)]
    cases hs : prsS n tx with
    | inl q =>
      rw [hs] at x hp
      dsimp only at x
      obtain ⟨⟨a1, a2, a3, a4⟩, b, c1, c2⟩ := x
      refine ⟨fun _ I29 e29 => ?_, fun z => absurd z (by rw [c1]; exact nI_ne0 (by omega) (by omega))⟩
      have k29 : ∀ k, k ≠ 11 → I29 72 k = I28 72 k := fun k hk => by rw [e29, hI_at, if_neg hk]
      have o29 : ∀ c, c ≠ 72 → I29 c = I26 c := fun c hc => by rw [e29, hI_ne hc]; exact o28 c hc
      rw [k29 12 (by decide), k28 12 (by decide), c1]
      refine ⟨fun z => absurd z (nI_nle (by omega) (by omega)), fun _ => q_refused (hp _ _ _ ⟨fun c h1 h2 => ?_, ?_, ⟨a3, a4⟩, rfl, ?_, ?_, ?_, ?_, ?_, ?_, ?_⟩)⟩
      · rw [hI_ne h1, o29 c h1, a1 c h1 (by omega) (by omega) (by omega) (by omega), g1 c (by omega) (by omega)]; exact o10 c h1
      · rw [hI_at, if_neg (by decide), k29 8 (by decide), k28 8 (by decide), a2 8 (by omega) (by decide) (by decide), k13]; rfl
      · rw [hI_at, if_pos rfl]
      · rw [hI_at, if_neg (by decide), k29 10 (by decide), z28]; exact c1
      · rw [hI_at, if_neg (by decide), e29, hI_at, if_pos rfl]; exact c2
      · have l : ∀ c, c ≠ 72 → c ≠ 78 → ¬ (83 ≤ c ∧ c ≤ 86) → c ≠ 88 → c ≠ 90 → hI I29 72 0 10 c = I c := fun c h1 h2 h3 h4 h5 => by rw [hI_ne h1, o29 c h1, a1 c h1 h2 h3 h4 h5, g1 c h4 h5]; exact o10 c h1
        exact ⟨l 77 (by decide) (by decide) (by omega) (by decide) (by decide), l 79 (by decide) (by decide) (by omega) (by decide) (by decide), l 80 (by decide) (by decide) (by omega) (by decide) (by decide), l 81 (by decide) (by decide) (by omega) (by decide) (by decide), l 82 (by decide) (by decide) (by omega) (by decide) (by decide), l 87 (by decide) (by decide) (by omega) (by decide) (by decide)⟩
      · rw [hI_at, if_neg (by decide), k29 20 (by decide), k28 20 (by decide), a2 20 (by omega) (by decide) (by decide), k13]; rfl
      · rw [hI_at, if_neg (by decide), k29 21 (by decide), k28 21 (by decide), a2 21 (by omega) (by decide) (by decide), k13]; rfl
      · rw [hI_at, if_neg (by decide), k29 38 (by decide), k28 38 (by decide), a2 38 (by omega) (by decide) (by decide), k13]; rfl
    | inr D =>
      rw [hs] at x hp
      dsimp only at x
      obtain ⟨hD, e, ⟨a1, a2, a3, a4⟩, b, t, d⟩ := x
      refine ⟨fun z => absurd b z, fun _ I29 e29 => ?_⟩
      have k29 : ∀ k, k ≠ 11 → I29 72 k = I28 72 k := fun k hk => by rw [e29, hI_at, if_neg hk]
      have o29 : ∀ c, c ≠ 72 → I29 c = I26 c := fun c hc => by rw [e29, hI_ne hc]; exact o28 c hc
      rw [k29 12 (by decide), k28 12 (by decide), b]
      have d29 : mDr I29 J27 D := by
        obtain ⟨d1, d2, d3, d4, d5⟩ := d
        refine ⟨⟨?_, ?_⟩, ?_, ?_, ?_, d5⟩
        · rw [k29 22 (by decide), k28 22 (by decide)]; exact d1.1
        · rw [k29 23 (by decide), k28 23 (by decide)]; exact d1.2
        · rw [o29 78 (by decide)]; exact d2
        · rw [o29 83 (by decide), o29 84 (by decide), o29 85 (by decide), o29 86 (by decide)]; exact d3
        · rw [o29 88 (by decide), o29 90 (by decide)]; exact d4
      refine ⟨fun _ => q_taken d29 hD.1 (fun I' nm f1 f2 f3 => hp _ _ _ ⟨fun c h1 h2 => ?_, ?_, ⟨a3, a4⟩, hD, rfl, ?_, ?_, ?_, nm, f3⟩), fun z => absurd (Int32.le_refl _) z⟩
      · rw [f1 c h1 (by omega) (by omega) (by omega), o29 c h1, a1 c h1 (by omega) (by omega) (by omega) (by omega), g1 c (by omega) (by omega)]; exact o10 c h1
      · rw [f2 8 (by decide) (by decide) (by decide), k29 8 (by decide), k28 8 (by decide), a2 8 (by omega) (by decide) (by decide), k13]; rfl
      · rw [f2 0 (by decide) (by decide) (by decide), k29 0 (by decide), k28 0 (by decide), a2 0 (by omega) (by decide) (by decide), k13]; rfl
      · rw [f2 10 (by decide) (by decide) (by decide), k29 10 (by decide), z28]; exact b
      · rw [f2 11 (by decide) (by decide) (by decide), e29, hI_at, if_pos rfl]
theorem sbAt {x : Int32} (h : Int8.toInt32 (Int32.toInt8 x) = x) : (Int32.toInt8 x).toBitVec.toNat < 256 ∧ x = sb (Int32.toInt8 x).toBitVec.toNat := by
  refine ⟨(Int32.toInt8 x).toBitVec.isLt, ?_⟩
  have := List.all_eq_true.mp sb_i8 _ (List.mem_range.mpr (Int32.toInt8 x).toBitVec.isLt)
  rw [← eq_of_beq this]
  have e : Int8.ofBitVec (BitVec.ofNat 8 (Int32.toInt8 x).toBitVec.toNat) = Int32.toInt8 x := by
    rw [BitVec.ofNat_toNat, BitVec.setWidth_eq]
    rfl
  rw [e, h]
theorem op_net {I : HI} {J : HJ} (h : Inv I J) (x : Int32) : w_X10_net x I J (fun r I1 J1 => w_X11_net x I1 J1 (fun r' I2 J2 => r = r' ∧ Inv I2 J2)) := by
  obtain ⟨N, hC, h1, h2⟩ := h
  have hC' := hC
  obtain ⟨c1, cN2, c3, c4, c5, ⟨m, m600, m13, m8, mt⟩, c7, c8, c9⟩ := hC'
  have er : ∀ v, Inv (mE (cS I v) v) J := fun v => fin_er hC (same_cS I v) (cS_at I v) (sameJ_rf J) h2
  have m8' : m0 (cS I 5) 72 8 = nI m := by rw [sameI_tr (same_cS I 5) (same_m0 (cS I 5)) 72 8 rfl]; exact m8
  have bad : (x < 0 ∨ ¬ x ≤ nI m) → wj_X10_net_13 I J x (fun r I1 J1 => w_X11_net x I1 J1 (fun r' I2 J2 => r = r' ∧ Inv I2 J2)) := fun hb => by
    unfold wj_X10_net_13 wj_X10_net_18
    refine q_failsE (by decide) ⟨fun z => (by cases z), fun _ I1 e1 I2 e2 => ?_⟩
    subst e1 e2
    have fin : wj_X11_net_22 (m0 (cS I 5)) J (fun r' I2 J2 => (-1 : Int32) = r' ∧ Inv I2 J2) := q_refused ⟨rfl, er 5⟩
    refine ⟨fun _ => fin, fun c => ⟨fun c2 => ?_, fun _ => fin⟩⟩
    have c2' : x ≤ m0 (cS I 5) 72 8 := c2
    rw [m8'] at c2'
    exact absurd hb (fun z => z.elim c (fun y => y c2'))
  unfold w_X10_net
  rw [m13]
  refine ⟨fun c => bad (Or.inl c), fun c => ⟨fun c2 => ?_, fun c2 => bad (Or.inr c2)⟩⟩
  obtain ⟨n, hn31, rfl⟩ := nI_of c
  rw [nI_leI hn31 (by omega)] at c2
  have hn : n ≤ 600 := by omega
  obtain ⟨tx, htx⟩ : ∃ tx, cTx I n tx := ⟨fun k => (Int32.toInt8 (I 10 k)).toBitVec.toNat, fun k hk => sbAt (mt k (by omega)).2⟩
  refine c_net hn htx c9 (fun r I1 J1 cr => ?_)
  obtain ⟨f1, f2, f3, f4⟩ := cr
  refine m_net (m := m) (tx := tx) c2 m600 ?_ (fun k hk => ?_) (fun r' I2 J2 mr => ?_)
  · rw [f1 72 (by decide) (by omega) (by decide)]; exact m8
  · rw [f1 76 (by decide) (by omega) (by decide), ← (mt k (by omega)).1]; exact htx k hk
  · obtain ⟨g1, g2, g3, g4⟩ := mr
    have t5 : ∀ k, k < 4 → tOk I2 J2 k := fun k hk => by
      have l : ∀ c, c ≠ 0 → ¬ (12 ≤ c ∧ c ≤ 36) → c ≠ 54 → c ≠ 72 → ¬ (77 ≤ c ∧ c ≤ 90) → I2 c = I c := fun c h1 h2 h3 h4 h5 => (g1 c h4 h5).trans (f1 c h1 h2 h3)
      have lj : ∀ c, c ≠ 36 → c ≠ 38 → c ≠ 40 → c ≠ 72 → c ≠ 89 → J2 c = J c := fun c h1 h2 h3 h4 h5 => (g3.1 c h4 h5).trans (f3 c h1 h2 h3)
      unfold tOk
      rw [l (2 + 2 * k) (by omega) (by omega) (by omega) (by omega) (by omega), l 73 (by decide) (by omega) (by decide) (by decide) (by omega), l 74 (by decide) (by omega) (by decide) (by decide) (by omega), lj (3 + 2 * k) (by omega) (by omega) (by omega) (by omega) (by omega), lj 75 (by decide) (by decide) (by decide) (by decide) (by decide)]
      exact c5 k hk
    have t6 : tpOk I2 := ⟨0, Nat.zero_le _, by rw [g1 0 (by decide) (by omega)]; exact f2, g2, fun k hk => absurd hk (Nat.not_lt_zero _)⟩
    have t9 : rdW J2 := fun i hi => by rw [g3.1 37 (by decide) (by decide), f3 37 (by decide) (by decide) (by decide)]; exact c9 i hi
    have tf : J2 11 0 = J2 72 2 ∧ J2 11 1 = J2 72 3 := by
      rw [g3.1 11 (by decide) (by decide), f3 11 (by decide) (by decide) (by decide), g3.2 2 (by decide), g3.2 3 (by decide), f3 72 (by decide) (by decide) (by decide)]; exact h2
    cases hs : prsS n tx with
    | inl q =>
      rw [hs] at f4 g4
      obtain ⟨-, p1, p2, p3, p4, p5, p6, p7⟩ := f4
      obtain ⟨q1, q2, q3, q4, q5, q6, q7, q8⟩ := g4
      have l1 : ∀ c, 12 ≤ c → c ≤ 23 → I2 c = I c := fun c h1 h2 => (g1 c (by omega) (by omega)).trans (p5 c h1 h2)
      have i72 : I1 72 = I 72 := f1 72 (by decide) (by omega) (by decide)
      have ic : ∀ c, 77 ≤ c → c ≤ 90 → I1 c = I c := fun c h1 h2 => f1 c (by omega) (by omega) (by omega)
      refine ⟨p1.trans q1.symm, N, ⟨c1, cNet_of cN2 l1, mNet_of c3 (by rw [q6, i72]) (by rw [q7, i72]) ⟨q5.1.trans (ic 77 (by omega) (by omega)), q5.2.1.trans (ic 79 (by omega) (by omega)), q5.2.2.1.trans (ic 80 (by omega) (by omega)), q5.2.2.2.1.trans (ic 81 (by omega) (by omega)), q5.2.2.2.2.1.trans (ic 82 (by omega) (by omega)), q5.2.2.2.2.2.trans (ic 87 (by omega) (by omega))⟩, ?_, t5, t6, ⟨?_, ?_⟩, ?_, t9⟩, ?_, tf⟩
      · unfold cWt
        rw [g3.1 40 (by decide) (by decide), p7]
        exact c4
      · rw [g1 0 (by decide) (by omega), p3, q3]
      · rw [g1 0 (by decide) (by omega), p4, q4]
      · obtain ⟨rr, r1, r2, r3, r4⟩ := c8
        refine ⟨rr, r1, ?_, ?_, fun a ha p hp => ?_⟩
        · rw [g1 54 (by decide) (by omega), p6]; exact r2
        · rw [q8, i72]; exact r3
        · rw [g1 (56 + a) (by omega) (by omega), f1 (56 + a) (by omega) (by omega) (by omega), g1 91 (by decide) (by omega), f1 91 (by decide) (by omega) (by decide)]; exact r4 a ha p hp
      · rw [g1 0 (by decide) (by omega), p2, q2]
    | inr D =>
      rw [hs] at f4 g4
      obtain ⟨hD, p1, p2, p3, p4, p5, p6, p7⟩ := f4
      obtain ⟨-, q1, q2, q3, q4, q5, q6⟩ := g4
      refine ⟨p1.trans q1.symm, D.1, ⟨hD.1, cNet_of p5 (fun c h1 h2 => g1 c (by omega) (by omega)), q5, ?_, t5, t6, ⟨?_, ?_⟩, ?_, t9⟩, ?_, tf⟩
      · unfold cWt
        rw [g3.1 40 (by decide) (by decide)]
        exact p6
      · rw [g1 0 (by decide) (by omega), p3, q3]
      · rw [g1 0 (by decide) (by omega), p4, q4]
      · refine ⟨0, Nat.zero_le _, ?_, q6, fun a ha => absurd ha (Nat.not_lt_zero _)⟩
        rw [g1 54 (by decide) (by omega)]; exact p7
      · rw [g1 0 (by decide) (by omega), p2, q2]
