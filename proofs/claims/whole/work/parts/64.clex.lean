theorem wb_tb (n : Nat) : (lN n).toBitVec = BitVec.ofNat 64 n := rfl
theorem wb_inj {a b : Int64} (h : a.toBitVec = b.toBitVec) : a = b := Int64.toBitVec_inj.mp h
theorem wb_c : ∀ k, k < 64 → ((nI k).toInt64 &&& 63) = lN k := by decide +kernel
theorem wb_sm : ∀ k, k < 64 → (BitVec.ofNat 64 k).smod 64 = BitVec.ofNat 64 k := by decide +kernel
theorem wb_shl (n : Nat) {k : Nat} (hk : k < 64) : lN n <<< ((nI k).toInt64 &&& 63) = lN (n * 2 ^ k) := by
  rw [wb_c k hk]
  apply wb_inj
  rw [Int64.toBitVec_shiftLeft, wb_tb, wb_tb, wb_tb, wb_sm k hk]
  apply BitVec.eq_of_toNat_eq
  rw [BitVec.shiftLeft_eq', BitVec.toNat_shiftLeft, BitVec.toNat_ofNat, BitVec.toNat_ofNat, BitVec.toNat_ofNat, Nat.mod_eq_of_lt (show k < 2 ^ 64 by omega), Nat.shiftLeft_eq, Nat.mul_mod, Nat.mod_mod, ← Nat.mul_mod]
theorem wb_or {a b : Nat} (ha : a < 2 ^ 64) (hb : b < 2 ^ 64) : lN a ||| lN b = lN (a ||| b) := by
  apply wb_inj
  rw [Int64.toBitVec_or, wb_tb, wb_tb, wb_tb]
  apply BitVec.eq_of_toNat_eq
  rw [BitVec.toNat_or, BitVec.toNat_ofNat, BitVec.toNat_ofNat, BitVec.toNat_ofNat, Nat.mod_eq_of_lt ha, Nat.mod_eq_of_lt hb, Nat.mod_eq_of_lt (Nat.or_lt_two_pow ha hb)]
theorem sh5or {w d : Nat} (hw : w < 2 ^ 50) (hd : d < 32) : (lN w <<< (Int32.toInt64 5 &&& 63)) ||| lN d = lN (w * 32 + d) := by
  have := wb_shl w (k := 5) (by decide)
  rw [show (Int32.toInt64 5 &&& 63) = ((nI 5).toInt64 &&& 63) from rfl, this, wb_or (by omega) (by omega)]
  have e : w * 2 ^ 5 ||| d = w * 32 + d := by
    rw [← Nat.shiftLeft_eq, ← Nat.shiftLeft_add_eq_or_of_lt (by omega : d < 2 ^ 5), Nat.shiftLeft_eq]
  rw [e]
theorem isL_iff {v : Nat} : isL v = true ↔ 97 ≤ v ∧ v ≤ 122 := by unfold isL; rw [Bool.and_eq_true, decide_eq_true_eq, decide_eq_true_eq]
theorem isD_iff {v : Nat} : isD v = true ↔ 48 ≤ v ∧ v ≤ 57 := by unfold isD; rw [Bool.and_eq_true, decide_eq_true_eq, decide_eq_true_eq]
theorem isL_f {v : Nat} : isL v = false ↔ ¬ (97 ≤ v ∧ v ≤ 122) := by rw [← isL_iff, Bool.not_eq_true]
theorem isD_f {v : Nat} : isD v = false ↔ ¬ (48 ≤ v ∧ v ≤ 57) := by rw [← isD_iff, Bool.not_eq_true]
theorem isB_iff {v : Nat} : isB v = true ↔ v = 10 ∨ v = 32 := by unfold isB; rw [Bool.or_eq_true, decide_eq_true_eq, decide_eq_true_eq]
theorem isB_f {v : Nat} : isB v = false ↔ ¬ (v = 10 ∨ v = 32) := by rw [← isB_iff, Bool.not_eq_true]
/-- the text, as the class's cells hold it -/
def cTx (I : HI) (n : Nat) (tx : Nat → Nat) : Prop := ∀ k, k < n → tx k < 256 ∧ I 10 k = sb (tx k)
def run (n : Nat) (tx : Nat → Nat) (f : Nat → Bool) (s r : Nat) : Prop := s ≤ r ∧ r ≤ n ∧ (∀ k, s ≤ k → k < r → f (tx k) = true) ∧ (r < n → f (tx r) = false)
theorem wds_lt : ∀ i, i < 13 → wds.getD i 0 < 2 ^ 60 := by decide
theorem p32_8 {m : Nat} (h : m ≤ 8) : 32 ^ m ≤ 2 ^ 40 := Nat.le_trans (Nat.pow_le_pow_right (n := 32) (by decide) h) (by decide)
theorem q_takeWord {I : HI} {J : HJ} {n s we : Nat} {tx : Nat → Nat} (hn : n ≤ 600) (h4 : I 36 4 = nI n) (h5 : I 36 5 = nI s) (h6 : I 36 6 = nI s) (htx : cTx I n tx) (hw : rdW J) (hr : run n tx isL s we) {Post : HI → HJ → Prop} (h : ∀ I' J', (∀ c, c ≠ 36 → I' c = I c) → (∀ k, k ≠ 6 → k ≠ 7 → I' 36 k = I 36 k) → I' 36 6 = nI we → I' 36 7 = nI (if 8 < we - s then 4 else kwl (wvl tx s (we - s)) 13) → (∀ c, c ≠ 36 → J' c = J c) → (we - s ≤ 8 → J' 36 9 = lN (wvl tx s (we - s))) → Post I' J') : w_X5_takeWord I J Post := by
  obtain ⟨r1, r2, r3, r4⟩ := hr
  intro J1 e1
  refine lp_inv (fun m (st : HI × HJ) => (∀ c, c ≠ 36 → st.1 c = I c) ∧ (∀ k, k ≠ 6 → st.1 36 k = I 36 k) ∧ st.1 36 6 = nI (s + m) ∧ (∀ c, c ≠ 36 → st.2 c = J c) ∧ (m ≤ 8 → st.2 36 9 = lN (wvl tx s m))) (we - s) (fun m st hm hq K hK => ?_) (fun st hq K => ?_) (I, J1) ⟨fun _ _ => rfl, fun _ _ => rfl, h6, fun c hc => by show J1 c = _; rw [e1, hJ_ne hc], fun _ => by show J1 36 9 = _; rw [e1, hJ_at, if_pos rfl]; rfl⟩
  · obtain ⟨I2, J2⟩ := st
    obtain ⟨g1, g2, g3, g4, g5⟩ := hq
    dsimp only at g1 g2 g3 g4 g5
    obtain ⟨t1, t2⟩ := htx (s + m) (by omega)
    have lt := isL_iff.mp (r3 (s + m) (by omega) (by omega))
    obtain ⟨b1, b2, b3, b4, b5, b6, b7, b8, b9⟩ := sb_ok t1
    have v6 : vp_in (nI (s + m)) 600 := vp_in_nI (by omega) (by omega)
    show wb_X5_takeWord_5 Post _ K (I2, J2)
    unfold wb_X5_takeWord_5
    dsimp only
    rw [g2 4 (by decide), h4, g3, nI_clamp (by omega : s + m < 2 ^ 31), g1 10 (by decide), t2, b3, b4, nI_1]
    refine ⟨fun c => absurd c (nI_ge (by omega) (by omega)), fun _ => ⟨v6, fun c => (by omega), fun _ => ⟨v6, fun c => (by omega), fun _ => ⟨v6, fun J3 e3 I3 e4 => hK _ ⟨fun c hc => ?_, fun k hk => ?_, ?_, fun c hc => ?_, fun m8 => ?_⟩⟩⟩⟩⟩
    · show I3 c = _
      rw [e4, hI_ne hc]; exact g1 c hc
    · show I3 36 k = _
      rw [e4, hI_at, if_neg hk]; exact g2 k hk
    · show I3 36 6 = _
      rw [e4, hI_at, if_pos rfl]; rfl
    · show J3 c = _
      rw [e3, hJ_ne hc]; exact g4 c hc
    · show J3 36 9 = lN (wvl tx s m * 32 + (tx (s + m) - 96))
      have wl := wvl_lt (tx := tx) (s := s) m (fun k hk => r3 (s + k) (by omega) (by omega))
      have w8 := p32_8 (m := m) (by omega)
      rw [e3, hJ_at, if_pos rfl, g5 (by omega), b9 (by omega), show (97 : Int32) = nI 97 from rfl, pk_sub (by omega), nI_1, nI_l (by omega), sh5or (by omega) (by omega), show tx (s + m) - 97 + 1 = tx (s + m) - 96 by omega]
  · obtain ⟨I2, J2⟩ := st
    obtain ⟨g1, g2, g3, g4, g5⟩ := hq
    dsimp only at g1 g2 g3 g4 g5
    rw [show s + (we - s) = we by omega] at g3
    have fin : ∀ I6 : HI, I6 = hI I2 36 7 4 → ((8 < ((I6 36 6) - (I6 36 5)) → (Post I6 J2)) ∧ (¬ 8 < ((I6 36 6) - (I6 36 5)) → (∀ I_7 : HI, I_7 = hI I6 36 7 5 → (∃ n, lp (wb_X5_takeWord_109 J2 Post (fun (I_9 : HI) => Post I_9 J2)) n (0, I_7))))) := fun I6 e6 => by
      have f6 : I6 36 6 = nI we := by rw [e6, hI_at, if_neg (by decide)]; exact g3
      have f5 : I6 36 5 = nI s := by rw [e6, hI_at, if_neg (by decide), g2 5 (by decide)]; exact h5
      rw [f6, f5, pk_sub r1, show (8 : Int32) = nI 8 from rfl, nI_ltI (by omega) (by omega)]
      refine ⟨fun c => h I6 J2 (fun c hc => ?_) (fun k k6 k7 => ?_) f6 ?_ g4 (fun z => absurd c (by omega)), fun c I7 e7 => ?_⟩
      · rw [e6, hI_ne hc]; exact g1 c hc
      · rw [e6, hI_at, if_neg k7]; exact g2 k k6
      · rw [e6, hI_at, if_pos rfl, if_pos c]; rfl
      · have wl := wvl_lt (tx := tx) (s := s) (we - s) (fun k hk => r3 (s + k) (by omega) (by omega))
        have w8 := p32_8 (m := we - s) (by omega)
        refine lp_inv (fun i (st : Int32 × HI) => st.1 = nI i ∧ (∀ c, c ≠ 36 → st.2 c = I c) ∧ (∀ k, k ≠ 6 → k ≠ 7 → st.2 36 k = I 36 k) ∧ st.2 36 6 = nI we ∧ st.2 36 7 = nI (kwl (wvl tx s (we - s)) i)) 13 (fun i st hi hq K2 hK2 => ?_) (fun st hq K2 => ?_) (0, I7) ⟨rfl, fun c hc => ?_, fun k k6 k7 => ?_, ?_, ?_⟩
        · obtain ⟨x1, I8⟩ := st
          obtain ⟨a1, i1, i2, i3, i4⟩ := hq
          dsimp only at a1 i1 i2 i3 i4
          subst a1
          have wi := wds_lt i hi
          have st : kwl (wvl tx s (we - s)) (i + 1) = if wds.getD i 0 = wvl tx s (we - s) then 6 + i else kwl (wvl tx s (we - s)) i := rfl
          show wb_X5_takeWord_109 J2 Post _ K2 (nI i, I8)
          unfold wb_X5_takeWord_109
          dsimp only
          rw [nI_clamp (by omega : i < 2 ^ 31), g4 37 (by decide), hw i hi, g5 (by omega), pk_lEQ (by omega) (by omega), nI_1 i, show (6 : Int32) = nI 6 from rfl, nI_add]
          refine ⟨fun z => absurd z (nI_ge (b := 13) hi (by decide)), fun _ => ⟨vp_in_nI hi (by decide), fun z => hK2 _ ⟨rfl, i1, i2, i3, by rw [st, if_neg z]; exact i4⟩, fun z I9 e9 => hK2 _ ⟨rfl, fun c hc => ?_, fun k k6 k7 => ?_, ?_, ?_⟩⟩⟩
          · show I9 c = _
            rw [e9, hI_ne hc]; exact i1 c hc
          · show I9 36 k = _
            rw [e9, hI_at, if_neg k7]; exact i2 k k6 k7
          · show I9 36 6 = _
            rw [e9, hI_at, if_neg (by decide)]; exact i3
          · show I9 36 7 = _
            rw [e9, hI_at, if_pos rfl, st, if_pos z]
        · obtain ⟨x1, I8⟩ := st
          obtain ⟨a1, i1, i2, i3, i4⟩ := hq
          dsimp only at a1 i1 i2 i3 i4
          subst a1
          exact ⟨fun _ => h I8 J2 i1 i2 i3 (by rw [if_neg c]; exact i4) g4 g5, fun z => absurd (by decide) z⟩
        · show I7 c = _
          rw [e7, hI_ne hc, e6, hI_ne hc]; exact g1 c hc
        · show I7 36 k = _
          rw [e7, hI_at, if_neg k7, e6, hI_at, if_neg k7]; exact g2 k k6
        · show I7 36 6 = _
          rw [e7, hI_at, if_neg (by decide)]; exact f6
        · show I7 36 7 = _
          rw [e7, hI_at, if_pos rfl]; rfl
    show wb_X5_takeWord_5 Post _ K (I2, J2)
    unfold wb_X5_takeWord_5
    dsimp only
    rw [g2 4 (by decide), h4, g3, nI_clamp (by omega : we < 2 ^ 31), g1 10 (by decide)]
    refine ⟨fun _ => fin, fun c => ?_⟩
    rw [nI_leI (by omega) (by omega)] at c
    obtain ⟨t1, t2⟩ := htx we (by omega)
    have lt := isL_f.mp (r4 (by omega))
    obtain ⟨b1, b2, b3, b4, b5, b6, b7, b8, b9⟩ := sb_ok t1
    have v6 : vp_in (nI we) 600 := vp_in_nI (by omega) (by omega)
    rw [t2, b3, b4]
    exact ⟨v6, fun _ => fin, fun c1 => ⟨v6, fun _ => fin, fun c2 => (by omega)⟩⟩
theorem q_takeNumber {I : HI} {J : HJ} {n s de : Nat} {tx : Nat → Nat} (hn : n ≤ 600) (h4 : I 36 4 = nI n) (h5 : I 36 5 = nI s) (h6 : I 36 6 = nI s) (htx : cTx I n tx) (hr : run n tx isD s de) {Post : HI → Prop} (h : ∀ I', (∀ c, c ≠ 36 → I' c = I c) → (∀ k, k ≠ 6 → k ≠ 7 → k ≠ 8 → I' 36 k = I 36 k) → I' 36 6 = nI de → I' 36 7 = nI (if 3 < de - s then 1 else 2) → (de - s ≤ 3 → I' 36 8 = nI (nvl tx s (de - s))) → Post I') : w_X5_takeNumber I J Post := by
  obtain ⟨r1, r2, r3, r4⟩ := hr
  intro I1 e1
  refine lp_inv (fun m (I2 : HI) => (∀ c, c ≠ 36 → I2 c = I c) ∧ (∀ k, k ≠ 6 → k ≠ 8 → I2 36 k = I 36 k) ∧ I2 36 6 = nI (s + m) ∧ (m ≤ 3 → I2 36 8 = nI (nvl tx s m))) (de - s) (fun m I2 hm hq K hK => ?_) (fun I2 hq K => ?_) I1 ⟨fun c hc => by rw [e1, hI_ne hc], fun k k6 k8 => by rw [e1, hI_at, if_neg k8], by rw [e1, hI_at, if_neg (by decide)]; exact h6, fun _ => by rw [e1, hI_at, if_pos rfl]; rfl⟩
  · obtain ⟨g1, g2, g3, g4⟩ := hq
    obtain ⟨t1, t2⟩ := htx (s + m) (by omega)
    have lt := isD_iff.mp (r3 (s + m) (by omega) (by omega))
    obtain ⟨b1, b2, b3, b4, b5, b6, b7, b8, b9⟩ := sb_ok t1
    have v6 : vp_in (nI (s + m)) 600 := vp_in_nI (by omega) (by omega)
    show wb_X5_takeNumber_5 J Post _ K I2
    unfold wb_X5_takeNumber_5
    rw [g2 4 (by decide) (by decide), h4, g3, g2 5 (by decide) (by decide), h5, pk_sub (by omega : s ≤ s + m), show s + m - s = m by omega, nI_clamp (by omega : s + m < 2 ^ 31), g1 10 (by decide), t2, b5, b6, show (3 : Int32) = nI 3 from rfl, nI_leI (a := 3) (b := m) (by omega) (by omega), nI_1]
    refine ⟨fun c => absurd c (nI_ge (by omega) (by omega)), fun _ => ⟨v6, fun c => (by omega), fun _ => ⟨v6, fun c => (by omega), fun _ => ⟨fun c I3 e3 => hK _ ⟨fun c hc => ?_, fun k k6 k8 => ?_, ?_, fun z => absurd z (by omega)⟩, fun c => ⟨v6, fun I3 e3 I4 e4 => hK _ ⟨fun c hc => ?_, fun k k6 k8 => ?_, ?_, fun z => ?_⟩⟩⟩⟩⟩⟩
    · rw [e3, hI_ne hc]; exact g1 c hc
    · rw [e3, hI_at, if_neg k6]; exact g2 k k6 k8
    · rw [e3, hI_at, if_pos rfl]; rfl
    · rw [e4, hI_ne hc, e3, hI_ne hc]; exact g1 c hc
    · rw [e4, hI_at, if_neg k6, e3, hI_at, if_neg k8]; exact g2 k k6 k8
    · rw [e4, hI_at, if_pos rfl, e3, hI_at, if_neg (by decide), g3, nI_1]; rfl
    · rw [e4, hI_at, if_neg (by decide), e3, hI_at, if_pos rfl, g4 (by omega), b9 (by omega), show (10 : Int32) = nI 10 from rfl, pk_mul, nI_add, show (48 : Int32) = nI 48 from rfl, pk_sub (by omega)]
      show _ = nI (nvl tx s m * 10 + (tx (s + m) - 48))
      rw [show nvl tx s m * 10 + tx (s + m) - 48 = nvl tx s m * 10 + (tx (s + m) - 48) by omega]
  · obtain ⟨g1, g2, g3, g4⟩ := hq
    rw [show s + (de - s) = de by omega] at g3
    have fin : (3 < ((I2 36 6) - (I2 36 5)) → (∀ I_6 : HI, I_6 = hI I2 36 7 1 → (Post I_6))) ∧ (¬ 3 < ((I2 36 6) - (I2 36 5)) → (∀ I_7 : HI, I_7 = hI I2 36 7 2 → (Post I_7))) := by
      rw [g3, g2 5 (by decide) (by decide), h5, pk_sub r1, show (3 : Int32) = nI 3 from rfl, nI_ltI (by omega) (by omega)]
      have go : ∀ (v : Nat) (I6 : HI), v = (if 3 < de - s then 1 else 2) → I6 = hI I2 36 7 (nI v) → Post I6 := fun v I6 ev e6 => by
        refine h I6 (fun c hc => ?_) (fun k k6 k7 k8 => ?_) ?_ ?_ (fun z => ?_)
        · rw [e6, hI_ne hc]; exact g1 c hc
        · rw [e6, hI_at, if_neg k7]; exact g2 k k6 k8
        · rw [e6, hI_at, if_neg (by decide)]; exact g3
        · rw [e6, hI_at, if_pos rfl, ev]
        · rw [e6, hI_at, if_neg (by decide)]; exact g4 z
      exact ⟨fun c I6 e6 => go 1 I6 (if_pos c).symm e6, fun c I6 e6 => go 2 I6 (if_neg c).symm e6⟩
    show wb_X5_takeNumber_5 J Post _ K I2
    unfold wb_X5_takeNumber_5
    have h36 := g2 4 (by decide) (by decide)
    rw [h36, h4, g3]
    refine ⟨fun _ => fin, fun c => ?_⟩
    rw [nI_leI (by omega) (by omega)] at c
    obtain ⟨t1, t2⟩ := htx de (by omega)
    have lt := isD_f.mp (r4 (by omega))
    obtain ⟨b1, b2, b3, b4, b5, b6, b7, b8, b9⟩ := sb_ok t1
    have v6 : vp_in (nI de) 600 := vp_in_nI (by omega) (by omega)
    rw [nI_clamp (by omega : de < 2 ^ 31), g1 10 (by decide), t2, b5, b6]
    exact ⟨v6, fun _ => fin, fun c1 => ⟨v6, fun _ => fin, fun c2 => (by omega)⟩⟩
