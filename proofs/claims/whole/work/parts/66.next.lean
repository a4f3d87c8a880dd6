/-! the model's tokens -/
def mTx (I : HI) (n : Nat) (tx : Nat → Nat) : Prop := I 72 9 = nI n ∧ ∀ k, k < n → tx k < 256 ∧ I 76 k = sb (tx k)
def lk (n : Nat) (tx : Nat → Nat) (p : Nat) : Nat := if p < n then tx p else 0
theorem lk_lt {I : HI} {n : Nat} {tx : Nat → Nat} (h : mTx I n tx) (p : Nat) : lk n tx p < 256 := by
  unfold lk
  split
  · rename_i c; exact (h.2 p c).1
  · decide
theorem lk_in {n p : Nat} {tx : Nat → Nat} (h : p < n) : lk n tx p = tx p := if_pos h
theorem lk_out {n p : Nat} {tx : Nat → Nat} (h : n ≤ p) : lk n tx p = 0 := if_neg (by omega)
theorem q_look {I : HI} {J : HJ} {n p : Nat} {tx : Nat → Nat} (hn : n ≤ 600) (hp : p < 2 ^ 31) (h : mTx I n tx) {Post : Int32 → Prop} (hpo : Post (nI (lk n tx p))) : w_X11_look (nI p) I J Post := by
  unfold w_X11_look
  rw [h.1, nI_leI (by omega) hp, nI_clamp hp]
  refine ⟨fun c => ?_, fun c => ⟨vp_in_nI (by omega) (by omega), ?_⟩⟩
  · rw [lk_out c] at hpo; exact hpo
  · rw [lk_in (by omega)] at hpo
    obtain ⟨t1, t2⟩ := h.2 p (by omega)
    rw [t2, (sb_ok t1).2.2.2.2.2.2.2.1]
    exact hpo
theorem q_mLet {v : Nat} (hv : v < 256) {Post : Bool → Prop} (h : Post (isL v)) : w_X11_isLetter (nI v) Post := by
  unfold w_X11_isLetter
  rw [show (97 : Int32) = nI 97 from rfl, show (122 : Int32) = nI 122 from rfl, nI_ltI (by omega) (by omega), nI_ltI (by omega) (by omega)]
  refine ⟨fun c => ?_, fun c => ⟨fun c2 => ?_, fun c2 => ?_⟩⟩
  · rw [isL_f.mpr (by omega)] at h; exact h
  · rw [isL_f.mpr (by omega)] at h; exact h
  · rw [isL_iff.mpr (by omega)] at h; exact h
theorem q_mDig {v : Nat} (hv : v < 256) {Post : Bool → Prop} (h : Post (isD v)) : w_X11_isDigit (nI v) Post := by
  unfold w_X11_isDigit
  rw [show (48 : Int32) = nI 48 from rfl, show (57 : Int32) = nI 57 from rfl, nI_ltI (by omega) (by omega), nI_ltI (by omega) (by omega)]
  refine ⟨fun c => ?_, fun c => ⟨fun c2 => ?_, fun c2 => ?_⟩⟩
  · rw [isD_f.mpr (by omega)] at h; exact h
  · rw [isD_f.mpr (by omega)] at h; exact h
  · rw [isD_iff.mpr (by omega)] at h; exact h
def srt (k : Nat) : Nat := if k = 0 then 0 else if k = 1 then 4 else if k = 2 then 2 else if k = 3 then 3 else 1
def mTok (n : Nat) (tx : Nat → Nat) (I : HI) (J : HJ) (e : Nat) : Prop := I 72 15 = nI (tSt n tx e) ∧ I 72 16 = nI (tEn n tx e) ∧ I 72 14 = nI (srt (tKd n tx e)) ∧ (tKd n tx e = 2 → I 72 17 = nI (tNu n tx e)) ∧ (4 ≤ tKd n tx e → I 72 18 = nI (tEn n tx e - tSt n tx e) ∧ (8 < tEn n tx e - tSt n tx e ↔ tKd n tx e = 4)) ∧ (tKd n tx e = 4 → J 72 19 = -1) ∧ (5 ≤ tKd n tx e → J 72 19 = lN (tWd n tx e))
def mFr2 (I : HI) (J : HJ) (I' : HI) (J' : HJ) : Prop := (∀ c, c ≠ 72 → I' c = I c) ∧ (∀ k, ¬ (14 ≤ k ∧ k ≤ 18) → I' 72 k = I 72 k) ∧ (∀ c, c ≠ 72 → J' c = J c) ∧ ∀ k, k ≠ 19 → J' 72 k = J 72 k
theorem mf_w {I I' : HI} {J J' : HJ} (h : mFr2 I J I' J') {k : Nat} {v : Int32} (hk : 14 ≤ k ∧ k ≤ 18) : mFr2 I J (hI I' 72 k v) J' := by
  refine ⟨fun c hc => ?_, fun j hj => ?_, h.2.2.1, h.2.2.2⟩
  · rw [hI_ne hc]; exact h.1 c hc
  · rw [hI_at, if_neg (by omega)]; exact h.2.1 j hj
theorem mf_j {I I' : HI} {J J' : HJ} (h : mFr2 I J I' J') {v : Int64} : mFr2 I J I' (hJ J' 72 19 v) := by
  refine ⟨h.1, h.2.1, fun c hc => ?_, fun j hj => ?_⟩
  · rw [hJ_ne hc]; exact h.2.2.1 c hc
  · rw [hJ_at, if_neg hj]; exact h.2.2.2 j hj
theorem mf_tx {I I' : HI} {J J' : HJ} {n : Nat} {tx : Nat → Nat} (h : mFr2 I J I' J') (ht : mTx I n tx) : mTx I' n tx := by
  refine ⟨?_, fun k hk => ?_⟩
  · rw [h.2.1 9 (by omega)]; exact ht.1
  · rw [h.1 76 (by decide)]; exact ht.2 k hk
theorem mf_rf (I : HI) (J : HJ) : mFr2 I J I J := ⟨fun _ _ => rfl, fun _ _ => rfl, fun _ _ => rfl, fun _ _ => rfl⟩
theorem n32 (w d : Nat) (hd : 96 ≤ d) : ((lN w * 32) + lN d) - 96 = lN (w * 32 + (d - 96)) := by
  rw [show (32 : Int64) = lN 32 from rfl, lN_mul, lN_add, show (96 : Int64) = lN 96 from rfl]
  have : lN (w * 32 + d) = lN (w * 32 + (d - 96)) + lN 96 := by rw [lN_add, show w * 32 + (d - 96) + 96 = w * 32 + d by omega]
  rw [this, Int64.add_sub_cancel]
theorem q_next {I : HI} {J : HJ} {n e : Nat} {tx : Nat → Nat} (hn : n ≤ 600) (he : e ≤ n) (h16 : I 72 16 = nI e) (htx : mTx I n tx) {Post : HI → HJ → Prop} (h : ∀ I' J', mFr2 I J I' J' → mTok n tx I' J' e → Post I' J') : w_X11_next I J Post := by
  have tk := tk_ok (tx := tx) hn he
  obtain ⟨p1, p2, p3, p4⟩ := pst_ok n tx isB 600 e he (by omega)
  have p1' : e ≤ tSt n tx e := p1
  have p2' : tSt n tx e ≤ n := p2
  have p3' : ∀ k, e ≤ k → k < tSt n tx e → isB (tx k) = true := p3
  have p4' : tSt n tx e < n → isB (tx (tSt n tx e)) = false := p4
  intro I1 e1
  have f1 : mFr2 I J I1 J := by rw [e1]; exact mf_w (mf_rf I J) (by omega)
  refine lp_inv (fun i (I2 : HI) => mFr2 I J I2 J ∧ I2 72 15 = nI (e + i)) (tSt n tx e - e) (fun i I2 hi hq K hK => ?_) (fun I2 hq K => ?_) I1 ⟨f1, by rw [e1, hI_at, if_pos rfl]; exact h16⟩
  · obtain ⟨g1, g2⟩ := hq
    have lt := isB_iff.mp (p3' (e + i) (by omega) (by omega))
    have t := mf_tx g1 htx
    have ll : lk n tx (e + i) = tx (e + i) := lk_in (by omega)
    have lv := lk_lt t (e + i)
    have nx : ∀ I4 : HI, I4 = hI I2 72 15 (nI (e + i + 1)) → K I4 := fun I4 e4 => hK _ ⟨by rw [e4]; exact mf_w g1 (by omega), by rw [e4, hI_at, if_pos rfl]; rfl⟩
    show wb_X11_next_8 J Post _ K I2
    unfold wb_X11_next_8
    rw [t.1, g2, nI_1]
    refine ⟨fun c => absurd c (nI_ge (by omega) (by omega)), fun _ => q_look hn (by omega) t ⟨fun _ => nx, fun c1 => q_look hn (by omega) t ⟨fun c2 => ?_, fun _ => nx⟩⟩⟩
    exfalso
    rw [show (10 : Int32) = nI 10 from rfl, nI_eq (by omega) (by omega)] at c1
    rw [show (32 : Int32) = nI 32 from rfl, nI_eq (by omega) (by omega)] at c2
    omega
  · obtain ⟨g1, g2⟩ := hq
    rw [show e + (tSt n tx e - e) = tSt n tx e by omega] at g2
    have t := mf_tx g1 htx
    have fin : ∀ I7 : HI, I7 = hI I2 72 16 (nI (tSt n tx e)) → (((I7 72 15) < (I7 72 9) → (w_X11_look (I7 72 15) I7 J (fun (r_8 : Int32) => (w_X11_isLetter r_8 (fun (r_9 : Bool) => ((r_9 = false → (w_X11_isDigit r_8 (fun (r_10 : Bool) => ((r_10 = false → (∀ I_11 : HI, I_11 = hI I7 72 16 ((I7 72 15) + 1) → (∀ I_12 : HI, I_12 = hI I_11 72 17 r_8 → ((¬ r_8 = 59 → (∀ I_13 : HI, I_13 = hI I_12 72 14 4 → (Post I_13 J))) ∧ (r_8 = 59 → (∀ I_14 : HI, I_14 = hI I_12 72 14 3 → (Post I_14 J))))))) ∧ (r_10 = true → (∀ I_15 : HI, I_15 = hI I7 72 17 0 → (∃ n, lp (wb_X11_next_210 J Post (fun (I_22 : HI) => (((I_22 72 16) - (I_22 72 15)) ≤ 3 → (∀ I_23 : HI, I_23 = hI I_22 72 14 2 → (Post I_23 J))) ∧ (¬ ((I_22 72 16) - (I_22 72 15)) ≤ 3 → (∀ I_24 : HI, I_24 = hI I_22 72 14 4 → (Post I_24 J))))) n I_15))))))) ∧ (r_9 = true → (∀ I_25 : HI, I_25 = hI I7 72 14 1 → (∀ J_26 : HJ, J_26 = hJ J 72 19 0 → (∃ n, lp (wb_X11_next_109 Post (fun (I_32 : HI) (J_33 : HJ) => ∀ I_34 : HI, I_34 = hI I_32 72 18 ((I_32 72 16) - (I_32 72 15)) → (Post I_34 J_33))) n (I_25, J_26))))))))))) ∧ (¬ (I7 72 15) < (I7 72 9) → (∀ I_35 : HI, I_35 = hI I7 72 14 0 → (Post I_35 J)))) := fun I7 e7 => by
      have f7 : mFr2 I J I7 J := by rw [e7]; exact mf_w g1 (by omega)
      have t7 := mf_tx f7 htx
      have i15 : I7 72 15 = nI (tSt n tx e) := by rw [e7, hI_at, if_neg (by decide)]; exact g2
      have i16 : I7 72 16 = nI (tSt n tx e) := by rw [e7, hI_at, if_pos rfl]
      rw [t7.1, i15, nI_ltI (by omega) (by omega)]
      refine ⟨fun c => q_look hn (by omega) t7 ?_, fun c I8 e8 => h I8 J (by rw [e8]; exact mf_w f7 (by omega)) ⟨?_, ?_, ?_, fun z => ?_, fun z => ?_, fun z => ?_, fun z => ?_⟩⟩
      · rw [lk_in c]
        have nc : ¬ n ≤ tSt n tx e := by omega
        have lv := (t7.2 _ c).1
        refine q_mLet lv ⟨fun nL => q_mDig lv ⟨fun nD I11 e11 I12 e12 => ?_, fun yD I15 e15 => ?_⟩, fun yL I25 e25 J26 e26 => ?_⟩
        · have kd : tKd n tx e = if tx (tSt n tx e) = 59 then 3 else 1 := by unfold tKd; rw [if_neg nc, if_neg (by rw [nL]; decide), if_neg (by rw [nD]; decide)]
          have en : tEn n tx e = tSt n tx e + 1 := by unfold tEn; rw [if_neg nc, if_neg (by rw [nL]; decide), if_neg (by rw [nD]; decide)]
          have go : ∀ (v k : Nat) (I13 : HI), I13 = hI I12 72 14 (nI v) → tKd n tx e = k → k ≤ 3 → ¬ k = 2 → srt k = v → Post I13 J := fun v k I13 e13 ek k3 k2 es => by
            refine h I13 J ?_ ⟨?_, ?_, ?_, fun z => (by omega), fun z => (by omega), fun z => (by omega), fun z => (by omega)⟩
            · rw [e13, e12, e11]; exact mf_w (mf_w (mf_w f7 (by omega)) (by omega)) (by omega)
            · rw [e13, hI_at, if_neg (by decide), e12, hI_at, if_neg (by decide), e11, hI_at, if_neg (by decide)]; exact i15
            · rw [e13, hI_at, if_neg (by decide), e12, hI_at, if_neg (by decide), e11, hI_at, if_pos rfl, nI_1, en]
            · rw [e13, hI_at, if_pos rfl, ek, es]
          rw [show (59 : Int32) = nI 59 from rfl, nI_eq (by omega) (by omega)]
          exact ⟨fun z I13 e13 => go 4 1 I13 e13 (by rw [kd, if_neg z]) (by decide) (by decide) rfl, fun z I13 e13 => go 3 3 I13 e13 (by rw [kd, if_pos z]) (by decide) (by decide) rfl⟩
        · have rn : run n tx isD (tSt n tx e) (tDe n tx e) := pst_ok n tx isD 600 (tSt n tx e) p2' (by omega)
          obtain ⟨r1, r2, r3, r4⟩ := rn
          have kd : tKd n tx e = if 3 < tDe n tx e - tSt n tx e then 1 else 2 := by unfold tKd; rw [if_neg nc, if_neg (by rw [nL]; decide), if_pos yD]
          have en : tEn n tx e = tDe n tx e := by unfold tEn; rw [if_neg nc, if_neg (by rw [nL]; decide), if_pos yD]
          refine lp_inv (fun m (I2 : HI) => mFr2 I J I2 J ∧ I2 72 15 = nI (tSt n tx e) ∧ I2 72 16 = nI (tSt n tx e + m) ∧ (m ≤ 3 → I2 72 17 = nI (nvl tx (tSt n tx e) m))) (tDe n tx e - tSt n tx e) (fun m I2 hm hq K hK => ?_) (fun I2 hq K => ?_) I15 ⟨by rw [e15]; exact mf_w f7 (by omega), by rw [e15, hI_at, if_neg (by decide)]; exact i15, by rw [e15, hI_at, if_neg (by decide)]; exact i16, fun _ => by rw [e15, hI_at, if_pos rfl]; rfl⟩
          · obtain ⟨q1, q2, q3, q4⟩ := hq
            have tq := mf_tx q1 htx
            have lt := isD_iff.mp (r3 (tSt n tx e + m) (by omega) (by omega))
            have ll : lk n tx (tSt n tx e + m) = tx (tSt n tx e + m) := lk_in (by omega)
            have yd : isD (lk n tx (tSt n tx e + m)) = true := by rw [ll]; exact r3 _ (by omega) (by omega)
            show wb_X11_next_210 J Post _ K I2
            unfold wb_X11_next_210
            rw [q3, q2, pk_sub (by omega : tSt n tx e ≤ tSt n tx e + m), show tSt n tx e + m - tSt n tx e = m by omega, show (3 : Int32) = nI 3 from rfl, nI_leI (by omega) (by omega), nI_1]
            refine q_look hn (by omega) tq (q_mDig (lk_lt tq _) ⟨fun z => (by rw [yd] at z; cases z), fun _ => ⟨fun z I3 e3 => hK _ ⟨?_, ?_, ?_, fun z2 => absurd z2 (by omega)⟩, fun z => q_look hn (by omega) tq (fun I3 e3 I4 e4 => hK _ ⟨?_, ?_, ?_, fun z2 => ?_⟩)⟩⟩)
            · rw [e3]; exact mf_w q1 (by omega)
            · rw [e3, hI_at, if_neg (by decide)]; exact q2
            · rw [e3, hI_at, if_pos rfl]; rfl
            · rw [e4, e3]; exact mf_w (mf_w q1 (by omega)) (by omega)
            · rw [e4, hI_at, if_neg (by decide), e3, hI_at, if_neg (by decide)]; exact q2
            · rw [e4, hI_at, if_pos rfl, e3, hI_at, if_neg (by decide), q3, nI_1]; rfl
            · rw [e4, hI_at, if_neg (by decide), e3, hI_at, if_pos rfl, q4 (by omega), ll, show (10 : Int32) = nI 10 from rfl, pk_mul, nI_add, show (48 : Int32) = nI 48 from rfl, pk_sub (by omega)]
              show _ = nI (nvl tx (tSt n tx e) m * 10 + (tx (tSt n tx e + m) - 48))
              rw [show 10 * nvl tx (tSt n tx e) m + tx (tSt n tx e + m) - 48 = nvl tx (tSt n tx e) m * 10 + (tx (tSt n tx e + m) - 48) by omega]
          · obtain ⟨q1, q2, q3, q4⟩ := hq
            rw [show tSt n tx e + (tDe n tx e - tSt n tx e) = tDe n tx e by omega] at q3
            have tq := mf_tx q1 htx
            have nd : isD (lk n tx (tDe n tx e)) = false := by
              rcases Nat.lt_or_ge (tDe n tx e) n with y | y
              · rw [lk_in y]; exact r4 y
              · rw [lk_out y]; decide
            show wb_X11_next_210 J Post _ K I2
            unfold wb_X11_next_210
            rw [q3, q2, pk_sub r1]
            refine q_look hn (by omega) tq (q_mDig (lk_lt tq _) ⟨fun _ => ?_, fun z => (by rw [nd] at z; cases z)⟩)
            show ((I2 72 16 - I2 72 15 ≤ 3 → _) ∧ (¬ I2 72 16 - I2 72 15 ≤ 3 → _))
            rw [q3, q2, pk_sub r1, show (3 : Int32) = nI 3 from rfl, nI_leI (by omega) (by omega)]
            have go : ∀ (v k : Nat) (I13 : HI), I13 = hI I2 72 14 (nI v) → tKd n tx e = k → k ≤ 3 → (k = 2 → tDe n tx e - tSt n tx e ≤ 3) → srt k = v → Post I13 J := fun v k I13 e13 ek k3 k2 es => by
              refine h I13 J ?_ ⟨?_, ?_, ?_, fun z => ?_, fun z => (by omega), fun z => (by omega), fun z => (by omega)⟩
              · rw [e13]; exact mf_w q1 (by omega)
              · rw [e13, hI_at, if_neg (by decide)]; exact q2
              · rw [e13, hI_at, if_neg (by decide), en]; exact q3
              · rw [e13, hI_at, if_pos rfl, ek, es]
              · rw [e13, hI_at, if_neg (by decide)]; exact q4 (k2 (by omega))
            exact ⟨fun z I13 e13 => go 2 2 I13 e13 (by rw [kd, if_neg (by omega)]) (by decide) (fun _ => z) rfl, fun z I13 e13 => go 4 1 I13 e13 (by rw [kd, if_pos (by omega)]) (by decide) (fun y => (by omega)) rfl⟩
        · have rn : run n tx isL (tSt n tx e) (tWe n tx e) := pst_ok n tx isL 600 (tSt n tx e) p2' (by omega)
          obtain ⟨r1, r2, r3, r4⟩ := rn
          have kd : tKd n tx e = if 8 < tWe n tx e - tSt n tx e then 4 else kwl (wvl tx (tSt n tx e) (tWe n tx e - tSt n tx e)) 13 := by unfold tKd; rw [if_neg nc, if_pos yL]
          have en : tEn n tx e = tWe n tx e := by unfold tEn; rw [if_neg nc, if_pos yL]
          have kr := kwl_r (wvl tx (tSt n tx e) (tWe n tx e - tSt n tx e)) 13
          refine lp_inv (fun m (st : HI × HJ) => mFr2 I J st.1 st.2 ∧ st.1 72 15 = nI (tSt n tx e) ∧ st.1 72 16 = nI (tSt n tx e + m) ∧ st.1 72 14 = 1 ∧ (m ≤ 8 → st.2 72 19 = lN (wvl tx (tSt n tx e) m)) ∧ (8 < m → st.2 72 19 = -1)) (tWe n tx e - tSt n tx e) (fun m st hm hq K hK => ?_) (fun st hq K => ?_) (I25, J26) ⟨by show mFr2 I J I25 J26; rw [e25, e26]; exact mf_j (mf_w f7 (by omega)), by show I25 72 15 = _; rw [e25, hI_at, if_neg (by decide)]; exact i15, by show I25 72 16 = _; rw [e25, hI_at, if_neg (by decide)]; exact i16, by show I25 72 14 = _; rw [e25, hI_at, if_pos rfl], fun _ => by show J26 72 19 = _; rw [e26, hJ_at, if_pos rfl]; rfl, fun z => absurd z (Nat.not_lt_zero _)⟩
          · obtain ⟨I2, J2⟩ := st
            obtain ⟨q1, q2, q3, q4, q5, q6⟩ := hq
            dsimp only at q1 q2 q3 q4 q5 q6
            have tq := mf_tx q1 htx
            have lt := isL_iff.mp (r3 (tSt n tx e + m) (by omega) (by omega))
            have ll : lk n tx (tSt n tx e + m) = tx (tSt n tx e + m) := lk_in (by omega)
            have yl : isL (lk n tx (tSt n tx e + m)) = true := by rw [ll]; exact r3 _ (by omega) (by omega)
            have go : ∀ t0 : Int64, (m + 1 ≤ 8 → t0 = lN (wvl tx (tSt n tx e) (m + 1))) → (8 < m + 1 → t0 = -1) → wj_X11_next_166 I2 J2 t0 (fun (I_32 : HI) (J_33 : HJ) => ∀ I_34 : HI, I_34 = hI I_32 72 18 ((I_32 72 16) - (I_32 72 15)) → (Post I_34 J_33)) K Post := fun t0 h1 h2 => by
              intro J3 e3 I3 e4
              refine hK _ ⟨?_, ?_, ?_, ?_, fun z => ?_, fun z => ?_⟩
              · show mFr2 I J I3 J3
                rw [e4, e3]; exact mf_j (mf_w q1 (by omega))
              · show I3 72 15 = _
                rw [e4, hI_at, if_neg (by decide)]; exact q2
              · show I3 72 16 = _
                rw [e4, hI_at, if_pos rfl, q3, nI_1]; rfl
              · show I3 72 14 = _
                rw [e4, hI_at, if_neg (by decide)]; exact q4
              · show J3 72 19 = _
                rw [e3, hJ_at, if_pos rfl]; exact h1 z
              · show J3 72 19 = _
                rw [e3, hJ_at, if_pos rfl]; exact h2 z
            show wb_X11_next_109 Post _ K (I2, J2)
            unfold wb_X11_next_109
            dsimp only
            rw [q3, q2, pk_sub (by omega : tSt n tx e ≤ tSt n tx e + m), show tSt n tx e + m - tSt n tx e = m by omega, show (8 : Int32) = nI 8 from rfl, nI_leI (by omega) (by omega)]
            refine q_look hn (by omega) tq (q_mLet (lk_lt tq _) ⟨fun z => (by rw [yl] at z; cases z), fun _ => ⟨fun z => go _ (fun y => (by omega)) (fun _ => rfl), fun z => q_look hn (by omega) tq (go _ (fun y => ?_) (fun y => (by omega)))⟩⟩)
            rw [q5 (by omega), ll, nI_l (by omega), n32 _ _ (by omega)]
            rfl
          · obtain ⟨I2, J2⟩ := st
            obtain ⟨q1, q2, q3, q4, q5, q6⟩ := hq
            dsimp only at q1 q2 q3 q4 q5 q6
            rw [show tSt n tx e + (tWe n tx e - tSt n tx e) = tWe n tx e by omega] at q3
            have tq := mf_tx q1 htx
            have nl : isL (lk n tx (tWe n tx e)) = false := by
              rcases Nat.lt_or_ge (tWe n tx e) n with y | y
              · rw [lk_in y]; exact r4 y
              · rw [lk_out y]; decide
            show wb_X11_next_109 Post _ K (I2, J2)
            unfold wb_X11_next_109
            dsimp only
            have q3' := q3
            rw [q3]
            refine q_look hn (by omega) tq (q_mLet (lk_lt tq _) ⟨fun _ I34 e34 => ?_, fun z => (by rw [nl] at z; cases z)⟩)
            have k4 : 4 ≤ tKd n tx e := by rw [kd]; split <;> omega
            have s1 : srt (tKd n tx e) = 1 := by unfold srt; rw [if_neg (by omega), if_neg (by omega), if_neg (by omega), if_neg (by omega)]
            refine h I34 J2 ?_ ⟨?_, ?_, ?_, fun z => (by omega), fun _ => ⟨?_, ?_⟩, fun z => ?_, fun z => ?_⟩
            · rw [e34]; exact mf_w q1 (by omega)
            · rw [e34, hI_at, if_neg (by decide)]; exact q2
            · rw [e34, hI_at, if_neg (by decide), en]; exact q3'
            · rw [e34, hI_at, if_neg (by decide), s1]; exact q4
            · rw [e34, hI_at, if_pos rfl, q2, pk_sub r1, en]
            · rw [en, kd]
              constructor
              · intro y; rw [if_pos y]
              · intro y
                rcases Nat.lt_or_ge 8 (tWe n tx e - tSt n tx e) with w | w
                · exact w
                · rw [if_neg (by omega)] at y; omega
            · refine q6 ?_
              rw [kd] at z
              rcases Nat.lt_or_ge 8 (tWe n tx e - tSt n tx e) with w | w
              · exact w
              · rw [if_neg (by omega)] at z; omega
            · refine q5 ?_
              rw [kd] at z
              rcases Nat.lt_or_ge 8 (tWe n tx e - tSt n tx e) with w | w
              · rw [if_pos w] at z; omega
              · exact w
      · rw [e8, hI_at, if_neg (by decide)]; exact i15
      · rw [e8, hI_at, if_neg (by decide), i16]; unfold tEn; rw [if_pos (by omega)]
      · rw [e8, hI_at, if_pos rfl]; unfold tKd; rw [if_pos (by omega)]; rfl
      · unfold tKd at z; rw [if_pos (by omega)] at z; omega
      · unfold tKd at z; rw [if_pos (by omega)] at z; omega
      · unfold tKd at z; rw [if_pos (by omega)] at z; omega
      · unfold tKd at z; rw [if_pos (by omega)] at z; omega
    have fin' : ∀ I7 : HI, I7 = hI I2 72 16 (I2 72 15) → _ := fun I7 e7 => fin I7 (by rw [g2] at e7; exact e7)
    show wb_X11_next_8 J Post _ K I2
    unfold wb_X11_next_8
    rw [t.1, g2]
    refine ⟨fun _ => fin', fun c => ?_⟩
    rw [nI_leI (by omega) (by omega)] at c
    have lt := isB_f.mp (p4' (by omega))
    have ll : lk n tx (tSt n tx e) = tx (tSt n tx e) := lk_in (by omega)
    have lv := lk_lt t (tSt n tx e)
    refine q_look hn (by omega) t ⟨fun z => ?_, fun _ => q_look hn (by omega) t ⟨fun _ => fin', fun z => ?_⟩⟩
    · exfalso
      rw [show (10 : Int32) = nI 10 from rfl, nI_eq (by omega) (by omega)] at z
      omega
    · exfalso
      rw [show (32 : Int32) = nI 32 from rfl, nI_eq (by omega) (by omega)] at z
      omega
