section
variable {n : Nat} {tx : Nat → Nat} {I0 I : HI} {J0 J : HJ} {e : Nat} {D : DT} {q : Nat × Nat}
theorem hd_ok : ∀ hs bk, hs ≤ 1 → bk ≤ 1 → (hs * 131072 + bk * 262144).testBit 17 = decide (hs = 1) ∧ (hs * 131072 + bk * 262144).testBit 18 = decide (bk = 1) ∧ nI (hs * 131072 + bk * 262144) ||| (1 <<< (nI 17 &&& 31)) = nI (1 * 131072 + bk * 262144) ∧ nI (hs * 131072 + bk * 262144) ||| (1 <<< (nI 18 &&& 31)) = nI (hs * 131072 + 1 * 262144) := by
  intro hs bk h1 h2
  have a : hs = 0 ∨ hs = 1 := by omega
  have b : bk = 0 ∨ bk = 1 := by omega
  rcases a with rfl | rfl <;> rcases b with rfl | rfl <;> decide +kernel
/-- a token's kind was had, or not -/
theorem c_once (hn : n ≤ 600) (he : e ≤ n) (g : cG n tx I0 J0 e D I J) (hP : nP D.1 ≤ 12) {m : Nat} (hm : m < 2 ^ 31) {Post : Int32 → HI → Prop} (hf : m.testBit (tKd n tx e) = false → Post (nI m ||| (1 <<< (nI (tKd n tx e) &&& 31))) I) (ht : m.testBit (tKd n tx e) = true → ∀ r I', cF I0 J0 (5, tSt n tx e) I' J → Post r I') : w_X5_passOnce (nI m) I J Post := by
  have tk := tk_ok (tx := tx) hn he
  unfold w_X5_passOnce
  rw [g.2.2.2.1.2.2.1]
  exact q_has hm (by omega) ⟨fun b => hf b, fun b => c_fail (k := 5) g hP (by omega) (fun I' f => ht b _ I' f)⟩
theorem f_after (f : cF I0 J0 q I J) {x1 x2 x3 x4 x5 r x7 : Int32} {E : Int32 → Int32 → HI → HJ → Prop} {K : Int32 × Int32 × Int32 × Int32 × HI × HJ → Prop} {Post : HI → HJ → Prop} (hk : ∀ u v w, K (u, v, w, x7 + 1, I, J)) : (¬ (I 36 7) = 17 → (w_X4_hasRoomForTies 2 I J (fun (r_5 : Bool) => ((r_5 = false → (wj_X5_readSpeeds_99 I J x1 x2 x3 x4 1 r x7 E K Post)) ∧ (r_5 = true → (w_X4_hasTie x2 x1 I J (fun (r_9 : Bool) => ((r_9 = false → (wj_X5_readSpeeds_105 I J x1 x2 x3 x4 1 r x7 E K Post)) ∧ (r_9 = true → (wj_X5_readSpeeds_99 I J x1 x2 x3 x4 1 r x7 E K Post)))))))))) ∧ ((I 36 7) = 17 → (w_X5_advance I J (fun (I_10 : HI) (J_11 : HJ) => (w_X5_passNumber 1 5 I_10 J_11 (fun (r_12 : Int32) (I_13 : HI) (J_14 : HJ) => (K (r_12, x5, r, (x7 + 1), I_13, J_14))))))) := by
  have l6 : wj_X5_readSpeeds_105 I J x1 x2 x3 x4 1 r x7 E K Post := f_adv f (hk _ _ _)
  have l9 : wj_X5_readSpeeds_99 I J x1 x2 x3 x4 1 r x7 E K Post := f_fail f l6
  refine ⟨fun _ => ?_, fun _ => f_adv f (f_num f (hk _ _ _))⟩
  exact ⟨fun _ => ⟨fun _ => l9, fun z => (by cases z)⟩, fun _ => ⟨fun z => (by cases z), fun _ => f_tie f (fun t => by
    cases t
    · exact ⟨fun _ => l6, fun z => (by cases z)⟩
    · exact ⟨fun z => (by cases z), fun _ => l9⟩)⟩⟩
def sX (n : Nat) (tx : Nat → Nat) (I0 : HI) (J0 : HJ) (D : DT) (a b o : Nat) (r : (Nat × Nat) ⊕ (Nat × Nat × Nat)) (I : HI) (J : HJ) : Prop := match r with
  | .inl q => cF I0 J0 q I J
  | .inr x => cX n tx I0 J0 x.1 (addTs D a b o x.2) I J
theorem c_speeds (hn : n ≤ 600) (he : e ≤ n) (ht : cTx I0 n tx) (hw : rdW J0) (h : cX n tx I0 J0 e D I J) (hD : okD D) {a b o : Nat} (ha : a < nP D.1) (hb : b < nP D.1) (ho : o ≤ 16) (hT9 : nT D.1 < 10) {Post : HI → HJ → Prop} (hp : ∀ I' J', sX n tx I0 J0 D a b o (rn (spS n tx D.1 a b) (.inl (0, 0)) 700 (e, 0, 1, 0)) I' J' → Post I' J') : w_X5_readSpeeds (nI a) (nI b) (nI o) I J Post := by
  have hP := hD.1.1
  have hT := hD.1.2.1
  generalize hR : rn (spS n tx D.1 a b) (.inl (0, 0)) 700 (e, 0, 1, 0) = R0 at hp
  generalize hM : (700 : Nat) = M at hR
  -- the end
  have fE : ∀ (x4 x5 : Int32) (I' : HI) (J' : HJ), (∃ q, cF I0 J0 q I' J' ∧ Post I' J') → w_X5_goesOn I' J' (fun (r_19 : Bool) => ((r_19 = false → (wj_X5_readSpeeds_134 I' J' (nI a) (nI b) (nI o) x4 x5 Post)) ∧ (r_19 = true → (w_X4_addTie (nI a) (nI b) (nI o) x4 I' J' (fun (I_22 : HI) => (wj_X5_readSpeeds_134 I_22 J' (nI a) (nI b) (nI o) x4 x5 Post)))))) := fun x4 x5 I' J' ⟨q, f, po⟩ => f_goes f ⟨fun _ => f_goes f ⟨fun _ => po, fun z => (by cases z)⟩, fun z => (by cases z)⟩
  refine lp_rn (f := spS n tx D.1 a b) (d := .inl (0, 0)) (R0 := R0) (fun s : SS => n - s.1) (fun (s : SS) (x : Int32 × Int32 × Int32 × Int32 × HI × HJ) => s.1 ≤ n ∧ s.2.1 ≤ 1 ∧ (1 ≤ s.2.2.1 ∧ s.2.2.1 ≤ 5) ∧ s.2.2.2 ≤ 1 ∧ (s.2.2.2 = 1 → nT D.1 < 9) ∧ x.1 = nI s.2.2.1 ∧ x.2.1 = nI s.2.2.2 ∧ x.2.2.1 = nI (s.2.1 * 131072 + s.2.2.2 * 262144) ∧ (∃ i, i ≤ s.1 ∧ x.2.2.2.1 = nI i) ∧ cX n tx I0 J0 s.1 D x.2.2.2.2.1 x.2.2.2.2.2) (fun x => ∃ q, cF I0 J0 q x.2.2.2.2.1 x.2.2.2.2.2 ∧ Post x.2.2.2.2.1 x.2.2.2.2.2) (fun x hx K => ?_) (fun s x s' hq hf => ?_) (fun s x hq hf K hK => ?_) M (e, 0, 1, 0) (1, 0, 0, 0, I, J) (by show n - e < M; omega) hR ⟨he, Nat.zero_le _, ⟨Nat.le_refl _, by show 1 ≤ 5; decide⟩, Nat.zero_le _, fun z => (by cases z), rfl, rfl, (by show (0 : Int32) = nI (0 * 131072 + 0 * 262144); simp only [Nat.zero_mul]; rfl), ⟨0, Nat.zero_le _, rfl⟩, h⟩
  · obtain ⟨x4, x5, x6, x7, I1, J1⟩ := x
    obtain ⟨q, f, po⟩ := hx
    exact ⟨fun _ => fE _ _ _ _ ⟨q, f, po⟩, fun _ => f_goes f ⟨fun _ => fE _ _ _ _ ⟨q, f, po⟩, fun z => (by cases z)⟩⟩
  · obtain ⟨x4, x5, x6, x7, I1, J1⟩ := x
    obtain ⟨e1, hs, hr, bk⟩ := s
    obtain ⟨he1, l1, l2, l3, l4, v4, v5, v6, ⟨i, hi, v7⟩, x1⟩ := hq
    dsimp only at he1 l1 l2 l3 l4 v4 v5 v6 hi v7 x1
    subst v4 v5 v6 v7
    have tk := tk_ok (tx := tx) hn he1
    have tk2 := tk_ok (tx := tx) hn tk.2.2.1
    obtain ⟨m1, m2, m3, m4⟩ := hd_ok hs bk l1 l3
    unfold spS at hf
    dsimp only at hf
    by_cases c17 : tKd n tx e1 = 17
    · rw [if_pos c17] at hf
      have g := x1.2 (by omega)
      have st := tk.2.2.2.2.1 (by omega)
      by_cases ch : hs = 1
      · rw [if_pos ch] at hf; cases hf
      · rw [if_neg ch] at hf
        have h0 : hs = 0 := by omega
        cases hv : numS n tx (tEn n tx e1) 1 5 with
        | inl q => rw [hv] at hf; cases hf
        | inr v =>
          rw [hv] at hf
          dsimp only at hf
          cases hf
          have vv := numS_v hv
          have tk3 := tk_ok (tx := tx) hn tk2.2.2.1
          refine ⟨by show n - tEn n tx (tEn n tx e1) < n - e1; omega, fun K hK => ⟨fun z => absurd z (nI_ge (b := 600) (by omega) (by decide)), fun _ => c_goes g ⟨fun z => (by cases z), fun _ => ?_⟩⟩⟩
          rw [g.2.2.2.1.2.2.1]
          refine bt_w (lo := 17) (hi := 18) (by decide) (by decide) ?_
          rw [show isBt (nI (tKd n tx e1)) 17 18 = true from by rw [c17]; decide]
          refine ⟨fun z => (by cases z), fun _ => c_once hn he1 g hP (by omega) (fun b => ?_) (fun b => ?_)⟩
          · rw [g.2.2.2.1.2.2.1, c17, m3, nI_1 i]
            refine ⟨fun z => absurd rfl z, fun _ => c_adv hn he1 ht hw g hP (fun I2 J2 x2 => x_num (lo := 1) (hi := 5) hn tk.2.2.1 ht hw x2 hP (by decide) (by decide) (fun I3 J3 => ?_))⟩
            rw [hv]
            exact fun x3 => hK _ ⟨tk2.2.2.1, Nat.le_refl _, vv, l3, l4, rfl, rfl, rfl, ⟨i + 1, by show i + 1 ≤ tEn n tx (tEn n tx e1); omega, rfl⟩, x3⟩
          · rw [c17, m1, decide_eq_false ch] at b; cases b
    · rw [if_neg c17] at hf
      by_cases c18 : tKd n tx e1 = 18
      · rw [if_pos c18] at hf
        have g := x1.2 (by omega)
        have st := tk.2.2.2.2.1 (by omega)
        by_cases ch : bk = 1
        · rw [if_pos ch] at hf; cases hf
        · rw [if_neg ch] at hf
          by_cases cr : nT D.1 = 9 ∨ thr D.1 b a = true
          · rw [if_pos cr] at hf; cases hf
          · rw [if_neg cr] at hf
            cases hf
            have n9 : ¬ nT D.1 = 9 := fun z => cr (Or.inl z)
            have nth : thr D.1 b a = false := Bool.not_eq_true _ ▸ (fun z => cr (Or.inr z))
            refine ⟨by show n - tEn n tx e1 < n - e1; omega, fun K hK => ⟨fun z => absurd z (nI_ge (b := 600) (by omega) (by decide)), fun _ => c_goes g ⟨fun z => (by cases z), fun _ => ?_⟩⟩⟩
            rw [g.2.2.2.1.2.2.1]
            refine bt_w (lo := 17) (hi := 18) (by decide) (by decide) ?_
            rw [show isBt (nI (tKd n tx e1)) 17 18 = true from by rw [c18]; decide]
            refine ⟨fun z => (by cases z), fun _ => c_once hn he1 g hP (by omega) (fun b' => ?_) (fun b' => ?_)⟩
            · rw [g.2.2.2.1.2.2.1, c18, m4]
              refine ⟨fun _ => c_room (k := 2) g hD (by decide) ?_, fun z => absurd z (by decide)⟩
              rw [decide_eq_true (by omega)]
              refine ⟨fun z => (by cases z), fun _ => c_hasTie g hD hb ha ?_⟩
              rw [nth]
              refine ⟨fun _ => c_adv hn he1 ht hw g hP (fun I2 J2 x2 => ?_), fun z => (by cases z)⟩
              rw [nI_1 i]
              exact hK _ ⟨tk.2.2.1, l1, l2, Nat.le_refl _, fun _ => (by omega), rfl, rfl, rfl, ⟨i + 1, by show i + 1 ≤ tEn n tx e1; omega, rfl⟩, x2⟩
            · rw [c18, m2, decide_eq_false ch] at b'; cases b'
      · rw [if_neg c18] at hf; cases hf
  · obtain ⟨x4, x5, x6, x7, I1, J1⟩ := x
    obtain ⟨e1, hs, hr, bk⟩ := s
    obtain ⟨he1, l1, l2, l3, l4, v4, v5, v6, ⟨i, hi, v7⟩, x1⟩ := hq
    dsimp only at he1 l1 l2 l3 l4 v4 v5 v6 hi v7 x1
    subst v4 v5 v6 v7
    have tk := tk_ok (tx := tx) hn he1
    obtain ⟨m1, m2, m3, m4⟩ := hd_ok hs bk l1 l3
    unfold spS at hf
    dsimp only at hf
    by_cases c17 : tKd n tx e1 = 17
    · rw [if_pos c17] at hf
      have g := x1.2 (by omega)
      have st := tk.2.2.2.2.1 (by omega)
      refine ⟨fun z => absurd z (nI_ge (b := 600) (by omega) (by decide)), fun _ => c_goes g ⟨fun z => (by cases z), fun _ => ?_⟩⟩
      rw [g.2.2.2.1.2.2.1]
      refine bt_w (lo := 17) (hi := 18) (by decide) (by decide) ?_
      rw [show isBt (nI (tKd n tx e1)) 17 18 = true from by rw [c17]; decide]
      refine ⟨fun z => (by cases z), fun _ => c_once hn he1 g hP (by omega) (fun b => ?_) (fun b r I2 f => ?_)⟩
      · rw [c17, m1] at b
        rw [if_neg (of_decide_eq_false b)] at hf
        rw [g.2.2.2.1.2.2.1, c17]
        refine ⟨fun z => absurd rfl z, fun _ => c_adv hn he1 ht hw g hP (fun I2 J2 x2 => x_num (lo := 1) (hi := 5) hn tk.2.2.1 ht hw x2 hP (by decide) (by decide) (fun I3 J3 => ?_))⟩
        cases hv : numS n tx (tEn n tx e1) 1 5 with
        | inl q =>
          rw [hv] at hf
          dsimp only at hf
          cases hf
          exact fun f => hK _ ⟨q, f, hp I3 J3 f⟩
        | inr v => rw [hv] at hf; cases hf
      · rw [c17, m1] at b
        rw [if_pos (of_decide_eq_true b)] at hf
        cases hf
        exact f_after f (fun u v w => hK _ ⟨_, f, hp I2 J1 f⟩)
    · rw [if_neg c17] at hf
      by_cases c18 : tKd n tx e1 = 18
      · rw [if_pos c18] at hf
        have g := x1.2 (by omega)
        have st := tk.2.2.2.2.1 (by omega)
        refine ⟨fun z => absurd z (nI_ge (b := 600) (by omega) (by decide)), fun _ => c_goes g ⟨fun z => (by cases z), fun _ => ?_⟩⟩
        rw [g.2.2.2.1.2.2.1]
        refine bt_w (lo := 17) (hi := 18) (by decide) (by decide) ?_
        rw [show isBt (nI (tKd n tx e1)) 17 18 = true from by rw [c18]; decide]
        refine ⟨fun z => (by cases z), fun _ => c_once hn he1 g hP (by omega) (fun b' => ?_) (fun b' r I2 f => ?_)⟩
        · rw [c18, m2] at b'
          rw [if_neg (of_decide_eq_false b')] at hf
          rw [g.2.2.2.1.2.2.1, c18]
          refine ⟨fun _ => c_room (k := 2) g hD (by decide) ?_, fun z => absurd z (by decide)⟩
          by_cases cr : nT D.1 = 9 ∨ thr D.1 b a = true
          · rw [if_pos cr] at hf
            cases hf
            have l99 : ∀ r : Int32, wj_X5_readSpeeds_99 I1 J1 (nI a) (nI b) (nI o) (nI hr) 1 r (nI i) (fun (x4_15 : Int32) (x5_16 : Int32) (I_17 : HI) (J_18 : HJ) => w_X5_goesOn I_17 J_18 (fun (r_19 : Bool) => ((r_19 = false → (wj_X5_readSpeeds_134 I_17 J_18 (nI a) (nI b) (nI o) x4_15 x5_16 Post)) ∧ (r_19 = true → (w_X4_addTie (nI a) (nI b) (nI o) x4_15 I_17 J_18 (fun (I_22 : HI) => (wj_X5_readSpeeds_134 I_22 J_18 (nI a) (nI b) (nI o) x4_15 x5_16 Post))))))) K Post := fun r => c_fail (k := 6) g hP (by omega) (fun I2 f => f_adv f (hK _ ⟨_, f, hp I2 J1 f⟩))
            by_cases c9 : nT D.1 = 9
            · rw [decide_eq_false (by omega)]
              exact ⟨fun _ => l99 _, fun z => (by cases z)⟩
            · rw [decide_eq_true (by omega)]
              refine ⟨fun z => (by cases z), fun _ => c_hasTie g hD hb ha ?_⟩
              rw [cr.elim (fun z => absurd z c9) id]
              exact ⟨fun z => (by cases z), fun _ => l99 _⟩
          · rw [if_neg cr] at hf; cases hf
        · rw [c18, m2] at b'
          rw [if_pos (of_decide_eq_true b')] at hf
          cases hf
          exact f_after f (fun u v w => hK _ ⟨_, f, hp I2 J1 f⟩)
      · rw [if_neg c18] at hf
        cases hf
        by_cases c1 : tKd n tx e1 = 1
        · have f := x1.1 c1
          have po : Post I1 J1 := hp I1 J1 ⟨fun _ => f, fun z => absurd c1 z⟩
          exact ⟨fun _ => fE _ _ _ _ ⟨_, f, po⟩, fun _ => f_goes f ⟨fun _ => fE _ _ _ _ ⟨_, f, po⟩, fun z => (by cases z)⟩⟩
        · have g := x1.2 c1
          have fin : w_X5_goesOn I1 J1 (fun (r_19 : Bool) => ((r_19 = false → (wj_X5_readSpeeds_134 I1 J1 (nI a) (nI b) (nI o) (nI hr) (nI bk) Post)) ∧ (r_19 = true → (w_X4_addTie (nI a) (nI b) (nI o) (nI hr) I1 J1 (fun (I_22 : HI) => (wj_X5_readSpeeds_134 I_22 J1 (nI a) (nI b) (nI o) (nI hr) (nI bk) Post)))))) := by
            refine c_goes g ⟨fun z => (by cases z), fun _ => c_addTie g hD ha hb hT9 (fun I2 g2 => c_goes g2 ⟨fun z => (by cases z), fun _ => ?_⟩)⟩
            rw [show (0 : Int32) = nI 0 from rfl, nI_eq (by omega) (by decide)]
            refine ⟨fun z => hp I2 J1 ⟨fun y => absurd y c1, fun _ => ?_⟩, fun z => ?_⟩
            · have : addTs D a b o (hr, bk) = addT D a b o hr := if_neg (by show ¬ bk = 1; omega)
              rw [show ((e1, hr, bk) : Nat × Nat × Nat).2 = (hr, bk) from rfl, this]
              exact g2
            · have b1 : bk = 1 := by omega
              have hD2 := okD_T hD ha hb ho l2 hT9
              refine c_addTie g2 hD2 hb ha (show nT D.1 + 1 < 10 from by have := l4 b1; omega) (fun I3 g3 => hp I3 J1 ⟨fun y => absurd y c1, fun _ => ?_⟩)
              have : addTs D a b o (hr, bk) = addT (addT D a b o hr) b a o hr := if_pos b1
              rw [show ((e1, hr, bk) : Nat × Nat × Nat).2 = (hr, bk) from rfl, this]
              exact g3
          refine ⟨fun _ => fin, fun _ => c_goes g ⟨fun z => (by cases z), fun _ => ?_⟩⟩
          rw [g.2.2.2.1.2.2.1]
          refine bt_w (lo := 17) (hi := 18) (by decide) (by decide) ?_
          have : isBt (nI (tKd n tx e1)) 17 18 = false := by
            unfold isBt
            rw [nI_toInt (by omega)]
            exact decide_eq_false (by omega)
          rw [this]
          exact ⟨fun _ => fin, fun z => (by cases z)⟩
end
