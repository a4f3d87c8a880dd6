theorem rn_inv {S R : Type} {f : S → S ⊕ R} {d : R} (P : S → Prop) (G : R → Prop) (hs : ∀ s s', P s → f s = .inl s' → P s') (he : ∀ s r, P s → f s = .inr r → G r) (hd : G d) : ∀ m s, P s → G (rn f d m s) := by
  intro m
  induction m with
  | zero => intro s _; exact hd
  | succ m ih =>
    intro s hp
    cases hf : f s with
    | inl s' => rw [rn_l hf]; exact ih s' (hs s s' hp hf)
    | inr r => rw [rn_r hf]; exact he s r hp hf
section
variable {n : Nat} {tx : Nat → Nat} {e : Nat} {D : DT}
theorem en_ok (hn : n ≤ 600) (he : e ≤ n) : tEn n tx e ≤ n ∧ e ≤ tEn n tx e ∧ (¬ tKd n tx e = 0 → e < tEn n tx e) := by
  have t := tk_ok (tx := tx) hn he
  exact ⟨t.2.2.1, by omega, fun z => by have := t.2.2.2.2.1 z; omega⟩
theorem tr_b {k v : Nat} (hk : 12 ≤ k ∧ k ≤ 16) (h15 : ¬ k = 15) {tr : Nat → Nat} (ht : okTr tr) (hv : tLo k ≤ v ∧ v ≤ tHi k) : okTr (sN tr (k - 12) v) := by
  obtain ⟨t0, t1, t2, t3, t4⟩ := ht
  unfold tLo tHi at hv
  have c : k = 12 ∨ k = 13 ∨ k = 14 ∨ k = 16 := by omega
  rcases c with rfl | rfl | rfl | rfl
  · exact ⟨by show v < 4; simp at hv; omega, t1, t2, t3, t4⟩
  · exact ⟨t0, by show 1 ≤ v ∧ v ≤ 3; simp at hv; omega, t2, t3, t4⟩
  · exact ⟨t0, t1, by show v ≤ 5; simp at hv; omega, t3, t4⟩
  · exact ⟨t0, t1, t2, t3, by show v ≤ 99; simp at hv; omega⟩
theorem tr_3 {tr : Nat → Nat} (ht : okTr tr) : okTr (sN tr 3 1) := by
  obtain ⟨t0, t1, t2, t3, t4⟩ := ht
  exact ⟨t0, t1, t2, Nat.le_refl 1, t4⟩
def tG (n e0 : Nat) (r : (Nat × Nat) ⊕ (Nat × (Nat → Nat))) : Prop := match r with
  | .inl _ => True
  | .inr x => x.1 ≤ n ∧ e0 ≤ x.1 ∧ okTr x.2
theorem trS_s (hn : n ≤ 600) {s s' : TS} (hs : s.1 ≤ n ∧ okTr s.2.2) (h : trS n tx s = .inl s') : s'.1 ≤ n ∧ s.1 < s'.1 ∧ okTr s'.2.2 ∧ (12 ≤ tKd n tx s.1 ∧ tKd n tx s.1 ≤ 16) ∧ s.2.1.testBit (tKd n tx s.1 - 12) = false ∧ s'.2.1 = s.2.1 ||| 2 ^ (tKd n tx s.1 - 12) ∧ ((tKd n tx s.1 = 15 ∧ s'.1 = tEn n tx s.1 ∧ s'.2.2 = sN s.2.2 3 1) ∨ (¬ tKd n tx s.1 = 15 ∧ s'.1 = tEn n tx (tEn n tx s.1) ∧ ∃ v, numS n tx (tEn n tx s.1) (tLo (tKd n tx s.1)) (tHi (tKd n tx s.1)) = .inr v ∧ s'.2.2 = sN s.2.2 (tKd n tx s.1 - 12) v)) := by
  obtain ⟨a1, a2, a3⟩ := en_ok (tx := tx) hn hs.1
  obtain ⟨b1, b2, b3⟩ := en_ok (tx := tx) hn a1
  unfold trS at h
  by_cases c1 : 12 ≤ tKd n tx s.1 ∧ tKd n tx s.1 ≤ 16
  · rw [if_neg (fun z => z c1)] at h
    have e1 := a3 (by omega)
    cases c2 : s.2.1.testBit (tKd n tx s.1 - 12)
    · rw [c2, if_neg (by decide)] at h
      by_cases c3 : tKd n tx s.1 = 15
      · rw [if_pos c3] at h
        cases h
        exact ⟨a1, e1, tr_3 hs.2, c1, rfl, by show _ = s.2.1 ||| 2 ^ (tKd n tx s.1 - 12); rw [c3], Or.inl ⟨c3, rfl, rfl⟩⟩
      · rw [if_neg c3] at h
        cases hv : numS n tx (tEn n tx s.1) (tLo (tKd n tx s.1)) (tHi (tKd n tx s.1)) with
        | inl q => rw [hv] at h; cases h
        | inr v =>
          rw [hv] at h
          cases h
          exact ⟨b1, by show s.1 < tEn n tx (tEn n tx s.1); omega, tr_b c1 c3 hs.2 (numS_v hv), c1, rfl, rfl, Or.inr ⟨c3, rfl, v, rfl, rfl⟩⟩
    · rw [c2, if_pos rfl] at h; cases h
  · rw [if_pos c1] at h; cases h
theorem trS_e {s : TS} {r : (Nat × Nat) ⊕ (Nat × (Nat → Nat))} (h : trS n tx s = .inr r) : (¬ (12 ≤ tKd n tx s.1 ∧ tKd n tx s.1 ≤ 16) ∧ r = .inr (s.1, s.2.2)) ∨ ((12 ≤ tKd n tx s.1 ∧ tKd n tx s.1 ≤ 16) ∧ s.2.1.testBit (tKd n tx s.1 - 12) = true ∧ r = .inl (5, tSt n tx s.1)) ∨ ((12 ≤ tKd n tx s.1 ∧ tKd n tx s.1 ≤ 16) ∧ s.2.1.testBit (tKd n tx s.1 - 12) = false ∧ ¬ tKd n tx s.1 = 15 ∧ ∃ q, numS n tx (tEn n tx s.1) (tLo (tKd n tx s.1)) (tHi (tKd n tx s.1)) = .inl q ∧ r = .inl q) := by
  unfold trS at h
  by_cases c1 : 12 ≤ tKd n tx s.1 ∧ tKd n tx s.1 ≤ 16
  · rw [if_neg (fun z => z c1)] at h
    cases c2 : s.2.1.testBit (tKd n tx s.1 - 12)
    · rw [c2, if_neg (by decide)] at h
      by_cases c3 : tKd n tx s.1 = 15
      · rw [if_pos c3] at h; cases h
      · rw [if_neg c3] at h
        cases hv : numS n tx (tEn n tx s.1) (tLo (tKd n tx s.1)) (tHi (tKd n tx s.1)) with
        | inl q => rw [hv] at h; cases h; exact Or.inr (Or.inr ⟨c1, rfl, c3, q, rfl, rfl⟩)
        | inr v => rw [hv] at h; cases h
    · rw [c2, if_pos rfl] at h; cases h; exact Or.inr (Or.inl ⟨c1, rfl, rfl⟩)
  · rw [if_pos c1] at h; cases h; exact Or.inl ⟨c1, rfl⟩
theorem tr_ok (hn : n ≤ 600) (he : e ≤ n) (m : Nat) : tG n e (rn (trS n tx) (.inl (0, 0)) m (e, 0, td0)) := by
  refine rn_inv (fun s : TS => s.1 ≤ n ∧ okTr s.2.2 ∧ e ≤ s.1) (tG n e) (fun s s' hs hf => ?_) (fun s r hs hf => ?_) (show tG n e (.inl (0, 0)) from trivial) m _ ⟨he, okTr_0, Nat.le_refl _⟩
  · obtain ⟨a, b, c, -⟩ := trS_s hn ⟨hs.1, hs.2.1⟩ hf
    exact ⟨a, c, by omega⟩
  · rcases trS_e hf with ⟨-, rfl⟩ | ⟨-, -, rfl⟩ | ⟨-, -, -, q, -, rfl⟩
    · exact ⟨hs.1, hs.2.2, hs.2.1⟩
    · exact trivial
    · exact trivial
theorem spP_ok (hn : n ≤ 600) (he : e ≤ n) (hD : okD D) (hk : ¬ tKd n tx e = 0) {x : Nat × DT} (h : spP n tx e D = .inr x) : x.1 ≤ n ∧ e < x.1 ∧ okD x.2 := by
  obtain ⟨a1, a2, a3⟩ := en_ok (tx := tx) hn he
  obtain ⟨b1, b2, b3⟩ := en_ok (tx := tx) hn a1
  have e1 := a3 hk
  unfold spP at h
  by_cases c1 : tKd n tx (tEn n tx e) = 5
  · rw [if_neg (fun z => z c1)] at h
    by_cases c2 : fnd D.2.1 (tWd n tx (tEn n tx e)) (nP D.1) < nP D.1
    · rw [if_pos c2] at h; cases h
    · rw [if_neg c2] at h
      by_cases c3 : nP D.1 = 12
      · rw [if_pos c3] at h; cases h
      · rw [if_neg c3] at h
        have g := tr_ok (tx := tx) hn b1 700
        generalize rn (trS n tx) (.inl (0, 0)) 700 (tEn n tx (tEn n tx e), 0, td0) = r at h g
        cases r with
        | inl q => cases h
        | inr y =>
          dsimp only at h
          obtain ⟨g1, g2, g3⟩ := g
          obtain ⟨d1, d2, d3⟩ := en_ok (tx := tx) hn g1
          cases hx : expS n tx y.1 3 with
          | inl q => rw [hx] at h; cases h
          | inr _ =>
            rw [hx] at h
            cases h
            exact ⟨d1, by show e < tEn n tx y.1; omega, okD_P hD g3 (tk_w hn a1 (by omega)).2 (by have := hD.1.1; omega)⟩
  · rw [if_pos c1] at h; cases h
def sG (n e0 T : Nat) (r : (Nat × Nat) ⊕ (Nat × Nat × Nat)) : Prop := match r with
  | .inl _ => True
  | .inr x => x.1 ≤ n ∧ e0 ≤ x.1 ∧ (1 ≤ x.2.1 ∧ x.2.1 ≤ 5) ∧ x.2.2 ≤ 1 ∧ (x.2.2 = 1 → T < 9)
theorem spS_ok (hn : n ≤ 600) (he : e ≤ n) {N : NT} {a b : Nat} (hT : nT N < 10) (m : Nat) : sG n e (nT N) (rn (spS n tx N a b) (.inl (0, 0)) m (e, 0, 1, 0)) := by
  refine rn_inv (fun s : SS => s.1 ≤ n ∧ e ≤ s.1 ∧ (1 ≤ s.2.2.1 ∧ s.2.2.1 ≤ 5) ∧ s.2.2.2 ≤ 1 ∧ (s.2.2.2 = 1 → nT N < 9)) (sG n e (nT N)) (fun s s' hs hf => ?_) (fun s r hs hf => ?_) (show sG n e (nT N) (.inl (0, 0)) from trivial) m _ ⟨he, Nat.le_refl _, ⟨Nat.le_refl 1, by show 1 ≤ 5; decide⟩, Nat.zero_le _, fun z => (by cases z)⟩
  · obtain ⟨h1, h2, h3, h4, h5⟩ := hs
    obtain ⟨a1, a2, a3⟩ := en_ok (tx := tx) hn h1
    obtain ⟨b1, b2, b3⟩ := en_ok (tx := tx) hn a1
    unfold spS at hf
    split at hf
    · split at hf
      · cases hf
      · cases hv : numS n tx (tEn n tx s.1) 1 5 with
        | inl q => rw [hv] at hf; cases hf
        | inr v => rw [hv] at hf; cases hf; exact ⟨b1, by show e ≤ tEn n tx (tEn n tx s.1); omega, numS_v hv, h4, h5⟩
    · split at hf
      · split at hf
        · cases hf
        · split at hf
          · cases hf
          · rename_i c
            cases hf
            exact ⟨a1, by show e ≤ tEn n tx s.1; omega, h3, Nat.le_refl 1, fun _ => by have : ¬ nT N = 9 := fun z => c (Or.inl z); omega⟩
      · cases hf
  · obtain ⟨h1, h2, h3, h4, h5⟩ := hs
    unfold spS at hf
    split at hf
    · split at hf
      · cases hf; exact trivial
      · cases hv : numS n tx (tEn n tx s.1) 1 5 with
        | inl q => rw [hv] at hf; cases hf; exact trivial
        | inr v => rw [hv] at hf; cases hf
    · split at hf
      · split at hf
        · cases hf; exact trivial
        · split at hf
          · cases hf; exact trivial
          · cases hf
      · cases hf; exact ⟨h1, h2, h3, h4, h5⟩
theorem okD_Ts (hD : okD D) {a b o : Nat} (ha : a < nP D.1) (hb : b < nP D.1) (ho : o ≤ 16) (hT : nT D.1 < 10) {x : Nat × Nat} (hx : 1 ≤ x.1 ∧ x.1 ≤ 5) (h9 : x.2 = 1 → nT D.1 < 9) : okD (addTs D a b o x) := by
  unfold addTs
  split
  · rename_i c
    exact okD_T (okD_T hD ha hb ho hx hT) hb ha ho hx (by show nT D.1 + 1 < 10; have := h9 c; omega)
  · exact okD_T hD ha hb ho hx hT
theorem spT3_ok (hn : n ≤ 600) (he : e ≤ n) (hD : okD D) {a b o : Nat} (ha : a < nP D.1) (hb : b < nP D.1) (ho : o ≤ 16) (hT : nT D.1 < 10) {x : Nat × DT} (h : spT3 n tx e o D a b = .inr x) : x.1 ≤ n ∧ e ≤ x.1 ∧ okD x.2 := by
  unfold spT3 at h
  have g := spS_ok (tx := tx) hn he (N := D.1) (a := a) (b := b) hT 700
  generalize rn (spS n tx D.1 a b) (.inl (0, 0)) 700 (e, 0, 1, 0) = r at h g
  cases r with
  | inl q => cases h
  | inr y =>
    dsimp only at h
    obtain ⟨g1, g2, g3, g4, g5⟩ := g
    obtain ⟨d1, d2, d3⟩ := en_ok (tx := tx) hn g1
    cases hx : expS n tx y.1 3 with
    | inl q => rw [hx] at h; cases h
    | inr _ =>
      rw [hx] at h
      cases h
      exact ⟨d1, by show e ≤ tEn n tx y.1; omega, okD_Ts hD ha hb ho hT g3 g5⟩
theorem spT_ok (hn : n ≤ 600) (he : e ≤ n) (hD : okD D) (hk : ¬ tKd n tx e = 0) {x : Nat × DT} (h : spT n tx e D = .inr x) : x.1 ≤ n ∧ e < x.1 ∧ okD x.2 := by
  obtain ⟨a1, a2, a3⟩ := en_ok (tx := tx) hn he
  obtain ⟨b1, b2, b3⟩ := en_ok (tx := tx) hn a1
  obtain ⟨c1, c2, c3⟩ := en_ok (tx := tx) hn b1
  obtain ⟨d1, d2, d3⟩ := en_ok (tx := tx) hn c1
  obtain ⟨f1, f2, f3⟩ := en_ok (tx := tx) hn d1
  obtain ⟨g1, g2, g3⟩ := en_ok (tx := tx) hn f1
  have e1 := a3 hk
  unfold spT at h
  split at h
  · cases h
  · rename_i nT10
    cases h1 : namS n tx (tEn n tx e) D with
    | inl q => rw [h1] at h; cases h
    | inr a =>
      rw [h1] at h
      dsimp only at h
      cases h2 : expS n tx (tEn n tx (tEn n tx e)) 8 with
      | inl q => rw [h2] at h; cases h
      | inr _ =>
        rw [h2] at h
        dsimp only at h
        unfold spT1 at h
        cases h3 : namS n tx (tEn n tx (tEn n tx (tEn n tx e))) D with
        | inl q => rw [h3] at h; cases h
        | inr b =>
          rw [h3] at h
          dsimp only at h
          split at h
          · cases h
          · split at h
            · cases h
            · unfold spT2 at h
              cases h4 : expS n tx (tEn n tx (tEn n tx (tEn n tx (tEn n tx e)))) 9 with
              | inl q => rw [h4] at h; cases h
              | inr _ =>
                rw [h4] at h
                dsimp only at h
                cases h5 : numS n tx (tEn n tx (tEn n tx (tEn n tx (tEn n tx (tEn n tx e))))) 0 16 with
                | inl q => rw [h5] at h; cases h
                | inr o =>
                  rw [h5] at h
                  dsimp only at h
                  have := spT3_ok hn g1 hD (namS_v h1) (namS_v h3) (numS_v h5).2 (by have := hD.1.2.1; omega) h
                  exact ⟨this.1, by omega, this.2.2⟩
theorem spV_ok (hn : n ≤ 600) (he : e ≤ n) (hD : okD D) (hk : ¬ tKd n tx e = 0) {x : Nat × DT} (h : spV n tx e D = .inr x) : x.1 ≤ n ∧ e < x.1 ∧ okD x.2 := by
  obtain ⟨a1, a2, a3⟩ := en_ok (tx := tx) hn he
  obtain ⟨b1, b2, b3⟩ := en_ok (tx := tx) hn a1
  obtain ⟨c1, c2, c3⟩ := en_ok (tx := tx) hn b1
  obtain ⟨d1, d2, d3⟩ := en_ok (tx := tx) hn c1
  obtain ⟨f1, f2, f3⟩ := en_ok (tx := tx) hn d1
  have e1 := a3 hk
  unfold spV at h
  cases h1 : numS n tx (tEn n tx e) 0 3 with
  | inl q => rw [h1] at h; cases h
  | inr v =>
    rw [h1] at h
    dsimp only at h
    split at h
    · cases h
    · unfold spV2 at h
      cases h2 : expS n tx (tEn n tx (tEn n tx e)) 11 with
      | inl q => rw [h2] at h; cases h
      | inr _ =>
        rw [h2] at h
        dsimp only at h
        cases h3 : numS n tx (tEn n tx (tEn n tx (tEn n tx e))) 0 12 with
        | inl q => rw [h3] at h; cases h
        | inr m =>
          rw [h3] at h
          dsimp only at h
          cases h4 : expS n tx (tEn n tx (tEn n tx (tEn n tx (tEn n tx e)))) 3 with
          | inl q => rw [h4] at h; cases h
          | inr _ =>
            rw [h4] at h
            cases h
            have hv := numS_v h1
            exact ⟨f1, by show e < tEn n tx (tEn n tx (tEn n tx (tEn n tx (tEn n tx e)))); omega, okD_V hD (by omega) (numS_v h3).2⟩
end
