/-! what a text says: the spec that both readers keep -/
abbrev DT : Type := NT × (Nat → Nat) × Nat
def wk (k : Nat) : Nat := if k = 1 then 1 else 2
def rn {S R : Type} (f : S → S ⊕ R) (d : R) : Nat → S → R
  | 0, _ => d
  | m + 1, s => match f s with
    | .inl s' => rn f d m s'
    | .inr r => r
theorem rn_l {S R : Type} {f : S → S ⊕ R} {d : R} {m : Nat} {s s' : S} (h : f s = .inl s') : rn f d (m + 1) s = rn f d m s' := by
  show (match f s with | .inl s' => rn f d m s' | .inr r => r) = _
  rw [h]
theorem rn_r {S R : Type} {f : S → S ⊕ R} {d : R} {m : Nat} {s : S} {r : R} (h : f s = .inr r) : rn f d (m + 1) s = r := by
  show (match f s with | .inl s' => rn f d m s' | .inr r => r) = _
  rw [h]
theorem lp_rn {X S R : Type} {f : S → S ⊕ R} {d R0 : R} (u : S → Nat) (Q : S → X → Prop) (QF : X → Prop) {b : (X → Prop) → X → Prop} (hF : ∀ x, QF x → ∀ K : X → Prop, b K x) (hs : ∀ s x s', Q s x → f s = .inl s' → u s' < u s ∧ ∀ K : X → Prop, (∀ x', Q s' x' → K x') → b K x) (he : ∀ s x, Q s x → f s = .inr R0 → ∀ K : X → Prop, (∀ x', QF x' → K x') → b K x) : ∀ m s x, u s < m → rn f d m s = R0 → Q s x → ∃ n, lp b n x := by
  have key : ∀ m s x, u s < m → rn f d m s = R0 → Q s x → lp b (m + 1) x := by
    intro m
    induction m with
    | zero => intro s x h; exact absurd h (Nat.not_lt_zero _)
    | succ m ih =>
      intro s x hu hr hq
      cases hf : f s with
      | inl s' =>
        rw [rn_l hf] at hr
        obtain ⟨a1, a2⟩ := hs s x s' hq hf
        exact a2 _ (fun x' hx' => ih s' x' (by omega) hr hx')
      | inr r =>
        rw [rn_r hf] at hr
        subst hr
        exact he s x hq hf _ (fun x' hx' => hF x' hx' _)
  exact fun m s x h1 h2 h3 => ⟨m + 1, key m s x h1 h2 h3⟩
def fnd (f : Nat → Nat) (w : Nat) : Nat → Nat
  | 0 => 0
  | m + 1 => if fnd f w m < m then fnd f w m else if f m = w then m else m + 1
theorem fnd_ok (f : Nat → Nat) (w : Nat) : ∀ m, fnd f w m ≤ m ∧ (fnd f w m < m → f (fnd f w m) = w) ∧ ∀ j, j < fnd f w m → ¬ f j = w := by
  intro m
  induction m with
  | zero => exact ⟨Nat.le_refl _, fun z => absurd z (Nat.lt_irrefl _), fun j hj => absurd hj (Nat.not_lt_zero _)⟩
  | succ m ih =>
    obtain ⟨i1, i2, i3⟩ := ih
    unfold fnd
    by_cases c : fnd f w m < m
    · rw [if_pos c]
      exact ⟨by omega, fun _ => i2 c, i3⟩
    · rw [if_neg c]
      have em : fnd f w m = m := by omega
      rw [em] at i3
      by_cases c2 : f m = w
      · rw [if_pos c2]
        exact ⟨by omega, fun _ => c2, i3⟩
      · rw [if_neg c2]
        refine ⟨Nat.le_refl _, fun z => absurd z (Nat.lt_irrefl _), fun j hj => ?_⟩
        rcases Nat.lt_or_eq_of_le (Nat.lt_succ_iff.mp hj) with y | y
        · exact i3 j y
        · rw [y]; exact c2
theorem fnd_u {f : Nat → Nat} {w m r : Nat} (h1 : r ≤ m) (h2 : r < m → f r = w) (h3 : ∀ j, j < r → ¬ f j = w) : fnd f w m = r := by
  obtain ⟨a, b, c⟩ := fnd_ok f w m
  rcases Nat.lt_trichotomy (fnd f w m) r with z | z | z
  · exact absurd (b (by omega)) (h3 _ z)
  · exact z
  · exact absurd (h2 (by omega)) (c _ z)
def thr (N : NT) (a b : Nat) : Bool := decide (0 < cnt (fun t => decide (nFr N t = a) && decide (nTo N t = b)) (nT N))
section
variable (n : Nat) (tx : Nat → Nat)
def expS (e k : Nat) : (Nat × Nat) ⊕ Unit := if tKd n tx e = k then .inr () else .inl (wk (tKd n tx e), tSt n tx e)
def numS (e lo hi : Nat) : (Nat × Nat) ⊕ Nat := if ¬ tKd n tx e = 2 then .inl (wk (tKd n tx e), tSt n tx e) else if ¬ (lo ≤ tNu n tx e ∧ tNu n tx e ≤ hi) then .inl (4, tSt n tx e) else .inr (tNu n tx e)
def namS (e : Nat) (D : DT) : (Nat × Nat) ⊕ Nat := if ¬ tKd n tx e = 5 then .inl (wk (tKd n tx e), tSt n tx e) else if fnd D.2.1 (tWd n tx e) (nP D.1) < nP D.1 then .inr (fnd D.2.1 (tWd n tx e) (nP D.1)) else .inl (3, tSt n tx e)
def tLo (k : Nat) : Nat := if k = 13 then 1 else 0
def tHi (k : Nat) : Nat := if k = 12 then 3 else if k = 13 then 3 else if k = 14 then 5 else 99
abbrev TS : Type := Nat × Nat × (Nat → Nat)
def trS (s : TS) : TS ⊕ ((Nat × Nat) ⊕ (Nat × (Nat → Nat))) :=
  if ¬ (12 ≤ tKd n tx s.1 ∧ tKd n tx s.1 ≤ 16) then .inr (.inr (s.1, s.2.2))
  else if s.2.1.testBit (tKd n tx s.1 - 12) = true then .inr (.inl (5, tSt n tx s.1))
  else if tKd n tx s.1 = 15 then .inl (tEn n tx s.1, s.2.1 ||| 2 ^ 3, sN s.2.2 3 1)
  else match numS n tx (tEn n tx s.1) (tLo (tKd n tx s.1)) (tHi (tKd n tx s.1)) with
    | .inl q => .inr (.inl q)
    | .inr v => .inl (tEn n tx (tEn n tx s.1), s.2.1 ||| 2 ^ (tKd n tx s.1 - 12), sN s.2.2 (tKd n tx s.1 - 12) v)
def td0 (j : Nat) : Nat := if j = 1 ∨ j = 4 then 1 else 0
def addP (D : DT) (tr : Nat → Nat) (w : Nat) : DT := (((nP D.1 + 1, nT D.1, nS D.1 ||| (if tr 3 = 1 then 2 ^ nP D.1 else 0)), (nFr D.1, nTo D.1, nOd D.1, nHr D.1), (sN (nVl D.1) (nP D.1) (tr 0), sN (nNd D.1) (nP D.1) (tr 1), sN (nLt D.1) (nP D.1) (tr 2), sN (nCo D.1) (nP D.1) (tr 4)), nMo D.1), sN D.2.1 (nP D.1) w, D.2.2)
def spP (e : Nat) (D : DT) : (Nat × Nat) ⊕ (Nat × DT) :=
  if ¬ tKd n tx (tEn n tx e) = 5 then .inl (wk (tKd n tx (tEn n tx e)), tSt n tx (tEn n tx e))
  else if fnd D.2.1 (tWd n tx (tEn n tx e)) (nP D.1) < nP D.1 then .inl (3, tSt n tx (tEn n tx e))
  else if nP D.1 = 12 then .inl (6, tSt n tx (tEn n tx e))
  else match rn (trS n tx) (.inl (0, 0)) 700 (tEn n tx (tEn n tx e), 0, td0) with
    | .inl q => .inl q
    | .inr x => match expS n tx x.1 3 with
      | .inl q => .inl q
      | .inr _ => .inr (tEn n tx x.1, addP D x.2 (tWd n tx (tEn n tx e)))
abbrev SS : Type := Nat × Nat × Nat × Nat
def spS (N : NT) (a b : Nat) (s : SS) : SS ⊕ ((Nat × Nat) ⊕ (Nat × Nat × Nat)) :=
  if tKd n tx s.1 = 17 then
    if s.2.1 = 1 then .inr (.inl (5, tSt n tx s.1))
    else match numS n tx (tEn n tx s.1) 1 5 with
      | .inl q => .inr (.inl q)
      | .inr v => .inl (tEn n tx (tEn n tx s.1), 1, v, s.2.2.2)
  else if tKd n tx s.1 = 18 then
    if s.2.2.2 = 1 then .inr (.inl (5, tSt n tx s.1))
    else if nT N = 9 ∨ thr N b a = true then .inr (.inl (6, tSt n tx s.1))
    else .inl (tEn n tx s.1, s.2.1, s.2.2.1, 1)
  else .inr (.inr (s.1, s.2.2.1, s.2.2.2))
def addT (D : DT) (a b o h : Nat) : DT := (((nP D.1, nT D.1 + 1, nS D.1), (sN (nFr D.1) (nT D.1) a, sN (nTo D.1) (nT D.1) b, sN (nOd D.1) (nT D.1) o, sN (nHr D.1) (nT D.1) h), (nVl D.1, nNd D.1, nLt D.1, nCo D.1), nMo D.1), D.2.1, D.2.2)
def addTs (D : DT) (a b o : Nat) (x : Nat × Nat) : DT := if x.2 = 1 then addT (addT D a b o x.1) b a o x.1 else addT D a b o x.1
/-- behind the odds -/
def spT3 (e o : Nat) (D : DT) (a b : Nat) : (Nat × Nat) ⊕ (Nat × DT) :=
  match rn (spS n tx D.1 a b) (.inl (0, 0)) 700 (e, 0, 1, 0) with
  | .inl q => .inl q
  | .inr x => match expS n tx x.1 3 with
    | .inl q => .inl q
    | .inr _ => .inr (tEn n tx x.1, addTs D a b o x.2)
/-- behind the second name -/
def spT2 (e : Nat) (D : DT) (a b : Nat) : (Nat × Nat) ⊕ (Nat × DT) :=
  match expS n tx e 9 with
  | .inl q => .inl q
  | .inr _ => match numS n tx (tEn n tx e) 0 16 with
    | .inl q => .inl q
    | .inr o => spT3 n tx (tEn n tx (tEn n tx e)) o D a b
/-- at the second name -/
def spT1 (e : Nat) (D : DT) (a : Nat) : (Nat × Nat) ⊕ (Nat × DT) :=
  match namS n tx e D with
  | .inl q => .inl q
  | .inr b => if a = b then .inl (5, tSt n tx e) else if thr D.1 a b = true then .inl (6, tSt n tx e) else spT2 n tx (tEn n tx e) D a b
def spT (e : Nat) (D : DT) : (Nat × Nat) ⊕ (Nat × DT) :=
  if nT D.1 = 10 then .inl (6, tSt n tx e)
  else match namS n tx (tEn n tx e) D with
    | .inl q => .inl q
    | .inr a => match expS n tx (tEn n tx (tEn n tx e)) 8 with
      | .inl q => .inl q
      | .inr _ => spT1 n tx (tEn n tx (tEn n tx (tEn n tx e))) D a
def addV (D : DT) (v m : Nat) : DT := (((nP D.1, nT D.1, nS D.1), (nFr D.1, nTo D.1, nOd D.1, nHr D.1), (nVl D.1, nNd D.1, nLt D.1, nCo D.1), sN (nMo D.1) v m), D.2.1, D.2.2 ||| 2 ^ v)
def spV2 (e : Nat) (D : DT) (v : Nat) : (Nat × Nat) ⊕ (Nat × DT) :=
  match expS n tx e 11 with
  | .inl q => .inl q
  | .inr _ => match numS n tx (tEn n tx e) 0 12 with
    | .inl q => .inl q
    | .inr m => match expS n tx (tEn n tx (tEn n tx e)) 3 with
      | .inl q => .inl q
      | .inr _ => .inr (tEn n tx (tEn n tx (tEn n tx e)), addV D v m)
def spV (e : Nat) (D : DT) : (Nat × Nat) ⊕ (Nat × DT) :=
  match numS n tx (tEn n tx e) 0 3 with
  | .inl q => .inl q
  | .inr v => if D.2.2.testBit v = true then .inl (5, tSt n tx (tEn n tx e)) else spV2 n tx (tEn n tx (tEn n tx e)) D v
abbrev MS : Type := Nat × DT
def spM (s : MS) : MS ⊕ ((Nat × Nat) ⊕ DT) :=
  if tKd n tx s.1 = 0 then .inr (.inr s.2)
  else match (if tKd n tx s.1 = 6 then spP n tx s.1 s.2 else if tKd n tx s.1 = 7 then spT n tx s.1 s.2 else if tKd n tx s.1 = 10 then spV n tx s.1 s.2 else .inl (wk (tKd n tx s.1), tSt n tx s.1)) with
    | .inl q => .inr (.inl q)
    | .inr x => .inl x
def D0 : DT := (((0, 0, 0), (fun _ => 0, fun _ => 0, fun _ => 0, fun _ => 0), (fun _ => 0, fun _ => 0, fun _ => 0, fun _ => 0), fun _ => 12), fun _ => 0, 0)
def prsS : (Nat × Nat) ⊕ DT := rn (spM n tx) (.inl (0, 0)) 700 (0, D0)
end
def okD (D : DT) : Prop := okN D.1 ∧ (∀ p, p < nP D.1 → D.2.1 p < 2 ^ 40) ∧ D.2.2 < 2 ^ 4
theorem okD_0 : okD D0 := by
  refine ⟨⟨by decide, by decide, by decide, fun t ht => absurd ht (Nat.not_lt_zero _), fun t ht => absurd ht (Nat.not_lt_zero _), fun v _ => by show 12 ≤ 12; decide⟩, fun t ht => absurd ht (Nat.not_lt_zero _), by decide⟩
def okTr (tr : Nat → Nat) : Prop := tr 0 < 4 ∧ (1 ≤ tr 1 ∧ tr 1 ≤ 3) ∧ tr 2 ≤ 5 ∧ tr 3 ≤ 1 ∧ tr 4 ≤ 99
theorem okTr_0 : okTr td0 := by unfold okTr td0; decide
theorem sN_at (f : Nat → Nat) (p v : Nat) : sN f p v p = v := if_pos rfl
theorem sN_ne {f : Nat → Nat} {p v q : Nat} (h : q ≠ p) : sN f p v q = f q := if_neg h
theorem okD_P {D : DT} (h : okD D) {tr : Nat → Nat} (ht : okTr tr) {w : Nat} (hw : w < 2 ^ 40) (hP : nP D.1 < 12) : okD (addP D tr w) := by
  obtain ⟨⟨o1, o2, o3, o4, o5, o6⟩, d2, d3⟩ := h
  obtain ⟨t0, t1, t2, t3, t4⟩ := ht
  refine ⟨⟨?_, o2, ?_, fun t hh => ?_, fun p hh => ?_, o6⟩, fun p hh => ?_, d3⟩
  · show nP D.1 + 1 ≤ 12; omega
  · show nS D.1 ||| (if tr 3 = 1 then 2 ^ nP D.1 else 0) < 2 ^ (nP D.1 + 1)
    refine nb_or_lt (Nat.lt_of_lt_of_le o3 (Nat.pow_le_pow_right (by decide) (by omega))) ?_
    split
    · exact nb_one_lt (by omega)
    · exact Nat.two_pow_pos _
  · obtain ⟨a, b, c⟩ := o4 t hh
    exact ⟨Nat.lt_succ_of_lt a, Nat.lt_succ_of_lt b, c⟩
  · have hh' : p < nP D.1 + 1 := hh
    show sN (nVl D.1) (nP D.1) (tr 0) p < 4 ∧ 1 ≤ sN (nNd D.1) (nP D.1) (tr 1) p ∧ sN (nNd D.1) (nP D.1) (tr 1) p ≤ 3 ∧ sN (nLt D.1) (nP D.1) (tr 2) p ≤ 5 ∧ sN (nCo D.1) (nP D.1) (tr 4) p ≤ 99
    by_cases y : p = nP D.1
    · rw [y, sN_at, sN_at, sN_at, sN_at]; exact ⟨t0, t1.1, t1.2, t2, t4⟩
    · rw [sN_ne y, sN_ne y, sN_ne y, sN_ne y]; exact o5 p (by omega)
  · have hh' : p < nP D.1 + 1 := hh
    show sN D.2.1 (nP D.1) w p < 2 ^ 40
    by_cases y : p = nP D.1
    · rw [y, sN_at]; exact hw
    · rw [sN_ne y]; exact d2 p (by omega)
theorem okD_T {D : DT} (h : okD D) {a b o hr : Nat} (ha : a < nP D.1) (hb : b < nP D.1) (ho : o ≤ 16) (hh : 1 ≤ hr ∧ hr ≤ 5) (hT : nT D.1 < 10) : okD (addT D a b o hr) := by
  obtain ⟨⟨o1, o2, o3, o4, o5, o6⟩, d2, d3⟩ := h
  refine ⟨⟨o1, ?_, o3, fun t hh2 => ?_, o5, o6⟩, d2, d3⟩
  · show nT D.1 + 1 ≤ 10; omega
  · have hh' : t < nT D.1 + 1 := hh2
    show sN (nFr D.1) (nT D.1) a t < nP D.1 ∧ sN (nTo D.1) (nT D.1) b t < nP D.1 ∧ sN (nOd D.1) (nT D.1) o t ≤ 16 ∧ 1 ≤ sN (nHr D.1) (nT D.1) hr t ∧ sN (nHr D.1) (nT D.1) hr t ≤ 5
    by_cases y : t = nT D.1
    · rw [y, sN_at, sN_at, sN_at, sN_at]; exact ⟨ha, hb, ho, hh.1, hh.2⟩
    · rw [sN_ne y, sN_ne y, sN_ne y, sN_ne y]; exact o4 t (by omega)
theorem okD_V {D : DT} (h : okD D) {v m : Nat} (hv : v < 4) (hm : m ≤ 12) : okD (addV D v m) := by
  obtain ⟨⟨o1, o2, o3, o4, o5, o6⟩, d2, d3⟩ := h
  refine ⟨⟨o1, o2, o3, o4, o5, fun q hq => ?_⟩, d2, nb_or_lt d3 (nb_one_lt hv)⟩
  show sN (nMo D.1) v m q ≤ 12
  by_cases y : q = v
  · rw [y, sN_at]; exact hm
  · rw [sN_ne y]; exact o6 q hq
theorem tk_w {n : Nat} {tx : Nat → Nat} (hn : n ≤ 600) {e : Nat} (he : e ≤ n) (h : 5 ≤ tKd n tx e) : tKd n tx e = kwl (tWd n tx e) 13 ∧ tWd n tx e < 2 ^ 40 := by
  have tk := tk_ok (tx := tx) hn he
  have rn : run n tx isL (tSt n tx e) (tWe n tx e) := pst_ok n tx isL 600 (tSt n tx e) tk.2.1 (by omega)
  obtain ⟨r1, r2, r3, r4⟩ := rn
  unfold tKd at h ⊢
  by_cases c1 : n ≤ tSt n tx e
  · rw [if_pos c1] at h; omega
  · rw [if_neg c1] at h ⊢
    by_cases c2 : isL (tx (tSt n tx e)) = true
    · rw [if_pos c2] at h ⊢
      by_cases c3 : 8 < tWe n tx e - tSt n tx e
      · rw [if_pos c3] at h; omega
      · rw [if_neg c3]
        have wl := wvl_lt (tx := tx) (s := tSt n tx e) (tWe n tx e - tSt n tx e) (fun k hk => r3 (tSt n tx e + k) (by omega) (by omega))
        have w8 := p32_8 (m := tWe n tx e - tSt n tx e) (by omega)
        exact ⟨rfl, Nat.lt_of_lt_of_le wl w8⟩
    · rw [if_neg c2] at h
      split at h
      · split at h <;> omega
      · split at h <;> omega
theorem tk_n {n : Nat} {tx : Nat → Nat} (hn : n ≤ 600) {e : Nat} (he : e ≤ n) (h : tKd n tx e = 2) : tNu n tx e < 1000 := by
  have tk := tk_ok (tx := tx) hn he
  have rn : run n tx isD (tSt n tx e) (tDe n tx e) := pst_ok n tx isD 600 (tSt n tx e) tk.2.1 (by omega)
  obtain ⟨r1, r2, r3, r4⟩ := rn
  have kr := kwl_r (wvl tx (tSt n tx e) (tWe n tx e - tSt n tx e)) 13
  unfold tKd at h
  by_cases c1 : n ≤ tSt n tx e
  · rw [if_pos c1] at h; omega
  · rw [if_neg c1] at h
    by_cases c2 : isL (tx (tSt n tx e)) = true
    · rw [if_pos c2] at h
      split at h <;> omega
    · rw [if_neg c2] at h
      by_cases c3 : isD (tx (tSt n tx e)) = true
      · rw [if_pos c3] at h
        by_cases c4 : 3 < tDe n tx e - tSt n tx e
        · rw [if_pos c4] at h; omega
        · have wl := nvl_lt (tx := tx) (s := tSt n tx e) (tDe n tx e - tSt n tx e) (fun k hk => r3 (tSt n tx e + k) (by omega) (by omega))
          have : 10 ^ (tDe n tx e - tSt n tx e) ≤ 10 ^ 3 := Nat.pow_le_pow_right (by decide) (by omega)
          exact Nat.lt_of_lt_of_le wl this
      · rw [if_neg c3] at h
        split at h <;> omega
