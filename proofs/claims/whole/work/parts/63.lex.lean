/-! the text of a net: tokens by where the one before ended -/
def sb (v : Nat) : Int32 := if v < 128 then nI v else nI v - 256
theorem sb_all : (List.range 256).all (fun v => decide ((sb v = 10 ↔ v = 10) ∧ (sb v = 32 ↔ v = 32) ∧ (sb v < 97 ↔ (v < 97 ∨ 128 ≤ v)) ∧ (122 < sb v ↔ (122 < v ∧ v < 128)) ∧ (sb v < 48 ↔ (v < 48 ∨ 128 ≤ v)) ∧ (57 < sb v ↔ (57 < v ∧ v < 128)) ∧ (sb v = 59 ↔ v = 59) ∧ sb v &&& 255 = nI v ∧ (v < 128 → sb v = nI v))) = true := by decide +kernel
theorem sb_ok {v : Nat} (h : v < 256) : (sb v = 10 ↔ v = 10) ∧ (sb v = 32 ↔ v = 32) ∧ (sb v < 97 ↔ (v < 97 ∨ 128 ≤ v)) ∧ (122 < sb v ↔ (122 < v ∧ v < 128)) ∧ (sb v < 48 ↔ (v < 48 ∨ 128 ≤ v)) ∧ (57 < sb v ↔ (57 < v ∧ v < 128)) ∧ (sb v = 59 ↔ v = 59) ∧ sb v &&& 255 = nI v ∧ (v < 128 → sb v = nI v) := of_decide_eq_true (List.all_eq_true.mp sb_all v (List.mem_range.mpr h))
theorem sb_i8 : (List.range 256).all (fun v => Int8.toInt32 (Int8.ofBitVec (BitVec.ofNat 8 v)) == sb v) = true := by decide +kernel
theorem sb_of {x : Int32} (h : Int8.toInt32 (Int32.toInt8 x) = x) : ∃ v, v < 256 ∧ x = sb v := by
  refine ⟨(Int32.toInt8 x).toBitVec.toNat, (Int32.toInt8 x).toBitVec.isLt, ?_⟩
  have := List.all_eq_true.mp sb_i8 _ (List.mem_range.mpr (Int32.toInt8 x).toBitVec.isLt)
  rw [← eq_of_beq this]
  have e : Int8.ofBitVec (BitVec.ofNat 8 (Int32.toInt8 x).toBitVec.toNat) = Int32.toInt8 x := by
    rw [BitVec.ofNat_toNat, BitVec.setWidth_eq]
    rfl
  rw [e, h]
def isB (v : Nat) : Bool := decide (v = 10) || decide (v = 32)
def isL (v : Nat) : Bool := decide (97 ≤ v) && decide (v ≤ 122)
def isD (v : Nat) : Bool := decide (48 ≤ v) && decide (v ≤ 57)
/-- from e on, past all of a sort -/
def pst (n : Nat) (tx : Nat → Nat) (f : Nat → Bool) : Nat → Nat → Nat
  | 0, e => e
  | d + 1, e => if e < n ∧ f (tx e) = true then pst n tx f d (e + 1) else e
theorem pst_ok (n : Nat) (tx : Nat → Nat) (f : Nat → Bool) : ∀ d e, e ≤ n → n ≤ e + d → e ≤ pst n tx f d e ∧ pst n tx f d e ≤ n ∧ (∀ k, e ≤ k → k < pst n tx f d e → f (tx k) = true) ∧ (pst n tx f d e < n → f (tx (pst n tx f d e)) = false) := by
  intro d
  induction d with
  | zero => intro e h1 h2; exact ⟨Nat.le_refl _, h1, fun k a b => absurd a (Nat.not_le.mpr b), fun z => absurd (show e < n from z) (by omega)⟩
  | succ d ih =>
    intro e h1 h2
    unfold pst
    split
    · rename_i c
      obtain ⟨a, b, g, h⟩ := ih (e + 1) (by omega) (by omega)
      refine ⟨by omega, b, fun k k1 k2 => ?_, h⟩
      rcases Nat.lt_or_eq_of_le k1 with y | y
      · exact g k y k2
      · rw [← y]; exact c.2
    · rename_i c
      refine ⟨Nat.le_refl _, h1, fun k a b => absurd a (Nat.not_le.mpr b), fun z => ?_⟩
      cases y : f (tx e)
      · rfl
      · exact absurd ⟨z, y⟩ c
theorem pst_u {n : Nat} {tx : Nat → Nat} {f : Nat → Bool} {d e r : Nat} (he : e ≤ n) (hd : n ≤ e + d) (h1 : e ≤ r) (h2 : r ≤ n) (h3 : ∀ k, e ≤ k → k < r → f (tx k) = true) (h4 : r < n → f (tx r) = false) : pst n tx f d e = r := by
  obtain ⟨a, b, g, h⟩ := pst_ok n tx f d e he hd
  rcases Nat.lt_trichotomy (pst n tx f d e) r with z | z | z
  · have := h3 _ a z
    rw [h (by omega)] at this; cases this
  · exact z
  · have := g r h1 z
    rw [h4 (by omega)] at this; cases this
def wvl (tx : Nat → Nat) (s : Nat) : Nat → Nat
  | 0 => 0
  | m + 1 => wvl tx s m * 32 + (tx (s + m) - 96)
def nvl (tx : Nat → Nat) (s : Nat) : Nat → Nat
  | 0 => 0
  | m + 1 => nvl tx s m * 10 + (tx (s + m) - 48)
theorem wvl_lt {tx : Nat → Nat} {s : Nat} : ∀ m, (∀ k, k < m → isL (tx (s + k)) = true) → wvl tx s m < 32 ^ m := by
  intro m
  induction m with
  | zero => intro _; exact Nat.one_pos
  | succ m ih =>
    intro h
    have i := ih (fun k hk => h k (by omega))
    have z := h m (Nat.lt_succ_self m)
    unfold isL at z
    rw [Bool.and_eq_true, decide_eq_true_eq, decide_eq_true_eq] at z
    unfold wvl
    rw [Nat.pow_succ]
    omega
theorem nvl_lt {tx : Nat → Nat} {s : Nat} : ∀ m, (∀ k, k < m → isD (tx (s + k)) = true) → nvl tx s m < 10 ^ m := by
  intro m
  induction m with
  | zero => intro _; exact Nat.one_pos
  | succ m ih =>
    intro h
    have i := ih (fun k hk => h k (by omega))
    have z := h m (Nat.lt_succ_self m)
    unfold isD at z
    rw [Bool.and_eq_true, decide_eq_true_eq, decide_eq_true_eq] at z
    unfold nvl
    rw [Nat.pow_succ]
    omega
/-- the kind of a word -/
def kwl (w : Nat) : Nat → Nat
  | 0 => 5
  | i + 1 => if wds.getD i 0 = w then 6 + i else kwl w i
def tSt (n : Nat) (tx : Nat → Nat) (e : Nat) : Nat := pst n tx isB 600 e
def tWe (n : Nat) (tx : Nat → Nat) (e : Nat) : Nat := pst n tx isL 600 (tSt n tx e)
def tDe (n : Nat) (tx : Nat → Nat) (e : Nat) : Nat := pst n tx isD 600 (tSt n tx e)
def tKd (n : Nat) (tx : Nat → Nat) (e : Nat) : Nat := if n ≤ tSt n tx e then 0 else if isL (tx (tSt n tx e)) = true then (if 8 < tWe n tx e - tSt n tx e then 4 else kwl (wvl tx (tSt n tx e) (tWe n tx e - tSt n tx e)) 13) else if isD (tx (tSt n tx e)) = true then (if 3 < tDe n tx e - tSt n tx e then 1 else 2) else if tx (tSt n tx e) = 59 then 3 else 1
def tEn (n : Nat) (tx : Nat → Nat) (e : Nat) : Nat := if n ≤ tSt n tx e then tSt n tx e else if isL (tx (tSt n tx e)) = true then tWe n tx e else if isD (tx (tSt n tx e)) = true then tDe n tx e else tSt n tx e + 1
def tNu (n : Nat) (tx : Nat → Nat) (e : Nat) : Nat := nvl tx (tSt n tx e) (tDe n tx e - tSt n tx e)
def tWd (n : Nat) (tx : Nat → Nat) (e : Nat) : Nat := wvl tx (tSt n tx e) (tWe n tx e - tSt n tx e)
theorem kwl_r (w : Nat) : ∀ i, kwl w i = 5 ∨ (6 ≤ kwl w i ∧ kwl w i < 6 + i) := by
  intro i
  induction i with
  | zero => exact Or.inl rfl
  | succ i ih =>
    unfold kwl
    split
    · exact Or.inr ⟨by omega, by omega⟩
    · rcases ih with z | z
      · exact Or.inl z
      · exact Or.inr ⟨z.1, by omega⟩
/-- what a word's kind says of it -/
theorem kwl_iff {w : Nat} : (∀ i, i < 13 → (kwl w 13 = 6 + i ↔ wds.getD i 0 = w)) := by
  intro i hi
  by_cases h : ∃ j, j < 13 ∧ wds.getD j 0 = w
  · obtain ⟨j, hj, rfl⟩ := h
    revert hi
    revert i
    revert hj
    revert j
    decide +kernel
  · have n : ∀ m, m ≤ 13 → kwl w m = 5 := by
      intro m
      induction m with
      | zero => intro _; rfl
      | succ m ih =>
        intro hm
        unfold kwl
        rw [if_neg (fun z => h ⟨m, by omega, z⟩), ih (by omega)]
    rw [n 13 (Nat.le_refl _)]
    exact ⟨fun z => (by omega), fun z => absurd ⟨i, hi, z⟩ h⟩
theorem tk_ok {n : Nat} {tx : Nat → Nat} (hn : n ≤ 600) {e : Nat} (he : e ≤ n) : e ≤ tSt n tx e ∧ tSt n tx e ≤ n ∧ tEn n tx e ≤ n ∧ tSt n tx e ≤ tEn n tx e ∧ (¬ tKd n tx e = 0 → tSt n tx e < n ∧ tSt n tx e < tEn n tx e) ∧ tKd n tx e ≤ 18 := by
  obtain ⟨a, b, g, h⟩ := pst_ok n tx isB 600 e he (by omega)
  have a' : e ≤ tSt n tx e := a
  have b' : tSt n tx e ≤ n := b
  obtain ⟨wa, wb, wg, wh⟩ := pst_ok n tx isL 600 (tSt n tx e) b' (by omega)
  obtain ⟨da, db, dg, dh⟩ := pst_ok n tx isD 600 (tSt n tx e) b' (by omega)
  have wa' : tSt n tx e ≤ tWe n tx e := wa
  have wb' : tWe n tx e ≤ n := wb
  have da' : tSt n tx e ≤ tDe n tx e := da
  have db' : tDe n tx e ≤ n := db
  have wl : tSt n tx e < n → isL (tx (tSt n tx e)) = true → tSt n tx e < tWe n tx e := fun z1 z2 => by
    rcases Nat.lt_or_eq_of_le wa' with y | y
    · exact y
    · have := wh (by show tWe n tx e < n; omega)
      rw [show pst n tx isL 600 (tSt n tx e) = tSt n tx e from y.symm, z2] at this
      cases this
  have dl : tSt n tx e < n → isD (tx (tSt n tx e)) = true → tSt n tx e < tDe n tx e := fun z1 z2 => by
    rcases Nat.lt_or_eq_of_le da' with y | y
    · exact y
    · have := dh (by show tDe n tx e < n; omega)
      rw [show pst n tx isD 600 (tSt n tx e) = tSt n tx e from y.symm, z2] at this
      cases this
  have kr := kwl_r (wvl tx (tSt n tx e) (tWe n tx e - tSt n tx e)) 13
  unfold tEn tKd
  by_cases c1 : n ≤ tSt n tx e
  · rw [if_pos c1, if_pos c1]
    exact ⟨a', b', b', Nat.le_refl _, fun z => absurd rfl z, by omega⟩
  · rw [if_neg c1, if_neg c1]
    have lt : tSt n tx e < n := by omega
    by_cases c2 : isL (tx (tSt n tx e)) = true
    · rw [if_pos c2, if_pos c2]
      refine ⟨a', b', wb', wa', fun _ => ⟨lt, wl lt c2⟩, ?_⟩
      split <;> omega
    · rw [if_neg c2, if_neg c2]
      by_cases c3 : isD (tx (tSt n tx e)) = true
      · rw [if_pos c3, if_pos c3]
        refine ⟨a', b', db', da', fun _ => ⟨lt, dl lt c3⟩, ?_⟩
        split <;> omega
      · rw [if_neg c3, if_neg c3]
        refine ⟨a', b', by omega, by omega, fun _ => ⟨lt, by omega⟩, ?_⟩
        split <;> omega
