/-! numbers, sets as numbers -/
theorem nb_and (a b : Nat) : nI a &&& nI b = nI (a &&& b) := by
  apply Int32.toBitVec_inj.1
  show BitVec.ofNat 32 a &&& BitVec.ofNat 32 b = BitVec.ofNat 32 (a &&& b)
  apply BitVec.eq_of_getLsbD_eq
  intro i hi
  simp [hi]
theorem nb_or (a b : Nat) : nI a ||| nI b = nI (a ||| b) := by
  apply Int32.toBitVec_inj.1
  show BitVec.ofNat 32 a ||| BitVec.ofNat 32 b = BitVec.ofNat 32 (a ||| b)
  apply BitVec.eq_of_getLsbD_eq
  intro i hi
  simp [hi]
theorem nb_sl : ∀ n, n < 32 → ((nI n &&& 31).toBitVec.smod 32).toNat = n := by decide +kernel
theorem nb_one : ∀ k, k < 31 → (1 : Int32) <<< (nI k &&& 31) = nI (2 ^ k) := by decide +kernel
theorem nb_shr {n k : Nat} (hn : n < 2 ^ 31) (hk : k < 31) : nI n >>> (nI k &&& 31) = nI (n / 2 ^ k) := pk_shrN hn _ k (nb_sl k (by omega))
theorem nb_and1 {n : Nat} (hn : n < 2 ^ 32) : nI n &&& 1 = nI (n % 2) := pk_andN hn 1 (by decide)
theorem nb_bit {n k : Nat} (hn : n < 2 ^ 31) (hk : k < 31) : ((nI n >>> (nI k &&& 31)) &&& 1) = 0 ↔ n.testBit k = false := by
  have h1 : n / 2 ^ k < 2 ^ 32 := Nat.lt_of_le_of_lt (Nat.div_le_self _ _) (by omega)
  rw [nb_shr hn hk, nb_and1 h1, Nat.testBit_eq_decide_div_mod_eq]
  have h2 : n / 2 ^ k % 2 < 2 := Nat.mod_lt _ (by decide)
  rw [show (0 : Int32) = nI 0 from rfl, nI_eq (by omega) (by omega)]
  simp
theorem nb_bit1 {n k : Nat} (hn : n < 2 ^ 31) (hk : k < 31) : ((nI n >>> (nI k &&& 31)) &&& 1) = 1 ↔ n.testBit k = true := by
  have h1 : n / 2 ^ k < 2 ^ 32 := Nat.lt_of_le_of_lt (Nat.div_le_self _ _) (by omega)
  rw [nb_shr hn hk, nb_and1 h1, Nat.testBit_eq_decide_div_mod_eq]
  have h2 : n / 2 ^ k % 2 < 2 := Nat.mod_lt _ (by decide)
  rw [show (1 : Int32) = nI 1 from rfl, nI_eq (by omega) (by omega)]
  simp
/-- the set without another -/
def sd (a b : Nat) : Nat := (a ^^^ b) &&& a
theorem sd_bit (a b i : Nat) : (sd a b).testBit i = (a.testBit i && !b.testBit i) := by
  unfold sd
  rw [Nat.testBit_and, Nat.testBit_xor]
  cases a.testBit i <;> cases b.testBit i <;> rfl
theorem sd_le (a b : Nat) : sd a b ≤ a := Nat.and_le_right
theorem nb_not (a b : Nat) : nI a &&& (nI b ^^^ (-1)) = nI (sd a b) := by
  apply Int32.toBitVec_inj.1
  have hm : (-1 : Int32).toBitVec = BitVec.allOnes 32 := by decide +kernel
  show BitVec.ofNat 32 a &&& (BitVec.ofNat 32 b ^^^ (-1 : Int32).toBitVec) = BitVec.ofNat 32 (sd a b)
  rw [hm]
  apply BitVec.eq_of_getLsbD_eq
  intro i hi
  rw [BitVec.getLsbD_and, BitVec.getLsbD_xor, BitVec.getLsbD_allOnes, BitVec.getLsbD_ofNat, BitVec.getLsbD_ofNat, BitVec.getLsbD_ofNat, sd_bit]
  simp only [hi, decide_true, Bool.true_and, Bool.xor_true]
theorem nb_one_lt {k n : Nat} (h : k < n) : 2 ^ k < 2 ^ n := Nat.pow_lt_pow_right (by decide) h
theorem nb_or_lt {a b n : Nat} (ha : a < 2 ^ n) (hb : b < 2 ^ n) : a ||| b < 2 ^ n := Nat.or_lt_two_pow ha hb
theorem nb_m1 : (-1 : Int32).toInt = -1 := by decide
theorem nb_neg {n : Nat} (h : n < 2 ^ 31) : ¬ nI n < 0 := nI_pos h
/-- one number is a set of people or ties: 0 to 2 to the power of n, less one -/
theorem nb_ushr {n k : Nat} (hn : n < 2 ^ 32) (hk : k < 32) : (Int32.toUInt32 (nI n) >>> (Int32.toUInt32 (nI k) &&& Int32.toUInt32 31)).toInt32 = nI (n / 2 ^ k) := pk_ushrN hn _ k (by revert hk; revert k; decide +kernel)
/-- how many of the first n -/
def pcn (s : Nat) : Nat → Nat
  | 0 => 0
  | n + 1 => pcn s n + (if s.testBit n then 1 else 0)
/-- how many are in a set of less than 16 -/
def pc (s : Nat) : Nat := pcn s 16
theorem pcn_le (s n : Nat) : pcn s n ≤ n := by
  induction n with
  | zero => exact Nat.le_refl _
  | succ n ih => unfold pcn; split <;> omega
theorem pc_le (s : Nat) : pc s ≤ 16 := pcn_le s 16
/-- the lowest -/
def lo1 (s : Nat) : Nat → Nat
  | 0 => 0
  | n + 1 => if s % 2 = 1 then 0 else lo1 (s / 2) n + 1
def low (s : Nat) : Nat := lo1 s 16
theorem lp_seq {S : Type} {b : (S → Prop) → S → Prop} (F : Nat → S) (N : Nat) (hs : ∀ i, i < N → ∀ K : S → Prop, K (F (i + 1)) → b K (F i)) (he : ∀ K : S → Prop, b K (F N)) : ∃ n, lp b n (F 0) := by
  have key : ∀ d i, i + d = N → lp b (d + 1) (F i) := by
    intro d
    induction d with
    | zero => intro i hi; rw [show i = N by omega]; exact he _
    | succ d ih => intro i hi; exact hs i (by omega) _ (ih (i + 1) (by omega))
  exact ⟨N + 1, key N 0 (by omega)⟩
theorem lp_inv {S : Type} {b : (S → Prop) → S → Prop} (Q : Nat → S → Prop) (N : Nat) (hs : ∀ i s, i < N → Q i s → ∀ K : S → Prop, (∀ s', Q (i + 1) s' → K s') → b K s) (he : ∀ s, Q N s → ∀ K : S → Prop, b K s) (s : S) (h : Q 0 s) : ∃ n, lp b n s := by
  have key : ∀ d i s, i + d = N → Q i s → lp b (d + 1) s := by
    intro d
    induction d with
    | zero => intro i s hi hq; rw [show i = N by omega] at hq; exact he s hq _
    | succ d ih => intro i s hi hq; exact hs i s (by omega) hq _ (fun s' hq' => ih (i + 1) s' (by omega) hq')
  exact ⟨N + 1, key N 0 s (by omega) h⟩
