/-! the JDK's counts; bits -/
def bcF (x : Int32) : Int32 :=
  let z1 := x - ((UInt32.toInt32 (Int32.toUInt32 x >>> (Int32.toUInt32 1 &&& Int32.toUInt32 31))) &&& 1431655765)
  let z2 := (z1 &&& 858993459) + ((UInt32.toInt32 (Int32.toUInt32 z1 >>> (Int32.toUInt32 2 &&& Int32.toUInt32 31))) &&& 858993459)
  let z3 := (z2 + (UInt32.toInt32 (Int32.toUInt32 z2 >>> (Int32.toUInt32 4 &&& Int32.toUInt32 31)))) &&& 252645135
  let z4 := z3 + (UInt32.toInt32 (Int32.toUInt32 z3 >>> (Int32.toUInt32 8 &&& Int32.toUInt32 31)))
  let z5 := z4 + (UInt32.toInt32 (Int32.toUInt32 z4 >>> (Int32.toUInt32 16 &&& Int32.toUInt32 31)))
  z5 &&& 63
theorem bc_w {x : Int32} {Post : Int32 → Prop} (h : Post (bcF x)) : w_J6_bitCount_0f7a4 x Post := by
  intro z1 e1 z2 e2 z3 e3 z4 e4 z5 e5
  subst e1 e2 e3 e4 e5
  exact h
theorem bc_all : (List.range 4096).all (fun n => bcF (nI n) == nI (pc n)) = true := by decide +kernel
theorem q_bc {n : Nat} (hn : n < 4096) {Post : Int32 → Prop} (h : Post (nI (pc n))) : w_J6_bitCount_0f7a4 (nI n) Post := by
  refine bc_w ?_
  have := List.all_eq_true.mp bc_all n (List.mem_range.mpr hn)
  rw [eq_of_beq this]
  exact h
def ntA (x0 x1 : Int32) : Int32 := if x0 ≤ 4 then x1 + (UInt32.toInt32 (Int32.toUInt32 x0 >>> (Int32.toUInt32 1 &&& Int32.toUInt32 31))) else (x1 + 2) + (UInt32.toInt32 (Int32.toUInt32 (UInt32.toInt32 (Int32.toUInt32 x0 >>> (Int32.toUInt32 2 &&& Int32.toUInt32 31))) >>> (Int32.toUInt32 1 &&& Int32.toUInt32 31)))
def ntB (x0 x1 : Int32) : Int32 := if x0 ≤ 16 then ntA x0 x1 else ntA (UInt32.toInt32 (Int32.toUInt32 x0 >>> (Int32.toUInt32 4 &&& Int32.toUInt32 31))) (x1 + 4)
def ntC (x0 x1 : Int32) : Int32 := if x0 ≤ 256 then ntB x0 x1 else ntB (UInt32.toInt32 (Int32.toUInt32 x0 >>> (Int32.toUInt32 8 &&& Int32.toUInt32 31))) (x1 + 8)
def ntF (x : Int32) : Int32 := if 0 < ((x ^^^ (-1)) &&& (x - 1)) then (if ((x ^^^ (-1)) &&& (x - 1)) ≤ 65536 then ntC ((x ^^^ (-1)) &&& (x - 1)) 1 else ntC (UInt32.toInt32 (Int32.toUInt32 ((x ^^^ (-1)) &&& (x - 1)) >>> (Int32.toUInt32 16 &&& Int32.toUInt32 31))) (1 + 16)) else (((x ^^^ (-1)) &&& (x - 1)) &&& 32)
theorem nt_A {x0 x1 : Int32} {Post : Int32 → Prop} (h : Post (ntA x0 x1)) : wj_J6_numberOfTrailingZeros_0f7a4_62 x0 x1 Post := by
  unfold ntA at h
  refine ⟨fun c => ?_, fun c z1 e1 => ?_⟩
  · rw [if_pos c] at h; exact h
  · rw [if_neg c] at h; subst e1; exact h
theorem nt_B {x0 x1 : Int32} {Post : Int32 → Prop} (h : Post (ntB x0 x1)) : wj_J6_numberOfTrailingZeros_0f7a4_49 x0 x1 Post := by
  unfold ntB at h
  refine ⟨fun c => nt_A ?_, fun c z1 e1 => nt_A ?_⟩
  · rw [if_pos c] at h; exact h
  · rw [if_neg c] at h; subst e1; exact h
theorem nt_C {x0 x1 : Int32} {Post : Int32 → Prop} (h : Post (ntC x0 x1)) : wj_J6_numberOfTrailingZeros_0f7a4_34 x0 x1 Post := by
  unfold ntC at h
  refine ⟨fun c => nt_B ?_, fun c z1 e1 => nt_B ?_⟩
  · rw [if_pos c] at h; exact h
  · rw [if_neg c] at h; subst e1; exact h
theorem nt_w {x : Int32} {Post : Int32 → Prop} (h : Post (ntF x)) : w_J6_numberOfTrailingZeros_0f7a4 x Post := by
  unfold ntF at h
  refine ⟨fun c => ⟨fun c2 => nt_C ?_, fun c2 z e => nt_C ?_⟩, fun c => ?_⟩
  · rw [if_pos c, if_pos c2] at h; exact h
  · rw [if_pos c, if_neg c2] at h; subst e; exact h
  · rw [if_neg c] at h; exact h
theorem nt_all : (List.range 1024).all (fun n => n == 0 || (ntF (nI n) == nI (low n) && decide (low n < 10) && n.testBit (low n) && (nI n &&& (nI n - 1) == nI (n - 2 ^ low n)) && (n - 2 ^ low n == sd n (2 ^ low n)))) = true := by decide +kernel
theorem low_ok {n : Nat} (hn : n < 1024) (h0 : n ≠ 0) : ntF (nI n) = nI (low n) ∧ low n < 10 ∧ n.testBit (low n) = true ∧ nI n &&& (nI n - 1) = nI (sd n (2 ^ low n)) := by
  have h := List.all_eq_true.mp nt_all n (List.mem_range.mpr hn)
  simp only [Bool.or_eq_true, Bool.and_eq_true, beq_iff_eq, decide_eq_true_eq] at h
  rcases h with h | ⟨⟨⟨⟨h1, h2⟩, h3⟩, h4⟩, h5⟩
  · exact absurd h h0
  · exact ⟨h1, h2, h3, by rw [h4, h5]⟩
theorem q_nt {n : Nat} (hn : n < 1024) (h0 : n ≠ 0) {Post : Int32 → Prop} (h : Post (nI (low n))) : w_J6_numberOfTrailingZeros_0f7a4 (nI n) Post := nt_w (by rw [(low_ok hn h0).1]; exact h)
theorem q_has {s k : Nat} (hs : s < 2 ^ 31) (hk : k < 31) {Post : Bool → Prop} (h : Post (s.testBit k)) : w_X10_has (nI s) (nI k) Post := by
  refine ⟨fun c => ?_, fun c => ?_⟩
  · rw [(nb_bit hs hk).mp c] at h; exact h
  · have : s.testBit k = true := by
      cases hb : s.testBit k
      · exact absurd ((nb_bit hs hk).mpr hb) c
      · rfl
    rw [this] at h; exact h
