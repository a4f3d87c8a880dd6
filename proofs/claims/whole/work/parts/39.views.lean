/-! sums by views -/
def mxf (f : Nat → Nat) : Nat → Nat
  | 0 => 0
  | n + 1 => max (mxf f n) (f n)
theorem mxf_congr {f g : Nat → Nat} {n : Nat} (h : ∀ i, i < n → f i = g i) : mxf f n = mxf g n := by
  induction n with
  | zero => rfl
  | succ n ih => show max (mxf f n) (f n) = max (mxf g n) (g n); rw [ih (fun i hi => h i (by omega)), h n (by omega)]
theorem mxf_le {f : Nat → Nat} {n m : Nat} (h : ∀ i, i < n → f i ≤ m) : mxf f n ≤ m := by
  induction n with
  | zero => exact Nat.zero_le _
  | succ n ih => exact Nat.max_le.mpr ⟨ih (fun i hi => h i (by omega)), h n (by omega)⟩
theorem mxf_ge {f : Nat → Nat} {n i : Nat} (hi : i < n) : f i ≤ mxf f n := by
  induction n with
  | zero => omega
  | succ n ih =>
    show f i ≤ max (mxf f n) (f n)
    by_cases c : i = n
    · rw [c]; exact Nat.le_max_right _ _
    · exact Nat.le_trans (ih (by omega)) (Nat.le_max_left _ _)
theorem sm_zero {f : Nat → Nat} {n : Nat} (h : ∀ i, i < n → f i = 0) : sm f n = 0 := by
  induction n with
  | zero => rfl
  | succ n ih => show sm f n + f n = 0; rw [ih (fun i hi => h i (by omega)), h n (by omega)]
theorem sm_one {f : Nat → Nat} {n k : Nat} (hk : k < n) (h : ∀ i, i < n → i ≠ k → f i = 0) : sm f n = f k := by
  induction n with
  | zero => omega
  | succ n ih =>
    show sm f n + f n = f k
    by_cases c : k = n
    · subst c; rw [sm_zero (fun i hi => h i (by omega) (by omega))]; omega
    · rw [ih (by omega) (fun i hi => h i (by omega)), h n (by omega) (fun q => c q.symm)]; omega
theorem sm_swap (f : Nat → Nat → Nat) (n m : Nat) : sm (fun i => sm (f i) m) n = sm (fun j => sm (fun i => f i j) n) m := by
  induction n with
  | zero => exact (sm_zero (fun _ _ => rfl)).symm
  | succ n ih =>
    show sm (fun i => sm (f i) m) n + sm (f n) m = sm (fun j => sm (fun i => f i j) n + f n j) m
    rw [ih, sm_add]
def kf (n P : Nat) (key : Nat → Nat) (W : Nat → Nat → Nat) (V : Nat) : Nat := mxf (fun b => sm (fun l => if key l = V then W b l else 0) n) P
def fsk (key : Nat → Nat) (l : Nat) : Nat := cnt (fun l' => decide (key l' = key l)) l
theorem kf_fst {n P : Nat} {key : Nat → Nat} {W : Nat → Nat → Nat} (V : Nat) : kf n P key W V = sm (fun l => if key l = V ∧ fsk key l = 0 then kf n P key W (key l) else 0) n := by
  by_cases c : ∃ l, l < n ∧ key l = V
  · obtain ⟨l0, ⟨h1, h2⟩, h3⟩ := pk_least (fun l => l < n ∧ key l = V) c
    have h4 : fsk key l0 = 0 := cnt_false (fun l hl => decide_eq_false (fun q => h3 l hl ⟨by omega, by rw [q, h2]⟩))
    rw [sm_one h1 (fun l hl hne => ?_)]
    · rw [if_pos ⟨h2, h4⟩, h2]
    · rw [if_neg]
      rintro ⟨q1, q2⟩
      rcases Nat.lt_or_ge l l0 with z | z
      · exact h3 l z ⟨hl, q1⟩
      · have : 0 < fsk key l := cnt_has (i := l0) (by omega) (decide_eq_true (by rw [h2, q1]))
        omega
  · have hn : ∀ l, l < n → ¬ key l = V := fun l hl q => c ⟨l, hl, q⟩
    rw [sm_zero (fun l hl => if_neg (fun q => hn l hl q.1))]
    refine Nat.le_zero.mp (mxf_le (fun b _ => ?_))
    rw [sm_zero (fun l hl => if_neg (hn l hl))]
    exact Nat.le_refl _
theorem kf_sum {n K P : Nat} {key : Nat → Nat} {W : Nat → Nat → Nat} (hk : ∀ l, l < n → key l < K) : sm (kf n P key W) K = sm (fun l => if fsk key l = 0 then kf n P key W (key l) else 0) n := by
  rw [sm_congr (fun V _ => kf_fst (n := n) (P := P) (key := key) (W := W) V), sm_swap]
  refine sm_congr (fun l hl => ?_)
  rw [sm_one (hk l hl) (fun V _ hne => if_neg (fun q => hne q.1.symm))]
  by_cases c : fsk key l = 0
  · rw [if_pos ⟨rfl, c⟩, if_pos c]
  · rw [if_neg (fun q => c q.2), if_neg c]
theorem kf_two {n K K' P : Nat} {key key' : Nat → Nat} {W : Nat → Nat → Nat} (hk : ∀ l, l < n → key l < K) (hk' : ∀ l, l < n → key' l < K') (h : ∀ l l', l < n → l' < n → (key l = key l' ↔ key' l = key' l')) : sm (kf n P key W) K = sm (kf n P key' W) K' := by
  rw [kf_sum hk, kf_sum hk']
  refine sm_congr (fun l hl => ?_)
  have e1 : fsk key l = fsk key' l := cnt_congr (fun l' hl' => decide_eq_decide.mpr (h l' l (by omega) hl))
  have e2 : kf n P key W (key l) = kf n P key' W (key' l) := mxf_congr (fun b _ => sm_congr (fun l' hl' => by
    by_cases c : key l' = key l
    · rw [if_pos c, if_pos ((h l' l hl' hl).mp c)]
    · rw [if_neg c, if_neg (fun q => c ((h l' l hl' hl).mpr q))]))
  rw [e1, e2]
theorem kf_ge {n K P b : Nat} {key : Nat → Nat} {W : Nat → Nat → Nat} (hk : ∀ l, l < n → key l < K) (hb : b < P) : sm (W b) n ≤ sm (kf n P key W) K := by
  have h1 : sm (fun V => sm (fun l => if key l = V then W b l else 0) n) K = sm (W b) n := by
    rw [sm_swap]
    refine sm_congr (fun l hl => ?_)
    rw [sm_one (hk l hl) (fun V _ hne => if_neg (fun q => hne q.symm)), if_pos rfl]
  rw [← h1]
  exact sm_mono (fun V _ => mxf_ge (f := fun b => sm (fun l => if key l = V then W b l else 0) n) hb)
theorem kf_le {n K P m : Nat} {key : Nat → Nat} {W : Nat → Nat → Nat} (h : ∀ b l, W b l ≤ m) : ∀ V, kf n P key W V ≤ n * m := fun V => mxf_le (fun b _ => sm_le (fun l _ => by split; exact h b l; exact Nat.zero_le _))
/-! who is reached by more: from those that are reached already -/
theorem rch_rch {N : NT} {S T L : Nat} (hS : S < 2 ^ nP N) (hT : T < 2 ^ nP N) : rch N (rch N S L ||| T) L = rch N (S ||| T) L := by
  have hST : S ||| T < 2 ^ nP N := nb_or_lt hS hT
  have hRT : rch N S L ||| T < 2 ^ nP N := nb_or_lt (rch_lt _ _ _) hT
  refine (rch_eq (rch_lt _ _ _) ?_ (rch_clo _ _ _) (fun Y hY hSY => ?_)).symm ▸ rfl
  · intro p hp
    rw [Nat.testBit_or, Bool.or_eq_true] at hp
    rcases hp with hp | hp
    · refine rch_sup hRT p ?_
      rw [Nat.testBit_or, rch_sup hS p hp]; rfl
    · refine rch_sup hRT p ?_
      rw [Nat.testBit_or, hp, Bool.or_true]
  · refine rch_min hY (fun p hp => ?_)
    rw [Nat.testBit_or, Bool.or_eq_true] at hp
    rcases hp with hp | hp
    · refine rch_min hY (fun q hq => hSY q ?_) p hp
      rw [Nat.testBit_or, hq]; rfl
    · refine hSY p ?_
      rw [Nat.testBit_or, hp, Bool.or_true]
theorem rch_self {N : NT} {S L b : Nat} (h : (rch N S L).testBit b = true) : rch N S L = rch N (rch N S L ||| 2 ^ b) L := by
  have e : rch N S L ||| 2 ^ b = rch N S L := by
    apply Nat.eq_of_testBit_eq
    intro j
    rw [or_bit]
    by_cases q : b = j
    · subst q; rw [h]; rfl
    · simp [q]
  rw [e]
  exact rch_eq (rch_lt _ _ _) (ssb_rf _) (rch_clo _ _ _) (fun Y _ hS => hS)
/-- of one alone: it, and such to whom a tie leads -/
theorem rch_into {N : NT} (hN : okN N) {a L p : Nat} (hp : p < nP N) (h : (rch N (2 ^ a) L).testBit p = true) : p = a ∨ inM N p ≠ 0 := by
  by_cases c : p = a
  · exact Or.inl c
  · refine Or.inr (fun q => ?_)
    have key := (rch_bit hp).mp h (mk (fun i => !decide (i = p)) (nP N + a + 1)) (fun i hi hs hn => ?_) (fun i hi => ?_)
    · rw [mk_bit] at key
      simp at key
    · rw [mk_bit]
      by_cases e : i = p
      · subst e
        have g0 : gets N L (mk (fun j => !decide (j = i)) (nP N + a + 1)) i = 0 := cnt_false (fun t ht => by
          have : (inM N i).testBit t = false := by rw [q]; exact Nat.zero_testBit t
          rw [inM_bit, decide_eq_true ht, Bool.true_and] at this
          unfold gf
          rw [this]; rfl)
        have := (hN.2.2.2.2.1 i hi).2.1
        omega
      · simp [e]; omega
    · rw [Nat.testBit_two_pow] at hi
      have := of_decide_eq_true hi
      subst this
      rw [mk_bit]
      rw [decide_eq_true (by omega : a < nP N + a + 1), Bool.true_and, decide_eq_false (fun q => c (q : a = p).symm)]
      rfl
/-! a view in as many bits as people to whom ties lead -/
def pkv (N : NT) (s : Nat) : Nat → Nat × Nat
  | 0 => (0, 0)
  | i + 1 => if inM N i = 0 then pkv N s i else ((pkv N s i).1 ||| (if s.testBit i then 2 ^ (pkv N s i).2 else 0), (pkv N s i).2 + 1)
def pk10 (N : NT) (s : Nat) : Nat := (pkv N s (nP N)).1
theorem pkv_b (N : NT) (s i : Nat) : (pkv N s i).2 = cnt (fun p => !decide (inM N p = 0)) i := by
  induction i with
  | zero => rfl
  | succ i ih =>
    have e : pkv N s (i + 1) = if inM N i = 0 then pkv N s i else ((pkv N s i).1 ||| (if s.testBit i then 2 ^ (pkv N s i).2 else 0), (pkv N s i).2 + 1) := rfl
    have c : cnt (fun p => !decide (inM N p = 0)) (i + 1) = cnt (fun p => !decide (inM N p = 0)) i + (if !decide (inM N i = 0) then 1 else 0) := rfl
    rw [e, c, ← ih]
    by_cases q : inM N i = 0
    · rw [if_pos q, decide_eq_true q]; rfl
    · rw [if_neg q, decide_eq_false q]; rfl
theorem pkv_lt (N : NT) (s i : Nat) : (pkv N s i).1 < 2 ^ (pkv N s i).2 := by
  induction i with
  | zero => exact Nat.two_pow_pos 0
  | succ i ih =>
    have e : pkv N s (i + 1) = if inM N i = 0 then pkv N s i else ((pkv N s i).1 ||| (if s.testBit i then 2 ^ (pkv N s i).2 else 0), (pkv N s i).2 + 1) := rfl
    rw [e]
    by_cases q : inM N i = 0
    · rw [if_pos q]; exact ih
    · rw [if_neg q]
      refine nb_or_lt (Nat.lt_trans ih (nb_one_lt (by omega))) ?_
      split
      · exact nb_one_lt (by omega)
      · exact Nat.two_pow_pos _
theorem cnt_eq1 (f : Nat → Bool) (k n : Nat) : cnt (fun p => f p || decide (k = p)) n ≤ cnt f n + (if k < n then 1 else 0) := by
  induction n with
  | zero => exact Nat.zero_le _
  | succ n ih =>
    have h0 : ∀ f : Nat → Bool, cnt f (n + 1) = cnt f n + (if f n then 1 else 0) := fun _ => rfl
    rw [h0, h0]
    by_cases c : k = n
    · subst c
      rw [if_neg (Nat.lt_irrefl _)] at ih
      rw [if_pos (by omega : k < k + 1)]
      split <;> split <;> omega
    · have e : (f n || decide (k = n)) = f n := by rw [decide_eq_false c, Bool.or_false]
      rw [e]
      by_cases z : k < n
      · rw [if_pos z] at ih; rw [if_pos (by omega : k < n + 1)]; omega
      · rw [if_neg z] at ih; omega
theorem cnt_to (to : Nat → Nat) (n : Nat) : ∀ T, cnt (fun p => !decide (mk (fun t => decide (to t = p)) T = 0)) n ≤ T := by
  intro T
  induction T with
  | zero => exact Nat.le_of_eq (cnt_false (fun p _ => rfl))
  | succ T ih =>
    have e : cnt (fun p => !decide (mk (fun t => decide (to t = p)) (T + 1) = 0)) n = cnt (fun p => (!decide (mk (fun t => decide (to t = p)) T = 0)) || decide (to T = p)) n := cnt_congr (fun p _ => by
      show (!decide (mk (fun t => decide (to t = p)) T ||| (if decide (to T = p) then 2 ^ T else 0) = 0)) = _
      by_cases c : to T = p
      · rw [decide_eq_true c, Bool.or_true]
        have : ¬ (mk (fun t => decide (to t = p)) T ||| 2 ^ T = 0) := fun q => by
          have := or_bit (mk (fun t => decide (to t = p)) T) T T
          rw [q, Nat.zero_testBit] at this
          simp at this
        simp [this]
      · rw [decide_eq_false c, Bool.or_false]
        simp)
    rw [e]
    have := cnt_eq1 (fun p => !decide (mk (fun t => decide (to t = p)) T = 0)) (to T) n
    split at this <;> omega
theorem pkv_10 {N : NT} (hN : okN N) (s : Nat) {i : Nat} : (pkv N s i).2 ≤ 10 := by
  rw [pkv_b]
  exact Nat.le_trans (cnt_to (nTo N) i (nT N)) hN.2.1
theorem pk10_lt {N : NT} (hN : okN N) (s : Nat) : pk10 N s < 1024 := Nat.lt_of_lt_of_le (pkv_lt N s (nP N)) (Nat.pow_le_pow_right (n := 2) (by decide) (pkv_10 hN s))
theorem pkv_inj {N : NT} {s s' : Nat} : ∀ i, (pkv N s i).1 = (pkv N s' i).1 → ∀ p, p < i → inM N p ≠ 0 → s.testBit p = s'.testBit p := by
  intro i
  induction i with
  | zero => intro _ p hp; omega
  | succ i ih =>
    intro h p hp hi
    have e : ∀ s, pkv N s (i + 1) = if inM N i = 0 then pkv N s i else ((pkv N s i).1 ||| (if s.testBit i then 2 ^ (pkv N s i).2 else 0), (pkv N s i).2 + 1) := fun _ => rfl
    rw [e, e] at h
    have eb : (pkv N s i).2 = (pkv N s' i).2 := by rw [pkv_b, pkv_b]
    by_cases q : inM N i = 0
    · rw [if_pos q, if_pos q] at h
      rcases Nat.lt_or_eq_of_le (Nat.lt_succ_iff.mp hp) with z | z
      · exact ih h p z hi
      · rw [z] at hi; exact absurd q hi
    · rw [if_neg q, if_neg q] at h
      dsimp only at h
      have bits : ∀ j, ((pkv N s i).1.testBit j || (s.testBit i && decide ((pkv N s i).2 = j))) = ((pkv N s' i).1.testBit j || (s'.testBit i && decide ((pkv N s i).2 = j))) := fun j => by
        have := congrArg (fun x => Nat.testBit x j) h
        rw [Nat.testBit_or, Nat.testBit_or, ← eb] at this
        have z : ∀ c : Bool, (if c then 2 ^ (pkv N s i).2 else 0 : Nat).testBit j = (c && decide ((pkv N s i).2 = j)) := fun c => by
          cases c
          · simp
          · simp [Nat.testBit_two_pow]
        rw [z, z] at this
        exact this
      have l1 := pkv_lt N s i
      have l2 := pkv_lt N s' i
      rw [← eb] at l2
      rcases Nat.lt_or_eq_of_le (Nat.lt_succ_iff.mp hp) with z | z
      · refine ih (mk_ext l1 l2 (fun j hj => ?_)) p z hi
        have := bits j
        rw [decide_eq_false (by omega : ¬ (pkv N s i).2 = j), Bool.and_false, Bool.and_false, Bool.or_false, Bool.or_false] at this
        exact this
      · subst z
        have := bits (pkv N s p).2
        rw [mk_out l1 (Nat.le_refl _), mk_out l2 (Nat.le_refl _), decide_eq_true rfl, Bool.and_true, Bool.and_true, Bool.false_or, Bool.false_or] at this
        exact this
theorem pk10_iff {N : NT} (hN : okN N) {a L L' : Nat} (ha : a < nP N) : rch N (2 ^ a) L = rch N (2 ^ a) L' ↔ pk10 N (rch N (2 ^ a) L) = pk10 N (rch N (2 ^ a) L') := by
  constructor
  · intro h; rw [h]
  · intro h
    refine mk_ext (rch_lt _ _ _) (rch_lt _ _ _) (fun p hp => ?_)
    have hin : ∀ L, (rch N (2 ^ a) L).testBit a = true := fun L => rch_sup (nb_one_lt ha) a (two_bit a)
    by_cases c : p = a
    · rw [c, hin, hin]
    · by_cases q : inM N p = 0
      · have no : ∀ L, (rch N (2 ^ a) L).testBit p = false := fun L => by
          cases hb : (rch N (2 ^ a) L).testBit p
          · rfl
          · rcases rch_into hN hp hb with z | z
            · exact absurd z c
            · exact absurd q z
        rw [no, no]
      · exact pkv_inj (nP N) h p hp q
