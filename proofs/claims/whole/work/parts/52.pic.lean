/-! the class plays it: sets by what is in them -/
theorem mk_or (f g : Nat → Bool) (n : Nat) : mk f n ||| mk g n = mk (fun i => f i || g i) n := mk_ext (nb_or_lt (mk_lt _ _) (mk_lt _ _)) (mk_lt _ _) (fun i hi => by
  rw [Nat.testBit_or, mk_bit, mk_bit, mk_bit, decide_eq_true hi, Bool.true_and, Bool.true_and, Bool.true_and])
theorem mk_and (f g : Nat → Bool) (n : Nat) : mk f n &&& mk g n = mk (fun i => f i && g i) n := mk_ext (and_lt (mk_lt _ _)) (mk_lt _ _) (fun i hi => by
  rw [Nat.testBit_and, mk_bit, mk_bit, mk_bit, decide_eq_true hi, Bool.true_and, Bool.true_and, Bool.true_and])
theorem mk_sd (f g : Nat → Bool) (n : Nat) : sd (mk f n) (mk g n) = mk (fun i => f i && !g i) n := mk_ext (sd_lt (mk_lt _ _)) (mk_lt _ _) (fun i hi => by
  rw [sd_bit, mk_bit, mk_bit, mk_bit, decide_eq_true hi, Bool.true_and, Bool.true_and, Bool.true_and])
theorem mk_one {k n : Nat} (h : k < n) : 2 ^ k = mk (fun i => decide (k = i)) n := mk_ext (nb_one_lt h) (mk_lt _ _) (fun i hi => by
  rw [Nat.testBit_two_pow, mk_bit, decide_eq_true hi, Bool.true_and])
theorem mk_congr {f g : Nat → Bool} {n : Nat} (h : ∀ i, i < n → f i = g i) : mk f n = mk g n := mk_ext (mk_lt _ _) (mk_lt _ _) (fun i hi => by rw [mk_bit, mk_bit, h i hi])
theorem mk_of {s n : Nat} (h : s < 2 ^ n) : s = mk (fun i => s.testBit i) n := mk_ext h (mk_lt _ _) (fun i hi => by rw [mk_bit, decide_eq_true hi, Bool.true_and])
theorem mk_0 (n : Nat) : mk (fun _ => false) n = 0 := mk_ext (mk_lt _ _) (Nat.two_pow_pos n) (fun i _ => by rw [mk_bit, Bool.and_false, Nat.zero_testBit])
theorem mk_none {f : Nat → Bool} {n : Nat} (h : ∀ i, i < n → f i = false) : mk f n = 0 := (mk_congr h).trans (mk_0 n)
theorem mk_inj {f g : Nat → Bool} {n : Nat} (h : mk f n = mk g n) : ∀ i, i < n → f i = g i := fun i hi => by
  have := congrArg (fun s => Nat.testBit s i) h
  rw [mk_bit, mk_bit, decide_eq_true hi, Bool.true_and, Bool.true_and] at this
  exact this
theorem mk_at {f : Nat → Bool} {n i : Nat} (hi : i < n) : (mk f n).testBit i = f i := by rw [mk_bit, decide_eq_true hi, Bool.true_and]
theorem shr_0 {n k : Nat} (hn : n < 2 ^ 31) (hk : k < 31) (h : nI n >>> (nI k &&& 31) = 0) : ∀ i, k ≤ i → n.testBit i = false := by
  rw [nb_shr hn hk, show (0 : Int32) = nI 0 from rfl, nI_eq (Nat.lt_of_le_of_lt (Nat.div_le_self _ _) hn) (by decide)] at h
  intro i hi
  exact mk_out ((Nat.div_eq_zero_iff_lt (Nat.two_pow_pos k)).mp h) hi
theorem m8 {a : Nat} (h : a < 2 ^ 31) : nI a - nI a / 8 * 8 = nI (a % 8) := pk_rem h (by decide) (by decide)
theorem cnt_no {f : Nat → Bool} {n : Nat} (h : cnt f n = 0) : ∀ i, i < n → f i = false := by
  induction n with
  | zero => intro i hi; omega
  | succ n ih =>
    intro i hi
    have e : cnt f (n + 1) = cnt f n + (if f n then 1 else 0) := rfl
    rw [e] at h
    by_cases c : f n = true
    · rw [if_pos c] at h; omega
    · rw [if_neg c] at h
      rcases Nat.lt_or_eq_of_le (Nat.lt_succ_iff.mp hi) with y | y
      · exact ih (by omega) i y
      · rw [y]; exact Bool.eq_false_iff.mpr c
def pic (I I0 : HI) (N : NT) (lot : Nat) (dec red rt tok tin : Nat → Bool) (tk : Nat → Nat) (told sent : Nat → Bool) (ta ti : Nat → Nat → Bool) : Prop := (∀ c, ¬ (48 ≤ c ∧ c ≤ 51) → I c = I0 c) ∧ (I 48 4 = nI lot ∧ I 48 5 = nI (mk dec (nP N)) ∧ I 48 6 = nI (mk red (nP N)) ∧ I 48 7 = nI (mk rt (nT N)) ∧ I 48 8 = nI (mk tok (nP N)) ∧ I 48 9 = nI (mk told (nT N)) ∧ I 48 10 = nI (mk sent (nT N))) ∧ (∀ p, p < nP N → tin p = true → I 49 p = nI (tk p)) ∧ (∀ k, k < 8 → I 50 k = nI (mk (ta k) (nP N))) ∧ ∀ k, k < 8 → I 51 k = nI (mk (ti k) (nT N))
section
variable {I I0 : HI} {J : HJ} {N : NT} {lot : Nat} {dec red rt tok tin : Nat → Bool} {tk : Nat → Nat} {told sent : Nat → Bool} {ta ti : Nat → Nat → Bool}
theorem pi_congr {dec' red' rt' tok' tin' : Nat → Bool} {tk' : Nat → Nat} {told' sent' : Nat → Bool} {ta' ti' : Nat → Nat → Bool} (h : pic I I0 N lot dec red rt tok tin tk told sent ta ti) (h1 : ∀ p, p < nP N → dec' p = dec p ∧ red' p = red p ∧ tok' p = tok p ∧ (tin' p = true → tin p = true ∧ tk' p = tk p) ∧ ∀ k, k < 8 → ta' k p = ta k p) (h2 : ∀ t, t < nT N → rt' t = rt t ∧ told' t = told t ∧ sent' t = sent t ∧ ∀ k, k < 8 → ti' k t = ti k t) : pic I I0 N lot dec' red' rt' tok' tin' tk' told' sent' ta' ti' := by
  obtain ⟨a0, ⟨a4, a5, a6, a7, a8, a9, a10⟩, b, c, d⟩ := h
  refine ⟨a0, ⟨a4, ?_, ?_, ?_, ?_, ?_, ?_⟩, fun p hp ht => ?_, fun k hk => ?_, fun k hk => ?_⟩
  · rw [a5, mk_congr (fun p hp => (h1 p hp).1)]
  · rw [a6, mk_congr (fun p hp => (h1 p hp).2.1)]
  · rw [a7, mk_congr (fun t ht => (h2 t ht).1)]
  · rw [a8, mk_congr (fun p hp => (h1 p hp).2.2.1)]
  · rw [a9, mk_congr (fun t ht => (h2 t ht).2.1)]
  · rw [a10, mk_congr (fun t ht => (h2 t ht).2.2.1)]
  · obtain ⟨z1, z2⟩ := (h1 p hp).2.2.2.1 ht
    rw [b p hp z1, z2]
  · rw [c k hk, mk_congr (fun p hp => (h1 p hp).2.2.2.2 k hk)]
  · rw [d k hk, mk_congr (fun t ht => (h2 t ht).2.2.2 k hk)]
theorem pi_dec (h : pic I I0 N lot dec red rt tok tin tk told sent ta ti) (f : Nat → Bool) : pic (hI I 48 5 (nI (mk f (nP N)))) I0 N lot f red rt tok tin tk told sent ta ti := by
  obtain ⟨a0, ⟨a4, a5, a6, a7, a8, a9, a10⟩, b, c, d⟩ := h
  refine ⟨fun c hc => ?_, ⟨?_, ?_, ?_, ?_, ?_, ?_, ?_⟩, fun p hp ht => ?_, fun k hk => ?_, fun k hk => ?_⟩
  · rw [hI_ne (by omega)]; exact a0 c hc
  · rw [hI_at, if_neg (by decide)]; exact a4
  · rw [hI_at, if_pos rfl]
  · rw [hI_at, if_neg (by decide)]; exact a6
  · rw [hI_at, if_neg (by decide)]; exact a7
  · rw [hI_at, if_neg (by decide)]; exact a8
  · rw [hI_at, if_neg (by decide)]; exact a9
  · rw [hI_at, if_neg (by decide)]; exact a10
  · rw [hI_ne (by decide)]; exact b p hp ht
  · rw [hI_ne (by decide)]; exact c k hk
  · rw [hI_ne (by decide)]; exact d k hk
theorem pi_red (h : pic I I0 N lot dec red rt tok tin tk told sent ta ti) (f : Nat → Bool) : pic (hI I 48 6 (nI (mk f (nP N)))) I0 N lot dec f rt tok tin tk told sent ta ti := by
  obtain ⟨a0, ⟨a4, a5, a6, a7, a8, a9, a10⟩, b, c, d⟩ := h
  refine ⟨fun c hc => ?_, ⟨?_, ?_, ?_, ?_, ?_, ?_, ?_⟩, fun p hp ht => ?_, fun k hk => ?_, fun k hk => ?_⟩
  · rw [hI_ne (by omega)]; exact a0 c hc
  · rw [hI_at, if_neg (by decide)]; exact a4
  · rw [hI_at, if_neg (by decide)]; exact a5
  · rw [hI_at, if_pos rfl]
  · rw [hI_at, if_neg (by decide)]; exact a7
  · rw [hI_at, if_neg (by decide)]; exact a8
  · rw [hI_at, if_neg (by decide)]; exact a9
  · rw [hI_at, if_neg (by decide)]; exact a10
  · rw [hI_ne (by decide)]; exact b p hp ht
  · rw [hI_ne (by decide)]; exact c k hk
  · rw [hI_ne (by decide)]; exact d k hk
theorem pi_rt (h : pic I I0 N lot dec red rt tok tin tk told sent ta ti) (f : Nat → Bool) : pic (hI I 48 7 (nI (mk f (nT N)))) I0 N lot dec red f tok tin tk told sent ta ti := by
  obtain ⟨a0, ⟨a4, a5, a6, a7, a8, a9, a10⟩, b, c, d⟩ := h
  refine ⟨fun c hc => ?_, ⟨?_, ?_, ?_, ?_, ?_, ?_, ?_⟩, fun p hp ht => ?_, fun k hk => ?_, fun k hk => ?_⟩
  · rw [hI_ne (by omega)]; exact a0 c hc
  · rw [hI_at, if_neg (by decide)]; exact a4
  · rw [hI_at, if_neg (by decide)]; exact a5
  · rw [hI_at, if_neg (by decide)]; exact a6
  · rw [hI_at, if_pos rfl]
  · rw [hI_at, if_neg (by decide)]; exact a8
  · rw [hI_at, if_neg (by decide)]; exact a9
  · rw [hI_at, if_neg (by decide)]; exact a10
  · rw [hI_ne (by decide)]; exact b p hp ht
  · rw [hI_ne (by decide)]; exact c k hk
  · rw [hI_ne (by decide)]; exact d k hk
theorem pi_tok (h : pic I I0 N lot dec red rt tok tin tk told sent ta ti) (f : Nat → Bool) : pic (hI I 48 8 (nI (mk f (nP N)))) I0 N lot dec red rt f tin tk told sent ta ti := by
  obtain ⟨a0, ⟨a4, a5, a6, a7, a8, a9, a10⟩, b, c, d⟩ := h
  refine ⟨fun c hc => ?_, ⟨?_, ?_, ?_, ?_, ?_, ?_, ?_⟩, fun p hp ht => ?_, fun k hk => ?_, fun k hk => ?_⟩
  · rw [hI_ne (by omega)]; exact a0 c hc
  · rw [hI_at, if_neg (by decide)]; exact a4
  · rw [hI_at, if_neg (by decide)]; exact a5
  · rw [hI_at, if_neg (by decide)]; exact a6
  · rw [hI_at, if_neg (by decide)]; exact a7
  · rw [hI_at, if_pos rfl]
  · rw [hI_at, if_neg (by decide)]; exact a9
  · rw [hI_at, if_neg (by decide)]; exact a10
  · rw [hI_ne (by decide)]; exact b p hp ht
  · rw [hI_ne (by decide)]; exact c k hk
  · rw [hI_ne (by decide)]; exact d k hk
theorem pi_told (h : pic I I0 N lot dec red rt tok tin tk told sent ta ti) (f : Nat → Bool) : pic (hI I 48 9 (nI (mk f (nT N)))) I0 N lot dec red rt tok tin tk f sent ta ti := by
  obtain ⟨a0, ⟨a4, a5, a6, a7, a8, a9, a10⟩, b, c, d⟩ := h
  refine ⟨fun c hc => ?_, ⟨?_, ?_, ?_, ?_, ?_, ?_, ?_⟩, fun p hp ht => ?_, fun k hk => ?_, fun k hk => ?_⟩
  · rw [hI_ne (by omega)]; exact a0 c hc
  · rw [hI_at, if_neg (by decide)]; exact a4
  · rw [hI_at, if_neg (by decide)]; exact a5
  · rw [hI_at, if_neg (by decide)]; exact a6
  · rw [hI_at, if_neg (by decide)]; exact a7
  · rw [hI_at, if_neg (by decide)]; exact a8
  · rw [hI_at, if_pos rfl]
  · rw [hI_at, if_neg (by decide)]; exact a10
  · rw [hI_ne (by decide)]; exact b p hp ht
  · rw [hI_ne (by decide)]; exact c k hk
  · rw [hI_ne (by decide)]; exact d k hk
theorem pi_sent (h : pic I I0 N lot dec red rt tok tin tk told sent ta ti) (f : Nat → Bool) : pic (hI I 48 10 (nI (mk f (nT N)))) I0 N lot dec red rt tok tin tk told f ta ti := by
  obtain ⟨a0, ⟨a4, a5, a6, a7, a8, a9, a10⟩, b, c, d⟩ := h
  refine ⟨fun c hc => ?_, ⟨?_, ?_, ?_, ?_, ?_, ?_, ?_⟩, fun p hp ht => ?_, fun k hk => ?_, fun k hk => ?_⟩
  · rw [hI_ne (by omega)]; exact a0 c hc
  · rw [hI_at, if_neg (by decide)]; exact a4
  · rw [hI_at, if_neg (by decide)]; exact a5
  · rw [hI_at, if_neg (by decide)]; exact a6
  · rw [hI_at, if_neg (by decide)]; exact a7
  · rw [hI_at, if_neg (by decide)]; exact a8
  · rw [hI_at, if_neg (by decide)]; exact a9
  · rw [hI_at, if_pos rfl]
  · rw [hI_ne (by decide)]; exact b p hp ht
  · rw [hI_ne (by decide)]; exact c k hk
  · rw [hI_ne (by decide)]; exact d k hk
theorem pi_ta (h : pic I I0 N lot dec red rt tok tin tk told sent ta ti) (k : Nat) (f : Nat → Bool) : pic (hI I 50 k (nI (mk f (nP N)))) I0 N lot dec red rt tok tin tk told sent (fun j => if j = k then f else ta j) ti := by
  obtain ⟨a0, ⟨a4, a5, a6, a7, a8, a9, a10⟩, b, c, d⟩ := h
  refine ⟨fun c hc => ?_, ⟨?_, ?_, ?_, ?_, ?_, ?_, ?_⟩, fun p hp ht => ?_, fun j hj => ?_, fun j hj => ?_⟩
  · rw [hI_ne (by omega)]; exact a0 c hc
  · rw [hI_ne (by decide)]; exact a4
  · rw [hI_ne (by decide)]; exact a5
  · rw [hI_ne (by decide)]; exact a6
  · rw [hI_ne (by decide)]; exact a7
  · rw [hI_ne (by decide)]; exact a8
  · rw [hI_ne (by decide)]; exact a9
  · rw [hI_ne (by decide)]; exact a10
  · rw [hI_ne (by decide)]; exact b p hp ht
  · rw [hI_at]
    dsimp only
    by_cases y : j = k
    · rw [if_pos y, if_pos y]
    · rw [if_neg y, if_neg y]; exact c j hj
  · rw [hI_ne (by decide)]; exact d j hj
theorem pi_ti (h : pic I I0 N lot dec red rt tok tin tk told sent ta ti) (k : Nat) (f : Nat → Bool) : pic (hI I 51 k (nI (mk f (nT N)))) I0 N lot dec red rt tok tin tk told sent ta (fun j => if j = k then f else ti j) := by
  obtain ⟨a0, ⟨a4, a5, a6, a7, a8, a9, a10⟩, b, c, d⟩ := h
  refine ⟨fun c hc => ?_, ⟨?_, ?_, ?_, ?_, ?_, ?_, ?_⟩, fun p hp ht => ?_, fun j hj => ?_, fun j hj => ?_⟩
  · rw [hI_ne (by omega)]; exact a0 c hc
  · rw [hI_ne (by decide)]; exact a4
  · rw [hI_ne (by decide)]; exact a5
  · rw [hI_ne (by decide)]; exact a6
  · rw [hI_ne (by decide)]; exact a7
  · rw [hI_ne (by decide)]; exact a8
  · rw [hI_ne (by decide)]; exact a9
  · rw [hI_ne (by decide)]; exact a10
  · rw [hI_ne (by decide)]; exact b p hp ht
  · rw [hI_ne (by decide)]; exact c j hj
  · rw [hI_at]
    dsimp only
    by_cases y : j = k
    · rw [if_pos y, if_pos y]
    · rw [if_neg y, if_neg y]; exact d j hj
theorem pi_tin (h : pic I I0 N lot dec red rt tok tin tk told sent ta ti) (p v : Nat) : pic (hI I 49 p (nI v)) I0 N lot dec red rt tok (fun q => tin q || decide (q = p)) (fun q => if q = p then v else tk q) told sent ta ti := by
  obtain ⟨a0, ⟨a4, a5, a6, a7, a8, a9, a10⟩, b, c, d⟩ := h
  refine ⟨fun c hc => ?_, ⟨?_, ?_, ?_, ?_, ?_, ?_, ?_⟩, fun q hq ht => ?_, fun j hj => ?_, fun j hj => ?_⟩
  · rw [hI_ne (by omega)]; exact a0 c hc
  · rw [hI_ne (by decide)]; exact a4
  · rw [hI_ne (by decide)]; exact a5
  · rw [hI_ne (by decide)]; exact a6
  · rw [hI_ne (by decide)]; exact a7
  · rw [hI_ne (by decide)]; exact a8
  · rw [hI_ne (by decide)]; exact a9
  · rw [hI_ne (by decide)]; exact a10
  · rw [hI_at]
    dsimp only
    by_cases y : q = p
    · rw [if_pos y, if_pos y]
    · rw [if_neg y, if_neg y]
      refine b q hq ?_
      dsimp only at ht
      rw [decide_eq_false y, Bool.or_false] at ht
      exact ht
  · rw [hI_ne (by decide)]; exact c j hj
  · rw [hI_ne (by decide)]; exact d j hj
theorem pi_c (hc : cNet I0 N) (h : pic I I0 N lot dec red rt tok tin tk told sent ta ti) : cNet I N := cNet_of hc (fun c h1 h2 => h.1 c (by omega))
end
