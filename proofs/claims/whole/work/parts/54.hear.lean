def cnd (N : NT) (dec td : Nat → Bool) (p : Nat) : Bool := (!dec p) && ((!(nS N).testBit p) && decide (nNd N p ≤ cnt (fun t => decide (nTo N t = p) && td t) (nT N)))
def ddi (N : NT) (dec td nw : Nat → Bool) (i p : Nat) : Bool := cnd N dec td p && decide (0 < cnt (fun t => nw t && decide (nTo N t = p)) i)
theorem dd_ne {N : NT} {dec td nw : Nat → Bool} {i q : Nat} (h : (nw i && decide (nTo N i = q)) = false) : ddi N dec td nw (i + 1) q = ddi N dec td nw i q := by
  have e : cnt (fun t => nw t && decide (nTo N t = q)) (i + 1) = cnt (fun t => nw t && decide (nTo N t = q)) i + (if (nw i && decide (nTo N i = q)) = true then 1 else 0) := rfl
  unfold ddi
  rw [e, h]
  rfl
theorem dd_eq {N : NT} {dec td nw : Nat → Bool} {i : Nat} (h : nw i = true) : ddi N dec td nw (i + 1) (nTo N i) = cnd N dec td (nTo N i) := by
  have e : cnt (fun t => nw t && decide (nTo N t = nTo N i)) (i + 1) = cnt (fun t => nw t && decide (nTo N t = nTo N i)) i + (if (nw i && decide (nTo N i = nTo N i)) = true then 1 else 0) := rfl
  unfold ddi
  rw [e, h, decide_eq_true (rfl : nTo N i = nTo N i), if_pos (by rfl), decide_eq_true (by omega), Bool.and_true]
theorem dd_skip {N : NT} {dec td nw : Nat → Bool} {i : Nat} (h : nw i = true → cnd N dec td (nTo N i) = false ∨ ddi N dec td nw i (nTo N i) = true) (q : Nat) : ddi N dec td nw (i + 1) q = ddi N dec td nw i q := by
  by_cases c : (nw i && decide (nTo N i = q)) = true
  · rw [Bool.and_eq_true, decide_eq_true_eq] at c
    rw [← c.2, dd_eq c.1]
    rcases h c.1 with y | y
    · unfold ddi; rw [y, Bool.false_and]
    · rw [y]
      unfold ddi at y
      rw [Bool.and_eq_true] at y
      exact y.1
  · exact dd_ne (Bool.eq_false_iff.mpr c)
section
variable {I I0 : HI} {J : HJ} {N : NT} {lot h : Nat} {dec red rt tok tin : Nat → Bool} {tk : Nat → Nat} {told sent : Nat → Bool} {ta ti : Nat → Nat → Bool}
theorem q_hear {nw td : Nat → Bool} (hc : cNet I0 N) (hN : okN N) (hh : h < 150) (hp : pic I I0 N lot dec red rt tok tin tk told sent ta ti) (hnw : ∀ t, t < nT N → ti (h % 8) t = nw t) (htd : ∀ t, t < nT N → td t = (told t || nw t)) (hto : ∀ t, t < nT N → td t = true → dec (nFr N t) = true) {Post : HI → Prop} (hpo : ∀ I', pic I' I0 N lot (fun p => dec p || ddi N dec td nw (nT N) p) (fun p => red p || (ddi N dec td nw (nT N) p && wr N td rt p)) (fun t => rt t || (ddi N dec td nw (nT N) (nFr N t) && wr N td rt (nFr N t))) tok tin tk td sent (fun k p => ta k p || (ddi N dec td nw (nT N) p && decide ((h + nLt N p) % 8 = k))) (fun k t => if k = h % 8 then false else ti k t) → Post I') : w_X7_hear (nI h) I J Post := by
  have hP := hN.1
  have hT := hN.2.1
  have hw10 : mk nw (nT N) < 1024 := two10 hN (mk_lt _ _)
  have v8 : vp_in (nI (h % 8)) 8 := vp_in_nI (by omega) (by omega)
  have e0 : mk (ti (h % 8)) (nT N) = mk nw (nT N) := mk_congr hnw
  unfold w_X7_hear
  rw [m8 (by omega), nI_clamp (by omega : h % 8 < 2 ^ 31), hp.2.2.2.2 _ (by omega : h % 8 < 8), e0]
  refine ⟨v8, fun z1 ez => ⟨v8, fun I2 e2 I3 e3 => ?_⟩⟩
  subst ez
  have p2 := pi_ti hp (h % 8) (fun _ => false)
  rw [mk_0, show nI 0 = (0 : Int32) from rfl, ← e2] at p2
  rw [p2.2.1.2.2.2.2.2.1, nb_or, mk_or] at e3
  have p3 := pi_told p2 (fun t => told t || nw t)
  rw [← e3] at p3
  refine lp_inv (fun i (s : Int32 × HI) => s.1 = nI i ∧ pic s.2 I0 N lot (fun p => dec p || ddi N dec td nw i p) (fun p => red p || (ddi N dec td nw i p && wr N td rt p)) (fun t => rt t || (ddi N dec td nw i (nFr N t) && wr N td rt (nFr N t))) tok tin tk td sent (fun k p => ta k p || (ddi N dec td nw i p && decide ((h + nLt N p) % 8 = k))) (fun k t => if k = h % 8 then false else ti k t)) (nT N) (fun i s hi hq K hK => ?_) (fun s hq K => ?_) (0, I3) ⟨rfl, ?_⟩
  · obtain ⟨x3, I4⟩ := s
    obtain ⟨a1, g⟩ := hq
    dsimp only at a1 g
    subst a1
    have cg := pi_c hc g
    have ct := cg.2.2.1 i hi
    have ho := (hN.2.2.2.1 i hi).2.1
    have skip : (nw i = true → cnd N dec td (nTo N i) = false ∨ ddi N dec td nw i (nTo N i) = true) → K (nI (i + 1), I4) := fun y => hK _ ⟨rfl, pi_congr g (fun p hp => ⟨by rw [dd_skip y], by rw [dd_skip y], rfl, fun z => ⟨z, rfl⟩, fun k hk => by rw [dd_skip y]⟩) (fun t ht => ⟨by rw [dd_skip y], rfl, rfl, fun _ _ => rfl⟩)⟩
    show wb_X7_hear_32 J (nI h) (nI (mk nw (nT N))) Post _ K (nI i, I4)
    unfold wb_X7_hear_32
    dsimp only
    rw [cg.1.2.1, nI_clamp (by omega : i < 2 ^ 31), ct.2.1, g.2.1.2.1, cg.1.2.2, nb_or, g.2.1.2.2.2.2.2.1, nI_1 i]
    have d12 : mk (fun p => dec p || ddi N dec td nw i p) (nP N) ||| nS N < 4096 := two12 hN (nb_or_lt (mk_lt _ _) hN.2.2.1)
    refine ⟨fun c => absurd c (nI_ge hi (by omega)), fun _ => ⟨fun c => hpo I4 ?_, fun _ => ⟨vp_in_nI (by omega) (by omega), q_has (by omega) (by omega) ⟨fun b => skip (fun z => ?_), fun b => q_has (by omega) (by omega) ⟨fun b2 => skip (fun _ => ?_), fun b2 => q_isTold cg hN ho ⟨fun b3 => skip (fun _ => ?_), fun b3 => ?_⟩⟩⟩⟩⟩⟩
    · have z : ∀ d, i + d ≤ nT N → ∀ q, ddi N dec td nw (i + d) q = ddi N dec td nw i q := by
        intro d
        induction d with
        | zero => intro _ q; rfl
        | succ d ih =>
          intro hd q
          have w := shr_0 (by omega) (by omega) c (i + d) (by omega)
          rw [mk_at (by omega)] at w
          rw [← Nat.add_assoc, dd_ne (by rw [w, Bool.false_and]), ih (by omega) q]
      have z2 : ∀ q, ddi N dec td nw (nT N) q = ddi N dec td nw i q := fun q => by
        have := z (nT N - i) (by omega) q
        rw [show i + (nT N - i) = nT N by omega] at this
        exact this
      exact pi_congr g (fun p hp => ⟨by rw [z2], by rw [z2], rfl, fun z => ⟨z, rfl⟩, fun k hk => by rw [z2]⟩) (fun t ht => ⟨by rw [z2], rfl, rfl, fun _ _ => rfl⟩)
    · rw [mk_at hi, z] at b; cases b
    · rw [Nat.testBit_or, mk_at ho, Bool.or_eq_true, Bool.or_eq_true] at b2
      rcases b2 with (y | y) | y
      · refine Or.inl ?_
        unfold cnd; rw [y]; rfl
      · exact Or.inr y
      · refine Or.inl ?_
        unfold cnd; rw [y]; simp
    · refine Or.inl ?_
      have e : cnt (fun t => decide (nTo N t = nTo N i) && (mk td (nT N)).testBit t) (nT N) = cnt (fun t => decide (nTo N t = nTo N i) && td t) (nT N) := cnt_congr (fun t ht => by rw [mk_at ht])
      rw [e] at b3
      unfold cnd; rw [b3]; simp
    · have e : cnt (fun t => decide (nTo N t = nTo N i) && (mk td (nT N)).testBit t) (nT N) = cnt (fun t => decide (nTo N t = nTo N i) && td t) (nT N) := cnt_congr (fun t ht => by rw [mk_at ht])
      rw [e] at b3
      rw [mk_at hi] at b
      rw [Nat.testBit_or, mk_at ho, Bool.or_eq_false_iff, Bool.or_eq_false_iff] at b2
      obtain ⟨⟨c1, c2⟩, c3⟩ := b2
      have cn : cnd N dec td (nTo N i) = true := by unfold cnd; rw [c1, c3, b3]; rfl
      have d1 : ddi N dec td nw (i + 1) (nTo N i) = true := by rw [dd_eq b, cn]
      have d2 : ∀ q, q ≠ nTo N i → ddi N dec td nw (i + 1) q = ddi N dec td nw i q := fun q hq => dd_ne (by rw [decide_eq_false (fun z => hq z.symm), Bool.and_false])
      have ew : wr N td (fun t => rt t || (ddi N dec td nw i (nFr N t) && wr N td rt (nFr N t))) (nTo N i) = wr N td rt (nTo N i) := by
        have : cnt (fun t => decide (nTo N t = nTo N i) && (td t && (rt t || (ddi N dec td nw i (nFr N t) && wr N td rt (nFr N t))))) (nT N) = cnt (fun t => decide (nTo N t = nTo N i) && (td t && rt t)) (nT N) := cnt_congr (fun t ht => by
          cases y : td t
          · rfl
          · have z := hto t ht y
            have : ddi N dec td nw i (nFr N t) = false := by unfold ddi cnd; rw [z]; rfl
            rw [this, Bool.false_and, Bool.or_false])
        unfold wr at this ⊢
        rw [this]
      refine q_decide hc hN hh ho g (fun I5 g5 => hK _ ⟨rfl, ?_⟩)
      rw [ew] at g5
      refine pi_congr g5 (fun q hq => ⟨?_, ?_, rfl, fun z => ⟨z, rfl⟩, fun k hk => ?_⟩) (fun t ht => ⟨?_, rfl, rfl, fun _ _ => rfl⟩)
      · by_cases y : q = nTo N i
        · rw [y, d1, decide_eq_true rfl, Bool.or_true, Bool.or_true]
        · rw [d2 q y, decide_eq_false (fun z => y z.symm), Bool.or_false]
      · by_cases y : q = nTo N i
        · rw [y, d1, decide_eq_true rfl, c2, Bool.true_and, Bool.false_and, Bool.or_false, Bool.and_true]
        · rw [d2 q y, decide_eq_false (fun z => y z.symm), Bool.and_false, Bool.or_false]
      · by_cases y : q = nTo N i
        · rw [y, d1, decide_eq_true rfl, c2, Bool.true_and, Bool.false_and, Bool.or_false]
        · rw [d2 q y, decide_eq_false (fun (z : nTo N i = q) => y z.symm), Bool.false_and, Bool.or_false]
      · by_cases y : nFr N t = nTo N i
        · rw [y, d1, decide_eq_true rfl, c2, Bool.true_and, Bool.false_and, Bool.or_false, Bool.and_true]
        · rw [d2 _ y, decide_eq_false y, Bool.and_false, Bool.or_false]
  · obtain ⟨x3, I4⟩ := s
    obtain ⟨a1, g⟩ := hq
    dsimp only at a1 g
    subst a1
    show wb_X7_hear_32 J (nI h) (nI (mk nw (nT N))) Post _ K (nI (nT N), I4)
    unfold wb_X7_hear_32
    dsimp only
    rw [(pi_c hc g).1.2.1]
    exact ⟨fun _ => hpo I4 g, fun z => absurd (Int32.le_refl _) z⟩
  · have z : ∀ q, ddi N dec td nw 0 q = false := fun q => by
      unfold ddi
      rw [decide_eq_false (show ¬ 0 < cnt (fun t => nw t && decide (nTo N t = q)) 0 from Nat.lt_irrefl 0), Bool.and_false]
    refine pi_congr p3 (fun q hq => ⟨?_, ?_, rfl, fun z => ⟨z, rfl⟩, fun k hk => ?_⟩) (fun t ht => ⟨?_, htd t ht, rfl, fun k hk => ?_⟩)
    · rw [z, Bool.or_false]
    · rw [z, Bool.false_and, Bool.or_false]
    · rw [z, Bool.false_and, Bool.or_false]
    · rw [z, Bool.false_and, Bool.or_false]
    · try dsimp only
      by_cases y : k = h % 8
      · rw [if_pos y, if_pos y]
      · rw [if_neg y, if_neg y]
end
