theorem d_s {a b : Nat} (h : ¬ a = b) : decide (a < b + 1) = decide (a < b) := decide_eq_decide.mpr (by omega)
section
variable {I I0 : HI} {J : HJ} {N : NT} {lot h : Nat} {dec red rt tok tin : Nat → Bool} {tk : Nat → Nat} {told sent : Nat → Bool} {ta ti : Nat → Nat → Bool}
theorem q_tell {x : Nat → Bool} (hc : cNet I0 N) (hN : okN N) (hh : h < 150) (hp : pic I I0 N lot dec red rt tok tin tk told sent ta ti) {Post : HI → Prop} (hpo : ∀ I', pic I' I0 N lot dec red rt tok tin tk told (fun t => sent t || x t) ta (fun k t => ti k t || (x t && decide ((h + nHr N t) % 8 = k))) → Post I') : w_X7_tell (nI (mk x (nT N))) (nI h) I J Post := by
  have hT := hN.2.1
  have hx10 : mk x (nT N) < 1024 := two10 hN (mk_lt _ _)
  intro I1 e1
  rw [hp.2.1.2.2.2.2.2.2, nb_or, mk_or] at e1
  have p1 := pi_sent hp (fun t => sent t || x t)
  rw [← e1] at p1
  refine lp_inv (fun i (s : Int32 × HI) => s.1 = nI i ∧ pic s.2 I0 N lot dec red rt tok tin tk told (fun t => sent t || x t) ta (fun k t => ti k t || (decide (t < i) && (x t && decide ((h + nHr N t) % 8 = k))))) (nT N) (fun i s hi hq K hK => ?_) (fun s hq K => ?_) (0, I1) ⟨rfl, pi_congr p1 (fun p hp => ⟨rfl, rfl, rfl, fun z => ⟨z, rfl⟩, fun _ _ => rfl⟩) (fun t ht => ⟨rfl, rfl, rfl, fun k hk => by rw [decide_eq_false (Nat.not_lt_zero t), Bool.false_and, Bool.or_false]⟩)⟩
  · obtain ⟨x3, I2⟩ := s
    obtain ⟨a1, g⟩ := hq
    dsimp only at a1 g
    subst a1
    have ct := (pi_c hc g).2.2.1 i hi
    have ho := hN.2.2.2.1 i hi
    show wb_X7_tell_12 J (nI (mk x (nT N))) (nI h) Post _ K (nI i, I2)
    unfold wb_X7_tell_12
    dsimp only
    rw [(pi_c hc g).1.2.1, nI_clamp (by omega : i < 2 ^ 31), ct.2.2.2, nI_add, m8 (by omega), nI_clamp (by omega : (h + nHr N i) % 8 < 2 ^ 31), g.2.2.2.2 _ (by omega : (h + nHr N i) % 8 < 8), nb_one i (by omega), nb_or, nI_1 i]
    have v8 : vp_in (nI ((h + nHr N i) % 8)) 8 := vp_in_nI (by omega) (by omega)
    refine ⟨fun c => absurd c (nI_ge hi (by omega)), fun _ => ⟨fun c => hpo I2 ?_, fun _ => q_has (by omega) (by omega) ⟨fun b => hK _ ⟨rfl, ?_⟩, fun b => ⟨vp_in_nI (by omega) (by omega), v8, v8, fun I3 e3 => hK _ ⟨rfl, ?_⟩⟩⟩⟩⟩
    · have z := shr_0 (by omega) (by omega) c
      refine pi_congr g (fun p hp => ⟨rfl, rfl, rfl, fun z => ⟨z, rfl⟩, fun _ _ => rfl⟩) (fun t ht => ⟨rfl, rfl, rfl, fun k hk => ?_⟩)
      by_cases y : t < i
      · rw [decide_eq_true y, Bool.true_and]
      · have := z t (by omega)
        rw [mk_at ht] at this
        rw [this, Bool.false_and, Bool.and_false]
    · rw [mk_at hi] at b
      refine pi_congr g (fun p hp => ⟨rfl, rfl, rfl, fun z => ⟨z, rfl⟩, fun _ _ => rfl⟩) (fun t ht => ⟨rfl, rfl, rfl, fun k hk => ?_⟩)
      by_cases y : t = i
      · rw [y, b, Bool.false_and, Bool.and_false, Bool.and_false]
      · rw [d_s y]
    · rw [mk_at hi] at b
      rw [mk_one hi, mk_or] at e3
      have p3 := pi_ti g ((h + nHr N i) % 8) (fun t => (ti ((h + nHr N i) % 8) t || (decide (t < i) && (x t && decide ((h + nHr N t) % 8 = (h + nHr N i) % 8)))) || decide (i = t))
      rw [← e3] at p3
      refine pi_congr p3 (fun p hp => ⟨rfl, rfl, rfl, fun z => ⟨z, rfl⟩, fun _ _ => rfl⟩) (fun t ht => ⟨rfl, rfl, rfl, fun k hk => ?_⟩)
      try dsimp only
      by_cases y : t = i
      · subst y
        rw [b, decide_eq_true (Nat.lt_succ_self t)]
        by_cases w : k = (h + nHr N t) % 8
        · rw [if_pos w, w]; simp
        · rw [if_neg w, decide_eq_false (fun q => w q.symm)]; simp
      · rw [d_s y]
        by_cases w : k = (h + nHr N i) % 8
        · rw [if_pos w, w, decide_eq_false (fun (q : i = t) => y q.symm), Bool.or_false]
        · rw [if_neg w]
  · obtain ⟨x3, I2⟩ := s
    obtain ⟨a1, g⟩ := hq
    dsimp only at a1 g
    subst a1
    show wb_X7_tell_12 J (nI (mk x (nT N))) (nI h) Post _ K (nI (nT N), I2)
    unfold wb_X7_tell_12
    dsimp only
    rw [(pi_c hc g).1.2.1]
    refine ⟨fun _ => hpo I2 (pi_congr g (fun p hp => ⟨rfl, rfl, rfl, fun z => ⟨z, rfl⟩, fun _ _ => rfl⟩) (fun t ht => ⟨rfl, rfl, rfl, fun k hk => ?_⟩)), fun z => absurd (Int32.le_refl _) z⟩
    rw [decide_eq_true ht, Bool.true_and]
theorem ou_and {p : Nat} (hlot : lot < 2 ^ nT N) : ouM N p &&& lot = mk (fun t => decide (nFr N t = p) && lot.testBit t) (nT N) := by
  refine mk_ext (and_lt (ouM_lt N p)) (mk_lt _ _) (fun t ht => ?_)
  rw [Nat.testBit_and, ouM_bit, mk_at ht, decide_eq_true ht, Bool.true_and]
theorem q_take {nw : Nat → Bool} (hc : cNet I0 N) (hN : okN N) (hh : h < 150) (hlot : lot < 2 ^ nT N) (hp : pic I I0 N lot dec red rt tok tin tk told sent ta ti) (hnw : ∀ p, p < nP N → ta (h % 8) p = nw p) {Post : HI → Prop} (hpo : ∀ I', pic I' I0 N lot dec red rt (fun p => tok p || nw p) (fun p => tin p || nw p) (fun p => if nw p = true then h else tk p) told (fun t => sent t || (nw (nFr N t) && lot.testBit t)) (fun k p => if k = h % 8 then false else ta k p) (fun k t => ti k t || (nw (nFr N t) && (lot.testBit t && decide ((h + nHr N t) % 8 = k)))) → Post I') : w_X7_take (nI h) I J Post := by
  have hP := hN.1
  have hT := hN.2.1
  have hw12 : mk nw (nP N) < 4096 := two12 hN (mk_lt _ _)
  have v8 : vp_in (nI (h % 8)) 8 := vp_in_nI (by omega) (by omega)
  have e0 : mk (ta (h % 8)) (nP N) = mk nw (nP N) := mk_congr hnw
  unfold w_X7_take
  rw [m8 (by omega), nI_clamp (by omega : h % 8 < 2 ^ 31), hp.2.2.2.1 _ (by omega : h % 8 < 8), e0]
  refine ⟨v8, fun z1 ez => ⟨v8, fun I2 e2 I3 e3 => ?_⟩⟩
  subst ez
  have p2 := pi_ta hp (h % 8) (fun _ => false)
  rw [mk_0, show nI 0 = (0 : Int32) from rfl, ← e2] at p2
  rw [p2.2.1.2.2.2.2.1, nb_or, mk_or] at e3
  have p3 := pi_tok p2 (fun p => tok p || nw p)
  rw [← e3] at p3
  refine lp_inv (fun i (s : Int32 × HI) => s.1 = nI i ∧ pic s.2 I0 N lot dec red rt (fun p => tok p || nw p) (fun p => (tin p && !nw p) || (nw p && decide (p < i))) (fun p => if nw p = true then h else tk p) told (fun t => sent t || (nw (nFr N t) && (decide (nFr N t < i) && lot.testBit t))) (fun k p => if k = h % 8 then false else ta k p) (fun k t => ti k t || (nw (nFr N t) && (decide (nFr N t < i) && (lot.testBit t && decide ((h + nHr N t) % 8 = k)))))) (nP N) (fun i s hi hq K hK => ?_) (fun s hq K => ?_) (0, I3) ⟨rfl, pi_congr p3 (fun p hp => ⟨rfl, rfl, rfl, fun z => ?_, fun k hk => ?_⟩) (fun t ht => ⟨rfl, rfl, ?_, fun k hk => ?_⟩)⟩
  · obtain ⟨x3, I4⟩ := s
    obtain ⟨a1, g⟩ := hq
    dsimp only at a1 g
    subst a1
    have cg := pi_c hc g
    show wb_X7_take_32 J (nI h) (nI (mk nw (nP N))) Post _ K (nI i, I4)
    unfold wb_X7_take_32
    dsimp only
    rw [cg.1.1, nI_clamp (by omega : i < 2 ^ 31), nI_1 i]
    refine ⟨fun c => absurd c (nI_ge hi (by omega)), fun _ => ⟨fun c => hpo I4 ?_, fun _ => q_has (by omega) (by omega) ⟨fun b => hK _ ⟨rfl, ?_⟩, fun b => ⟨vp_in_nI (by omega) (by omega), fun I5 e5 => ⟨vp_in_nI (by omega) (by omega), ?_⟩⟩⟩⟩⟩
    · have z : ∀ p, p < nP N → ¬ p < i → nw p = false := fun p hp y => by
        have := shr_0 (by omega) (by omega) c p (by omega)
        rw [mk_at hp] at this
        exact this
      have z2 : ∀ p, p < nP N → (nw p && decide (p < i)) = nw p := fun p hp => by
        by_cases y : p < i
        · rw [decide_eq_true y, Bool.and_true]
        · rw [z p hp y, Bool.false_and]
      refine pi_congr g (fun p hp => ⟨rfl, rfl, rfl, fun w => ⟨?_, rfl⟩, fun _ _ => rfl⟩) (fun t ht => ⟨rfl, rfl, ?_, fun k hk => ?_⟩)
      · rw [z2 p hp]
        revert w
        cases tin p <;> cases nw p <;> decide
      · have ho := (hN.2.2.2.1 t ht).1
        rw [← Bool.and_assoc, z2 _ ho]
      · have ho := (hN.2.2.2.1 t ht).1
        rw [← Bool.and_assoc (nw (nFr N t)) (decide (nFr N t < i)), z2 _ ho]
    · rw [mk_at hi] at b
      have z2 : ∀ p, (nw p && decide (p < i + 1)) = (nw p && decide (p < i)) := fun p => by
        by_cases y : p = i
        · rw [y, b, Bool.false_and, Bool.false_and]
        · rw [d_s y]
      refine pi_congr g (fun p hp => ⟨rfl, rfl, rfl, fun w => ⟨?_, rfl⟩, fun _ _ => rfl⟩) (fun t ht => ⟨rfl, rfl, ?_, fun k hk => ?_⟩)
      · rw [← z2 p]; exact w
      · rw [← Bool.and_assoc, ← Bool.and_assoc, z2]
      · rw [← Bool.and_assoc (nw (nFr N t)), ← Bool.and_assoc (nw (nFr N t)), z2]
    · rw [mk_at hi] at b
      have p5 := pi_tin g i h
      rw [← e5] at p5
      rw [((pi_c hc p5).2.1 i hi).2.2.2.2.2, p5.2.1.1, nb_and, ou_and hlot]
      refine q_tell hc hN hh p5 (fun I6 p6 => hK _ ⟨rfl, pi_congr p6 (fun p hp => ⟨rfl, rfl, rfl, fun w => ?_, fun _ _ => rfl⟩) (fun t ht => ⟨rfl, rfl, ?_, fun k hk => ?_⟩)⟩)
      · by_cases y : p = i
        · rw [if_pos y, y, b]; exact ⟨by simp, by simp⟩
        · rw [if_neg y]
          rw [d_s y] at w
          exact ⟨by rw [w]; rfl, rfl⟩
      · try dsimp only
        by_cases y : nFr N t = i
        · rw [y, b, decide_eq_true (Nat.lt_succ_self i), decide_eq_true rfl]
          simp
        · rw [d_s y, decide_eq_false y]
          simp
      · try dsimp only
        by_cases y : nFr N t = i
        · rw [y, b, decide_eq_true (Nat.lt_succ_self i), decide_eq_true rfl]
          simp
        · rw [d_s y, decide_eq_false y]
          simp
  · obtain ⟨x3, I4⟩ := s
    obtain ⟨a1, g⟩ := hq
    dsimp only at a1 g
    subst a1
    show wb_X7_take_32 J (nI h) (nI (mk nw (nP N))) Post _ K (nI (nP N), I4)
    unfold wb_X7_take_32
    dsimp only
    rw [(pi_c hc g).1.1]
    refine ⟨fun _ => hpo I4 (pi_congr g (fun p hp => ⟨rfl, rfl, rfl, fun w => ⟨?_, rfl⟩, fun _ _ => rfl⟩) (fun t ht => ⟨rfl, rfl, ?_, fun k hk => ?_⟩)), fun z => absurd (Int32.le_refl _) z⟩
    · rw [decide_eq_true hp]
      revert w
      cases tin p <;> cases nw p <;> decide
    · rw [decide_eq_true (hN.2.2.2.1 t ht).1, Bool.true_and]
    · rw [decide_eq_true (hN.2.2.2.1 t ht).1, Bool.true_and]
  · rw [decide_eq_false (Nat.not_lt_zero p), Bool.and_false, Bool.or_false, Bool.and_eq_true] at z
    refine ⟨z.1, if_neg (fun w => ?_)⟩
    rw [w] at z
    cases z.2
  · try dsimp only
    by_cases y : k = h % 8
    · rw [if_pos y, if_pos y]
    · rw [if_neg y, if_neg y]
  · rw [decide_eq_false (Nat.not_lt_zero _), Bool.false_and, Bool.and_false, Bool.or_false]
  · rw [decide_eq_false (Nat.not_lt_zero _), Bool.false_and, Bool.and_false, Bool.or_false]
/-- of those told p, the red are no fewer -/
def wr (N : NT) (told rt : Nat → Bool) (p : Nat) : Bool := decide (cnt (fun t => decide (nTo N t = p) && told t) (nT N) ≤ 2 * cnt (fun t => decide (nTo N t = p) && (told t && rt t)) (nT N))
theorem q_decide {p : Nat} (hc : cNet I0 N) (hN : okN N) (hh : h < 150) (hpp : p < nP N) (hp : pic I I0 N lot dec red rt tok tin tk told sent ta ti) {Post : HI → Prop} (hpo : ∀ I', pic I' I0 N lot (fun q => dec q || decide (p = q)) (fun q => red q || (wr N told rt p && decide (p = q))) (fun t => rt t || (wr N told rt p && decide (nFr N t = p))) tok tin tk told sent (fun k q => ta k q || (decide (p = q) && decide ((h + nLt N p) % 8 = k))) ti → Post I') : w_X7_decide (nI p) (nI h) I J Post := by
  have hP := hN.1
  have hT := hN.2.1
  have hl := (hN.2.2.2.2.1 p hpp).2.2.2.1
  have cg := pi_c hc hp
  have vp : vp_in (nI p) 12 := vp_in_nI (by omega) (by omega)
  have fin : ∀ (I1 : HI) (red' rt' : Nat → Bool), pic I1 I0 N lot (fun q => dec q || decide (p = q)) red' rt' tok tin tk told sent ta ti → (∀ I', pic I' I0 N lot (fun q => dec q || decide (p = q)) red' rt' tok tin tk told sent (fun k q => ta k q || (decide (p = q) && decide ((h + nLt N p) % 8 = k))) ti → Post I') → wj_X7_decide_75 I1 J (nI p) (nI h) Post := by
    intro I1 red' rt' p1 hpo1
    have c1 := pi_c hc p1
    have v8 : vp_in (nI ((h + nLt N p) % 8)) 8 := vp_in_nI (by omega) (by omega)
    unfold wj_X7_decide_75
    rw [nI_clamp (by omega : p < 2 ^ 31), (c1.2.1 p hpp).2.2.1, nI_add, m8 (by omega), nI_clamp (by omega : (h + nLt N p) % 8 < 2 ^ 31), p1.2.2.2.1 _ (by omega : (h + nLt N p) % 8 < 8), nb_one p (by omega), nb_or, mk_one hpp, mk_or]
    refine ⟨vp, v8, v8, fun I5 e5 => hpo1 I5 ?_⟩
    have p5 := pi_ta p1 ((h + nLt N p) % 8) (fun i => ta ((h + nLt N p) % 8) i || decide (p = i))
    rw [← e5] at p5
    refine pi_congr p5 (fun q hq => ⟨rfl, rfl, rfl, fun z => ⟨z, rfl⟩, fun k hk => ?_⟩) (fun t ht => ⟨rfl, rfl, rfl, fun _ _ => rfl⟩)
    try dsimp only
    by_cases y : k = (h + nLt N p) % 8
    · rw [if_pos y, y, decide_eq_true (rfl : (h + nLt N p) % 8 = (h + nLt N p) % 8), Bool.and_true]
    · rw [if_neg y, decide_eq_false (fun (z : (h + nLt N p) % 8 = k) => y z.symm), Bool.and_false, Bool.or_false]
  have e1 : inM N p &&& mk told (nT N) &&& mk rt (nT N) = inM N p &&& mk (fun t => told t && rt t) (nT N) := by rw [Nat.and_assoc, mk_and]
  have k1 : pc (inM N p &&& mk told (nT N)) = cnt (fun t => decide (nTo N t = p) && told t) (nT N) := by
    rw [pc_and hN]
    exact cnt_congr (fun t ht => by rw [mk_at ht])
  have k2 : pc (inM N p &&& mk (fun t => told t && rt t) (nT N)) = cnt (fun t => decide (nTo N t = p) && (told t && rt t)) (nT N) := by
    rw [pc_and hN]
    exact cnt_congr (fun t ht => by rw [mk_at ht])
  have b1 := cnt_le (fun t => decide (nTo N t = p) && told t) (nT N)
  have b2 := cnt_le (fun t => decide (nTo N t = p) && (told t && rt t)) (nT N)
  have l1 : inM N p &&& mk told (nT N) < 4096 := by have := two10 hN (and_lt (b := mk told (nT N)) (inM_lt N p)); omega
  have l2 : inM N p &&& mk (fun t => told t && rt t) (nT N) < 4096 := by have := two10 hN (and_lt (b := mk (fun t => told t && rt t) (nT N)) (inM_lt N p)); omega
  refine ⟨vp, fun z1 ez I2 e2 => ?_⟩
  rw [nI_clamp (by omega : p < 2 ^ 31), (cg.2.1 p hpp).2.2.2.2.1, hp.2.1.2.2.2.2.2.1, nb_and] at ez
  rw [hp.2.1.2.1, nb_one p (by omega), nb_or, mk_one hpp, mk_or] at e2
  have p2 := pi_dec hp (fun q => dec q || decide (p = q))
  rw [← e2] at p2
  subst ez
  rw [p2.2.1.2.2.2.1, nb_and, e1]
  refine q_bc l2 (q_bc l1 ?_)
  rw [k1, k2, show (2 : Int32) = nI 2 from rfl, pk_mul, nI_ltI (by omega) (by omega)]
  refine ⟨fun c => ?_, fun c I6 e6 => ⟨vp, fun I7 e7 => ?_⟩⟩
  · have w : wr N told rt p = false := decide_eq_false (by omega)
    refine fin I2 red rt p2 (fun I' p' => hpo I' (pi_congr p' (fun q hq => ⟨rfl, ?_, rfl, fun z => ⟨z, rfl⟩, fun _ _ => rfl⟩) (fun t ht => ⟨?_, rfl, rfl, fun _ _ => rfl⟩)))
    · rw [w, Bool.false_and, Bool.or_false]
    · rw [w, Bool.false_and, Bool.or_false]
  · have w : wr N told rt p = true := decide_eq_true (by omega)
    rw [p2.2.1.2.2.1, nb_one p (by omega), nb_or, mk_one hpp, mk_or] at e6
    have p6 := pi_red p2 (fun q => red q || decide (p = q))
    rw [← e6] at p6
    rw [p6.2.1.2.2.2.1, nI_clamp (by omega : p < 2 ^ 31), ((pi_c hc p6).2.1 p hpp).2.2.2.2.2, nb_or] at e7
    have e8 : mk rt (nT N) ||| ouM N p = mk (fun t => rt t || decide (nFr N t = p)) (nT N) := mk_or _ _ _
    rw [e8] at e7
    have p7 := pi_rt p6 (fun t => rt t || decide (nFr N t = p))
    rw [← e7] at p7
    refine fin I7 _ _ p7 (fun I' p' => hpo I' (pi_congr p' (fun q hq => ⟨rfl, ?_, rfl, fun z => ⟨z, rfl⟩, fun _ _ => rfl⟩) (fun t ht => ⟨?_, rfl, rfl, fun _ _ => rfl⟩)))
    · rw [w, Bool.true_and]
    · rw [w, Bool.true_and]
end
