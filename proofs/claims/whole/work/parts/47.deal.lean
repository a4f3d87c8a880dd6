/-! hours dealt anew within valleys: how many ways -/
def fac : Nat → Nat
  | 0 => 1
  | n + 1 => (n + 1) * fac n
theorem fac_pos (n : Nat) : 0 < fac n := by
  induction n with
  | zero => decide
  | succ n ih => exact Nat.mul_pos (by omega) ih
def F4 (f : Nat → Nat) : Nat := f 0 * f 1 * f 2 * f 3
def vct (N : NT) (v k : Nat) : Nat := cnt (fun p => decide (nVl N p = v)) k
theorem vct_s (N : NT) (v k : Nat) : vct N v (k + 1) = vct N v k + (if nVl N k = v then 1 else 0) := by
  show cnt _ k + (if decide (nVl N k = v) then 1 else 0) = _
  by_cases c : nVl N k = v
  · rw [if_pos c, decide_eq_true c]; rfl
  · rw [if_neg c, decide_eq_false c]; rfl
theorem vct_mono (N : NT) (v : Nat) {a b : Nat} (h : a ≤ b) : vct N v a ≤ vct N v b := by
  induction b with
  | zero => rw [show a = 0 by omega]; exact Nat.le_refl _
  | succ b ih =>
    rcases Nat.lt_or_eq_of_le h with q | q
    · rw [vct_s]; have := ih (by omega); omega
    · rw [q]; exact Nat.le_refl _
def wd (N : NT) : Nat → Nat
  | 0 => 1
  | k + 1 => wd N k * (1 + cnt (fun q => decide (nVl N q = nVl N k)) k)
theorem F4_up {f g : Nat → Nat} {v c : Nat} (hv : v < 4) (h1 : g v = c * f v) (h2 : ∀ w, w ≠ v → g w = f w) : F4 g = F4 f * c := by
  unfold F4
  rcases (show v = 0 ∨ v = 1 ∨ v = 2 ∨ v = 3 by omega) with rfl | rfl | rfl | rfl
  · rw [h1, h2 1 (by decide), h2 2 (by decide), h2 3 (by decide)]; ac_rfl
  · rw [h1, h2 0 (by decide), h2 2 (by decide), h2 3 (by decide)]; ac_rfl
  · rw [h1, h2 0 (by decide), h2 1 (by decide), h2 3 (by decide)]; ac_rfl
  · rw [h1, h2 0 (by decide), h2 1 (by decide), h2 2 (by decide)]; ac_rfl
theorem wd_eq {N : NT} (hN : okN N) {k : Nat} (hk : k ≤ nP N) : wd N k = F4 (fun v => fac (vct N v k)) := by
  induction k with
  | zero => rfl
  | succ k ih =>
    have hv := (hN.2.2.2.2.1 k (by omega)).1
    show wd N k * (1 + vct N (nVl N k) k) = _
    rw [ih (by omega)]
    refine (F4_up (v := nVl N k) hv ?_ (fun w hw => ?_)).symm
    · rw [vct_s, if_pos rfl, Nat.add_comm 1]; rfl
    · rw [vct_s, if_neg (fun q => hw q.symm)]; rfl
def FF (N : NT) (k : Nat) : Nat := F4 (fun v => fac (vct N v (nP N) - vct N v k))
theorem FF_0 (N : NT) : FF N 0 = F4 (fun v => fac (vct N v (nP N))) := rfl
theorem FF_P (N : NT) : FF N (nP N) = 1 := by
  unfold FF F4
  dsimp only
  rw [Nat.sub_self, Nat.sub_self, Nat.sub_self, Nat.sub_self]
  rfl
theorem FF_s {N : NT} (hN : okN N) {k : Nat} (hk : k < nP N) : FF N k = FF N (k + 1) * (vct N (nVl N k) (nP N) - vct N (nVl N k) k) := by
  have hv := (hN.2.2.2.2.1 k hk).1
  have h1 : vct N (nVl N k) (k + 1) = vct N (nVl N k) k + 1 := by rw [vct_s, if_pos rfl]
  have h2 := vct_mono N (nVl N k) (a := k + 1) (b := nP N) (by omega)
  refine F4_up (v := nVl N k) hv ?_ (fun w hw => ?_)
  · show fac (vct N (nVl N k) (nP N) - vct N (nVl N k) k) = _ * fac (vct N (nVl N k) (nP N) - vct N (nVl N k) (k + 1))
    rw [h1]
    obtain ⟨d, hd⟩ : ∃ d, vct N (nVl N k) (nP N) - vct N (nVl N k) k = d + 1 := ⟨vct N (nVl N k) (nP N) - vct N (nVl N k) k - 1, by omega⟩
    rw [hd, show vct N (nVl N k) (nP N) - (vct N (nVl N k) k + 1) = d by omega]
    rfl
  · show fac (vct N w (nP N) - vct N w k) = fac (vct N w (nP N) - vct N w (k + 1))
    rw [vct_s, if_neg (fun q => hw q.symm), Nat.add_zero]
theorem sm_if {f : Nat → Bool} {c n : Nat} : sm (fun q => if f q then c else 0) n = cnt f n * c := by
  induction n with
  | zero => exact (Nat.zero_mul c).symm
  | succ n ih =>
    show sm _ n + (if f n then c else 0) = (cnt f n + (if f n then 1 else 0)) * c
    rw [ih, Nat.add_mul]
    cases f n
    · rw [if_neg (by decide), if_neg (by decide), Nat.zero_mul]
    · rw [if_pos rfl, if_pos rfl, Nat.one_mul]
def okq (N : NT) (p u q : Nat) : Bool := (!u.testBit q) && decide (nVl N q = nVl N p)
def setf (g : Nat → Int32) (p : Nat) (v : Int32) : Nat → Int32 := fun j => if j = p then v else g j
def wfq (N : NT) (h : Nat → Int32) (w : Nat) : Nat → Nat → Nat → (Nat → Int32) → Nat
  | 0, _, _, g => if w ≤ cnt (tld N g) (nT N) then 1 else 0
  | d + 1, p, u, g => sm (fun q => if okq N p u q then wfq N h w d (p + 1) (u ||| 2 ^ q) (setf g p (h q)) else 0) (nP N)
def lvq (N : NT) : Nat → Nat → Nat → Nat
  | 0, _, _ => 1
  | d + 1, p, u => sm (fun q => if okq N p u q then lvq N d (p + 1) (u ||| 2 ^ q) else 0) (nP N)
def uOk (N : NT) (p u : Nat) : Prop := u < 2 ^ nP N ∧ ∀ v, cnt (fun q => decide (nVl N q = v) && u.testBit q) (nP N) = vct N v p
theorem uOk_s {N : NT} {p u q : Nat} (h : uOk N p u) (hq : q < nP N) (ho : okq N p u q = true) : uOk N (p + 1) (u ||| 2 ^ q) := by
  unfold okq at ho
  rw [Bool.and_eq_true, Bool.not_eq_true', decide_eq_true_eq] at ho
  refine ⟨nb_or_lt h.1 (nb_one_lt hq), fun v => ?_⟩
  have hu := cnt_upd (f := fun q => decide (nVl N q = v) && u.testBit q) (g := fun i => decide (nVl N i = v) && (u ||| 2 ^ q).testBit i) hq (fun i hi => by
    rw [or_bit, decide_eq_false (fun z => hi z.symm : ¬ q = i), Bool.or_false])
  rw [or_bit, ho.1, Bool.and_false, decide_eq_true rfl, Bool.false_or, Bool.and_true, if_neg (by decide), Nat.add_zero, h.2 v] at hu
  rw [hu, vct_s]
  by_cases c : nVl N p = v
  · rw [if_pos c, ho.2, decide_eq_true c]; rfl
  · rw [if_neg c, ho.2, decide_eq_false c]; rfl
theorem lvq_eq {N : NT} (hN : okN N) : ∀ d p u, p + d = nP N → uOk N p u → lvq N d p u = FF N p := by
  intro d
  induction d with
  | zero => intro p u hp _; rw [show p = nP N by omega, FF_P]; rfl
  | succ d ih =>
    intro p u hp hu
    have e : lvq N (d + 1) p u = sm (fun q => if okq N p u q then FF N (p + 1) else 0) (nP N) := sm_congr (fun q hq => by
      by_cases c : okq N p u q = true
      · rw [if_pos c, if_pos c, ih (p + 1) _ (by omega) (uOk_s hu hq c)]
      · rw [if_neg c, if_neg c])
    rw [e, sm_if, FF_s hN (by omega : p < nP N), Nat.mul_comm]
    congr 1
    have h2 := cnt_two (fun q => decide (nVl N q = nVl N p)) (fun q => u.testBit q) (nP N)
    rw [hu.2] at h2
    have h3 : cnt (fun i => decide (nVl N i = nVl N p) && !u.testBit i) (nP N) = cnt (okq N p u) (nP N) := cnt_congr (fun i _ => Bool.and_comm _ _)
    rw [h3] at h2
    have h4 : cnt (fun q => decide (nVl N q = nVl N p)) (nP N) = vct N (nVl N p) (nP N) := rfl
    omega
theorem wfq_le {N : NT} (h : Nat → Int32) (w : Nat) : ∀ d p u g, wfq N h w d p u g ≤ lvq N d p u := by
  intro d
  induction d with
  | zero => intro p u g; show (if _ then 1 else 0) ≤ 1; split <;> omega
  | succ d ih =>
    intro p u g
    refine sm_mono (fun q _ => ?_)
    split
    · exact ih _ _ _
    · exact Nat.le_refl _
theorem tld_congr {N : NT} (hN : okN N) {f g : Nat → Int32} (h : ∀ p, p < nP N → f p = g p) : cnt (tld N f) (nT N) = cnt (tld N g) (nT N) := cnt_congr (fun t ht => by
  have ho := hN.2.2.2.1 t ht
  unfold tld
  rw [h _ ho.1, h _ ho.2.1])
theorem q_thatTold {I : HI} {J : HJ} {N : NT} {c : Nat} {f : Nat → Int32} (hc : cNet I N) (hN : okN N) (hf : ∀ p, p < nP N → I c p = f p) {Post : Int32 → Prop} (h : Post (nI (cnt (tld N f) (nT N)))) : w_X6_tiesThatTold c I J Post := by
  have hT := hN.2.1
  refine lp_seq (fun i => (nI (cnt (tld N f) i), nI i)) (nT N) (fun i hi K hK => ?_) (fun K => ?_)
  · show wb_X6_tiesThatTold_4 I J c Post _ K (nI (cnt _ i), nI i)
    unfold wb_X6_tiesThatTold_4
    dsimp only
    rw [hc.1.2.1, i_add0, nI_1 i]
    have st : cnt (tld N f) (i + 1) = cnt (tld N f) i + (if tld N f i then 1 else 0) := rfl
    rw [st] at hK
    refine ⟨fun z => absurd z (nI_ge hi (by omega)), fun _ => q_didTell hc hN hi hf ⟨fun b => ?_, fun b => ?_⟩⟩
    · rw [b] at hK; exact hK
    · rw [b] at hK; rw [nI_1]; exact hK
  · show wb_X6_tiesThatTold_4 I J c Post _ K (nI (cnt _ (nT N)), nI (nT N))
    unfold wb_X6_tiesThatTold_4
    dsimp only
    rw [hc.1.2.1]
    exact ⟨fun _ => h, fun z => absurd (Int32.le_refl _) z⟩
theorem q_waysFrom {I0 : HI} {J : HJ} {N : NT} {c w : Nat} {h : Nat → Int32} (hc : cNet I0 N) (hN : okN N) (hw : w < 2 ^ 31) (hc71 : c ≠ 71) (hh : ∀ q, q < nP N → I0 c q = h q) : ∀ d e p u g (I : HI) (Post : Int32 → HI → Prop), p + d = nP N → d < e → u < 2 ^ nP N → (∀ a, a ≠ 71 → I a = I0 a) → (∀ j, j < p → I 71 j = g j) → (∀ I' : HI, (∀ a, a ≠ 71 → I' a = I0 a) → (∀ j, j < p → I' 71 j = g j) → Post (nI (wfq N h w d p u g)) I') → w_X6_waysFrom e c (nI p) (nI u) (nI w) I J Post := by
  have hP := hN.1
  have hT := hN.2.1
  intro d
  induction d with
  | zero =>
    intro e p u g I Post hp he hu h1 h2 hpo
    obtain ⟨e, rfl⟩ : ∃ k, e = k + 1 := ⟨e - 1, by omega⟩
    have hcI : cNet I N := cNet_of hc (fun a x y => h1 a (by omega))
    have pe : p = nP N := by omega
    subst pe
    show wr_X6_waysFrom _ c _ _ _ I J Post
    unfold wr_X6_waysFrom
    rw [hcI.1.1]
    refine ⟨fun z => absurd z (nI_nlt (Nat.le_refl _) (by omega)), fun _ => q_thatTold hcI hN h2 ?_⟩
    have hle : cnt (tld N g) (nT N) ≤ nT N := cnt_le _ _
    rw [nI_ltI (by omega) hw]
    have := hpo I h1 h2
    refine ⟨fun z => ?_, fun z => ?_⟩
    · rw [show wfq N h w 0 (nP N) u g = 0 from if_neg (by omega)] at this; exact this
    · rw [show wfq N h w 0 (nP N) u g = 1 from if_pos (by omega)] at this; exact this
  | succ d ih =>
    intro e p u g I Post hp he hu h1 h2 hpo
    obtain ⟨e, rfl⟩ : ∃ k, e = k + 1 := ⟨e - 1, by omega⟩
    have hu12 := two12 hN hu
    show wr_X6_waysFrom _ c _ _ _ I J Post
    unfold wr_X6_waysFrom
    rw [(cNet_of hc (fun a x y => h1 a (by omega))).1.1]
    refine ⟨fun _ => ?_, fun z => absurd (nI_lt (by omega) (by omega)) z⟩
    refine lp_inv (fun i (s : Int32 × Int32 × HI) => s.1 = nI (sm (fun q => if okq N p u q then wfq N h w d (p + 1) (u ||| 2 ^ q) (setf g p (h q)) else 0) i) ∧ s.2.1 = nI i ∧ (∀ a, a ≠ 71 → s.2.2 a = I0 a) ∧ ∀ j, j < p → s.2.2 71 j = g j) (nP N) (fun i s hi hq K hK => ?_) (fun s hq K => ?_) (0, 0, I) ⟨rfl, rfl, h1, h2⟩
    · obtain ⟨x6, x7, I1⟩ := s
      obtain ⟨a1, a2, g1, g2⟩ := hq
      dsimp only at a1 a2 g1 g2
      subst a1 a2
      have hcI : cNet I1 N := cNet_of hc (fun a x y => g1 a (by omega))
      have vi := (hN.2.2.2.2.1 i hi).1
      have vp := (hN.2.2.2.2.1 p (by omega)).1
      show wb_X6_waysFrom_40 (w_X6_waysFrom e) J c (nI p) (nI u) (nI w) Post _ K (nI (sm _ i), nI i, I1)
      unfold wb_X6_waysFrom_40
      dsimp only
      rw [hcI.1.1, nI_clamp (by omega : i < 2 ^ 31), nI_clamp (by omega : p < 2 ^ 31), (hcI.2.1 i hi).1, (hcI.2.1 p (by omega)).1, nI_eq (by omega) (by omega), nb_one i (by omega), nb_or, nI_1 i, nI_1 p, g1 c hc71, hh i hi]
      have st : sm (fun q => if okq N p u q then wfq N h w d (p + 1) (u ||| 2 ^ q) (setf g p (h q)) else 0) (i + 1) = sm (fun q => if okq N p u q then wfq N h w d (p + 1) (u ||| 2 ^ q) (setf g p (h q)) else 0) i + (if okq N p u i then wfq N h w d (p + 1) (u ||| 2 ^ i) (setf g p (h i)) else 0) := rfl
      have no : okq N p u i = false → K (nI (sm (fun q => if okq N p u q then wfq N h w d (p + 1) (u ||| 2 ^ q) (setf g p (h q)) else 0) i), nI (i + 1), I1) := fun q => hK _ ⟨by rw [st, q]; rfl, rfl, g1, g2⟩
      have v1 : vp_in (nI i) 12 := vp_in_nI (by omega) (by omega)
      have v2 : vp_in (nI p) 12 := vp_in_nI (by omega) (by omega)
      refine ⟨fun z => absurd z (nI_ge hi (by omega)), fun _ => q_has (by omega) (by omega) ⟨fun b => no (by unfold okq; rw [b]; rfl), fun b => ⟨v1, v2, fun z => no (by unfold okq; rw [decide_eq_false z, Bool.and_false]), fun z => ⟨v1, v2, fun I2 e2 => ?_⟩⟩⟩⟩
      have ok : okq N p u i = true := by unfold okq; rw [b, decide_eq_true z]; rfl
      refine ih e (p + 1) (u ||| 2 ^ i) (setf g p (h i)) I2 _ (by omega) (by omega) (nb_or_lt hu (nb_one_lt hi)) (fun a ha => by rw [e2, hI_ne ha]; exact g1 a ha) (fun j hj => ?_) (fun I3 k1 k2 => ?_)
      · rw [e2, hI_at]
        unfold setf
        by_cases y : j = p
        · rw [if_pos y, if_pos y]
        · rw [if_neg y, if_neg y]; exact g2 j (by omega)
      · rw [nI_add]
        refine hK _ ⟨by rw [st, if_pos ok], rfl, k1, fun j hj => ?_⟩
        have := k2 j (by omega)
        unfold setf at this
        rw [if_neg (by omega)] at this
        exact this
    · obtain ⟨x6, x7, I1⟩ := s
      obtain ⟨a1, a2, g1, g2⟩ := hq
      dsimp only at a1 a2 g1 g2
      subst a1 a2
      have hcI : cNet I1 N := cNet_of hc (fun a x y => g1 a (by omega))
      show wb_X6_waysFrom_40 (w_X6_waysFrom e) J c (nI p) (nI u) (nI w) Post _ K (nI (sm _ (nP N)), nI (nP N), I1)
      unfold wb_X6_waysFrom_40
      dsimp only
      rw [hcI.1.1]
      exact ⟨fun _ => hpo I1 g1 g2, fun z => absurd (Int32.le_refl _) z⟩
theorem q_mToldNow {I : HI} {J : HJ} {N : NT} {f : Nat → Int32} (hm : mNet I N) (hN : okN N) (hf : ∀ p, p < nP N → I 98 p = f p ∧ vh (f p)) {Post : Int32 → Prop} (h : Post (nI (cnt (tld N f) (nT N)))) : w_X11_toldNow I J Post := by
  have hT := hN.2.1
  have hP := hN.1
  refine lp_seq (fun i => (nI (cnt (tld N f) i), nI i)) (nT N) (fun i hi K hK => ?_) (fun K => ?_)
  · have ho := hN.2.2.2.1 i hi
    have ct := hm.2.2.1 i hi
    show wb_X11_toldNow_4 I J Post _ K (nI (cnt _ i), nI i)
    unfold wb_X11_toldNow_4
    dsimp only
    rw [hm.1.2, i_add0, nI_1 i, nI_clamp (by omega : i < 2 ^ 31), ct.1, ct.2.1, nI_clamp (by omega : nFr N i < 2 ^ 31), nI_clamp (by omega : nTo N i < 2 ^ 31)]
    have st : cnt (tld N f) (i + 1) = cnt (tld N f) i + (if tld N f i then 1 else 0) := rfl
    rw [st] at hK
    have vi : vp_in (nI i) 10 := vp_in_nI (by omega) (by omega)
    refine ⟨fun z => absurd z (nI_ge hi (by omega)), fun _ => ⟨vi, vp_in_nI (by omega) (by omega), vi, vp_in_nI (by omega) (by omega), q_mHasTold hm hN hi (hf _ ho.1).1 (hf _ ho.2.1).1 (hf _ ho.1).2 ⟨fun b => ?_, fun b => ?_⟩⟩⟩
    · rw [b] at hK; exact hK
    · rw [b] at hK; rw [nI_1]; exact hK
  · show wb_X11_toldNow_4 I J Post _ K (nI (cnt _ (nT N)), nI (nT N))
    unfold wb_X11_toldNow_4
    dsimp only
    rw [hm.1.2]
    exact ⟨fun _ => h, fun z => absurd (Int32.le_refl _) z⟩
def jOk (J J' : HJ) (a b : Nat) : Prop := (∀ c, c ≠ 72 → J' c = J c) ∧ (∀ j, j ≠ 50 → j ≠ 51 → J' 72 j = J 72 j) ∧ J' 72 50 = lN a ∧ J' 72 51 = lN b
theorem q_mDeal {I0 : HI} {J0 : HJ} {N : NT} {w : Nat} {h : Nat → Int32} (hm : mNet I0 N) (hN : okN N) (hw : w < 2 ^ 31) (hh : ∀ q, q < nP N → I0 99 q = h q ∧ vh (h q)) : ∀ d e p u g (I : HI) (J : HJ) (a b : Nat) (Post : HI → HJ → Prop), p + d = nP N → d < e → u < 2 ^ nP N → (∀ c, c ≠ 98 → I c = I0 c) → (∀ j, j < p → I 98 j = g j ∧ vh (g j)) → jOk J0 J a b → (∀ (I' : HI) (J' : HJ), (∀ c, c ≠ 98 → I' c = I0 c) → (∀ j, j < p → I' 98 j = g j) → jOk J0 J' (a + lvq N d p u) (b + wfq N h w d p u g) → Post I' J') → w_X11_deal e (nI p) (nI u) (nI w) I J Post := by
  have hP := hN.1
  have hT := hN.2.1
  have mI : ∀ I : HI, (∀ c, c ≠ 98 → I c = I0 c) → mNet I N := fun I h1 => mNet_of hm (by rw [h1 72 (by decide)]) (by rw [h1 72 (by decide)]) ⟨h1 77 (by decide), h1 79 (by decide), h1 80 (by decide), h1 81 (by decide), h1 82 (by decide), h1 87 (by decide)⟩
  intro d
  induction d with
  | zero =>
    intro e p u g I J a b Post hp he hu h1 h2 hj hpo
    obtain ⟨e, rfl⟩ : ∃ k, e = k + 1 := ⟨e - 1, by omega⟩
    have hmI := mI I h1
    have pe : p = nP N := by omega
    subst pe
    show wr_X11_deal _ _ _ _ I J Post
    unfold wr_X11_deal
    rw [hmI.1.1]
    refine ⟨fun z => absurd rfl z, fun _ J8 e8 => q_mToldNow hmI hN h2 ?_⟩
    have hle : cnt (tld N g) (nT N) ≤ nT N := cnt_le _ _
    rw [nI_ltI (by omega) hw]
    obtain ⟨j1, j2, j3, j4⟩ := hj
    have k50 : J8 72 50 = lN (a + 1) := by rw [e8, hJ_at, if_pos rfl, j3, lN_1]
    have k51 : J8 72 51 = lN b := by rw [e8, hJ_at, if_neg (by decide), j4]
    have fin : ∀ (x : Nat) (J9 : HJ), J9 = hJ J8 72 51 (lN (b + x)) → x = wfq N h w 0 (nP N) u g → Post I J9 := fun x J9 e9 hx => by
      refine hpo I J9 h1 (fun j hj => (h2 j hj).1) ⟨fun c hc => ?_, fun j q1 q2 => ?_, ?_, ?_⟩
      · rw [e9, hJ_ne hc, e8, hJ_ne hc]; exact j1 c hc
      · rw [e9, hJ_at, if_neg q2, e8, hJ_at, if_neg q1]; exact j2 j q1 q2
      · rw [e9, hJ_at, if_neg (by decide)]; exact k50
      · rw [e9, hJ_at, if_pos rfl, hx]
    refine ⟨fun z J9 e9 => fin 0 J9 (by rw [e9, k51, show (0 : Int64) = lN 0 from rfl, lN_add]) (if_neg (by omega)).symm, fun z J9 e9 => fin 1 J9 (by rw [e9, k51, lN_1]) (if_pos (by omega)).symm⟩
  | succ d ih =>
    intro e p u g I J a b Post hp he hu h1 h2 hj hpo
    obtain ⟨e, rfl⟩ : ∃ k, e = k + 1 := ⟨e - 1, by omega⟩
    have hu12 := two12 hN hu
    show wr_X11_deal _ _ _ _ I J Post
    unfold wr_X11_deal
    rw [(mI I h1).1.1, nI_eq (by omega) (by omega)]
    refine ⟨fun _ => ?_, fun z => by omega⟩
    refine lp_inv (fun i (s : Int32 × HI × HJ) => s.1 = nI i ∧ (∀ c, c ≠ 98 → s.2.1 c = I0 c) ∧ (∀ j, j < p → s.2.1 98 j = g j) ∧ jOk J0 s.2.2 (a + sm (fun q => if okq N p u q then lvq N d (p + 1) (u ||| 2 ^ q) else 0) i) (b + sm (fun q => if okq N p u q then wfq N h w d (p + 1) (u ||| 2 ^ q) (setf g p (h q)) else 0) i)) (nP N) (fun i s hi hq K hK => ?_) (fun s hq K => ?_) (0, I, J) ⟨rfl, h1, fun j hj => (h2 j hj).1, hj⟩
    · obtain ⟨x4, I1, J1⟩ := s
      obtain ⟨a2, g1, g2, g3⟩ := hq
      dsimp only at a2 g1 g2 g3
      subst a2
      have hmI := mI I1 g1
      have vi := (hN.2.2.2.2.1 i hi).1
      have vp := (hN.2.2.2.2.1 p (by omega)).1
      have st1 : sm (fun q => if okq N p u q then lvq N d (p + 1) (u ||| 2 ^ q) else 0) (i + 1) = sm (fun q => if okq N p u q then lvq N d (p + 1) (u ||| 2 ^ q) else 0) i + (if okq N p u i then lvq N d (p + 1) (u ||| 2 ^ i) else 0) := rfl
      have st2 : sm (fun q => if okq N p u q then wfq N h w d (p + 1) (u ||| 2 ^ q) (setf g p (h q)) else 0) (i + 1) = sm (fun q => if okq N p u q then wfq N h w d (p + 1) (u ||| 2 ^ q) (setf g p (h q)) else 0) i + (if okq N p u i then wfq N h w d (p + 1) (u ||| 2 ^ i) (setf g p (h i)) else 0) := rfl
      show wb_X11_deal_44 (w_X11_deal e) (nI p) (nI u) (nI w) Post _ K (nI i, I1, J1)
      unfold wb_X11_deal_44
      dsimp only
      rw [hmI.1.1, nb_bit1 (by omega) (by omega), nb_one i (by omega), nb_or, nI_1 i, nI_1 p, nI_clamp (by omega : i < 2 ^ 31), nI_clamp (by omega : p < 2 ^ 31), g1 99 (by decide), (hh i hi).1]
      have no : okq N p u i = false → K (nI (i + 1), I1, J1) := fun q => hK _ ⟨rfl, g1, g2, by rw [st1, st2, q]; exact g3⟩
      have v1 : vp_in (nI i) 12 := vp_in_nI (by omega) (by omega)
      have v2 : vp_in (nI p) 12 := vp_in_nI (by omega) (by omega)
      refine ⟨fun z => absurd z (nI_ge hi (by omega)), fun _ => q_mValley hmI hN hi (q_mValley hmI hN (by omega) ?_)⟩
      rw [nI_eq (by omega) (by omega)]
      refine ⟨fun z => no (by unfold okq; rw [decide_eq_false z, Bool.and_false]), fun z => ⟨fun bb => ⟨v1, v2, fun I2 e2 => ?_⟩, fun bb => no (by unfold okq; rw [bb]; rfl)⟩⟩
      have ok : okq N p u i = true := by unfold okq; rw [Bool.eq_false_iff.mpr bb, decide_eq_true z]; rfl
      refine ih e (p + 1) (u ||| 2 ^ i) (setf g p (h i)) I2 J1 _ _ _ (by omega) (by omega) (nb_or_lt hu (nb_one_lt hi)) (fun c hc => by rw [e2, hI_ne hc]; exact g1 c hc) (fun j hj => ?_) g3 (fun I3 J3 k1 k2 k3 => ?_)
      · rw [e2, hI_at]
        unfold setf
        by_cases y : j = p
        · rw [if_pos y, if_pos y]; exact ⟨rfl, (hh i hi).2⟩
        · rw [if_neg y, if_neg y]; exact ⟨g2 j (by omega), (h2 j (by omega)).2⟩
      · refine hK _ ⟨rfl, k1, fun j hj => ?_, ?_⟩
        · have := k2 j (by omega)
          unfold setf at this
          rw [if_neg (by omega)] at this
          exact this
        · rw [st1, st2, if_pos ok, if_pos ok, ← Nat.add_assoc, ← Nat.add_assoc]; exact k3
    · obtain ⟨x4, I1, J1⟩ := s
      obtain ⟨a2, g1, g2, g3⟩ := hq
      dsimp only at a2 g1 g2 g3
      subst a2
      show wb_X11_deal_44 (w_X11_deal e) (nI p) (nI u) (nI w) Post _ K (nI (nP N), I1, J1)
      unfold wb_X11_deal_44
      dsimp only
      rw [(mI I1 g1).1.1]
      exact ⟨fun _ => hpo I1 J1 g1 g2 g3, fun z => absurd (Int32.le_refl _) z⟩
