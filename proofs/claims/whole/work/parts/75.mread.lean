/-! the model reads -/
def mFm (I I0 : HI) (J J0 : HJ) : Prop := (∀ c, c ≠ 72 → c ≠ 78 → ¬ (83 ≤ c ∧ c ≤ 86) → c ≠ 88 → c ≠ 90 → I c = I0 c) ∧ (∀ k, ¬ (12 ≤ k ∧ k ≤ 18) → k ≠ 22 → k ≠ 23 → I 72 k = I0 72 k) ∧ (∀ c, c ≠ 72 → c ≠ 89 → J c = J0 c) ∧ ∀ k, k ≠ 19 → J 72 k = J0 72 k
def mDr (I : HI) (J : HJ) (D : DT) : Prop := (I 72 22 = nI (nP D.1) ∧ I 72 23 = nI (nT D.1)) ∧ (∀ p, p < nP D.1 → I 78 (5 * p) = nI (nVl D.1 p) ∧ I 78 (5 * p + 1) = nI (nNd D.1 p) ∧ I 78 (5 * p + 2) = nI (nLt D.1 p) ∧ I 78 (5 * p + 3) = nI (if (nS D.1).testBit p then 1 else 0) ∧ I 78 (5 * p + 4) = nI (nCo D.1 p)) ∧ (∀ t, t < nT D.1 → I 83 t = nI (nFr D.1 t) ∧ I 84 t = nI (nTo D.1 t) ∧ I 85 t = nI (nOd D.1 t) ∧ I 86 t = nI (nHr D.1 t)) ∧ (∀ v, v < 4 → I 88 v = nI (nMo D.1 v) ∧ I 90 v = nI (if D.2.2.testBit v then 1 else 0)) ∧ ∀ p, p < nP D.1 → J 89 p = lN (D.2.1 p)
def mG (n : Nat) (tx : Nat → Nat) (I0 : HI) (J0 : HJ) (e : Nat) (D : DT) (I : HI) (J : HJ) : Prop := mFm I I0 J J0 ∧ I 72 12 = 0 ∧ mTok n tx I J e ∧ mDr I J D
def mB (I0 : HI) (J0 : HJ) (q : Nat × Nat) (I : HI) (J : HJ) : Prop := mFm I I0 J J0 ∧ (1 ≤ q.1 ∧ q.1 ≤ 6) ∧ I 72 12 = nI q.1 ∧ I 72 13 = nI q.2
def spl (x0 x1 x2 x3 x4 x5 : Int32) : Int64 :=
  let z := (((((Int32.toInt64 x0) - 96) * 32) + (Int32.toInt64 x1)) - 96)
  let a := if x2 ≤ 0 then z else (((z * 32) + (Int32.toInt64 x2)) - 96)
  let b := if x3 ≤ 0 then a else (((a * 32) + (Int32.toInt64 x3)) - 96)
  let c := if x4 ≤ 0 then b else (((b * 32) + (Int32.toInt64 x4)) - 96)
  if x5 ≤ 0 then c else (((c * 32) + (Int32.toInt64 x5)) - 96)
theorem q_spelled {x0 x1 x2 x3 x4 x5 : Int32} {Post : Int64 → Prop} (h : Post (spl x0 x1 x2 x3 x4 x5)) : w_X11_spelled x0 x1 x2 x3 x4 x5 Post := by
  unfold spl at h
  intro z ez
  rw [← ez] at h
  dsimp only at h
  have s5 : ∀ t : Int64, Post (if x5 ≤ 0 then t else (((t * 32) + (Int32.toInt64 x5)) - 96)) → wj_X11_spelled_95 x5 t Post := fun t ht => ⟨fun c => by rw [if_pos c] at ht; exact ht, fun c => by rw [if_neg c] at ht; exact ht⟩
  have s4 : ∀ t : Int64, Post (if x5 ≤ 0 then (if x4 ≤ 0 then t else (((t * 32) + (Int32.toInt64 x4)) - 96)) else ((((if x4 ≤ 0 then t else (((t * 32) + (Int32.toInt64 x4)) - 96)) * 32) + (Int32.toInt64 x5)) - 96)) → wj_X11_spelled_69 x4 x5 t Post := fun t ht => ⟨fun c => by rw [if_pos c] at ht; exact s5 t ht, fun c => by rw [if_neg c] at ht; exact s5 _ ht⟩
  have s3 : ∀ t : Int64, Post (if x5 ≤ 0 then (if x4 ≤ 0 then (if x3 ≤ 0 then t else (((t * 32) + (Int32.toInt64 x3)) - 96)) else ((((if x3 ≤ 0 then t else (((t * 32) + (Int32.toInt64 x3)) - 96)) * 32) + (Int32.toInt64 x4)) - 96)) else ((((if x4 ≤ 0 then (if x3 ≤ 0 then t else (((t * 32) + (Int32.toInt64 x3)) - 96)) else ((((if x3 ≤ 0 then t else (((t * 32) + (Int32.toInt64 x3)) - 96)) * 32) + (Int32.toInt64 x4)) - 96)) * 32) + (Int32.toInt64 x5)) - 96)) → wj_X11_spelled_45 x3 x4 x5 t Post := fun t ht => ⟨fun c => by rw [if_pos c] at ht; exact s4 t ht, fun c => by rw [if_neg c] at ht; exact s4 _ ht⟩
  exact ⟨fun c => by rw [if_pos c] at h; exact s3 z h, fun c => by rw [if_neg c] at h; exact s3 _ h⟩
theorem lN_nm1 {a : Nat} (h : a < 2 ^ 63) : ¬ (-1 : Int64) = lN a := fun z => by
  have := pk_lT h
  rw [← z, show (-1 : Int64).toInt = -1 from by decide] at this
  omega
theorem srt_1 {k : Nat} : srt k = 1 ↔ 4 ≤ k := by
  unfold srt
  by_cases a : k = 0
  · rw [if_pos a]; omega
  · rw [if_neg a]
    by_cases b : k = 1
    · rw [if_pos b]; omega
    · rw [if_neg b]
      by_cases c : k = 2
      · rw [if_pos c]; omega
      · rw [if_neg c]
        by_cases d : k = 3
        · rw [if_pos d]; omega
        · rw [if_neg d]; omega
theorem srt_le (k : Nat) : srt k ≤ 4 := by unfold srt; split; omega; split; omega; split; omega; split <;> omega
theorem srt_v (k : Nat) : (srt k = 2 ↔ k = 2) ∧ (srt k = 3 ↔ k = 3) ∧ (srt k = 4 ↔ k = 1) ∧ (srt k = 0 ↔ k = 0) := by
  unfold srt
  by_cases a : k = 0
  · rw [if_pos a]; omega
  · rw [if_neg a]
    by_cases b : k = 1
    · rw [if_pos b]; omega
    · rw [if_neg b]
      by_cases c : k = 2
      · rw [if_pos c]; omega
      · rw [if_neg c]
        by_cases d : k = 3
        · rw [if_pos d]; omega
        · rw [if_neg d]; omega
section
variable {n : Nat} {tx : Nat → Nat} {I0 I : HI} {J0 J : HJ} {e : Nat} {D : DT} {q : Nat × Nat}
theorem m_word (hn : n ≤ 600) (he : e ≤ n) (h : mTok n tx I J e) {i : Nat} (hi : i < 13) {Post : Bool → Prop} (hp : Post (decide (tKd n tx e = 6 + i))) : w_X11_isWord (lN (wds.getD i 0)) I J Post := by
  obtain ⟨h1, h2, h3, h4, h5, h6, h7⟩ := h
  have sl := srt_le (tKd n tx e)
  have wl := wds_lt i hi
  unfold w_X11_isWord
  rw [h3, show (1 : Int32) = nI 1 from rfl, nI_eq (by omega) (by decide), srt_1]
  by_cases c : 4 ≤ tKd n tx e
  · refine ⟨fun z => absurd c z, fun _ => ?_⟩
    by_cases c4 : tKd n tx e = 4
    · rw [h6 c4]
      rw [decide_eq_false (by omega)] at hp
      exact ⟨fun _ => hp, fun z => absurd z (lN_nm1 (by omega))⟩
    · obtain ⟨w1, w2⟩ := tk_w hn he (show 5 ≤ tKd n tx e by omega)
      rw [h7 (by omega), pk_lEQ (by omega) (by omega)]
      have kf := kwl_iff (w := tWd n tx e) i hi
      rw [← w1] at kf
      refine ⟨fun z => ?_, fun z => ?_⟩
      · rw [decide_eq_false (fun y => z (kf.mp y).symm)] at hp; exact hp
      · rw [decide_eq_true (kf.mpr z.symm)] at hp; exact hp
  · rw [decide_eq_false (by omega)] at hp
    exact ⟨fun _ => hp, fun z => absurd z c⟩
theorem sp_person : spl 112 101 114 115 111 110 = lN (wds.getD 0 0) := by decide +kernel
theorem m_isPerson (hn : n ≤ 600) (he : e ≤ n) (h : mTok n tx I J e) {Post : Bool → Prop} (hp : Post (decide (tKd n tx e = 6))) : w_X11_isPerson I J Post := q_spelled (by rw [sp_person]; exact m_word hn he h (by decide) hp)
theorem sp_tie : spl 116 105 101 0 0 0 = lN (wds.getD 1 0) := by decide +kernel
theorem m_isTie (hn : n ≤ 600) (he : e ≤ n) (h : mTok n tx I J e) {Post : Bool → Prop} (hp : Post (decide (tKd n tx e = 7))) : w_X11_isTie I J Post := q_spelled (by rw [sp_tie]; exact m_word hn he h (by decide) hp)
theorem sp_to : spl 116 111 0 0 0 0 = lN (wds.getD 2 0) := by decide +kernel
theorem m_isTo (hn : n ≤ 600) (he : e ≤ n) (h : mTok n tx I J e) {Post : Bool → Prop} (hp : Post (decide (tKd n tx e = 8))) : w_X11_isTo I J Post := q_spelled (by rw [sp_to]; exact m_word hn he h (by decide) hp)
theorem sp_odds : spl 111 100 100 115 0 0 = lN (wds.getD 3 0) := by decide +kernel
theorem m_isOdds (hn : n ≤ 600) (he : e ≤ n) (h : mTok n tx I J e) {Post : Bool → Prop} (hp : Post (decide (tKd n tx e = 9))) : w_X11_isOdds I J Post := q_spelled (by rw [sp_odds]; exact m_word hn he h (by decide) hp)
theorem sp_valley : spl 118 97 108 108 101 121 = lN (wds.getD 4 0) := by decide +kernel
theorem m_isValley (hn : n ≤ 600) (he : e ≤ n) (h : mTok n tx I J e) {Post : Bool → Prop} (hp : Post (decide (tKd n tx e = 10))) : w_X11_isValley I J Post := q_spelled (by rw [sp_valley]; exact m_word hn he h (by decide) hp)
theorem sp_most : spl 109 111 115 116 0 0 = lN (wds.getD 5 0) := by decide +kernel
theorem m_isMost (hn : n ≤ 600) (he : e ≤ n) (h : mTok n tx I J e) {Post : Bool → Prop} (hp : Post (decide (tKd n tx e = 11))) : w_X11_isMost I J Post := q_spelled (by rw [sp_most]; exact m_word hn he h (by decide) hp)
theorem sp_in : spl 105 110 0 0 0 0 = lN (wds.getD 6 0) := by decide +kernel
theorem sp_needs : spl 110 101 101 100 115 0 = lN (wds.getD 7 0) := by decide +kernel
theorem sp_late : spl 108 97 116 101 0 0 = lN (wds.getD 8 0) := by decide +kernel
theorem sp_costs : spl 99 111 115 116 115 0 = lN (wds.getD 10 0) := by decide +kernel
theorem sp_hours : spl 104 111 117 114 115 0 = lN (wds.getD 11 0) := by decide +kernel
theorem m_isHours (hn : n ≤ 600) (he : e ≤ n) (h : mTok n tx I J e) {Post : Bool → Prop} (hp : Post (decide (tKd n tx e = 17))) : w_X11_isHours I J Post := q_spelled (by rw [sp_hours]; exact m_word hn he h (by decide) hp)
theorem sp_back : spl 98 97 99 107 0 0 = lN (wds.getD 12 0) := by decide +kernel
theorem m_isBack (hn : n ≤ 600) (he : e ≤ n) (h : mTok n tx I J e) {Post : Bool → Prop} (hp : Post (decide (tKd n tx e = 18))) : w_X11_isBack I J Post := q_spelled (by rw [sp_back]; exact m_word hn he h (by decide) hp)
theorem m_trait (hn : n ≤ 600) (he : e ≤ n) (h : mTok n tx I J e) {Post : Int32 → Prop} (hp : Post (if 12 ≤ tKd n tx e ∧ tKd n tx e ≤ 16 then nI (tKd n tx e - 12) else -1)) : w_X11_trait I J Post := by
  have st : (675016687182 : Int64) = lN (wds.getD 9 0) := by decide +kernel
  have yes : ∀ k, k < 5 → decide (tKd n tx e = 12 + k) = true → Post (nI k) := fun k hk b => by
    have b := of_decide_eq_true b
    rw [if_pos (by omega), b, show 12 + k - 12 = k by omega] at hp
    exact hp
  have w : ∀ (x : Int64) (i : Nat) (P : Bool → Prop), i < 13 → x = lN (wds.getD i 0) → P (decide (tKd n tx e = 6 + i)) → w_X11_isWord x I J P := fun x i P hi ex hP => by
    rw [ex]; exact m_word hn he h hi hP
  refine q_spelled (w _ 6 _ (by decide) sp_in ⟨fun b6 => ?_, fun b => yes 0 (by decide) b⟩)
  refine q_spelled (w _ 7 _ (by decide) sp_needs ⟨fun b7 => ?_, fun b => yes 1 (by decide) b⟩)
  refine q_spelled (w _ 8 _ (by decide) sp_late ⟨fun b8 => ?_, fun b => yes 2 (by decide) b⟩)
  refine w _ 9 _ (by decide) st ⟨fun b9 => ?_, fun b => yes 3 (by decide) b⟩
  refine q_spelled (w _ 10 _ (by decide) sp_costs ⟨fun b10 => ?_, fun b => yes 4 (by decide) b⟩)
  have b6 := of_decide_eq_false b6
  have b7 := of_decide_eq_false b7
  have b8 := of_decide_eq_false b8
  have b9 := of_decide_eq_false b9
  have b10 := of_decide_eq_false b10
  rw [if_neg (by omega)] at hp
  exact hp
theorem m_isName (hn : n ≤ 600) (he : e ≤ n) (h : mTok n tx I J e) {Post : Bool → Prop} (hp : Post (decide (tKd n tx e = 5))) : w_X11_isName I J Post := by
  have tk := tk_ok (tx := tx) hn he
  have sl := srt_le (tKd n tx e)
  have no : ¬ tKd n tx e = 5 → Post false := fun c => by rw [decide_eq_false c] at hp; exact hp
  unfold w_X11_isName
  rw [h.2.2.1, show (1 : Int32) = nI 1 from rfl, nI_eq (by omega) (by decide), srt_1]
  refine ⟨fun c => no (by omega), fun c => ?_⟩
  obtain ⟨l1, l2⟩ := h.2.2.2.2.1 c
  rw [l1, show (8 : Int32) = nI 8 from rfl, nI_ltI (by decide) (by omega), l2]
  refine ⟨fun z => no (by omega), fun z => m_trait hn he h ?_⟩
  by_cases ct : 12 ≤ tKd n tx e ∧ tKd n tx e ≤ 16
  · rw [if_pos ct]
    exact ⟨fun _ => no (by omega), fun y => absurd (nI_pos' (by omega)) y⟩
  · rw [if_neg ct]
    refine ⟨fun y => absurd y (by decide), fun _ => m_isPerson hn he h ⟨fun b => no (by have := of_decide_eq_true b; omega), fun b1 => m_isTie hn he h ⟨fun b => no (by have := of_decide_eq_true b; omega), fun b2 => m_isTo hn he h ⟨fun b => no (by have := of_decide_eq_true b; omega), fun b3 => m_isOdds hn he h ⟨fun b => no (by have := of_decide_eq_true b; omega), fun b4 => m_isValley hn he h ⟨fun b => no (by have := of_decide_eq_true b; omega), fun b5 => m_isMost hn he h ⟨fun b => no (by have := of_decide_eq_true b; omega), fun b6 => m_isHours hn he h ⟨fun b => no (by have := of_decide_eq_true b; omega), fun b7 => m_isBack hn he h ⟨fun b => no (by have := of_decide_eq_true b; omega), fun b8 => ?_⟩⟩⟩⟩⟩⟩⟩⟩⟩
    have b1 := of_decide_eq_false b1
    have b2 := of_decide_eq_false b2
    have b3 := of_decide_eq_false b3
    have b4 := of_decide_eq_false b4
    have b5 := of_decide_eq_false b5
    have b6 := of_decide_eq_false b6
    have b7 := of_decide_eq_false b7
    have b8 := of_decide_eq_false b8
    rw [decide_eq_true (by omega)] at hp
    exact hp
/-! a bad state stays as it is -/
theorem mB_p (h : mB I0 J0 q I J) : ¬ I 72 12 ≤ 0 := by
  rw [h.2.2.1]
  exact nI_nle (by have := h.2.1; omega) (by have := h.2.1; omega)
theorem mB_n (h : mB I0 J0 q I J) : ¬ I 72 12 = 0 := by
  rw [h.2.2.1]
  exact nI_ne0 (by have := h.2.1; omega) (by have := h.2.1; omega)
theorem b_fail (h : mB I0 J0 q I J) {x y : Int32} {Post : HI → Prop} (hp : Post I) : w_X11_fail x y I J Post := ⟨fun z => absurd z (mB_p h), fun _ => hp⟩
theorem b_must (h : mB I0 J0 q I J) {x : Int32} {Post : HI → HJ → Prop} (hp : Post I J) : w_X11_must x I J Post := ⟨fun z => absurd z (mB_p h), fun _ => hp⟩
theorem b_seen (h : mB I0 J0 q I J) {x y : Int32} {Post : Int32 → HI → Prop} (hp : Post 0 I) : w_X11_seen x y I J Post := ⟨fun _ => ⟨fun _ => ⟨fun _ => hp, fun z => absurd z (mB_n h)⟩, fun z => absurd z (mB_n h)⟩, fun z => absurd z (mB_n h)⟩
theorem b_count (h : mB I0 J0 q I J) {x y : Int32} {Post : Int32 → HI → HJ → Prop} (hp : Post 0 I J) : w_X11_count x y I J Post := b_seen h ⟨fun _ => hp, fun z => absurd z (mB_n h)⟩
theorem b_told (h : mB I0 J0 q I J) {Post : Int32 → HI → Prop} (hp : Post 0 I) : w_X11_told I J Post := ⟨fun _ => ⟨fun _ => ⟨fun _ => hp, fun z => absurd z (mB_n h)⟩, fun z => absurd z (mB_n h)⟩, fun z => absurd z (mB_n h)⟩
/-! it goes on -/
theorem m_next (hn : n ≤ 600) (he : e ≤ n) (ht : mTx I0 n tx) (g : mG n tx I0 J0 e D I J) {Post : HI → HJ → Prop} (hp : ∀ I' J', mG n tx I0 J0 (tEn n tx e) D I' J' → (∀ k, I' 78 k = I 78 k) → J' 89 = J 89 → Post I' J') : w_X11_next I J Post := by
  obtain ⟨⟨a1, a2, a3, a4⟩, b, t, d⟩ := g
  have tk := tk_ok (tx := tx) hn he
  have tI : mTx I n tx := ⟨(a2 9 (by omega) (by decide) (by decide)).trans ht.1, fun k hk => by rw [a1 76 (by decide) (by decide) (by omega) (by decide) (by decide)]; exact ht.2 k hk⟩
  refine q_next hn tk.2.2.1 t.2.1 tI (fun I' J' f tk' => hp I' J' ⟨⟨fun c h1 h2 h3 h4 h5 => ?_, fun k h1 h2 h3 => ?_, fun c h1 h2 => ?_, fun k hk => ?_⟩, ?_, tk', ⟨⟨?_, ?_⟩, ?_, ?_, ?_, ?_⟩⟩ (fun k => by rw [f.1 78 (by decide)]) (f.2.2.1 89 (by decide)))
  · rw [f.1 c h1]; exact a1 c h1 h2 h3 h4 h5
  · rw [f.2.1 k (by omega)]; exact a2 k h1 h2 h3
  · rw [f.2.2.1 c h1]; exact a3 c h1 h2
  · rw [f.2.2.2 k hk]; exact a4 k hk
  · rw [f.2.1 12 (by omega)]; exact b
  · rw [f.2.1 22 (by omega)]; exact d.1.1
  · rw [f.2.1 23 (by omega)]; exact d.1.2
  · rw [f.1 78 (by decide)]; exact d.2.1
  · rw [f.1 83 (by decide), f.1 84 (by decide), f.1 85 (by decide), f.1 86 (by decide)]; exact d.2.2.1
  · rw [f.1 88 (by decide), f.1 90 (by decide)]; exact d.2.2.2.1
  · rw [f.2.2.1 89 (by decide)]; exact d.2.2.2.2
theorem m_fail (g : mG n tx I0 J0 e D I J) {k : Nat} (hk : 1 ≤ k ∧ k ≤ 6) {Post : HI → Prop} (hp : ∀ I', mB I0 J0 (k, tSt n tx e) I' J → Post I') : w_X11_fail (nI k) (I 72 15) I J Post := by
  obtain ⟨⟨a1, a2, a3, a4⟩, b, t, d⟩ := g
  refine ⟨fun _ I1 e1 I2 e2 => hp I2 ⟨⟨fun c h1 h2 h3 h4 h5 => ?_, fun j h1 h2 h3 => ?_, a3, a4⟩, hk, ?_, ?_⟩, fun z => absurd (by rw [b]; exact Int32.le_refl _) z⟩
  · rw [e2, hI_ne h1, e1, hI_ne h1]; exact a1 c h1 h2 h3 h4 h5
  · rw [e2, hI_at, if_neg (by omega), e1, hI_at, if_neg (by omega)]; exact a2 j h1 h2 h3
  · rw [e2, hI_at, if_neg (by decide), e1, hI_at, if_pos rfl]
  · rw [e2, hI_at, if_pos rfl]; exact t.1
theorem m_wrong (g : mG n tx I0 J0 e D I J) {Post : HI → Prop} (hp : ∀ I', mB I0 J0 (wk (tKd n tx e), tSt n tx e) I' J → Post I') : w_X11_wrong I J Post := by
  have sl := srt_le (tKd n tx e)
  have sv := (srt_v (tKd n tx e)).2.2.1
  unfold w_X11_wrong wj_X11_wrong_14
  rw [g.2.2.1.2.2.1, show (4 : Int32) = nI 4 from rfl, nI_eq (by omega) (by decide), sv]
  unfold wk at hp
  refine ⟨fun c => ?_, fun c => ?_⟩
  · rw [if_neg c] at hp
    exact m_fail (k := 2) g (by omega) hp
  · rw [if_pos c] at hp
    exact m_fail (k := 1) g (by omega) hp
theorem m_must (hn : n ≤ 600) (he : e ≤ n) (ht : mTx I0 n tx) (g : mG n tx I0 J0 e D I J) {k : Nat} {Post : HI → HJ → Prop} (hp : ∀ I' J', (match expS n tx e k with | .inl q => mB I0 J0 q I' J' | .inr _ => mG n tx I0 J0 (tEn n tx e) D I' J' ∧ (∀ k, I' 78 k = I 78 k) ∧ J' 89 = J 89) → Post I' J') : w_X11_must (kb (decide (tKd n tx e = k))) I J Post := by
  unfold expS at hp
  refine ⟨fun _ => ?_, fun z => absurd (by rw [g.2.1]; exact Int32.le_refl _) z⟩
  by_cases c : tKd n tx e = k
  · rw [if_pos c] at hp
    rw [decide_eq_true c]
    exact ⟨fun z => absurd z (by decide), fun _ => m_next hn he ht g (fun I' J' g' h1 h2 => hp I' J' ⟨g', h1, h2⟩)⟩
  · rw [if_neg c] at hp
    rw [decide_eq_false c]
    exact ⟨fun _ => m_wrong g (fun I' f => hp I' J f), fun z => absurd rfl z⟩
theorem m_seen (hn : n ≤ 600) (he : e ≤ n) (g : mG n tx I0 J0 e D I J) {lo hi : Nat} (hlo : lo < 1000) (hhi : hi < 1000) {Post : Int32 → HI → Prop} (hp : (match numS n tx e lo hi with | .inl q => ∀ I', mB I0 J0 q I' J → Post 0 I' | .inr v => Post (nI v) I)) : w_X11_seen (nI lo) (nI hi) I J Post := by
  have sl := srt_le (tKd n tx e)
  have sv := (srt_v (tKd n tx e)).1
  unfold numS at hp
  unfold w_X11_seen
  rw [g.2.2.1.2.2.1, show (2 : Int32) = nI 2 from rfl, nI_eq (by omega) (by decide), sv]
  refine ⟨fun z => absurd g.2.1 z, fun _ => ⟨fun c => ⟨fun z => absurd g.2.1 z, fun _ => ?_⟩, fun c => m_wrong g (fun I' f => ⟨fun _ => ⟨fun _ => ?_, fun z => absurd z (mB_n f)⟩, fun z => absurd z (mB_n f)⟩)⟩⟩
  · have nu := g.2.2.1.2.2.2.1 c
    have nl := tk_n (tx := tx) hn he c
    rw [if_neg (by omega)] at hp
    rw [nu]
    refine q_isIn ?_
    rw [Int32.toInt_toInt64, Int32.toInt_toInt64, nI_toInt (by omega), nI_toInt (by omega)]
    have eb : isBt (nI (tNu n tx e)) lo hi = decide (lo ≤ tNu n tx e ∧ tNu n tx e ≤ hi) := by
      unfold isBt
      rw [nI_toInt (by omega)]
      exact decide_eq_decide.mpr (by omega)
    rw [eb]
    by_cases c2 : lo ≤ tNu n tx e ∧ tNu n tx e ≤ hi
    · rw [decide_eq_true c2]
      rw [if_neg (fun z => z c2)] at hp
      exact ⟨fun _ => ⟨fun z => absurd g.2.1 z, fun _ => by rw [nu]; exact hp⟩, fun z => (by cases z)⟩
    · rw [decide_eq_false c2]
      rw [if_pos c2] at hp
      exact ⟨fun z => (by cases z), fun _ => m_fail (k := 4) g (by omega) (fun I' f => ⟨fun _ => hp I' f, fun z => absurd z (mB_n f)⟩)⟩
  · rw [if_pos c] at hp
    exact hp I' f
theorem m_count (hn : n ≤ 600) (he : e ≤ n) (ht : mTx I0 n tx) (g : mG n tx I0 J0 e D I J) {lo hi : Nat} (hlo : lo < 1000) (hhi : hi < 1000) {Post : Int32 → HI → HJ → Prop} (hp : ∀ I' J', (match numS n tx e lo hi with | .inl q => mB I0 J0 q I' J' → Post 0 I' J' | .inr v => mG n tx I0 J0 (tEn n tx e) D I' J' → (∀ k, I' 78 k = I 78 k) → J' 89 = J 89 → Post (nI v) I' J')) : w_X11_count (nI lo) (nI hi) I J Post := by
  refine m_seen hn he g hlo hhi ?_
  cases hs : numS n tx e lo hi with
  | inl q => exact fun I' f => ⟨fun _ => by have := hp I' J; rw [hs] at this; exact this f, fun z => absurd z (mB_n f)⟩
  | inr v => exact ⟨fun z => absurd g.2.1 z, fun _ => m_next hn he ht g (fun I' J' g' h1 h2 => by have := hp I' J'; rw [hs] at this; exact this g' h1 h2)⟩
theorem m_named (hn : n ≤ 600) (he : e ≤ n) (g : mG n tx I0 J0 e D I J) (hD : okD D) (h5 : 5 ≤ tKd n tx e) {Post : Int32 → Prop} (hp : Post (if fnd D.2.1 (tWd n tx e) (nP D.1) < nP D.1 then nI (fnd D.2.1 (tWd n tx e) (nP D.1)) else -1)) : w_X11_named I J Post := by
  have hP := hD.1.1
  have w40 := (tk_w hn he h5).2
  have wd := g.2.2.1.2.2.2.2.2.2 h5
  have e22 := g.2.2.2.1.1
  refine lp_inv (fun i x => x = nI i ∧ ∀ j, j < i → ¬ D.2.1 j = tWd n tx e) (nP D.1) (fun i x hi hq K hK => ?_) (fun x hq K => ?_) 0 ⟨rfl, fun j hj => absurd hj (Nat.not_lt_zero _)⟩
  · obtain ⟨rfl, hq⟩ := hq
    have d40 := hD.2.1 i hi
    show wb_X11_named_2 I J Post _ K (nI i)
    unfold wb_X11_named_2
    rw [e22, nI_1, nI_clamp (by omega), g.2.2.2.2.2.2.2 i hi, wd, pk_lEQ (by omega) (by omega)]
    refine ⟨fun c => absurd c (nI_ge hi (by omega)), fun _ => ⟨vp_in_nI (by omega) (by omega), fun c => hK _ ⟨rfl, fun j hj => ?_⟩, fun c => ?_⟩⟩
    · rcases Nat.lt_or_eq_of_le (Nat.lt_succ_iff.mp hj) with y | y
      · exact hq j y
      · rw [y]; exact c
    · have ef : fnd D.2.1 (tWd n tx e) (nP D.1) = i := fnd_u (by omega) (fun _ => c) hq
      rw [ef, if_pos hi] at hp
      exact hp
  · obtain ⟨rfl, hq⟩ := hq
    show wb_X11_named_2 I J Post _ K (nI (nP D.1))
    unfold wb_X11_named_2
    rw [e22]
    have ef : fnd D.2.1 (tWd n tx e) (nP D.1) = nP D.1 := fnd_u (Nat.le_refl _) (fun z => absurd z (Nat.lt_irrefl _)) hq
    rw [ef, if_neg (Nat.lt_irrefl _)] at hp
    exact ⟨fun _ => hp, fun c => absurd (Int32.le_refl _) c⟩
theorem m_told (hn : n ≤ 600) (he : e ≤ n) (g : mG n tx I0 J0 e D I J) (hD : okD D) {Post : Int32 → HI → Prop} (hp : (match namS n tx e D with | .inl q => ∀ I', mB I0 J0 q I' J → Post 0 I' | .inr p => Post (nI p) I)) : w_X11_told I J Post := by
  have hP := hD.1.1
  unfold namS at hp
  refine ⟨fun z => absurd g.2.1 z, fun _ => m_isName hn he g.2.2.1 ⟨fun b => ⟨fun z => absurd g.2.1 z, fun _ => ?_⟩, fun b => m_wrong g (fun I' f => ⟨fun _ => ⟨fun _ => ?_, fun z => absurd z (mB_n f)⟩, fun z => absurd z (mB_n f)⟩)⟩⟩
  · have b := of_decide_eq_true b
    rw [if_neg (by omega)] at hp
    refine m_named hn he g hD (by omega) ?_
    by_cases c2 : fnd D.2.1 (tWd n tx e) (nP D.1) < nP D.1
    · rw [if_pos c2] at hp ⊢
      refine ⟨fun _ => ⟨fun z => absurd g.2.1 z, fun _ => m_named hn he g hD (by omega) ?_⟩, fun z => absurd (nI_pos' (by omega)) z⟩
      rw [if_pos c2]
      exact hp
    · rw [if_neg c2] at hp ⊢
      exact ⟨fun z => absurd z (by decide), fun _ => m_fail (k := 3) g (by omega) (fun I' f => ⟨fun _ => hp I' f, fun z => absurd z (mB_n f)⟩)⟩
  · rw [if_pos (of_decide_eq_false b)] at hp
    exact hp I' f
theorem m_isThere (g : mG n tx I0 J0 e D I J) (hD : okD D) {a b : Nat} (ha : a < nP D.1) (hb : b < nP D.1) {Post : Bool → Prop} (hp : Post (thr D.1 a b)) : w_X11_isThere (nI a) (nI b) I J Post := by
  have hP := hD.1.1
  have hT := hD.1.2.1
  have e23 := g.2.2.2.1.2
  refine lp_inv (fun i x => x = nI i ∧ ∀ j, j < i → (decide (nFr D.1 j = a) && decide (nTo D.1 j = b)) = false) (nT D.1) (fun i x hi hq K hK => ?_) (fun x hq K => ?_) 0 ⟨rfl, fun j hj => absurd hj (Nat.not_lt_zero _)⟩
  · obtain ⟨rfl, hq⟩ := hq
    have ho := hD.1.2.2.2.1 i hi
    have ct := g.2.2.2.2.2.1 i hi
    have vi : vp_in (nI i) 10 := vp_in_nI (by omega) (by omega)
    have nx : (decide (nFr D.1 i = a) && decide (nTo D.1 i = b)) = false → K (nI (i + 1)) := fun y => hK _ ⟨rfl, fun j hj => by
      rcases Nat.lt_or_eq_of_le (Nat.lt_succ_iff.mp hj) with w | w
      · exact hq j w
      · rw [w]; exact y⟩
    show wb_X11_isThere_2 I J (nI a) (nI b) Post _ K (nI i)
    unfold wb_X11_isThere_2
    rw [e23, nI_1, nI_clamp (by omega : i < 2 ^ 31), ct.1, ct.2.1, nI_eq (by omega) (by omega), nI_eq (by omega) (by omega)]
    refine ⟨fun c => absurd c (nI_ge hi (by omega)), fun _ => ⟨vi, fun c => nx (by rw [decide_eq_false c]; rfl), fun c => ⟨vi, fun c2 => nx (by rw [decide_eq_false c2, Bool.and_false]), fun c2 => ?_⟩⟩⟩
    have : thr D.1 a b = true := by
      cases y : thr D.1 a b
      · have := of_decide_eq_false y
        have z := cnt_no (show cnt (fun t => decide (nFr D.1 t = a) && decide (nTo D.1 t = b)) (nT D.1) = 0 by omega) i hi
        rw [decide_eq_true c, decide_eq_true c2] at z
        cases z
      · rfl
    rw [this] at hp
    exact hp
  · obtain ⟨rfl, hq⟩ := hq
    show wb_X11_isThere_2 I J (nI a) (nI b) Post _ K (nI (nT D.1))
    unfold wb_X11_isThere_2
    rw [e23]
    have : thr D.1 a b = false := by
      unfold thr
      rw [cnt_false hq]
      exact decide_eq_false (Nat.lt_irrefl 0)
    rw [this] at hp
    exact ⟨fun _ => hp, fun c => absurd (Int32.le_refl _) c⟩
end
