/-! the invariant between the class's and the model's cells -/
def wds : List Nat := [542723566, 20773, 655, 495763, 739651769, 441972, 302, 14849171, 394885, 675016687182, 3657363, 8902227, 66667]
def rel (c k : Nat) : Bool := (decide (1 ≤ c) && decide (c ≤ 10)) || (c == 0 && (decide (13 ≤ k) && decide (k ≤ 15))) || (decide (12 ≤ c) && decide (c ≤ 23)) || (c == 54 && k == 3) || (decide (56 ≤ c) && decide (c ≤ 70)) || (c == 72 && (k == 8 || k == 10 || k == 11 || k == 20 || k == 21 || k == 38)) || c == 73 || c == 74 || c == 76 || c == 77 || (decide (79 ≤ c) && decide (c ≤ 82)) || c == 87 || c == 91
def relJ (c : Nat) : Bool := c == 3 || c == 5 || c == 7 || c == 9 || c == 37 || c == 40 || c == 75
def sameI (I I' : HI) : Prop := ∀ c k, rel c k = true → I' c k = I c k
def sameJ (J J' : HJ) : Prop := ∀ c, relJ c = true → J' c = J c
theorem sameI_rf (I : HI) : sameI I I := fun _ _ _ => rfl
theorem sameJ_rf (J : HJ) : sameJ J J := fun _ _ => rfl
theorem sameI_tr {I I' I'' : HI} (h : sameI I I') (g : sameI I' I'') : sameI I I'' := fun c k r => (g c k r).trans (h c k r)
theorem sameJ_tr {J J' J'' : HJ} (h : sameJ J J') (g : sameJ J' J'') : sameJ J J'' := fun c r => (g c r).trans (h c r)
theorem same_w (I : HI) {c k : Nat} (v : Int32) (h : rel c k = false) : sameI I (hI I c k v) := by
  intro a j r
  by_cases e : a = c
  · subst e
    rw [hI_at]
    by_cases e2 : j = k
    · subst e2; rw [r] at h; cases h
    · rw [if_neg e2]
  · rw [hI_ne e]
theorem same_j (J : HJ) {c k : Nat} (v : Int64) (h : relJ c = false) : sameJ J (hJ J c k v) := by
  intro a r
  by_cases e : a = c
  · subst e; rw [r] at h; cases h
  · exact hJ_ne e
def tOk (I : HI) (J : HJ) (k : Nat) : Prop := I (2 + 2 * k) 1 = I 73 k ∧ I (2 + 2 * k) 2 = I 74 k ∧ (∃ so, so < 4 ∧ I 73 k = nI so) ∧ (I 74 k = -1 ∨ ∃ m, m ≤ 40 ∧ I 74 k = nI m ∧ ∀ q, q < m → J (3 + 2 * k) q = J 75 (40 * k + q))
def tpOk (I : HI) : Prop := ∃ m, m ≤ 600 ∧ I 0 13 = nI m ∧ I 72 8 = nI m ∧ ∀ k, k < m → I 10 k = I 76 k ∧ Int8.toInt32 (Int32.toInt8 (I 10 k)) = I 10 k
def rnOk (I : HI) (P : Nat) : Prop := ∃ r, r ≤ 15 ∧ I 54 3 = nI r ∧ I 72 38 = nI r ∧ ∀ a, a < r → ∀ p, p < P → I (56 + a) p = I 91 (12 * a + p) ∧ (I (56 + a) p = -1 ∨ ∃ h, h < 150 ∧ I (56 + a) p = nI h)
def rdW (J : HJ) : Prop := ∀ i, i < 13 → J 37 i = lN (wds.getD i 0)
def Core (I : HI) (J : HJ) (N : NT) : Prop := okN N ∧ cNet I N ∧ mNet I N ∧ cWt J N ∧ (∀ k, k < 4 → tOk I J k) ∧ tpOk I ∧ (I 0 14 = I 72 10 ∧ I 0 15 = I 72 11) ∧ rnOk I (nP N) ∧ rdW J
def Inv (I : HI) (J : HJ) : Prop := ∃ N, Core I J N ∧ I 0 12 = I 72 0 ∧ J 11 0 = J 72 2 ∧ J 11 1 = J 72 3
theorem cNet_s {I I' : HI} {N : NT} (h : cNet I N) (hs : ∀ c k, 12 ≤ c → c ≤ 23 → I' c k = I c k) : cNet I' N :=
  cNet_of h (fun c h1 h2 => funext (fun k => hs c k h1 h2))
theorem rel_net {c k : Nat} (h1 : 12 ≤ c) (h2 : c ≤ 23) : rel c k = true := by simp [rel, h1, h2]
theorem cNet_same {I I' : HI} {N : NT} (h : cNet I N) (hs : sameI I I') : cNet I' N := cNet_s h (fun c k h1 h2 => hs c k (rel_net h1 h2))
theorem mNet_same {I I' : HI} {N : NT} (h : mNet I N) (hs : sameI I I') : mNet I' N :=
  mNet_of h (hs 72 20 rfl) (hs 72 21 rfl) ⟨funext (fun k => hs 77 k rfl), funext (fun k => hs 79 k rfl), funext (fun k => hs 80 k rfl), funext (fun k => hs 81 k rfl), funext (fun k => hs 82 k rfl), funext (fun k => hs 87 k rfl)⟩
theorem cWt_same {J J' : HJ} {N : NT} (h : cWt J N) (hs : sameJ J J') : cWt J' N := by
  unfold cWt
  rw [hs 40 rfl]
  exact h
theorem rel_tr {k j : Nat} (hk : k < 4) : rel (2 + 2 * k) j = true := by
  unfold rel
  simp
  omega
theorem relJ_tr {k : Nat} (hk : k < 4) : relJ (3 + 2 * k) = true := by
  unfold relJ
  simp
  omega
theorem rel_rn {a j : Nat} (ha : a < 15) : rel (56 + a) j = true := by
  unfold rel
  simp
  omega
theorem tOk_same {I I' : HI} {J J' : HJ} {k : Nat} (hk : k < 4) (h : tOk I J k) (hs : sameI I I') (hj : sameJ J J') : tOk I' J' k := by
  unfold tOk
  rw [hs _ 1 (rel_tr hk), hs _ 2 (rel_tr hk), hs 73 k rfl, hs 74 k rfl, hj _ (relJ_tr hk), hj 75 rfl]
  exact h
theorem tpOk_same {I I' : HI} (h : tpOk I) (hs : sameI I I') : tpOk I' := by
  obtain ⟨m, h1, h2, h3, h4⟩ := h
  exact ⟨m, h1, by rw [hs 0 13 rfl]; exact h2, by rw [hs 72 8 rfl]; exact h3, fun k hk => by rw [hs 10 k rfl, hs 76 k rfl]; exact h4 k hk⟩
theorem rnOk_same {I I' : HI} {P : Nat} (h : rnOk I P) (hs : sameI I I') : rnOk I' P := by
  obtain ⟨r, h1, h2, h3, h4⟩ := h
  exact ⟨r, h1, by rw [hs 54 3 rfl]; exact h2, by rw [hs 72 38 rfl]; exact h3, fun a ha p hp => by rw [hs (56 + a) p (rel_rn (by omega)), hs 91 _ rfl]; exact h4 a ha p hp⟩
theorem Core_of {I I' : HI} {J J' : HJ} {N : NT} (h : Core I J N) (hs : sameI I I') (hj : sameJ J J') : Core I' J' N := by
  obtain ⟨h1, h2, h3, h4, h5, h6, h7, h8, h9⟩ := h
  refine ⟨h1, cNet_same h2 hs, mNet_same h3 hs, cWt_same h4 hj, fun k hk => tOk_same hk (h5 k hk) hs hj, tpOk_same h6 hs, ?_, rnOk_same h8 hs, ?_⟩
  · rw [hs 0 14 rfl, hs 0 15 rfl, hs 72 10 rfl, hs 72 11 rfl]; exact h7
  · unfold rdW
    rw [hj 37 rfl]
    exact h9
/-- the status: the class's, the model's -/
def cS (I : HI) (v : Int32) : HI := hI I 0 12 v
def mT (I : HI) : HI := hI I 72 1 0
def m0 (I : HI) : HI := hI (hI I 72 1 0) 72 0 0
def mE (I : HI) (v : Int32) : HI := hI (m0 I) 72 0 v
theorem same_cS (I : HI) (v : Int32) : sameI I (cS I v) := same_w I v rfl
theorem same_mT (I : HI) : sameI I (mT I) := same_w I 0 rfl
theorem same_m0 (I : HI) : sameI I (m0 I) := sameI_tr (same_w I 0 rfl) (same_w _ 0 rfl)
theorem same_mE (I : HI) (v : Int32) : sameI I (mE I v) := sameI_tr (same_m0 I) (same_w _ v rfl)
theorem fin_ok {I I' : HI} {J J' : HJ} {N : NT} (h : Core I J N) (hs : sameI I I') (h0 : I' 0 12 = 0) (hj : sameJ J J') (hf : J' 11 0 = J' 72 2 ∧ J' 11 1 = J' 72 3) : Inv (m0 I') J' := by
  refine ⟨N, Core_of h (sameI_tr hs (same_m0 I')) hj, ?_, hf⟩
  unfold m0
  rw [hI_ne (by decide), hI_ne (by decide), h0, hI_at, if_pos rfl]
theorem fin_er {I I' : HI} {J J' : HJ} {N : NT} (h : Core I J N) (hs : sameI I I') {v : Int32} (h0 : I' 0 12 = v) (hj : sameJ J J') (hf : J' 11 0 = J' 72 2 ∧ J' 11 1 = J' 72 3) : Inv (mE I' v) J' := by
  refine ⟨N, Core_of h (sameI_tr hs (same_mE I' v)) hj, ?_, hf⟩
  unfold mE m0
  rw [hI_ne (by decide), hI_ne (by decide), hI_ne (by decide), h0, hI_at, if_pos rfl]
theorem cS_at (I : HI) (v : Int32) : cS I v 0 12 = v := by unfold cS; rw [hI_at, if_pos rfl]
theorem q_fails0 {I : HI} {J : HJ} {Post : Bool → HI → Prop} (h : Post false (cS I 0)) : w_X10_fails 0 I J Post := fun I1 e1 => ⟨fun _ => by subst e1; exact h, fun c => absurd rfl c⟩
theorem q_failsE {I : HI} {J : HJ} {v : Int32} (hv : ¬ v = 0) {Post : Bool → HI → Prop} (h : Post true (cS I v)) : w_X10_fails v I J Post := fun I1 e1 => ⟨fun c => absurd c hv, fun _ => by subst e1; exact h⟩
theorem q_refused {I : HI} {J : HJ} {v : Int32} {Post : Int32 → HI → Prop} (h : Post (-1) (hI I 72 0 v)) : w_X11_refusedBy v I J Post := fun I1 e1 => by subst e1; exact h
theorem q_no {I : HI} {J : HJ} {v : Int32} {Post : Bool → HI → Prop} (h : Post false (hI I 72 0 v)) : w_X11_no v I J Post := fun I1 e1 => by subst e1; exact h
theorem frac_both {J : HJ} {a b : Nat} : (mFr (cFr J a b) a b) 11 0 = (mFr (cFr J a b) a b) 72 2 ∧ (mFr (cFr J a b) a b) 11 1 = (mFr (cFr J a b) a b) 72 3 := by
  unfold mFr cFr
  refine ⟨?_, ?_⟩
  · rw [hJ_ne (by decide : (11 : Nat) ≠ 72), hJ_ne (by decide : (11 : Nat) ≠ 72), hJ_at, if_neg (by decide), hJ_at, if_pos rfl, hJ_at, if_neg (by decide), hJ_at, if_pos rfl]
  · rw [hJ_ne (by decide : (11 : Nat) ≠ 72), hJ_ne (by decide : (11 : Nat) ≠ 72), hJ_at, if_pos rfl, hJ_at, if_pos rfl]
theorem same_cFr (J : HJ) (a b : Nat) : sameJ J (cFr J a b) := sameJ_tr (same_j J _ rfl) (same_j _ _ rfl)
theorem same_mFr (J : HJ) (a b : Nat) : sameJ J (mFr J a b) := sameJ_tr (same_j J _ rfl) (same_j _ _ rfl)
theorem tot_le {N : NT} (hN : okN N) (S C : Nat) : tot N S C ≤ 16 ^ 10 * 16 := by
  have h := FM_le (N := N) (O := 0) (Z := 0) (rf_le N S C)
  rw [FM_all] at h
  exact Nat.le_trans h (Nat.mul_le_mul_right _ (MZ_le hN 0 0))
theorem p16 {N : NT} (hN : okN N) : 16 ^ nT N < 2 ^ 45 ∧ 0 < 16 ^ nT N := ⟨Nat.lt_of_le_of_lt (Nat.pow_le_pow_right (n := 16) (by decide) hN.2.1) (by decide), Nat.pow_pos (by decide)⟩
theorem tot_lt {N : NT} (hN : okN N) (S C : Nat) : tot N S C < 2 ^ 45 := Nat.lt_of_le_of_lt (tot_le hN S C) (by decide)
