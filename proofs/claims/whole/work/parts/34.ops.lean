theorem ix_false {n : Nat} {x : Int32} (h : ¬ (0 ≤ x.toInt ∧ x.toInt < n)) : isIx n x = false := Bool.eq_false_iff.mpr (fun q => h (ix_iff.mp q))
theorem place_cases {I : HI} {J : HJ} (hT : ∀ k, k < 4 → tOk I J k) (x y : Int32) : isIx 4 x = false ∨ (∃ k, k < 4 ∧ x = nI k ∧ I 74 k = -1) ∨ (∃ k m, k < 4 ∧ m ≤ 40 ∧ x = nI k ∧ I 74 k = nI m ∧ isIx m y = false) ∨ (∃ k m q, k < 4 ∧ m ≤ 40 ∧ q < m ∧ x = nI k ∧ y = nI q ∧ I 74 k = nI m) := by
  cases b : isIx 4 x
  · exact Or.inl rfl
  · obtain ⟨k, hk, rfl⟩ := ofIx b
    rcases (hT k hk).2.2.2 with h | ⟨m, hm, h, -⟩
    · exact Or.inr (Or.inl ⟨k, hk, rfl, h⟩)
    · cases b2 : isIx m y
      · exact Or.inr (Or.inr (Or.inl ⟨k, m, hk, hm, rfl, h, b2⟩))
      · obtain ⟨q, hq, rfl⟩ := ofIx b2
        exact Or.inr (Or.inr (Or.inr ⟨k, m, q, hk, hm, hq, rfl, rfl, h⟩))
theorem q_missing {I : HI} {J : HJ} {c : Nat} {Post : Bool → Prop} (h : Post (decide (I c 2 = -1))) : w_X8_isMissing c I J Post := ⟨fun q => by rw [decide_eq_false q] at h; exact h, fun q => by rw [decide_eq_true q] at h; exact h⟩
theorem nI_nm1 {m : Nat} (h : m < 2 ^ 31) : ¬ nI m = -1 := fun q => by
  have := congrArg Int32.toInt q
  rw [nI_toInt h, show (-1 : Int32).toInt = -1 from by decide] at this
  omega
theorem pl1 {I : HI} {J : HJ} {x y : Int32} (b : isIx 4 x = false) {Post : Int32 → Prop} (h : Post 1) : w_X10_placeStatus x y I J Post := by
  unfold w_X10_placeStatus w_X10_trayStatus
  exact q_isTray ⟨fun q => (by rw [b] at q; cases q), fun _ => ⟨fun q => absurd q (by decide), fun _ => h⟩⟩
theorem pl3 {I : HI} {J : HJ} {k : Nat} {y : Int32} (hk : k < 4) (hm : I (2 + 2 * k) 2 = -1) {Post : Int32 → Prop} (h : Post 3) : w_X10_placeStatus (nI k) y I J Post := by
  unfold w_X10_placeStatus w_X10_trayStatus
  refine q_isTray ⟨fun _ => ⟨vp_in_nI hk (by decide), q_missing ?_⟩, fun q => (by rw [ix_nI hk (by decide)] at q; cases q)⟩
  rw [nI_clamp (by omega), decide_eq_true hm]
  exact ⟨fun q => (by cases q), fun _ => ⟨fun q => absurd q (by decide), fun _ => h⟩⟩
theorem pl4 {I : HI} {J : HJ} {k m : Nat} {y : Int32} (hk : k < 4) (hm40 : m ≤ 40) (hm : I (2 + 2 * k) 2 = nI m) {Post : Int32 → Prop} (h : Post (if isIx m y then 0 else 4)) : w_X10_placeStatus (nI k) y I J Post := by
  unfold w_X10_placeStatus w_X10_trayStatus
  rw [nI_clamp (by omega : k < 2 ^ 31), hm]
  refine q_isTray ⟨fun _ => ⟨vp_in_nI hk (by decide), q_missing ?_⟩, fun q => (by rw [ix_nI hk (by decide)] at q; cases q)⟩
  rw [hm, decide_eq_false (nI_nm1 (by omega))]
  refine ⟨fun _ => ⟨fun _ => ⟨fun c => ?_, fun c => ⟨vp_in_nI hk (by decide), fun c2 => ?_, fun c2 => ?_⟩⟩, fun q => absurd rfl q⟩, fun q => (by cases q)⟩
  · rw [i_lt0] at c
    rw [ix_false (n := m) (x := y) (by omega)] at h; exact h
  · rw [i_ge (by omega)] at c2
    rw [ix_false (n := m) (x := y) (by omega)] at h; exact h
  · rw [i_ge (by omega)] at c2
    rw [i_lt0] at c
    rw [ix_iff.mpr ⟨by omega, by omega⟩] at h; exact h
theorem mp1 {I : HI} {J : HJ} {x y : Int32} (b : isIx 4 x = false) {Post : Int32 → Prop} (h : Post 1) : w_X11_placed x y I J Post := by
  have fin : (1 : Int32) ≤ 0 → False := fun q => absurd q (by decide)
  refine ⟨fun _ => ⟨fun q => (fin q).elim, fun _ => h⟩, fun c => ⟨fun c2 => ?_, fun _ => ⟨fun q => (fin q).elim, fun _ => h⟩⟩⟩
  rw [i_lt0] at c
  rw [show (4 : Int32) = nI 4 from rfl, i_lt (by decide)] at c2
  rw [ix_iff.mpr ⟨by omega, c2⟩] at b; cases b
theorem mp3 {I : HI} {J : HJ} {k : Nat} {y : Int32} (hk : k < 4) (hm : I 74 k = -1) {Post : Int32 → Prop} (h : Post 3) : w_X11_placed (nI k) y I J Post := by
  refine ⟨fun c => absurd c (nI_pos (by omega)), fun _ => ⟨fun _ => ⟨vp_in_nI hk (by decide), ?_⟩, fun c => absurd (nI_lt (b := 4) hk (by decide)) c⟩⟩
  rw [nI_clamp (by omega), hm]
  exact ⟨fun q => absurd q (by decide), fun _ => ⟨fun q => absurd q (by decide), fun _ => h⟩⟩
theorem mp4 {I : HI} {J : HJ} {k m : Nat} {y : Int32} (hk : k < 4) (hm40 : m ≤ 40) (hm : I 74 k = nI m) {Post : Int32 → Prop} (h : Post (if isIx m y then 0 else 4)) : w_X11_placed (nI k) y I J Post := by
  refine ⟨fun c => absurd c (nI_pos (by omega)), fun _ => ⟨fun _ => ⟨vp_in_nI hk (by decide), ?_⟩, fun c => absurd (nI_lt (b := 4) hk (by decide)) c⟩⟩
  rw [nI_clamp (by omega), hm]
  refine ⟨fun _ => ⟨fun _ => ⟨fun c => ?_, fun c => ⟨vp_in_nI hk (by decide), fun c2 => ?_, fun c2 => ?_⟩⟩, fun q => absurd (by decide) q⟩, fun q => absurd (nI_pos' (by omega)) q⟩
  · rw [i_lt0] at c
    rw [ix_false (n := m) (x := y) (by omega)] at h; exact h
  · rw [i_lt (by omega)] at c2
    rw [i_lt0] at c
    rw [ix_iff.mpr ⟨by omega, by omega⟩] at h; exact h
  · rw [i_lt (by omega)] at c2
    rw [ix_false (n := m) (x := y) (by omega)] at h; exact h
/-- the model's status as placed() tells it -/
def mW (I : HI) (v : Int32) : HI := hI (mT I) 72 0 v
theorem same_mW (I : HI) (v : Int32) : sameI I (mW I v) := sameI_tr (same_mT I) (same_w _ v rfl)
theorem mW_at (I : HI) (v : Int32) : mW I v 72 0 = v := by unfold mW; rw [hI_at, if_pos rfl]
theorem fin_w {I I' : HI} {J J' : HJ} {N : NT} (h : Core I J N) (hs : sameI I I') {v : Int32} (h0 : I' 0 12 = v) (hj : sameJ J J') (hf : J' 11 0 = J' 72 2 ∧ J' 11 1 = J' 72 3) : Inv (mW I' v) J' := by
  refine ⟨N, Core_of h (sameI_tr hs (same_mW I' v)) hj, ?_, hf⟩
  rw [mW_at]
  unfold mW mT
  rw [hI_ne (by decide), hI_ne (by decide), h0]
theorem op_read {I : HI} {J : HJ} (h : Inv I J) (x y : Int32) : w_X10_read x y I J (fun r I1 => w_X11_read x y I1 J (fun r' I2 => r = r' ∧ Inv I2 J)) := by
  obtain ⟨N, hC, h1, h2⟩ := h
  have hT := hC.2.2.2.2.1
  have m74 : ∀ v : Int32, ∀ k, mT (cS I v) 74 k = I 74 k := fun v k => (sameI_tr (same_cS I v) (same_mT _)) 74 k rfl
  have er : ∀ v : Int32, ¬ v ≤ 0 → ∀ I3 : HI, I3 = hI (mT (cS I v)) 72 0 v → ((I3 72 0) ≤ 0 → (vp_in ((40 * x) + y) 160 ∧ ((-1 : Int64) = (J 75 (Int32.toNatClampNeg ((40 * x) + y))) ∧ Inv I3 J))) ∧ (¬ (I3 72 0) ≤ 0 → ((-1 : Int64) = -1 ∧ Inv I3 J)) := by
    intro v hv I3 e3
    subst e3
    rw [show hI (mT (cS I v)) 72 0 v = mW (cS I v) v from rfl, mW_at]
    exact ⟨fun q => absurd q hv, fun _ => ⟨rfl, fin_w hC (same_cS I v) (cS_at I v) (sameJ_rf J) h2⟩⟩
  rcases place_cases hT x y with b | ⟨k, hk, rfl, hm⟩ | ⟨k, m, hk, hm40, rfl, hm, b⟩ | ⟨k, m, q, hk, hm40, hq, rfl, rfl, hm⟩
  · exact pl1 b (q_failsE (by decide) ⟨fun q => (by cases q), fun _ I1 e1 => by subst e1; exact mp1 b (er 1 (by decide))⟩)
  · exact pl3 hk ((hT k hk).2.1.trans hm) (q_failsE (by decide) ⟨fun q => (by cases q), fun _ I1 e1 => by subst e1; exact mp3 hk ((m74 3 k).trans hm) (er 3 (by decide))⟩)
  · refine pl4 hk hm40 ((hT k hk).2.1.trans hm) ?_
    rw [b]
    refine q_failsE (v := 4) (by decide) ⟨fun q => (by cases q), fun _ I1 e1 => ?_⟩
    subst e1
    refine mp4 hk hm40 ((m74 4 k).trans hm) ?_
    rw [b]
    exact er 4 (by decide)
  · have bq := ix_nI hq (by omega : m < 2 ^ 31)
    refine pl4 hk hm40 ((hT k hk).2.1.trans hm) ?_
    rw [bq]
    refine q_fails0 ⟨fun _ => ⟨vp_in_nI hk (by decide), vp_in_nI (by omega) (by decide), fun I1 e1 => ?_⟩, fun q => (by cases q)⟩
    subst e1
    refine mp4 hk hm40 ((m74 0 k).trans hm) ?_
    rw [bq]
    intro I3 e3
    subst e3
    rw [show hI (hI (cS I 0) 72 1 0) 72 0 (if true = true then 0 else 4) = mW (cS I 0) 0 from rfl, mW_at, n40, nI_clamp (by omega), nI_clamp (by omega), nI_clamp (by omega)]
    refine ⟨fun _ => ⟨vp_in_nI (by omega) (by decide), ?_, fin_w hC (same_cS I 0) (cS_at I 0) (sameJ_rf J) h2⟩, fun q => absurd (by decide) q⟩
    rcases (hT k hk).2.2.2 with g | ⟨m', hm', g, g2⟩
    · rw [hm] at g; exact absurd g (nI_nm1 (by omega))
    · have e : m' = m := by rw [hm] at g; exact ((nI_eq (by omega) (by omega)).mp g).symm
      subst e
      rw [show 2 + 2 * k + 1 = 3 + 2 * k by omega]
      exact g2 q hq
/-- what a tray of a sort keeps of a number -/
def cutS (so : Nat) (v : Int64) : Int64 := if so = 0 then Int32.toInt64 (Int8.toInt32 (Int32.toInt8 (Int64.toInt32 v))) else if so = 1 then Int32.toInt64 (Int16.toInt32 (Int32.toInt16 (Int64.toInt32 v))) else if so = 2 then Int32.toInt64 (Int64.toInt32 v) else v
theorem q_put {I : HI} {J : HJ} {c so q : Nat} {v : Int64} (hs : I c 1 = nI so) (hso : so < 4) (hq : q < 40) {Post : HJ → Prop} (h : Post (hJ J (c + 1) q (cutS so v))) : w_X8_put c (nI q) v I J Post := by
  unfold w_X8_put
  rw [hs, nI_clamp (by omega)]
  have vq : vp_in (nI q) 40 := vp_in_nI hq (by decide)
  rcases (show so = 0 ∨ so = 1 ∨ so = 2 ∨ so = 3 by omega) with rfl | rfl | rfl | rfl
  · exact ⟨fun _ => ⟨vq, fun J1 e => by subst e; exact h⟩, fun c => absurd c (by decide), fun c => absurd c (by decide), fun c => absurd rfl c⟩
  · exact ⟨fun c => absurd c (by decide), fun _ => ⟨vq, fun J1 e => by subst e; exact h⟩, fun c => absurd c (by decide), fun _ c => absurd rfl c⟩
  · exact ⟨fun c => absurd c (by decide), fun c => absurd c (by decide), fun _ => ⟨vq, fun J1 e => by subst e; exact h⟩, fun _ _ c => absurd rfl c⟩
  · exact ⟨fun c => absurd c (by decide), fun c => absurd c (by decide), fun c => absurd c (by decide), fun _ _ _ => ⟨vq, fun J1 e => by subst e; exact h⟩⟩
theorem q_cut {so : Nat} {v : Int64} (hso : so < 4) {Post : Int64 → Prop} (h : Post (cutS so v)) : w_X11_cut (nI so) v Post := by
  rcases (show so = 0 ∨ so = 1 ∨ so = 2 ∨ so = 3 by omega) with rfl | rfl | rfl | rfl
  · exact ⟨fun c => absurd rfl c, fun _ => h⟩
  · exact ⟨fun _ => ⟨fun c => absurd rfl c, fun _ => h⟩, fun c => absurd c (by decide)⟩
  · exact ⟨fun _ => ⟨fun _ => ⟨fun c => absurd rfl c, fun _ => h⟩, fun c => absurd c (by decide)⟩, fun c => absurd c (by decide)⟩
  · exact ⟨fun _ => ⟨fun _ => ⟨fun _ => h, fun c => absurd c (by decide)⟩, fun c => absurd c (by decide)⟩, fun c => absurd c (by decide)⟩
theorem op_write {I : HI} {J : HJ} (h : Inv I J) (x y : Int32) (v : Int64) : w_X10_write x y v I J (fun r I1 J1 => w_X11_write x y v I1 J1 (fun r' I2 J2 => r = r' ∧ Inv I2 J2)) := by
  obtain ⟨N, hC, h1, h2⟩ := h
  have hT := hC.2.2.2.2.1
  have m74 : ∀ v : Int32, ∀ k, mT (cS I v) 74 k = I 74 k := fun v k => (sameI_tr (same_cS I v) (same_mT _)) 74 k rfl
  have er : ∀ st : Int32, ¬ st ≤ 0 → ∀ I3 : HI, I3 = hI (mT (cS I st)) 72 0 st → ((I3 72 0) ≤ 0 → (vp_in x 4 ∧ (w_X11_cut (I3 73 (Int32.toNatClampNeg x)) v (fun (r_4 : Int64) => (vp_in ((40 * x) + y) 160 ∧ (∀ J_5 : HJ, J_5 = hJ J 75 (Int32.toNatClampNeg ((40 * x) + y)) r_4 → (false = true ∧ Inv I3 J_5))))))) ∧ (¬ (I3 72 0) ≤ 0 → (false = false ∧ Inv I3 J)) := by
    intro st hv I3 e3
    subst e3
    rw [show hI (mT (cS I st)) 72 0 st = mW (cS I st) st from rfl, mW_at]
    exact ⟨fun q => absurd q hv, fun _ => ⟨rfl, fin_w hC (same_cS I st) (cS_at I st) (sameJ_rf J) h2⟩⟩
  rcases place_cases hT x y with b | ⟨k, hk, rfl, hm⟩ | ⟨k, m, hk, hm40, rfl, hm, b⟩ | ⟨k, m, q, hk, hm40, hq, rfl, rfl, hm⟩
  · exact pl1 b (q_failsE (by decide) ⟨fun q => (by cases q), fun _ I1 e1 => by subst e1; exact mp1 b (er 1 (by decide))⟩)
  · exact pl3 hk ((hT k hk).2.1.trans hm) (q_failsE (by decide) ⟨fun q => (by cases q), fun _ I1 e1 => by subst e1; exact mp3 hk ((m74 3 k).trans hm) (er 3 (by decide))⟩)
  · refine pl4 hk hm40 ((hT k hk).2.1.trans hm) ?_
    rw [b]
    refine q_failsE (v := 4) (by decide) ⟨fun q => (by cases q), fun _ I1 e1 => ?_⟩
    subst e1
    refine mp4 hk hm40 ((m74 4 k).trans hm) ?_
    rw [b]
    exact er 4 (by decide)
  · have bq := ix_nI hq (by omega : m < 2 ^ 31)
    obtain ⟨t1, t2, ⟨so, hso, t3⟩, t4⟩ := hT k hk
    refine pl4 hk hm40 ((hT k hk).2.1.trans hm) ?_
    rw [bq]
    refine q_fails0 ⟨fun _ => ⟨vp_in_nI hk (by decide), ?_⟩, fun q => (by cases q)⟩
    rw [nI_clamp (by omega)]
    refine q_put (so := so) (((same_cS I 0) _ 1 (rel_tr hk)).trans (t1.trans t3)) hso (by omega) (fun I1 e1 => ?_)
    subst e1
    refine mp4 hk hm40 ((m74 0 k).trans hm) ?_
    rw [bq]
    intro I3 e3
    subst e3
    have hs3 : sameI I (mW (cS I 0) 0) := sameI_tr (same_cS I 0) (same_mW _ 0)
    rw [show hI (hI (cS I 0) 72 1 0) 72 0 (if true = true then 0 else 4) = mW (cS I 0) 0 from rfl, mW_at, n40, nI_clamp (by omega : k < 2 ^ 31), hs3 73 k rfl, t3]
    refine ⟨fun _ => ⟨vp_in_nI hk (by decide), q_cut hso ⟨vp_in_nI (by omega) (by decide), fun J5 e5 => ⟨rfl, N, ?_, ?_, ?_⟩⟩⟩, fun q => absurd (by decide) q⟩
    · rw [nI_clamp (by omega)] at e5
      subst e5
      refine Core_tray hC (fun c j r _ _ _ => hs3 c j r) ⟨?_, ?_⟩ (fun k' hk' => ?_)
      · rw [hJ_ne (by decide), hJ_ne (by omega)]
      · rw [hJ_ne (by decide), hJ_ne (by omega)]
      · obtain ⟨u1, u2, u3, u4⟩ := hT k' hk'
        unfold tOk
        rw [hs3 _ 1 (rel_tr hk'), hs3 _ 2 (rel_tr hk'), hs3 73 k' rfl, hs3 74 k' rfl]
        refine ⟨u1, u2, u3, ?_⟩
        rcases u4 with u4 | ⟨m', hm', u5, u6⟩
        · exact Or.inl u4
        · refine Or.inr ⟨m', hm', u5, fun a ha => ?_⟩
          rw [hJ_ne (by omega : 3 + 2 * k' ≠ 75), hJ_at]
          by_cases ek : k' = k
          · subst ek
            rw [show 3 + 2 * k' = 2 + 2 * k' + 1 by omega, hJ_at]
            by_cases ea : a = q
            · rw [if_pos ea, if_pos (by omega)]
            · rw [if_neg ea, if_neg (by omega), hJ_ne (by omega), show 2 + 2 * k' + 1 = 3 + 2 * k' by omega]
              exact u6 a ha
          · rw [hJ_ne (by omega), if_neg (by omega), hJ_ne (by omega)]
            exact u6 a ha
    · rw [mW_at]
      unfold mW mT
      rw [hI_ne (by decide), hI_ne (by decide), cS_at]
    · subst e5
      rw [hJ_ne (by decide), hJ_ne (by omega), hJ_ne (by decide), hJ_ne (by omega)]
      exact h2
