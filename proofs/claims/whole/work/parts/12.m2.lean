theorem dX5_personNamed_0 : decode cX5_personNamed 0 = .ok (.iconst 0, 1) := by decide +kernel
theorem dX5_personNamed_1 : decode cX5_personNamed 1 = .ok (.istore_n 1, 1) := by decide +kernel
theorem dX5_personNamed_2 : decode cX5_personNamed 2 = .ok (.iload_n 1, 1) := by decide +kernel
theorem dX5_personNamed_3 : decode cX5_personNamed 3 = .ok (.aload_n 0, 1) := by decide +kernel
theorem dX5_personNamed_4 : decode cX5_personNamed 4 = .ok (.getfield 22, 3) := by decide +kernel
theorem dX5_personNamed_7 : decode cX5_personNamed 7 = .ok (.getfield 168, 3) := by decide +kernel
theorem dX5_personNamed_10 : decode cX5_personNamed 10 = .ok (.if_icmp .ge 25, 3) := by decide +kernel
theorem dX5_personNamed_13 : decode cX5_personNamed 13 = .ok (.aload_n 0, 1) := by decide +kernel
theorem dX5_personNamed_14 : decode cX5_personNamed 14 = .ok (.getfield 15, 3) := by decide +kernel
theorem dX5_personNamed_17 : decode cX5_personNamed 17 = .ok (.iload_n 1, 1) := by decide +kernel
theorem dX5_personNamed_18 : decode cX5_personNamed 18 = .ok (.laload, 1) := by decide +kernel
theorem dX5_personNamed_19 : decode cX5_personNamed 19 = .ok (.aload_n 0, 1) := by decide +kernel
theorem dX5_personNamed_20 : decode cX5_personNamed 20 = .ok (.getfield 102, 3) := by decide +kernel
theorem dX5_personNamed_23 : decode cX5_personNamed 23 = .ok (.lcmp, 1) := by decide +kernel
theorem dX5_personNamed_24 : decode cX5_personNamed 24 = .ok (.ifCond .ne 5, 3) := by decide +kernel
theorem dX5_personNamed_27 : decode cX5_personNamed 27 = .ok (.iload_n 1, 1) := by decide +kernel
theorem dX5_personNamed_28 : decode cX5_personNamed 28 = .ok (.ireturn, 1) := by decide +kernel
theorem dX5_personNamed_29 : decode cX5_personNamed 29 = .ok (.iinc 1 1, 3) := by decide +kernel
theorem dX5_personNamed_32 : decode cX5_personNamed 32 = .ok (.goto (-30), 3) := by decide +kernel
theorem dX5_personNamed_35 : decode cX5_personNamed 35 = .ok (.iconst (-1), 1) := by decide +kernel
theorem dX5_personNamed_36 : decode cX5_personNamed 36 = .ok (.ireturn, 1) := by decide +kernel
def wb_X5_personNamed_2 (I : HI) (J : HJ) (Post : Int32 → Prop) (E2 : Prop) (K2 : Int32 → Prop) (x1 : Int32) : Prop :=
  ((I 24 11) ≤ x1 → E2) ∧ (¬ (I 24 11) ≤ x1 → (vp_in x1 12 ∧ ((¬ (J 38 (Int32.toNatClampNeg x1)) = (J 36 9) → (K2 (x1 + 1))) ∧ ((J 38 (Int32.toNatClampNeg x1)) = (J 36 9) → (Post x1)))))
set_option maxHeartbeats 4000000 in
set_option maxRecDepth 20000 in
theorem ws_X5_personNamed_2 (g : kf_G) (hg : kf_g g) {x : kf_X} (hx : kf_ok g x RX5 cX5_personNamed 2 0 0) (I : HI) (J : HJ) (Post : Int32 → Prop) (hret : ∀ (pc : Nat) (lv : List (Nat × Value)) (v : Int32), decode cX5_personNamed pc = .ok (.ireturn, 1) → Post v → kf_M g x 2 pc lv [.int v] I J) (E2 : Prop) (hE2 : E2 → kf_M g x 2 35 [] [] I J) (K2 : Int32 → Prop) (hK2 : ∀ (y1 : Int32), K2 y1 → kf_M g x 2 2 [(0, .ref (g.2.2.2 36)), (1, .int y1)] [] I J) (x1 : Int32) (h : wb_X5_personNamed_2 I J Post E2 K2 x1) : kf_M g x 2 2 [(0, .ref (g.2.2.2 36)), (1, .int x1)] [] I J := by
  unfold wb_X5_personNamed_2 at h
  refine kf_iload_n hx dX5_personNamed_2 rfl 1 rfl ?_
  refine kf_aload_n hx dX5_personNamed_3 rfl 0 rfl ?_
  refine kf_getR (n := 24) hx sl_36_3 fl_RX5_22 dX5_personNamed_4 ?_
  refine kf_getI hx sl_24_11 fl_RX5_168 dX5_personNamed_7 ?_
  refine kf_icmp_ge hx 35 dX5_personNamed_10 (by decide) (fun c => ?_) (fun c => ?_)
  · replace h := h.1 c
    refine kf_sub [] rfl ?_
    exact hE2  h
  · replace h := h.2 c
    refine kf_aload_n hx dX5_personNamed_13 rfl 0 rfl ?_
    refine kf_getR (n := 38) hx sl_36_1 fl_RX5_15 dX5_personNamed_14 ?_
    refine kf_iload_n hx dX5_personNamed_17 rfl 1 rfl ?_
    refine kf_lald hx ar_38 h.1 dX5_personNamed_18 ?_
    replace h := h.2
    refine kf_aload_n hx dX5_personNamed_19 rfl 0 rfl ?_
    refine kf_getJ hx sl_36_9 fl_RX5_102 dX5_personNamed_20 ?_
    refine kf_l_ne hx 29 dX5_personNamed_23 dX5_personNamed_24 (by decide) (fun c => ?_) (fun c => ?_)
    · replace h := h.1 c
      refine kf_iinc (w := (x1 + 1)) (lv' := [(1, .int (x1 + 1)), (0, .ref (g.2.2.2 36))]) hx dX5_personNamed_29 1 rfl rfl (by decide) rfl ?_
      refine kf_goto hx 2 dX5_personNamed_32 (by decide) ?_
      refine kf_sub [1, 0] rfl ?_
      exact hK2 _ h
    · replace h := h.2 c
      refine kf_iload_n hx dX5_personNamed_27 rfl 1 rfl ?_
      exact hret _ _ x1  dX5_personNamed_28 h
theorem wl_X5_personNamed_2 (g : kf_G) (hg : kf_g g) {x : kf_X} (hx : kf_ok g x RX5 cX5_personNamed 2 0 0) (I : HI) (J : HJ) (Post : Int32 → Prop) (hret : ∀ (pc : Nat) (lv : List (Nat × Value)) (v : Int32), decode cX5_personNamed pc = .ok (.ireturn, 1) → Post v → kf_M g x 2 pc lv [.int v] I J) (E2 : Prop) (hE2 : E2 → kf_M g x 2 35 [] [] I J) : ∀ (n : Nat) (x1 : Int32), lp (wb_X5_personNamed_2 I J Post E2) n x1 → kf_M g x 2 2 [(0, .ref (g.2.2.2 36)), (1, .int x1)] [] I J := by
  intro n
  induction n with
  | zero => intro x1 h; exact h.elim
  | succ n ih => intro x1 h; exact ws_X5_personNamed_2 g hg hx I J Post hret E2 hE2 (lp (wb_X5_personNamed_2 I J Post E2) n) ih x1 h
def w_X5_personNamed  (I : HI) (J : HJ) (Post : Int32 → Prop) : Prop :=
  ∃ n, lp (wb_X5_personNamed_2 I J Post (Post (-1))) n 0
set_option maxHeartbeats 4000000 in
set_option maxRecDepth 20000 in
theorem we_X5_personNamed (g : kf_G) (hg : kf_g g) {x : kf_X} (hx : kf_ok g x RX5 cX5_personNamed 2 0 0)  (I : HI) (J : HJ) (Post : Int32 → Prop) (hret : ∀ (pc : Nat) (lv : List (Nat × Value)) (v : Int32), decode cX5_personNamed pc = .ok (.ireturn, 1) → Post v → kf_M g x 2 pc lv [.int v] I J) (h : w_X5_personNamed  I J Post) : kf_M g x 2 0 [(0, .ref (g.2.2.2 36))] [] I J := by
  unfold w_X5_personNamed at h
  refine kf_iconst (v := 0) hx dX5_personNamed_0 (by decide) ?_
  refine kf_istore_n (lv' := [(1, .int 0), (0, .ref (g.2.2.2 36))]) hx dX5_personNamed_1 rfl (by decide) rfl ?_
  obtain ⟨n, h⟩ := h
  refine kf_sub [1, 0] rfl ?_
  refine wl_X5_personNamed_2 g hg hx I J  _ hret _ (fun h => ?_) n _ h
  refine kf_iconst (v := (-1)) hx dX5_personNamed_35 (by decide) ?_
  exact hret _ _ (-1)  dX5_personNamed_36 h
set_option maxHeartbeats 4000000 in
set_option maxRecDepth 20000 in
theorem m_X5_personNamed (g : kf_G) (hg : kf_g g)  (I : HI) (J : HJ) (Post : Int32 → Prop) (h : w_X5_personNamed  I J Post) : kf_Mi g yX5_personNamed (kf_W yX5_personNamed cX5_personNamed 2 (Option.some Jvm.ClassFile.FieldType.int)) 0 0 [.ref (g.2.2.2 36)] I J (fun v I' J' => Post v ∧ I' = I ∧ J' = J) :=
  kf_enti hg (by decide) (Nat.le_of_ble_eq_true rfl) rfl (fun x hx hr => we_X5_personNamed g hg hx  I J Post (fun pc lv v hd hP => hr pc lv v I J hd ⟨hP, rfl, rfl⟩) h)
theorem dX10_isBetween_0 : decode cX10_isBetween 0 = .ok (.iload_n 0, 1) := by decide +kernel
theorem dX10_isBetween_1 : decode cX10_isBetween 1 = .ok (.iload_n 1, 1) := by decide +kernel
theorem dX10_isBetween_2 : decode cX10_isBetween 2 = .ok (.if_icmp .lt 12, 3) := by decide +kernel
theorem dX10_isBetween_5 : decode cX10_isBetween 5 = .ok (.iload_n 0, 1) := by decide +kernel
theorem dX10_isBetween_6 : decode cX10_isBetween 6 = .ok (.iload_n 2, 1) := by decide +kernel
theorem dX10_isBetween_7 : decode cX10_isBetween 7 = .ok (.if_icmp .gt 7, 3) := by decide +kernel
theorem dX10_isBetween_10 : decode cX10_isBetween 10 = .ok (.iconst 1, 1) := by decide +kernel
theorem dX10_isBetween_11 : decode cX10_isBetween 11 = .ok (.goto 4, 3) := by decide +kernel
theorem dX10_isBetween_14 : decode cX10_isBetween 14 = .ok (.iconst 0, 1) := by decide +kernel
theorem dX10_isBetween_15 : decode cX10_isBetween 15 = .ok (.ireturn, 1) := by decide +kernel
def w_X10_isBetween (x0 : Int32) (x1 : Int32) (x2 : Int32) (Post : Bool → Prop) : Prop :=
  (x0 < x1 → (Post false)) ∧ (¬ x0 < x1 → ((x2 < x0 → (Post false)) ∧ (¬ x2 < x0 → (Post true))))
set_option maxHeartbeats 4000000 in
set_option maxRecDepth 20000 in
theorem we_X10_isBetween (g : kf_G) (hg : kf_g g) {x : kf_X} (hx : kf_ok g x RX10 cX10_isBetween 3 0 0) (x0 : Int32) (x1 : Int32) (x2 : Int32) (I : HI) (J : HJ) (Post : Bool → Prop) (hret : ∀ (pc : Nat) (lv : List (Nat × Value)) (v : Bool), decode cX10_isBetween pc = .ok (.ireturn, 1) → Post v → kf_M g x 3 pc lv [.int (kb v)] I J) (h : w_X10_isBetween x0 x1 x2 Post) : kf_M g x 3 0 [(0, .int x0), (1, .int x1), (2, .int x2)] [] I J := by
  unfold w_X10_isBetween at h
  refine kf_iload_n hx dX10_isBetween_0 rfl 0 rfl ?_
  refine kf_iload_n hx dX10_isBetween_1 rfl 1 rfl ?_
  refine kf_icmp_lt hx 14 dX10_isBetween_2 (by decide) (fun c => ?_) (fun c => ?_)
  · replace h := h.1 c
    refine kf_iconst (v := 0) hx dX10_isBetween_14 (by decide) ?_
    exact hret _ _ false  dX10_isBetween_15 h
  · replace h := h.2 c
    refine kf_iload_n hx dX10_isBetween_5 rfl 0 rfl ?_
    refine kf_iload_n hx dX10_isBetween_6 rfl 2 rfl ?_
    refine kf_icmp_gt hx 14 dX10_isBetween_7 (by decide) (fun c => ?_) (fun c => ?_)
    · replace h := h.1 c
      refine kf_iconst (v := 0) hx dX10_isBetween_14 (by decide) ?_
      exact hret _ _ false  dX10_isBetween_15 h
    · replace h := h.2 c
      refine kf_iconst (v := 1) hx dX10_isBetween_10 (by decide) ?_
      refine kf_goto hx 15 dX10_isBetween_11 (by decide) ?_
      exact hret _ _ true  dX10_isBetween_15 h
set_option maxHeartbeats 4000000 in
set_option maxRecDepth 20000 in
theorem m_X10_isBetween (g : kf_G) (hg : kf_g g) (x0 : Int32) (x1 : Int32) (x2 : Int32) (I : HI) (J : HJ) (Post : Bool → Prop) (h : w_X10_isBetween x0 x1 x2 Post) : kf_Mb g yX10_isBetween (kf_W yX10_isBetween cX10_isBetween 3 (Option.some Jvm.ClassFile.FieldType.boolean)) 0 0 [.int x0, .int x1, .int x2] I J (fun v I' J' => Post v ∧ I' = I ∧ J' = J) :=
  kf_entb hg (by decide) (Nat.le_of_ble_eq_true rfl) rfl (fun x hx hr => we_X10_isBetween g hg hx x0 x1 x2 I J Post (fun pc lv v hd hP => hr pc lv v I J hd ⟨hP, rfl, rfl⟩) h)
theorem dX5_passOnce_0 : decode cX5_passOnce 0 = .ok (.iload_n 1, 1) := by decide +kernel
theorem dX5_passOnce_1 : decode cX5_passOnce 1 = .ok (.aload_n 0, 1) := by decide +kernel
theorem dX5_passOnce_2 : decode cX5_passOnce 2 = .ok (.getfield 71, 3) := by decide +kernel
theorem dX5_passOnce_5 : decode cX5_passOnce 5 = .ok (.invokestatic 159, 3) := by decide +kernel
theorem dX5_passOnce_8 : decode cX5_passOnce 8 = .ok (.ifCond .eq 8, 3) := by decide +kernel
theorem dX5_passOnce_11 : decode cX5_passOnce 11 = .ok (.aload_n 0, 1) := by decide +kernel
theorem dX5_passOnce_12 : decode cX5_passOnce 12 = .ok (.iconst 5, 1) := by decide +kernel
theorem dX5_passOnce_13 : decode cX5_passOnce 13 = .ok (.invokevirtual 83, 3) := by decide +kernel
theorem dX5_passOnce_16 : decode cX5_passOnce 16 = .ok (.iload_n 1, 1) := by decide +kernel
theorem dX5_passOnce_17 : decode cX5_passOnce 17 = .ok (.iconst 1, 1) := by decide +kernel
theorem dX5_passOnce_18 : decode cX5_passOnce 18 = .ok (.aload_n 0, 1) := by decide +kernel
theorem dX5_passOnce_19 : decode cX5_passOnce 19 = .ok (.getfield 71, 3) := by decide +kernel
theorem dX5_passOnce_22 : decode cX5_passOnce 22 = .ok (.ishl, 1) := by decide +kernel
theorem dX5_passOnce_23 : decode cX5_passOnce 23 = .ok (.ior, 1) := by decide +kernel
theorem dX5_passOnce_24 : decode cX5_passOnce 24 = .ok (.ireturn, 1) := by decide +kernel
def w_X5_passOnce (x1 : Int32) (I : HI) (J : HJ) (Post : Int32 → HI → Prop) : Prop :=
  w_X10_has x1 (I 36 7) (fun (r_1 : Bool) => ((r_1 = false → (Post (x1 ||| (1 <<< ((I 36 7) &&& 31))) I)) ∧ (r_1 = true → (w_X5_fail 5 I J (fun (I_2 : HI) => (Post (x1 ||| (1 <<< ((I_2 36 7) &&& 31))) I_2))))))
set_option maxHeartbeats 4000000 in
set_option maxRecDepth 20000 in
theorem we_X5_passOnce (g : kf_G) (hg : kf_g g) {x : kf_X} (hx : kf_ok g x RX5 cX5_passOnce 2 1 21) (x1 : Int32) (I : HI) (J : HJ) (Post : Int32 → HI → Prop) (hret : ∀ (pc : Nat) (lv : List (Nat × Value)) (v : Int32) (Iy : HI), decode cX5_passOnce pc = .ok (.ireturn, 1) → Post v Iy → kf_M g x 2 pc lv [.int v] Iy J) (h : w_X5_passOnce x1 I J Post) : kf_M g x 2 0 [(0, .ref (g.2.2.2 36)), (1, .int x1)] [] I J := by
  unfold w_X5_passOnce at h
  refine kf_iload_n hx dX5_passOnce_0 rfl 1 rfl ?_
  refine kf_aload_n hx dX5_passOnce_1 rfl 0 rfl ?_
  refine kf_getI hx sl_36_7 fl_RX5_71 dX5_passOnce_2 ?_
  refine kf_callSbP (st := []) hx (m_X10_has g hg x1 (I 36 7) I J _ h) lk_RX5_159 km_X10_has rfl (by decide) rfl (Nat.le_of_ble_eq_true rfl) dX5_passOnce_5 (fun r_1 h => ?_)
  refine kf_ifB_eq hx 16 dX5_passOnce_8 (by decide) (fun c => ?_) (fun c => ?_)
  · replace h := h.1 c
    refine kf_iload_n hx dX5_passOnce_16 rfl 1 rfl ?_
    refine kf_iconst (v := 1) hx dX5_passOnce_17 (by decide) ?_
    refine kf_aload_n hx dX5_passOnce_18 rfl 0 rfl ?_
    refine kf_getI hx sl_36_7 fl_RX5_71 dX5_passOnce_19 ?_
    refine kf_ishl hx dX5_passOnce_22 ?_
    refine kf_ior hx dX5_passOnce_23 ?_
    exact hret _ _ (x1 ||| (1 <<< ((I 36 7) &&& 31))) _ dX5_passOnce_24 h
  · replace h := h.2 c
    refine kf_aload_n hx dX5_passOnce_11 rfl 0 rfl ?_
    refine kf_iconst (v := 5) hx dX5_passOnce_12 (by decide) ?_
    refine kf_callVvI (st := []) hx (m_X5_fail g hg 5 I J _ h) lk_RX5_83 km_X5_fail ob_36 rfl (by decide) rfl (Nat.le_of_ble_eq_true rfl) dX5_passOnce_13 (fun I_2 h => ?_)
    refine kf_iload_n hx dX5_passOnce_16 rfl 1 rfl ?_
    refine kf_iconst (v := 1) hx dX5_passOnce_17 (by decide) ?_
    refine kf_aload_n hx dX5_passOnce_18 rfl 0 rfl ?_
    refine kf_getI hx sl_36_7 fl_RX5_71 dX5_passOnce_19 ?_
    refine kf_ishl hx dX5_passOnce_22 ?_
    refine kf_ior hx dX5_passOnce_23 ?_
    exact hret _ _ (x1 ||| (1 <<< ((I_2 36 7) &&& 31))) _ dX5_passOnce_24 h
set_option maxHeartbeats 4000000 in
set_option maxRecDepth 20000 in
theorem m_X5_passOnce (g : kf_G) (hg : kf_g g) (x1 : Int32) (I : HI) (J : HJ) (Post : Int32 → HI → Prop) (h : w_X5_passOnce x1 I J Post) : kf_Mi g yX5_passOnce (kf_W yX5_passOnce cX5_passOnce 2 (Option.some Jvm.ClassFile.FieldType.int)) 1 21 [.ref (g.2.2.2 36), .int x1] I J (fun v I' J' => Post v I' ∧ J' = J) :=
  kf_enti hg (by decide) (Nat.le_of_ble_eq_true rfl) rfl (fun x hx hr => we_X5_passOnce g hg hx x1 I J Post (fun pc lv v I' hd hP => hr pc lv v I' J hd ⟨hP, rfl⟩) h)
theorem dX5_soundNumber_0 : decode cX5_soundNumber 0 = .ok (.aload_n 0, 1) := by decide +kernel
theorem dX5_soundNumber_1 : decode cX5_soundNumber 1 = .ok (.getfield 71, 3) := by decide +kernel
theorem dX5_soundNumber_4 : decode cX5_soundNumber 4 = .ok (.iconst 2, 1) := by decide +kernel
theorem dX5_soundNumber_5 : decode cX5_soundNumber 5 = .ok (.if_icmp .eq 11, 3) := by decide +kernel
theorem dX5_soundNumber_8 : decode cX5_soundNumber 8 = .ok (.aload_n 0, 1) := by decide +kernel
theorem dX5_soundNumber_9 : decode cX5_soundNumber 9 = .ok (.iconst 2, 1) := by decide +kernel
theorem dX5_soundNumber_10 : decode cX5_soundNumber 10 = .ok (.invokevirtual 83, 3) := by decide +kernel
theorem dX5_soundNumber_13 : decode cX5_soundNumber 13 = .ok (.goto 20, 3) := by decide +kernel
theorem dX5_soundNumber_16 : decode cX5_soundNumber 16 = .ok (.aload_n 0, 1) := by decide +kernel
theorem dX5_soundNumber_17 : decode cX5_soundNumber 17 = .ok (.getfield 165, 3) := by decide +kernel
theorem dX5_soundNumber_20 : decode cX5_soundNumber 20 = .ok (.iload_n 1, 1) := by decide +kernel
theorem dX5_soundNumber_21 : decode cX5_soundNumber 21 = .ok (.iload_n 2, 1) := by decide +kernel
theorem dX5_soundNumber_22 : decode cX5_soundNumber 22 = .ok (.invokestatic 106, 3) := by decide +kernel
theorem dX5_soundNumber_25 : decode cX5_soundNumber 25 = .ok (.ifCond .ne 8, 3) := by decide +kernel
theorem dX5_soundNumber_28 : decode cX5_soundNumber 28 = .ok (.aload_n 0, 1) := by decide +kernel
theorem dX5_soundNumber_29 : decode cX5_soundNumber 29 = .ok (.iconst 4, 1) := by decide +kernel
theorem dX5_soundNumber_30 : decode cX5_soundNumber 30 = .ok (.invokevirtual 83, 3) := by decide +kernel
theorem dX5_soundNumber_33 : decode cX5_soundNumber 33 = .ok (.aload_n 0, 1) := by decide +kernel
theorem dX5_soundNumber_34 : decode cX5_soundNumber 34 = .ok (.invokevirtual 67, 3) := by decide +kernel
theorem dX5_soundNumber_37 : decode cX5_soundNumber 37 = .ok (.ifCond .eq 10, 3) := by decide +kernel
theorem dX5_soundNumber_40 : decode cX5_soundNumber 40 = .ok (.aload_n 0, 1) := by decide +kernel
theorem dX5_soundNumber_41 : decode cX5_soundNumber 41 = .ok (.getfield 165, 3) := by decide +kernel
theorem dX5_soundNumber_44 : decode cX5_soundNumber 44 = .ok (.goto 4, 3) := by decide +kernel
theorem dX5_soundNumber_47 : decode cX5_soundNumber 47 = .ok (.iload_n 1, 1) := by decide +kernel
theorem dX5_soundNumber_48 : decode cX5_soundNumber 48 = .ok (.ireturn, 1) := by decide +kernel
def wj_X5_soundNumber_33 (I : HI) (J : HJ) (x1 : Int32) (Post : Int32 → HI → Prop) : Prop :=
  w_X5_goesOn  I J (fun (r_2 : Bool) => ((r_2 = false → (Post x1 I)) ∧ (r_2 = true → (Post (I 36 8) I))))
set_option maxHeartbeats 4000000 in
set_option maxRecDepth 20000 in
theorem wk_X5_soundNumber_33 (g : kf_G) (hg : kf_g g) {x : kf_X} (hx : kf_ok g x RX5 cX5_soundNumber 3 1 22) (I : HI) (J : HJ) (x1 : Int32) (Post : Int32 → HI → Prop) (hret : ∀ (pc : Nat) (lv : List (Nat × Value)) (v : Int32) (Iy : HI), decode cX5_soundNumber pc = .ok (.ireturn, 1) → Post v Iy → kf_M g x 3 pc lv [.int v] Iy J) (h : wj_X5_soundNumber_33 I J x1 Post) : kf_M g x 3 33 [(0, .ref (g.2.2.2 36)), (1, .int x1)] [] I J := by
  unfold wj_X5_soundNumber_33 at h
  refine kf_aload_n hx dX5_soundNumber_33 rfl 0 rfl ?_
  refine kf_callVbP (st := []) hx (m_X5_goesOn g hg  I J _ h) lk_RX5_67 km_X5_goesOn ob_36 rfl (by decide) rfl (Nat.le_of_ble_eq_true rfl) dX5_soundNumber_34 (fun r_2 h => ?_)
  refine kf_ifB_eq hx 47 dX5_soundNumber_37 (by decide) (fun c => ?_) (fun c => ?_)
  · replace h := h.1 c
    refine kf_iload_n hx dX5_soundNumber_47 rfl 1 rfl ?_
    exact hret _ _ x1 _ dX5_soundNumber_48 h
  · replace h := h.2 c
    refine kf_aload_n hx dX5_soundNumber_40 rfl 0 rfl ?_
    refine kf_getI hx sl_36_8 fl_RX5_165 dX5_soundNumber_41 ?_
    refine kf_goto hx 48 dX5_soundNumber_44 (by decide) ?_
    exact hret _ _ (I 36 8) _ dX5_soundNumber_48 h
def w_X5_soundNumber (x1 : Int32) (x2 : Int32) (I : HI) (J : HJ) (Post : Int32 → HI → Prop) : Prop :=
  ((I 36 7) = 2 → (w_X10_isBetween (I 36 8) x1 x2 (fun (r_1 : Bool) => ((r_1 = true → (wj_X5_soundNumber_33 I J x1 Post)) ∧ (r_1 = false → (w_X5_fail 4 I J (fun (I_3 : HI) => (wj_X5_soundNumber_33 I_3 J x1 Post)))))))) ∧ (¬ (I 36 7) = 2 → (w_X5_fail 2 I J (fun (I_4 : HI) => (wj_X5_soundNumber_33 I_4 J x1 Post))))
set_option maxHeartbeats 4000000 in
set_option maxRecDepth 20000 in
theorem we_X5_soundNumber (g : kf_G) (hg : kf_g g) {x : kf_X} (hx : kf_ok g x RX5 cX5_soundNumber 3 1 22) (x1 : Int32) (x2 : Int32) (I : HI) (J : HJ) (Post : Int32 → HI → Prop) (hret : ∀ (pc : Nat) (lv : List (Nat × Value)) (v : Int32) (Iy : HI), decode cX5_soundNumber pc = .ok (.ireturn, 1) → Post v Iy → kf_M g x 3 pc lv [.int v] Iy J) (h : w_X5_soundNumber x1 x2 I J Post) : kf_M g x 3 0 [(0, .ref (g.2.2.2 36)), (1, .int x1), (2, .int x2)] [] I J := by
  unfold w_X5_soundNumber at h
  refine kf_aload_n hx dX5_soundNumber_0 rfl 0 rfl ?_
  refine kf_getI hx sl_36_7 fl_RX5_71 dX5_soundNumber_1 ?_
  refine kf_iconst (v := 2) hx dX5_soundNumber_4 (by decide) ?_
  refine kf_icmp_eq hx 16 dX5_soundNumber_5 (by decide) (fun c => ?_) (fun c => ?_)
  · replace h := h.1 c
    refine kf_aload_n hx dX5_soundNumber_16 rfl 0 rfl ?_
    refine kf_getI hx sl_36_8 fl_RX5_165 dX5_soundNumber_17 ?_
    refine kf_iload_n hx dX5_soundNumber_20 rfl 1 rfl ?_
    refine kf_iload_n hx dX5_soundNumber_21 rfl 2 rfl ?_
    refine kf_callSbP (st := []) hx (m_X10_isBetween g hg (I 36 8) x1 x2 I J _ h) lk_RX5_106 km_X10_isBetween rfl (by decide) rfl (Nat.le_of_ble_eq_true rfl) dX5_soundNumber_22 (fun r_1 h => ?_)
    refine kf_ifB_ne hx 33 dX5_soundNumber_25 (by decide) (fun c => ?_) (fun c => ?_)
    · replace h := h.1 c
      refine kf_sub [0, 1] rfl ?_
      exact wk_X5_soundNumber_33 g hg hx I J x1 _ hret h
    · replace h := h.2 c
      refine kf_aload_n hx dX5_soundNumber_28 rfl 0 rfl ?_
      refine kf_iconst (v := 4) hx dX5_soundNumber_29 (by decide) ?_
      refine kf_callVvI (st := []) hx (m_X5_fail g hg 4 I J _ h) lk_RX5_83 km_X5_fail ob_36 rfl (by decide) rfl (Nat.le_of_ble_eq_true rfl) dX5_soundNumber_30 (fun I_3 h => ?_)
      refine kf_sub [0, 1] rfl ?_
      exact wk_X5_soundNumber_33 g hg hx I_3 J x1 _ hret h
  · replace h := h.2 c
    refine kf_aload_n hx dX5_soundNumber_8 rfl 0 rfl ?_
    refine kf_iconst (v := 2) hx dX5_soundNumber_9 (by decide) ?_
    refine kf_callVvI (st := []) hx (m_X5_fail g hg 2 I J _ h) lk_RX5_83 km_X5_fail ob_36 rfl (by decide) rfl (Nat.le_of_ble_eq_true rfl) dX5_soundNumber_10 (fun I_4 h => ?_)
    refine kf_goto hx 33 dX5_soundNumber_13 (by decide) ?_
    refine kf_sub [0, 1] rfl ?_
    exact wk_X5_soundNumber_33 g hg hx I_4 J x1 _ hret h
set_option maxHeartbeats 4000000 in
set_option maxRecDepth 20000 in
theorem m_X5_soundNumber (g : kf_G) (hg : kf_g g) (x1 : Int32) (x2 : Int32) (I : HI) (J : HJ) (Post : Int32 → HI → Prop) (h : w_X5_soundNumber x1 x2 I J Post) : kf_Mi g yX5_soundNumber (kf_W yX5_soundNumber cX5_soundNumber 3 (Option.some Jvm.ClassFile.FieldType.int)) 1 22 [.ref (g.2.2.2 36), .int x1, .int x2] I J (fun v I' J' => Post v I' ∧ J' = J) :=
  kf_enti hg (by decide) (Nat.le_of_ble_eq_true rfl) rfl (fun x hx hr => we_X5_soundNumber g hg hx x1 x2 I J Post (fun pc lv v I' hd hP => hr pc lv v I' J hd ⟨hP, rfl⟩) h)
theorem dX5_passNumber_0 : decode cX5_passNumber 0 = .ok (.aload_n 0, 1) := by decide +kernel
theorem dX5_passNumber_1 : decode cX5_passNumber 1 = .ok (.iload_n 1, 1) := by decide +kernel
theorem dX5_passNumber_2 : decode cX5_passNumber 2 = .ok (.iload_n 2, 1) := by decide +kernel
theorem dX5_passNumber_3 : decode cX5_passNumber 3 = .ok (.invokevirtual 156, 3) := by decide +kernel
theorem dX5_passNumber_6 : decode cX5_passNumber 6 = .ok (.istore_n 3, 1) := by decide +kernel
theorem dX5_passNumber_7 : decode cX5_passNumber 7 = .ok (.aload_n 0, 1) := by decide +kernel
theorem dX5_passNumber_8 : decode cX5_passNumber 8 = .ok (.invokevirtual 64, 3) := by decide +kernel
theorem dX5_passNumber_11 : decode cX5_passNumber 11 = .ok (.iload_n 3, 1) := by decide +kernel
theorem dX5_passNumber_12 : decode cX5_passNumber 12 = .ok (.ireturn, 1) := by decide +kernel
def w_X5_passNumber (x1 : Int32) (x2 : Int32) (I : HI) (J : HJ) (Post : Int32 → HI → HJ → Prop) : Prop :=
  w_X5_soundNumber x1 x2 I J (fun (r_1 : Int32) (I_2 : HI) => (w_X5_advance  I_2 J (fun (I_3 : HI) (J_4 : HJ) => (Post r_1 I_3 J_4))))
set_option maxHeartbeats 4000000 in
set_option maxRecDepth 20000 in
theorem we_X5_passNumber (g : kf_G) (hg : kf_g g) {x : kf_X} (hx : kf_ok g x RX5 cX5_passNumber 4 2 44) (x1 : Int32) (x2 : Int32) (I : HI) (J : HJ) (Post : Int32 → HI → HJ → Prop) (hret : ∀ (pc : Nat) (lv : List (Nat × Value)) (v : Int32) (Iy : HI) (Jy : HJ), decode cX5_passNumber pc = .ok (.ireturn, 1) → Post v Iy Jy → kf_M g x 4 pc lv [.int v] Iy Jy) (h : w_X5_passNumber x1 x2 I J Post) : kf_M g x 4 0 [(0, .ref (g.2.2.2 36)), (1, .int x1), (2, .int x2)] [] I J := by
  unfold w_X5_passNumber at h
  refine kf_aload_n hx dX5_passNumber_0 rfl 0 rfl ?_
  refine kf_iload_n hx dX5_passNumber_1 rfl 1 rfl ?_
  refine kf_iload_n hx dX5_passNumber_2 rfl 2 rfl ?_
  refine kf_callViI (st := []) hx (m_X5_soundNumber g hg x1 x2 I J _ h) lk_RX5_156 km_X5_soundNumber ob_36 rfl (by decide) rfl (Nat.le_of_ble_eq_true rfl) dX5_passNumber_3 (fun r_1 I_2 h => ?_)
  refine kf_istore_n (lv' := [(3, .int r_1), (0, .ref (g.2.2.2 36)), (1, .int x1), (2, .int x2)]) hx dX5_passNumber_6 rfl (by decide) rfl ?_
  refine kf_aload_n hx dX5_passNumber_7 rfl 1 rfl ?_
  refine kf_callVv (st := []) hx (m_X5_advance g hg  I_2 J _ h) lk_RX5_64 km_X5_advance ob_36 rfl (by decide) rfl (Nat.le_of_ble_eq_true rfl) dX5_passNumber_8 (fun I_3 J_4 h => ?_)
  refine kf_iload_n hx dX5_passNumber_11 rfl 0 rfl ?_
  exact hret _ _ r_1 _ _ dX5_passNumber_12 h
set_option maxHeartbeats 4000000 in
set_option maxRecDepth 20000 in
theorem m_X5_passNumber (g : kf_G) (hg : kf_g g) (x1 : Int32) (x2 : Int32) (I : HI) (J : HJ) (Post : Int32 → HI → HJ → Prop) (h : w_X5_passNumber x1 x2 I J Post) : kf_Mi g yX5_passNumber (kf_W yX5_passNumber cX5_passNumber 4 (Option.some Jvm.ClassFile.FieldType.int)) 2 44 [.ref (g.2.2.2 36), .int x1, .int x2] I J Post :=
  kf_enti hg (by decide) (Nat.le_of_ble_eq_true rfl) rfl (fun x hx hr => we_X5_passNumber g hg hx x1 x2 I J Post (fun pc lv v I' J' hd hP => hr pc lv v I' J' hd hP) h)
theorem dX5_readTrait_0 : decode cX5_readTrait 0 = .ok (.aload_n 0, 1) := by decide +kernel
theorem dX5_readTrait_1 : decode cX5_readTrait 1 = .ok (.invokevirtual 67, 3) := by decide +kernel
theorem dX5_readTrait_4 : decode cX5_readTrait 4 = .ok (.ifCond .ne 4, 3) := by decide +kernel
theorem dX5_readTrait_7 : decode cX5_readTrait 7 = .ok (.return_, 1) := by decide +kernel
theorem dX5_readTrait_8 : decode cX5_readTrait 8 = .ok (.aload_n 0, 1) := by decide +kernel
theorem dX5_readTrait_9 : decode cX5_readTrait 9 = .ok (.invokevirtual 64, 3) := by decide +kernel
theorem dX5_readTrait_12 : decode cX5_readTrait 12 = .ok (.iload_n 2, 1) := by decide +kernel
theorem dX5_readTrait_13 : decode cX5_readTrait 13 = .ok (.tableswitch 103 12 15 #[31, 49, 67, 85], 31) := by decide +kernel
theorem dX5_readTrait_44 : decode cX5_readTrait 44 = .ok (.aload_n 0, 1) := by decide +kernel
theorem dX5_readTrait_45 : decode cX5_readTrait 45 = .ok (.getfield 22, 3) := by decide +kernel
theorem dX5_readTrait_48 : decode cX5_readTrait 48 = .ok (.getfield 118, 3) := by decide +kernel
theorem dX5_readTrait_51 : decode cX5_readTrait 51 = .ok (.iload_n 1, 1) := by decide +kernel
theorem dX5_readTrait_52 : decode cX5_readTrait 52 = .ok (.aload_n 0, 1) := by decide +kernel
theorem dX5_readTrait_53 : decode cX5_readTrait 53 = .ok (.iconst 0, 1) := by decide +kernel
theorem dX5_readTrait_54 : decode cX5_readTrait 54 = .ok (.iconst 3, 1) := by decide +kernel
theorem dX5_readTrait_55 : decode cX5_readTrait 55 = .ok (.invokevirtual 122, 3) := by decide +kernel
theorem dX5_readTrait_58 : decode cX5_readTrait 58 = .ok (.iastore, 1) := by decide +kernel
theorem dX5_readTrait_59 : decode cX5_readTrait 59 = .ok (.goto 73, 3) := by decide +kernel
theorem dX5_readTrait_62 : decode cX5_readTrait 62 = .ok (.aload_n 0, 1) := by decide +kernel
theorem dX5_readTrait_63 : decode cX5_readTrait 63 = .ok (.getfield 22, 3) := by decide +kernel
theorem dX5_readTrait_66 : decode cX5_readTrait 66 = .ok (.getfield 125, 3) := by decide +kernel
theorem dX5_readTrait_69 : decode cX5_readTrait 69 = .ok (.iload_n 1, 1) := by decide +kernel
theorem dX5_readTrait_70 : decode cX5_readTrait 70 = .ok (.aload_n 0, 1) := by decide +kernel
theorem dX5_readTrait_71 : decode cX5_readTrait 71 = .ok (.iconst 1, 1) := by decide +kernel
theorem dX5_readTrait_72 : decode cX5_readTrait 72 = .ok (.iconst 3, 1) := by decide +kernel
theorem dX5_readTrait_73 : decode cX5_readTrait 73 = .ok (.invokevirtual 122, 3) := by decide +kernel
theorem dX5_readTrait_76 : decode cX5_readTrait 76 = .ok (.iastore, 1) := by decide +kernel
theorem dX5_readTrait_77 : decode cX5_readTrait 77 = .ok (.goto 55, 3) := by decide +kernel
theorem dX5_readTrait_80 : decode cX5_readTrait 80 = .ok (.aload_n 0, 1) := by decide +kernel
theorem dX5_readTrait_81 : decode cX5_readTrait 81 = .ok (.getfield 22, 3) := by decide +kernel
theorem dX5_readTrait_84 : decode cX5_readTrait 84 = .ok (.getfield 128, 3) := by decide +kernel
theorem dX5_readTrait_87 : decode cX5_readTrait 87 = .ok (.iload_n 1, 1) := by decide +kernel
theorem dX5_readTrait_88 : decode cX5_readTrait 88 = .ok (.aload_n 0, 1) := by decide +kernel
theorem dX5_readTrait_89 : decode cX5_readTrait 89 = .ok (.iconst 0, 1) := by decide +kernel
theorem dX5_readTrait_90 : decode cX5_readTrait 90 = .ok (.iconst 5, 1) := by decide +kernel
theorem dX5_readTrait_91 : decode cX5_readTrait 91 = .ok (.invokevirtual 122, 3) := by decide +kernel
theorem dX5_readTrait_94 : decode cX5_readTrait 94 = .ok (.iastore, 1) := by decide +kernel
theorem dX5_readTrait_95 : decode cX5_readTrait 95 = .ok (.goto 37, 3) := by decide +kernel
theorem dX5_readTrait_98 : decode cX5_readTrait 98 = .ok (.aload_n 0, 1) := by decide +kernel
theorem dX5_readTrait_99 : decode cX5_readTrait 99 = .ok (.getfield 22, 3) := by decide +kernel
theorem dX5_readTrait_102 : decode cX5_readTrait 102 = .ok (.dup, 1) := by decide +kernel
theorem dX5_readTrait_103 : decode cX5_readTrait 103 = .ok (.getfield 131, 3) := by decide +kernel
theorem dX5_readTrait_106 : decode cX5_readTrait 106 = .ok (.iconst 1, 1) := by decide +kernel
theorem dX5_readTrait_107 : decode cX5_readTrait 107 = .ok (.iload_n 1, 1) := by decide +kernel
theorem dX5_readTrait_108 : decode cX5_readTrait 108 = .ok (.ishl, 1) := by decide +kernel
theorem dX5_readTrait_109 : decode cX5_readTrait 109 = .ok (.ior, 1) := by decide +kernel
theorem dX5_readTrait_110 : decode cX5_readTrait 110 = .ok (.putfield 131, 3) := by decide +kernel
theorem dX5_readTrait_113 : decode cX5_readTrait 113 = .ok (.goto 19, 3) := by decide +kernel
theorem dX5_readTrait_116 : decode cX5_readTrait 116 = .ok (.aload_n 0, 1) := by decide +kernel
theorem dX5_readTrait_117 : decode cX5_readTrait 117 = .ok (.getfield 22, 3) := by decide +kernel
theorem dX5_readTrait_120 : decode cX5_readTrait 120 = .ok (.getfield 134, 3) := by decide +kernel
theorem dX5_readTrait_123 : decode cX5_readTrait 123 = .ok (.iload_n 1, 1) := by decide +kernel
theorem dX5_readTrait_124 : decode cX5_readTrait 124 = .ok (.aload_n 0, 1) := by decide +kernel
theorem dX5_readTrait_125 : decode cX5_readTrait 125 = .ok (.iconst 0, 1) := by decide +kernel
theorem dX5_readTrait_126 : decode cX5_readTrait 126 = .ok (.bipush 99, 2) := by decide +kernel
theorem dX5_readTrait_128 : decode cX5_readTrait 128 = .ok (.invokevirtual 122, 3) := by decide +kernel
theorem dX5_readTrait_131 : decode cX5_readTrait 131 = .ok (.iastore, 1) := by decide +kernel
theorem dX5_readTrait_132 : decode cX5_readTrait 132 = .ok (.return_, 1) := by decide +kernel
def w_X5_readTrait (x1 : Int32) (x2 : Int32) (I : HI) (J : HJ) (Post : HI → HJ → Prop) : Prop :=
  w_X5_goesOn  I J (fun (r_1 : Bool) => ((r_1 = true → (w_X5_advance  I J (fun (I_2 : HI) (J_3 : HJ) => ((x2 = 12 → (w_X5_passNumber 0 3 I_2 J_3 (fun (r_4 : Int32) (I_5 : HI) (J_6 : HJ) => (vp_in x1 12 ∧ (∀ I_7 : HI, I_7 = hI I_5 25 (Int32.toNatClampNeg x1) r_4 → (Post I_7 J_6)))))) ∧ (x2 = 13 → (w_X5_passNumber 1 3 I_2 J_3 (fun (r_8 : Int32) (I_9 : HI) (J_10 : HJ) => (vp_in x1 12 ∧ (∀ I_11 : HI, I_11 = hI I_9 26 (Int32.toNatClampNeg x1) r_8 → (Post I_11 J_10)))))) ∧ (x2 = 14 → (w_X5_passNumber 0 5 I_2 J_3 (fun (r_12 : Int32) (I_13 : HI) (J_14 : HJ) => (vp_in x1 12 ∧ (∀ I_15 : HI, I_15 = hI I_13 27 (Int32.toNatClampNeg x1) r_12 → (Post I_15 J_14)))))) ∧ (x2 = 15 → (∀ I_16 : HI, I_16 = hI I_2 24 13 ((I_2 24 13) ||| (1 <<< (x1 &&& 31))) → (Post I_16 J_3))) ∧ (¬ x2 = 12 → ¬ x2 = 13 → ¬ x2 = 14 → ¬ x2 = 15 → (w_X5_passNumber 0 99 I_2 J_3 (fun (r_17 : Int32) (I_18 : HI) (J_19 : HJ) => (vp_in x1 12 ∧ (∀ I_20 : HI, I_20 = hI I_18 28 (Int32.toNatClampNeg x1) r_17 → (Post I_20 J_19)))))))))) ∧ (r_1 = false → (Post I J))))
set_option maxHeartbeats 4000000 in
set_option maxRecDepth 20000 in
theorem we_X5_readTrait (g : kf_G) (hg : kf_g g) {x : kf_X} (hx : kf_ok g x RX5 cX5_readTrait 3 3 67) (x1 : Int32) (x2 : Int32) (I : HI) (J : HJ) (Post : HI → HJ → Prop) (hret : ∀ (pc : Nat) (lv : List (Nat × Value)) (Iy : HI) (Jy : HJ), decode cX5_readTrait pc = .ok (.return_, 1) → Post Iy Jy → kf_M g x 3 pc lv [] Iy Jy) (h : w_X5_readTrait x1 x2 I J Post) : kf_M g x 3 0 [(0, .ref (g.2.2.2 36)), (1, .int x1), (2, .int x2)] [] I J := by
  unfold w_X5_readTrait at h
  refine kf_aload_n hx dX5_readTrait_0 rfl 0 rfl ?_
  refine kf_callVbP (st := []) hx (m_X5_goesOn g hg  I J _ h) lk_RX5_67 km_X5_goesOn ob_36 rfl (by decide) rfl (Nat.le_of_ble_eq_true rfl) dX5_readTrait_1 (fun r_1 h => ?_)
  refine kf_ifB_ne hx 8 dX5_readTrait_4 (by decide) (fun c => ?_) (fun c => ?_)
  · replace h := h.1 c
    refine kf_aload_n hx dX5_readTrait_8 rfl 0 rfl ?_
    refine kf_callVv (st := []) hx (m_X5_advance g hg  I J _ h) lk_RX5_64 km_X5_advance ob_36 rfl (by decide) rfl (Nat.le_of_ble_eq_true rfl) dX5_readTrait_9 (fun I_2 J_3 h => ?_)
    refine kf_iload_n hx dX5_readTrait_12 rfl 2 rfl ?_
    by_cases e12 : x2 = 12
    · refine kf_tabIn (off := 31) hx 44 dX5_readTrait_13 (by rw [e12]; decide) (by rw [e12]; decide) (by rw [e12]; rfl) (by decide) ?_
      replace h := h.1 e12
      refine kf_aload_n hx dX5_readTrait_44 rfl 0 rfl ?_
      refine kf_getR (n := 24) hx sl_36_3 fl_RX5_22 dX5_readTrait_45 ?_
      refine kf_getR (n := 25) hx sl_24_0 fl_RX5_118 dX5_readTrait_48 ?_
      refine kf_iload_n hx dX5_readTrait_51 rfl 1 rfl ?_
      refine kf_aload_n hx dX5_readTrait_52 rfl 0 rfl ?_
      refine kf_iconst (v := 0) hx dX5_readTrait_53 (by decide) ?_
      refine kf_iconst (v := 3) hx dX5_readTrait_54 (by decide) ?_
      refine kf_callVi (st := [.int x1, .ref (g.2.2.2 25)]) hx (m_X5_passNumber g hg 0 3 I_2 J_3 _ h) lk_RX5_122 km_X5_passNumber ob_36 rfl (by decide) rfl (Nat.le_of_ble_eq_true rfl) dX5_readTrait_55 (fun r_4 I_5 J_6 h => ?_)
      refine kf_iast hx ar_25 h.1 dX5_readTrait_58 ?_
      replace h := h.2
      refine kf_nmI (fun I_7 eI_7 => ?_)
      replace h := h I_7 eI_7
      refine kf_goto hx 132 dX5_readTrait_59 (by decide) ?_
      exact hret _ _ _ _ dX5_readTrait_132 h
    by_cases e13 : x2 = 13
    · refine kf_tabIn (off := 49) hx 62 dX5_readTrait_13 (by rw [e13]; decide) (by rw [e13]; decide) (by rw [e13]; rfl) (by decide) ?_
      replace h := h.2.1 e13
      refine kf_aload_n hx dX5_readTrait_62 rfl 0 rfl ?_
      refine kf_getR (n := 24) hx sl_36_3 fl_RX5_22 dX5_readTrait_63 ?_
      refine kf_getR (n := 26) hx sl_24_1 fl_RX5_125 dX5_readTrait_66 ?_
      refine kf_iload_n hx dX5_readTrait_69 rfl 1 rfl ?_
      refine kf_aload_n hx dX5_readTrait_70 rfl 0 rfl ?_
      refine kf_iconst (v := 1) hx dX5_readTrait_71 (by decide) ?_
      refine kf_iconst (v := 3) hx dX5_readTrait_72 (by decide) ?_
      refine kf_callVi (st := [.int x1, .ref (g.2.2.2 26)]) hx (m_X5_passNumber g hg 1 3 I_2 J_3 _ h) lk_RX5_122 km_X5_passNumber ob_36 rfl (by decide) rfl (Nat.le_of_ble_eq_true rfl) dX5_readTrait_73 (fun r_8 I_9 J_10 h => ?_)
      refine kf_iast hx ar_26 h.1 dX5_readTrait_76 ?_
      replace h := h.2
      refine kf_nmI (fun I_11 eI_11 => ?_)
      replace h := h I_11 eI_11
      refine kf_goto hx 132 dX5_readTrait_77 (by decide) ?_
      exact hret _ _ _ _ dX5_readTrait_132 h
    by_cases e14 : x2 = 14
    · refine kf_tabIn (off := 67) hx 80 dX5_readTrait_13 (by rw [e14]; decide) (by rw [e14]; decide) (by rw [e14]; rfl) (by decide) ?_
      replace h := h.2.2.1 e14
      refine kf_aload_n hx dX5_readTrait_80 rfl 0 rfl ?_
      refine kf_getR (n := 24) hx sl_36_3 fl_RX5_22 dX5_readTrait_81 ?_
      refine kf_getR (n := 27) hx sl_24_2 fl_RX5_128 dX5_readTrait_84 ?_
      refine kf_iload_n hx dX5_readTrait_87 rfl 1 rfl ?_
      refine kf_aload_n hx dX5_readTrait_88 rfl 0 rfl ?_
      refine kf_iconst (v := 0) hx dX5_readTrait_89 (by decide) ?_
      refine kf_iconst (v := 5) hx dX5_readTrait_90 (by decide) ?_
      refine kf_callVi (st := [.int x1, .ref (g.2.2.2 27)]) hx (m_X5_passNumber g hg 0 5 I_2 J_3 _ h) lk_RX5_122 km_X5_passNumber ob_36 rfl (by decide) rfl (Nat.le_of_ble_eq_true rfl) dX5_readTrait_91 (fun r_12 I_13 J_14 h => ?_)
      refine kf_iast hx ar_27 h.1 dX5_readTrait_94 ?_
      replace h := h.2
      refine kf_nmI (fun I_15 eI_15 => ?_)
      replace h := h I_15 eI_15
      refine kf_goto hx 132 dX5_readTrait_95 (by decide) ?_
      exact hret _ _ _ _ dX5_readTrait_132 h
    by_cases e15 : x2 = 15
    · refine kf_tabIn (off := 85) hx 98 dX5_readTrait_13 (by rw [e15]; decide) (by rw [e15]; decide) (by rw [e15]; rfl) (by decide) ?_
      replace h := h.2.2.2.1 e15
      refine kf_aload_n hx dX5_readTrait_98 rfl 0 rfl ?_
      refine kf_getR (n := 24) hx sl_36_3 fl_RX5_22 dX5_readTrait_99 ?_
      refine kf_dup hx dX5_readTrait_102 rfl ?_
      refine kf_getI hx sl_24_13 fl_RX5_131 dX5_readTrait_103 ?_
      refine kf_iconst (v := 1) hx dX5_readTrait_106 (by decide) ?_
      refine kf_iload_n hx dX5_readTrait_107 rfl 1 rfl ?_
      refine kf_ishl hx dX5_readTrait_108 ?_
      refine kf_ior hx dX5_readTrait_109 ?_
      refine kf_putI hx sl_24_13 fl_RX5_131 fp_4_13 dX5_readTrait_110 ?_
      refine kf_nmI (fun I_16 eI_16 => ?_)
      replace h := h I_16 eI_16
      refine kf_goto hx 132 dX5_readTrait_113 (by decide) ?_
      exact hret _ _ _ _ dX5_readTrait_132 h
    refine kf_tabOut hx 116 dX5_readTrait_13 (tw_out (fun v h1 h2 => ?_)) (by decide) ?_
    · rcases (show v = 12 ∨ v = 13 ∨ v = 14 ∨ v = 15 by omega) with rfl | rfl | rfl | rfl
      · exact tw_ne e12 (by decide)
      · exact tw_ne e13 (by decide)
      · exact tw_ne e14 (by decide)
      · exact tw_ne e15 (by decide)
    · replace h := h.2.2.2.2 e12 e13 e14 e15
      refine kf_aload_n hx dX5_readTrait_116 rfl 0 rfl ?_
      refine kf_getR (n := 24) hx sl_36_3 fl_RX5_22 dX5_readTrait_117 ?_
      refine kf_getR (n := 28) hx sl_24_3 fl_RX5_134 dX5_readTrait_120 ?_
      refine kf_iload_n hx dX5_readTrait_123 rfl 1 rfl ?_
      refine kf_aload_n hx dX5_readTrait_124 rfl 0 rfl ?_
      refine kf_iconst (v := 0) hx dX5_readTrait_125 (by decide) ?_
      refine kf_bipush (v := 99) hx dX5_readTrait_126 (by decide) ?_
      refine kf_callVi (st := [.int x1, .ref (g.2.2.2 28)]) hx (m_X5_passNumber g hg 0 99 I_2 J_3 _ h) lk_RX5_122 km_X5_passNumber ob_36 rfl (by decide) rfl (Nat.le_of_ble_eq_true rfl) dX5_readTrait_128 (fun r_17 I_18 J_19 h => ?_)
      refine kf_iast hx ar_28 h.1 dX5_readTrait_131 ?_
      replace h := h.2
      refine kf_nmI (fun I_20 eI_20 => ?_)
      replace h := h I_20 eI_20
      exact hret _ _ _ _ dX5_readTrait_132 h
  · replace h := h.2 c
    exact hret _ _ _ _ dX5_readTrait_7 h
set_option maxHeartbeats 4000000 in
set_option maxRecDepth 20000 in
theorem m_X5_readTrait (g : kf_G) (hg : kf_g g) (x1 : Int32) (x2 : Int32) (I : HI) (J : HJ) (Post : HI → HJ → Prop) (h : w_X5_readTrait x1 x2 I J Post) : kf_Mv g yX5_readTrait (kf_W yX5_readTrait cX5_readTrait 3 (Option.none : Option Jvm.ClassFile.FieldType)) 3 67 [.ref (g.2.2.2 36), .int x1, .int x2] I J Post :=
  kf_entv hg (by decide) (Nat.le_of_ble_eq_true rfl) rfl (fun x hx hr => we_X5_readTrait g hg hx x1 x2 I J Post (fun pc lv I' J' hd hP => hr pc lv I' J' hd hP) h)
theorem dX5_readPerson_0 : decode cX5_readPerson 0 = .ok (.aload_n 0, 1) := by decide +kernel
theorem dX5_readPerson_1 : decode cX5_readPerson 1 = .ok (.invokevirtual 64, 3) := by decide +kernel
theorem dX5_readPerson_4 : decode cX5_readPerson 4 = .ok (.aload_n 0, 1) := by decide +kernel
theorem dX5_readPerson_5 : decode cX5_readPerson 5 = .ok (.getfield 71, 3) := by decide +kernel
theorem dX5_readPerson_8 : decode cX5_readPerson 8 = .ok (.iconst 5, 1) := by decide +kernel
theorem dX5_readPerson_9 : decode cX5_readPerson 9 = .ok (.if_icmp .eq 11, 3) := by decide +kernel
theorem dX5_readPerson_12 : decode cX5_readPerson 12 = .ok (.aload_n 0, 1) := by decide +kernel
theorem dX5_readPerson_13 : decode cX5_readPerson 13 = .ok (.iconst 2, 1) := by decide +kernel
theorem dX5_readPerson_14 : decode cX5_readPerson 14 = .ok (.invokevirtual 83, 3) := by decide +kernel
theorem dX5_readPerson_17 : decode cX5_readPerson 17 = .ok (.goto 35, 3) := by decide +kernel
theorem dX5_readPerson_20 : decode cX5_readPerson 20 = .ok (.aload_n 0, 1) := by decide +kernel
theorem dX5_readPerson_21 : decode cX5_readPerson 21 = .ok (.invokevirtual 93, 3) := by decide +kernel
theorem dX5_readPerson_24 : decode cX5_readPerson 24 = .ok (.iconst (-1), 1) := by decide +kernel
theorem dX5_readPerson_25 : decode cX5_readPerson 25 = .ok (.if_icmp .eq 11, 3) := by decide +kernel
theorem dX5_readPerson_28 : decode cX5_readPerson 28 = .ok (.aload_n 0, 1) := by decide +kernel
theorem dX5_readPerson_29 : decode cX5_readPerson 29 = .ok (.iconst 3, 1) := by decide +kernel
theorem dX5_readPerson_30 : decode cX5_readPerson 30 = .ok (.invokevirtual 83, 3) := by decide +kernel
theorem dX5_readPerson_33 : decode cX5_readPerson 33 = .ok (.goto 19, 3) := by decide +kernel
theorem dX5_readPerson_36 : decode cX5_readPerson 36 = .ok (.aload_n 0, 1) := by decide +kernel
theorem dX5_readPerson_37 : decode cX5_readPerson 37 = .ok (.getfield 22, 3) := by decide +kernel
theorem dX5_readPerson_40 : decode cX5_readPerson 40 = .ok (.invokevirtual 96, 3) := by decide +kernel
theorem dX5_readPerson_43 : decode cX5_readPerson 43 = .ok (.ifCond .eq 9, 3) := by decide +kernel
theorem dX5_readPerson_46 : decode cX5_readPerson 46 = .ok (.aload_n 0, 1) := by decide +kernel
theorem dX5_readPerson_47 : decode cX5_readPerson 47 = .ok (.bipush 6, 2) := by decide +kernel
theorem dX5_readPerson_49 : decode cX5_readPerson 49 = .ok (.invokevirtual 83, 3) := by decide +kernel
theorem dX5_readPerson_52 : decode cX5_readPerson 52 = .ok (.aload_n 0, 1) := by decide +kernel
theorem dX5_readPerson_53 : decode cX5_readPerson 53 = .ok (.invokevirtual 67, 3) := by decide +kernel
theorem dX5_readPerson_56 : decode cX5_readPerson 56 = .ok (.ifCond .eq 13, 3) := by decide +kernel
theorem dX5_readPerson_59 : decode cX5_readPerson 59 = .ok (.aload_n 0, 1) := by decide +kernel
theorem dX5_readPerson_60 : decode cX5_readPerson 60 = .ok (.getfield 22, 3) := by decide +kernel
theorem dX5_readPerson_63 : decode cX5_readPerson 63 = .ok (.invokevirtual 99, 3) := by decide +kernel
theorem dX5_readPerson_66 : decode cX5_readPerson 66 = .ok (.goto 4, 3) := by decide +kernel
theorem dX5_readPerson_69 : decode cX5_readPerson 69 = .ok (.iconst (-1), 1) := by decide +kernel
theorem dX5_readPerson_70 : decode cX5_readPerson 70 = .ok (.istore_n 1, 1) := by decide +kernel
theorem dX5_readPerson_71 : decode cX5_readPerson 71 = .ok (.iload_n 1, 1) := by decide +kernel
theorem dX5_readPerson_72 : decode cX5_readPerson 72 = .ok (.iconst (-1), 1) := by decide +kernel
theorem dX5_readPerson_73 : decode cX5_readPerson 73 = .ok (.if_icmp .ne 4, 3) := by decide +kernel
theorem dX5_readPerson_76 : decode cX5_readPerson 76 = .ok (.return_, 1) := by decide +kernel
theorem dX5_readPerson_77 : decode cX5_readPerson 77 = .ok (.aload_n 0, 1) := by decide +kernel
theorem dX5_readPerson_78 : decode cX5_readPerson 78 = .ok (.getfield 15, 3) := by decide +kernel
theorem dX5_readPerson_81 : decode cX5_readPerson 81 = .ok (.iload_n 1, 1) := by decide +kernel
theorem dX5_readPerson_82 : decode cX5_readPerson 82 = .ok (.aload_n 0, 1) := by decide +kernel
theorem dX5_readPerson_83 : decode cX5_readPerson 83 = .ok (.getfield 102, 3) := by decide +kernel
theorem dX5_readPerson_86 : decode cX5_readPerson 86 = .ok (.lastore, 1) := by decide +kernel
theorem dX5_readPerson_87 : decode cX5_readPerson 87 = .ok (.aload_n 0, 1) := by decide +kernel
theorem dX5_readPerson_88 : decode cX5_readPerson 88 = .ok (.invokevirtual 64, 3) := by decide +kernel
theorem dX5_readPerson_91 : decode cX5_readPerson 91 = .ok (.iconst 0, 1) := by decide +kernel
theorem dX5_readPerson_92 : decode cX5_readPerson 92 = .ok (.istore_n 2, 1) := by decide +kernel
theorem dX5_readPerson_93 : decode cX5_readPerson 93 = .ok (.iconst 0, 1) := by decide +kernel
theorem dX5_readPerson_94 : decode cX5_readPerson 94 = .ok (.istore_n 3, 1) := by decide +kernel
theorem dX5_readPerson_95 : decode cX5_readPerson 95 = .ok (.iload_n 3, 1) := by decide +kernel
theorem dX5_readPerson_96 : decode cX5_readPerson 96 = .ok (.sipush 600, 3) := by decide +kernel
theorem dX5_readPerson_99 : decode cX5_readPerson 99 = .ok (.if_icmp .ge 45, 3) := by decide +kernel
theorem dX5_readPerson_102 : decode cX5_readPerson 102 = .ok (.aload_n 0, 1) := by decide +kernel
theorem dX5_readPerson_103 : decode cX5_readPerson 103 = .ok (.invokevirtual 67, 3) := by decide +kernel
theorem dX5_readPerson_106 : decode cX5_readPerson 106 = .ok (.ifCond .eq 38, 3) := by decide +kernel
theorem dX5_readPerson_109 : decode cX5_readPerson 109 = .ok (.aload_n 0, 1) := by decide +kernel
theorem dX5_readPerson_110 : decode cX5_readPerson 110 = .ok (.getfield 71, 3) := by decide +kernel
theorem dX5_readPerson_113 : decode cX5_readPerson 113 = .ok (.bipush 12, 2) := by decide +kernel
theorem dX5_readPerson_115 : decode cX5_readPerson 115 = .ok (.bipush 16, 2) := by decide +kernel
theorem dX5_readPerson_117 : decode cX5_readPerson 117 = .ok (.invokestatic 106, 3) := by decide +kernel
theorem dX5_readPerson_120 : decode cX5_readPerson 120 = .ok (.ifCond .eq 24, 3) := by decide +kernel
theorem dX5_readPerson_123 : decode cX5_readPerson 123 = .ok (.aload_n 0, 1) := by decide +kernel
theorem dX5_readPerson_124 : decode cX5_readPerson 124 = .ok (.iload_n 2, 1) := by decide +kernel
theorem dX5_readPerson_125 : decode cX5_readPerson 125 = .ok (.invokevirtual 110, 3) := by decide +kernel
theorem dX5_readPerson_128 : decode cX5_readPerson 128 = .ok (.istore_n 2, 1) := by decide +kernel
theorem dX5_readPerson_129 : decode cX5_readPerson 129 = .ok (.aload_n 0, 1) := by decide +kernel
theorem dX5_readPerson_130 : decode cX5_readPerson 130 = .ok (.iload_n 1, 1) := by decide +kernel
theorem dX5_readPerson_131 : decode cX5_readPerson 131 = .ok (.aload_n 0, 1) := by decide +kernel
theorem dX5_readPerson_132 : decode cX5_readPerson 132 = .ok (.getfield 71, 3) := by decide +kernel
theorem dX5_readPerson_135 : decode cX5_readPerson 135 = .ok (.invokevirtual 114, 3) := by decide +kernel
theorem dX5_readPerson_138 : decode cX5_readPerson 138 = .ok (.iinc 3 1, 3) := by decide +kernel
theorem dX5_readPerson_141 : decode cX5_readPerson 141 = .ok (.goto (-46), 3) := by decide +kernel
theorem dX5_readPerson_144 : decode cX5_readPerson 144 = .ok (.return_, 1) := by decide +kernel
def wb_X5_readPerson_95 (x1 : Int32) (Post : HI → HJ → Prop) (E95 : HI → HJ → Prop) (K95 : (Int32 × Int32 × HI × HJ) → Prop) (s : Int32 × Int32 × HI × HJ) : Prop :=
  match s with
  | (x2, x3, I, J) => (600 ≤ x3 → (E95 I J)) ∧ (¬ 600 ≤ x3 → (w_X5_goesOn  I J (fun (r_9 : Bool) => ((r_9 = false → (E95 I J)) ∧ (r_9 = true → (w_X10_isBetween (I 36 7) 12 16 (fun (r_10 : Bool) => ((r_10 = false → (E95 I J)) ∧ (r_10 = true → (w_X5_passOnce x2 I J (fun (r_11 : Int32) (I_12 : HI) => (w_X5_readTrait x1 (I_12 36 7) I_12 J (fun (I_13 : HI) (J_14 : HJ) => (K95 (r_11, (x3 + 1), I_13, J_14)))))))))))))))
set_option maxHeartbeats 4000000 in
set_option maxRecDepth 20000 in
theorem ws_X5_readPerson_95 (g : kf_G) (hg : kf_g g) {x : kf_X} (hx : kf_ok g x RX5 cX5_readPerson 4 4 89) (x1 : Int32) (Post : HI → HJ → Prop) (hret : ∀ (pc : Nat) (lv : List (Nat × Value)) (Iy : HI) (Jy : HJ), decode cX5_readPerson pc = .ok (.return_, 1) → Post Iy Jy → kf_M g x 4 pc lv [] Iy Jy) (E95 : HI → HJ → Prop) (hE95 : ∀ (Iy : HI) (Jy : HJ), E95 Iy Jy → kf_M g x 4 144 [] [] Iy Jy) (K95 : (Int32 × Int32 × HI × HJ) → Prop) (hK95 : ∀ (y2 : Int32) (y3 : Int32) (Iy : HI) (Jy : HJ), K95 (y2, y3, Iy, Jy) → kf_M g x 4 95 [(0, .ref (g.2.2.2 36)), (1, .int x1), (2, .int y2), (3, .int y3)] [] Iy Jy) (x2 : Int32) (x3 : Int32) (I : HI) (J : HJ) (h : wb_X5_readPerson_95 x1 Post E95 K95 (x2, x3, I, J)) : kf_M g x 4 95 [(0, .ref (g.2.2.2 36)), (1, .int x1), (2, .int x2), (3, .int x3)] [] I J := by
  unfold wb_X5_readPerson_95 at h
  refine kf_iload_n hx dX5_readPerson_95 rfl 3 rfl ?_
  refine kf_sipush (v := 600) hx dX5_readPerson_96 (by decide) ?_
  refine kf_icmp_ge hx 144 dX5_readPerson_99 (by decide) (fun c => ?_) (fun c => ?_)
  · replace h := h.1 c
    refine kf_sub [] rfl ?_
    exact hE95 _ _ h
  · replace h := h.2 c
    refine kf_aload_n hx dX5_readPerson_102 rfl 0 rfl ?_
    refine kf_callVbP (st := []) hx (m_X5_goesOn g hg  I J _ h) lk_RX5_67 km_X5_goesOn ob_36 rfl (by decide) rfl (Nat.le_of_ble_eq_true rfl) dX5_readPerson_103 (fun r_9 h => ?_)
    refine kf_ifB_eq hx 144 dX5_readPerson_106 (by decide) (fun c => ?_) (fun c => ?_)
    · replace h := h.1 c
      refine kf_sub [] rfl ?_
      exact hE95 _ _ h
    · replace h := h.2 c
      refine kf_aload_n hx dX5_readPerson_109 rfl 0 rfl ?_
      refine kf_getI hx sl_36_7 fl_RX5_71 dX5_readPerson_110 ?_
      refine kf_bipush (v := 12) hx dX5_readPerson_113 (by decide) ?_
      refine kf_bipush (v := 16) hx dX5_readPerson_115 (by decide) ?_
      refine kf_callSbP (st := []) hx (m_X10_isBetween g hg (I 36 7) 12 16 I J _ h) lk_RX5_106 km_X10_isBetween rfl (by decide) rfl (Nat.le_of_ble_eq_true rfl) dX5_readPerson_117 (fun r_10 h => ?_)
      refine kf_ifB_eq hx 144 dX5_readPerson_120 (by decide) (fun c => ?_) (fun c => ?_)
      · replace h := h.1 c
        refine kf_sub [] rfl ?_
        exact hE95 _ _ h
      · replace h := h.2 c
        refine kf_aload_n hx dX5_readPerson_123 rfl 0 rfl ?_
        refine kf_iload_n hx dX5_readPerson_124 rfl 2 rfl ?_
        refine kf_callViI (st := []) hx (m_X5_passOnce g hg x2 I J _ h) lk_RX5_110 km_X5_passOnce ob_36 rfl (by decide) rfl (Nat.le_of_ble_eq_true rfl) dX5_readPerson_125 (fun r_11 I_12 h => ?_)
        refine kf_istore_n (lv' := [(2, .int r_11), (0, .ref (g.2.2.2 36)), (1, .int x1), (3, .int x3)]) hx dX5_readPerson_128 rfl (by decide) rfl ?_
        refine kf_aload_n hx dX5_readPerson_129 rfl 1 rfl ?_
        refine kf_iload_n hx dX5_readPerson_130 rfl 2 rfl ?_
        refine kf_aload_n hx dX5_readPerson_131 rfl 1 rfl ?_
        refine kf_getI hx sl_36_7 fl_RX5_71 dX5_readPerson_132 ?_
        refine kf_callVv (st := []) hx (m_X5_readTrait g hg x1 (I_12 36 7) I_12 J _ h) lk_RX5_114 km_X5_readTrait ob_36 rfl (by decide) rfl (Nat.le_of_ble_eq_true rfl) dX5_readPerson_135 (fun I_13 J_14 h => ?_)
        refine kf_iinc (w := (x3 + 1)) (lv' := [(3, .int (x3 + 1)), (2, .int r_11), (0, .ref (g.2.2.2 36)), (1, .int x1)]) hx dX5_readPerson_138 3 rfl rfl (by decide) rfl ?_
        refine kf_goto hx 95 dX5_readPerson_141 (by decide) ?_
        refine kf_sub [2, 3, 1, 0] rfl ?_
        exact hK95 _ _ _ _ h
theorem wl_X5_readPerson_95 (g : kf_G) (hg : kf_g g) {x : kf_X} (hx : kf_ok g x RX5 cX5_readPerson 4 4 89) (x1 : Int32) (Post : HI → HJ → Prop) (hret : ∀ (pc : Nat) (lv : List (Nat × Value)) (Iy : HI) (Jy : HJ), decode cX5_readPerson pc = .ok (.return_, 1) → Post Iy Jy → kf_M g x 4 pc lv [] Iy Jy) (E95 : HI → HJ → Prop) (hE95 : ∀ (Iy : HI) (Jy : HJ), E95 Iy Jy → kf_M g x 4 144 [] [] Iy Jy) : ∀ (n : Nat) (x2 : Int32) (x3 : Int32) (I : HI) (J : HJ), lp (wb_X5_readPerson_95 x1 Post E95) n (x2, x3, I, J) → kf_M g x 4 95 [(0, .ref (g.2.2.2 36)), (1, .int x1), (2, .int x2), (3, .int x3)] [] I J := by
  intro n
  induction n with
  | zero => intro x2 x3 I J h; exact h.elim
  | succ n ih => intro x2 x3 I J h; exact ws_X5_readPerson_95 g hg hx x1 Post hret E95 hE95 (lp (wb_X5_readPerson_95 x1 Post E95) n) ih x2 x3 I J h
def wj_X5_readPerson_70 (I : HI) (J : HJ) (t0 : Int32) (Post : HI → HJ → Prop) : Prop :=
  (¬ t0 = (-1) → (vp_in t0 12 ∧ (∀ J_6 : HJ, J_6 = hJ J 38 (Int32.toNatClampNeg t0) (J 36 9) → (w_X5_advance  I J_6 (fun (I_7 : HI) (J_8 : HJ) => (∃ n, lp (wb_X5_readPerson_95 t0 Post (fun (I_15 : HI) (J_16 : HJ) => Post I_15 J_16)) n (0, 0, I_7, J_8))))))) ∧ (t0 = (-1) → (Post I J))
set_option maxHeartbeats 4000000 in
set_option maxRecDepth 20000 in
theorem wk_X5_readPerson_70 (g : kf_G) (hg : kf_g g) {x : kf_X} (hx : kf_ok g x RX5 cX5_readPerson 4 4 89) (I : HI) (J : HJ) (t0 : Int32) (Post : HI → HJ → Prop) (hret : ∀ (pc : Nat) (lv : List (Nat × Value)) (Iy : HI) (Jy : HJ), decode cX5_readPerson pc = .ok (.return_, 1) → Post Iy Jy → kf_M g x 4 pc lv [] Iy Jy) (h : wj_X5_readPerson_70 I J t0 Post) : kf_M g x 4 70 [(0, .ref (g.2.2.2 36))] [.int t0] I J := by
  unfold wj_X5_readPerson_70 at h
  refine kf_istore_n (lv' := [(1, .int t0), (0, .ref (g.2.2.2 36))]) hx dX5_readPerson_70 rfl (by decide) rfl ?_
  refine kf_iload_n hx dX5_readPerson_71 rfl 0 rfl ?_
  refine kf_iconst (v := (-1)) hx dX5_readPerson_72 (by decide) ?_
  refine kf_icmp_ne hx 77 dX5_readPerson_73 (by decide) (fun c => ?_) (fun c => ?_)
  · replace h := h.1 c
    refine kf_aload_n hx dX5_readPerson_77 rfl 1 rfl ?_
    refine kf_getR (n := 38) hx sl_36_1 fl_RX5_15 dX5_readPerson_78 ?_
    refine kf_iload_n hx dX5_readPerson_81 rfl 0 rfl ?_
    refine kf_aload_n hx dX5_readPerson_82 rfl 1 rfl ?_
    refine kf_getJ hx sl_36_9 fl_RX5_102 dX5_readPerson_83 ?_
    refine kf_last hx ar_38 h.1 dX5_readPerson_86 ?_
    replace h := h.2
    refine kf_nmJ (fun J_6 eJ_6 => ?_)
    replace h := h J_6 eJ_6
    refine kf_aload_n hx dX5_readPerson_87 rfl 1 rfl ?_
    refine kf_callVv (st := []) hx (m_X5_advance g hg  I J_6 _ h) lk_RX5_64 km_X5_advance ob_36 rfl (by decide) rfl (Nat.le_of_ble_eq_true rfl) dX5_readPerson_88 (fun I_7 J_8 h => ?_)
    refine kf_iconst (v := 0) hx dX5_readPerson_91 (by decide) ?_
    refine kf_istore_n (lv' := [(2, .int 0), (1, .int t0), (0, .ref (g.2.2.2 36))]) hx dX5_readPerson_92 rfl (by decide) rfl ?_
    refine kf_iconst (v := 0) hx dX5_readPerson_93 (by decide) ?_
    refine kf_istore_n (lv' := [(3, .int 0), (2, .int 0), (1, .int t0), (0, .ref (g.2.2.2 36))]) hx dX5_readPerson_94 rfl (by decide) rfl ?_
    obtain ⟨n, h⟩ := h
    refine kf_sub [3, 2, 1, 0] rfl ?_
    refine wl_X5_readPerson_95 g hg hx  t0 _ hret _ (fun I_15 J_16 h => ?_) n _ _ _ _ h
    exact hret _ _ _ _ dX5_readPerson_144 h
  · replace h := h.2 c
    exact hret _ _ _ _ dX5_readPerson_76 h
def wj_X5_readPerson_52 (I : HI) (J : HJ)  (Post : HI → HJ → Prop) : Prop :=
  w_X5_goesOn  I J (fun (r_5 : Bool) => ((r_5 = false → (wj_X5_readPerson_70 I J (-1) Post)) ∧ (r_5 = true → (w_X4_addPerson  I J (fun (r_17 : Int32) (I_18 : HI) => (wj_X5_readPerson_70 I_18 J r_17 Post))))))
set_option maxHeartbeats 4000000 in
set_option maxRecDepth 20000 in
theorem wk_X5_readPerson_52 (g : kf_G) (hg : kf_g g) {x : kf_X} (hx : kf_ok g x RX5 cX5_readPerson 4 4 89) (I : HI) (J : HJ)  (Post : HI → HJ → Prop) (hret : ∀ (pc : Nat) (lv : List (Nat × Value)) (Iy : HI) (Jy : HJ), decode cX5_readPerson pc = .ok (.return_, 1) → Post Iy Jy → kf_M g x 4 pc lv [] Iy Jy) (h : wj_X5_readPerson_52 I J  Post) : kf_M g x 4 52 [(0, .ref (g.2.2.2 36))] [] I J := by
  unfold wj_X5_readPerson_52 at h
  refine kf_aload_n hx dX5_readPerson_52 rfl 0 rfl ?_
  refine kf_callVbP (st := []) hx (m_X5_goesOn g hg  I J _ h) lk_RX5_67 km_X5_goesOn ob_36 rfl (by decide) rfl (Nat.le_of_ble_eq_true rfl) dX5_readPerson_53 (fun r_5 h => ?_)
  refine kf_ifB_eq hx 69 dX5_readPerson_56 (by decide) (fun c => ?_) (fun c => ?_)
  · replace h := h.1 c
    refine kf_iconst (v := (-1)) hx dX5_readPerson_69 (by decide) ?_
    exact wk_X5_readPerson_70 g hg hx I J (-1) _ hret h
  · replace h := h.2 c
    refine kf_aload_n hx dX5_readPerson_59 rfl 0 rfl ?_
    refine kf_getR (n := 24) hx sl_36_3 fl_RX5_22 dX5_readPerson_60 ?_
    refine kf_callViI (st := []) hx (m_X4_addPerson g hg  I J _ h) lk_RX5_99 km_X4_addPerson ob_24 rfl (by decide) rfl (Nat.le_of_ble_eq_true rfl) dX5_readPerson_63 (fun r_17 I_18 h => ?_)
    refine kf_goto hx 70 dX5_readPerson_66 (by decide) ?_
    exact wk_X5_readPerson_70 g hg hx I_18 J r_17 _ hret h
def w_X5_readPerson  (I : HI) (J : HJ) (Post : HI → HJ → Prop) : Prop :=
  w_X5_advance  I J (fun (I_1 : HI) (J_2 : HJ) => (((I_1 36 7) = 5 → (w_X5_personNamed  I_1 J_2 (fun (r_3 : Int32) => ((r_3 = (-1) → (w_X4_isFullOfPeople  I_1 J_2 (fun (r_4 : Bool) => ((r_4 = false → (wj_X5_readPerson_52 I_1 J_2 Post)) ∧ (r_4 = true → (w_X5_fail 6 I_1 J_2 (fun (I_19 : HI) => (wj_X5_readPerson_52 I_19 J_2 Post)))))))) ∧ (¬ r_3 = (-1) → (w_X5_fail 3 I_1 J_2 (fun (I_20 : HI) => (wj_X5_readPerson_52 I_20 J_2 Post)))))))) ∧ (¬ (I_1 36 7) = 5 → (w_X5_fail 2 I_1 J_2 (fun (I_21 : HI) => (wj_X5_readPerson_52 I_21 J_2 Post))))))
set_option maxHeartbeats 4000000 in
set_option maxRecDepth 20000 in
theorem we_X5_readPerson (g : kf_G) (hg : kf_g g) {x : kf_X} (hx : kf_ok g x RX5 cX5_readPerson 4 4 89)  (I : HI) (J : HJ) (Post : HI → HJ → Prop) (hret : ∀ (pc : Nat) (lv : List (Nat × Value)) (Iy : HI) (Jy : HJ), decode cX5_readPerson pc = .ok (.return_, 1) → Post Iy Jy → kf_M g x 4 pc lv [] Iy Jy) (h : w_X5_readPerson  I J Post) : kf_M g x 4 0 [(0, .ref (g.2.2.2 36))] [] I J := by
  unfold w_X5_readPerson at h
  refine kf_aload_n hx dX5_readPerson_0 rfl 0 rfl ?_
  refine kf_callVv (st := []) hx (m_X5_advance g hg  I J _ h) lk_RX5_64 km_X5_advance ob_36 rfl (by decide) rfl (Nat.le_of_ble_eq_true rfl) dX5_readPerson_1 (fun I_1 J_2 h => ?_)
  refine kf_aload_n hx dX5_readPerson_4 rfl 0 rfl ?_
  refine kf_getI hx sl_36_7 fl_RX5_71 dX5_readPerson_5 ?_
  refine kf_iconst (v := 5) hx dX5_readPerson_8 (by decide) ?_
  refine kf_icmp_eq hx 20 dX5_readPerson_9 (by decide) (fun c => ?_) (fun c => ?_)
  · replace h := h.1 c
    refine kf_aload_n hx dX5_readPerson_20 rfl 0 rfl ?_
    refine kf_callViP (st := []) hx (m_X5_personNamed g hg  I_1 J_2 _ h) lk_RX5_93 km_X5_personNamed ob_36 rfl (by decide) rfl (Nat.le_of_ble_eq_true rfl) dX5_readPerson_21 (fun r_3 h => ?_)
    refine kf_iconst (v := (-1)) hx dX5_readPerson_24 (by decide) ?_
    refine kf_icmp_eq hx 36 dX5_readPerson_25 (by decide) (fun c => ?_) (fun c => ?_)
    · replace h := h.1 c
      refine kf_aload_n hx dX5_readPerson_36 rfl 0 rfl ?_
      refine kf_getR (n := 24) hx sl_36_3 fl_RX5_22 dX5_readPerson_37 ?_
      refine kf_callVbP (st := []) hx (m_X4_isFullOfPeople g hg  I_1 J_2 _ h) lk_RX5_96 km_X4_isFullOfPeople ob_24 rfl (by decide) rfl (Nat.le_of_ble_eq_true rfl) dX5_readPerson_40 (fun r_4 h => ?_)
      refine kf_ifB_eq hx 52 dX5_readPerson_43 (by decide) (fun c => ?_) (fun c => ?_)
      · replace h := h.1 c
        exact wk_X5_readPerson_52 g hg hx I_1 J_2  _ hret h
      · replace h := h.2 c
        refine kf_aload_n hx dX5_readPerson_46 rfl 0 rfl ?_
        refine kf_bipush (v := 6) hx dX5_readPerson_47 (by decide) ?_
        refine kf_callVvI (st := []) hx (m_X5_fail g hg 6 I_1 J_2 _ h) lk_RX5_83 km_X5_fail ob_36 rfl (by decide) rfl (Nat.le_of_ble_eq_true rfl) dX5_readPerson_49 (fun I_19 h => ?_)
        exact wk_X5_readPerson_52 g hg hx I_19 J_2  _ hret h
    · replace h := h.2 c
      refine kf_aload_n hx dX5_readPerson_28 rfl 0 rfl ?_
      refine kf_iconst (v := 3) hx dX5_readPerson_29 (by decide) ?_
      refine kf_callVvI (st := []) hx (m_X5_fail g hg 3 I_1 J_2 _ h) lk_RX5_83 km_X5_fail ob_36 rfl (by decide) rfl (Nat.le_of_ble_eq_true rfl) dX5_readPerson_30 (fun I_20 h => ?_)
      refine kf_goto hx 52 dX5_readPerson_33 (by decide) ?_
      exact wk_X5_readPerson_52 g hg hx I_20 J_2  _ hret h
  · replace h := h.2 c
    refine kf_aload_n hx dX5_readPerson_12 rfl 0 rfl ?_
    refine kf_iconst (v := 2) hx dX5_readPerson_13 (by decide) ?_
    refine kf_callVvI (st := []) hx (m_X5_fail g hg 2 I_1 J_2 _ h) lk_RX5_83 km_X5_fail ob_36 rfl (by decide) rfl (Nat.le_of_ble_eq_true rfl) dX5_readPerson_14 (fun I_21 h => ?_)
    refine kf_goto hx 52 dX5_readPerson_17 (by decide) ?_
    exact wk_X5_readPerson_52 g hg hx I_21 J_2  _ hret h
set_option maxHeartbeats 4000000 in
set_option maxRecDepth 20000 in
theorem m_X5_readPerson (g : kf_G) (hg : kf_g g)  (I : HI) (J : HJ) (Post : HI → HJ → Prop) (h : w_X5_readPerson  I J Post) : kf_Mv g yX5_readPerson (kf_W yX5_readPerson cX5_readPerson 4 (Option.none : Option Jvm.ClassFile.FieldType)) 4 89 [.ref (g.2.2.2 36)] I J Post :=
  kf_entv hg (by decide) (Nat.le_of_ble_eq_true rfl) rfl (fun x hx hr => we_X5_readPerson g hg hx  I J Post (fun pc lv I' J' hd hP => hr pc lv I' J' hd hP) h)
theorem dX5_pass_0 : decode cX5_pass 0 = .ok (.aload_n 0, 1) := by decide +kernel
theorem dX5_pass_1 : decode cX5_pass 1 = .ok (.getfield 71, 3) := by decide +kernel
theorem dX5_pass_4 : decode cX5_pass 4 = .ok (.iload_n 1, 1) := by decide +kernel
theorem dX5_pass_5 : decode cX5_pass 5 = .ok (.if_icmp .eq 8, 3) := by decide +kernel
theorem dX5_pass_8 : decode cX5_pass 8 = .ok (.aload_n 0, 1) := by decide +kernel
theorem dX5_pass_9 : decode cX5_pass 9 = .ok (.iconst 2, 1) := by decide +kernel
theorem dX5_pass_10 : decode cX5_pass 10 = .ok (.invokevirtual 83, 3) := by decide +kernel
theorem dX5_pass_13 : decode cX5_pass 13 = .ok (.aload_n 0, 1) := by decide +kernel
theorem dX5_pass_14 : decode cX5_pass 14 = .ok (.invokevirtual 64, 3) := by decide +kernel
theorem dX5_pass_17 : decode cX5_pass 17 = .ok (.return_, 1) := by decide +kernel
def wj_X5_pass_13 (I : HI) (J : HJ)  (Post : HI → HJ → Prop) : Prop :=
  w_X5_advance  I J (fun (I_1 : HI) (J_2 : HJ) => (Post I_1 J_2))
set_option maxHeartbeats 4000000 in
set_option maxRecDepth 20000 in
theorem wk_X5_pass_13 (g : kf_G) (hg : kf_g g) {x : kf_X} (hx : kf_ok g x RX5 cX5_pass 2 2 42) (I : HI) (J : HJ)  (Post : HI → HJ → Prop) (hret : ∀ (pc : Nat) (lv : List (Nat × Value)) (Iy : HI) (Jy : HJ), decode cX5_pass pc = .ok (.return_, 1) → Post Iy Jy → kf_M g x 2 pc lv [] Iy Jy) (h : wj_X5_pass_13 I J  Post) : kf_M g x 2 13 [(0, .ref (g.2.2.2 36))] [] I J := by
  unfold wj_X5_pass_13 at h
  refine kf_aload_n hx dX5_pass_13 rfl 0 rfl ?_
  refine kf_callVv (st := []) hx (m_X5_advance g hg  I J _ h) lk_RX5_64 km_X5_advance ob_36 rfl (by decide) rfl (Nat.le_of_ble_eq_true rfl) dX5_pass_14 (fun I_1 J_2 h => ?_)
  exact hret _ _ _ _ dX5_pass_17 h
def w_X5_pass (x1 : Int32) (I : HI) (J : HJ) (Post : HI → HJ → Prop) : Prop :=
  ((I 36 7) = x1 → (wj_X5_pass_13 I J Post)) ∧ (¬ (I 36 7) = x1 → (w_X5_fail 2 I J (fun (I_3 : HI) => (wj_X5_pass_13 I_3 J Post))))
set_option maxHeartbeats 4000000 in
set_option maxRecDepth 20000 in
theorem we_X5_pass (g : kf_G) (hg : kf_g g) {x : kf_X} (hx : kf_ok g x RX5 cX5_pass 2 2 42) (x1 : Int32) (I : HI) (J : HJ) (Post : HI → HJ → Prop) (hret : ∀ (pc : Nat) (lv : List (Nat × Value)) (Iy : HI) (Jy : HJ), decode cX5_pass pc = .ok (.return_, 1) → Post Iy Jy → kf_M g x 2 pc lv [] Iy Jy) (h : w_X5_pass x1 I J Post) : kf_M g x 2 0 [(0, .ref (g.2.2.2 36)), (1, .int x1)] [] I J := by
  unfold w_X5_pass at h
  refine kf_aload_n hx dX5_pass_0 rfl 0 rfl ?_
  refine kf_getI hx sl_36_7 fl_RX5_71 dX5_pass_1 ?_
  refine kf_iload_n hx dX5_pass_4 rfl 1 rfl ?_
  refine kf_icmp_eq hx 13 dX5_pass_5 (by decide) (fun c => ?_) (fun c => ?_)
  · replace h := h.1 c
    refine kf_sub [0] rfl ?_
    exact wk_X5_pass_13 g hg hx I J  _ hret h
  · replace h := h.2 c
    refine kf_aload_n hx dX5_pass_8 rfl 0 rfl ?_
    refine kf_iconst (v := 2) hx dX5_pass_9 (by decide) ?_
    refine kf_callVvI (st := []) hx (m_X5_fail g hg 2 I J _ h) lk_RX5_83 km_X5_fail ob_36 rfl (by decide) rfl (Nat.le_of_ble_eq_true rfl) dX5_pass_10 (fun I_3 h => ?_)
    refine kf_sub [0] rfl ?_
    exact wk_X5_pass_13 g hg hx I_3 J  _ hret h
set_option maxHeartbeats 4000000 in
set_option maxRecDepth 20000 in
theorem m_X5_pass (g : kf_G) (hg : kf_g g) (x1 : Int32) (I : HI) (J : HJ) (Post : HI → HJ → Prop) (h : w_X5_pass x1 I J Post) : kf_Mv g yX5_pass (kf_W yX5_pass cX5_pass 2 (Option.none : Option Jvm.ClassFile.FieldType)) 2 42 [.ref (g.2.2.2 36), .int x1] I J Post :=
  kf_entv hg (by decide) (Nat.le_of_ble_eq_true rfl) rfl (fun x hx hr => we_X5_pass g hg hx x1 I J Post (fun pc lv I' J' hd hP => hr pc lv I' J' hd hP) h)
theorem dX5_knownPerson_0 : decode cX5_knownPerson 0 = .ok (.iconst (-1), 1) := by decide +kernel
theorem dX5_knownPerson_1 : decode cX5_knownPerson 1 = .ok (.istore_n 1, 1) := by decide +kernel
theorem dX5_knownPerson_2 : decode cX5_knownPerson 2 = .ok (.aload_n 0, 1) := by decide +kernel
theorem dX5_knownPerson_3 : decode cX5_knownPerson 3 = .ok (.getfield 71, 3) := by decide +kernel
theorem dX5_knownPerson_6 : decode cX5_knownPerson 6 = .ok (.iconst 5, 1) := by decide +kernel
theorem dX5_knownPerson_7 : decode cX5_knownPerson 7 = .ok (.if_icmp .eq 11, 3) := by decide +kernel
theorem dX5_knownPerson_10 : decode cX5_knownPerson 10 = .ok (.aload_n 0, 1) := by decide +kernel
theorem dX5_knownPerson_11 : decode cX5_knownPerson 11 = .ok (.iconst 2, 1) := by decide +kernel
theorem dX5_knownPerson_12 : decode cX5_knownPerson 12 = .ok (.invokevirtual 83, 3) := by decide +kernel
theorem dX5_knownPerson_15 : decode cX5_knownPerson 15 = .ok (.goto 8, 3) := by decide +kernel
theorem dX5_knownPerson_18 : decode cX5_knownPerson 18 = .ok (.aload_n 0, 1) := by decide +kernel
theorem dX5_knownPerson_19 : decode cX5_knownPerson 19 = .ok (.invokevirtual 93, 3) := by decide +kernel
theorem dX5_knownPerson_22 : decode cX5_knownPerson 22 = .ok (.istore_n 1, 1) := by decide +kernel
theorem dX5_knownPerson_23 : decode cX5_knownPerson 23 = .ok (.iload_n 1, 1) := by decide +kernel
theorem dX5_knownPerson_24 : decode cX5_knownPerson 24 = .ok (.iconst (-1), 1) := by decide +kernel
theorem dX5_knownPerson_25 : decode cX5_knownPerson 25 = .ok (.if_icmp .ne 8, 3) := by decide +kernel
theorem dX5_knownPerson_28 : decode cX5_knownPerson 28 = .ok (.aload_n 0, 1) := by decide +kernel
theorem dX5_knownPerson_29 : decode cX5_knownPerson 29 = .ok (.iconst 3, 1) := by decide +kernel
theorem dX5_knownPerson_30 : decode cX5_knownPerson 30 = .ok (.invokevirtual 83, 3) := by decide +kernel
theorem dX5_knownPerson_33 : decode cX5_knownPerson 33 = .ok (.iload_n 1, 1) := by decide +kernel
theorem dX5_knownPerson_34 : decode cX5_knownPerson 34 = .ok (.ireturn, 1) := by decide +kernel
def wj_X5_knownPerson_23 (I : HI) (J : HJ) (x1 : Int32) (Post : Int32 → HI → Prop) : Prop :=
  (¬ x1 = (-1) → (Post x1 I)) ∧ (x1 = (-1) → (w_X5_fail 3 I J (fun (I_2 : HI) => (Post x1 I_2))))
set_option maxHeartbeats 4000000 in
set_option maxRecDepth 20000 in
theorem wk_X5_knownPerson_23 (g : kf_G) (hg : kf_g g) {x : kf_X} (hx : kf_ok g x RX5 cX5_knownPerson 2 1 21) (I : HI) (J : HJ) (x1 : Int32) (Post : Int32 → HI → Prop) (hret : ∀ (pc : Nat) (lv : List (Nat × Value)) (v : Int32) (Iy : HI), decode cX5_knownPerson pc = .ok (.ireturn, 1) → Post v Iy → kf_M g x 2 pc lv [.int v] Iy J) (h : wj_X5_knownPerson_23 I J x1 Post) : kf_M g x 2 23 [(0, .ref (g.2.2.2 36)), (1, .int x1)] [] I J := by
  unfold wj_X5_knownPerson_23 at h
  refine kf_iload_n hx dX5_knownPerson_23 rfl 1 rfl ?_
  refine kf_iconst (v := (-1)) hx dX5_knownPerson_24 (by decide) ?_
  refine kf_icmp_ne hx 33 dX5_knownPerson_25 (by decide) (fun c => ?_) (fun c => ?_)
  · replace h := h.1 c
    refine kf_iload_n hx dX5_knownPerson_33 rfl 1 rfl ?_
    exact hret _ _ x1 _ dX5_knownPerson_34 h
  · replace h := h.2 c
    refine kf_aload_n hx dX5_knownPerson_28 rfl 0 rfl ?_
    refine kf_iconst (v := 3) hx dX5_knownPerson_29 (by decide) ?_
    refine kf_callVvI (st := []) hx (m_X5_fail g hg 3 I J _ h) lk_RX5_83 km_X5_fail ob_36 rfl (by decide) rfl (Nat.le_of_ble_eq_true rfl) dX5_knownPerson_30 (fun I_2 h => ?_)
    refine kf_iload_n hx dX5_knownPerson_33 rfl 1 rfl ?_
    exact hret _ _ x1 _ dX5_knownPerson_34 h
def w_X5_knownPerson  (I : HI) (J : HJ) (Post : Int32 → HI → Prop) : Prop :=
  ((I 36 7) = 5 → (w_X5_personNamed  I J (fun (r_1 : Int32) => (wj_X5_knownPerson_23 I J r_1 Post)))) ∧ (¬ (I 36 7) = 5 → (w_X5_fail 2 I J (fun (I_3 : HI) => (wj_X5_knownPerson_23 I_3 J (-1) Post))))
set_option maxHeartbeats 4000000 in
set_option maxRecDepth 20000 in
theorem we_X5_knownPerson (g : kf_G) (hg : kf_g g) {x : kf_X} (hx : kf_ok g x RX5 cX5_knownPerson 2 1 21)  (I : HI) (J : HJ) (Post : Int32 → HI → Prop) (hret : ∀ (pc : Nat) (lv : List (Nat × Value)) (v : Int32) (Iy : HI), decode cX5_knownPerson pc = .ok (.ireturn, 1) → Post v Iy → kf_M g x 2 pc lv [.int v] Iy J) (h : w_X5_knownPerson  I J Post) : kf_M g x 2 0 [(0, .ref (g.2.2.2 36))] [] I J := by
  unfold w_X5_knownPerson at h
  refine kf_iconst (v := (-1)) hx dX5_knownPerson_0 (by decide) ?_
  refine kf_istore_n (lv' := [(1, .int (-1)), (0, .ref (g.2.2.2 36))]) hx dX5_knownPerson_1 rfl (by decide) rfl ?_
  refine kf_aload_n hx dX5_knownPerson_2 rfl 1 rfl ?_
  refine kf_getI hx sl_36_7 fl_RX5_71 dX5_knownPerson_3 ?_
  refine kf_iconst (v := 5) hx dX5_knownPerson_6 (by decide) ?_
  refine kf_icmp_eq hx 18 dX5_knownPerson_7 (by decide) (fun c => ?_) (fun c => ?_)
  · replace h := h.1 c
    refine kf_aload_n hx dX5_knownPerson_18 rfl 1 rfl ?_
    refine kf_callViP (st := []) hx (m_X5_personNamed g hg  I J _ h) lk_RX5_93 km_X5_personNamed ob_36 rfl (by decide) rfl (Nat.le_of_ble_eq_true rfl) dX5_knownPerson_19 (fun r_1 h => ?_)
    refine kf_istore_n (lv' := [(1, .int r_1), (0, .ref (g.2.2.2 36))]) hx dX5_knownPerson_22 rfl (by decide) rfl ?_
    refine kf_sub [1, 0] rfl ?_
    exact wk_X5_knownPerson_23 g hg hx I J r_1 _ hret h
  · replace h := h.2 c
    refine kf_aload_n hx dX5_knownPerson_10 rfl 1 rfl ?_
    refine kf_iconst (v := 2) hx dX5_knownPerson_11 (by decide) ?_
    refine kf_callVvI (st := []) hx (m_X5_fail g hg 2 I J _ h) lk_RX5_83 km_X5_fail ob_36 rfl (by decide) rfl (Nat.le_of_ble_eq_true rfl) dX5_knownPerson_12 (fun I_3 h => ?_)
    refine kf_goto hx 23 dX5_knownPerson_15 (by decide) ?_
    refine kf_sub [1, 0] rfl ?_
    exact wk_X5_knownPerson_23 g hg hx I_3 J (-1) _ hret h
set_option maxHeartbeats 4000000 in
set_option maxRecDepth 20000 in
theorem m_X5_knownPerson (g : kf_G) (hg : kf_g g)  (I : HI) (J : HJ) (Post : Int32 → HI → Prop) (h : w_X5_knownPerson  I J Post) : kf_Mi g yX5_knownPerson (kf_W yX5_knownPerson cX5_knownPerson 2 (Option.some Jvm.ClassFile.FieldType.int)) 1 21 [.ref (g.2.2.2 36)] I J (fun v I' J' => Post v I' ∧ J' = J) :=
  kf_enti hg (by decide) (Nat.le_of_ble_eq_true rfl) rfl (fun x hx hr => we_X5_knownPerson g hg hx  I J Post (fun pc lv v I' hd hP => hr pc lv v I' J hd ⟨hP, rfl⟩) h)
theorem dX5_readSpeeds_0 : decode cX5_readSpeeds 0 = .ok (.iconst 1, 1) := by decide +kernel
theorem dX5_readSpeeds_1 : decode cX5_readSpeeds 1 = .ok (.istore 4, 2) := by decide +kernel
theorem dX5_readSpeeds_3 : decode cX5_readSpeeds 3 = .ok (.iconst 0, 1) := by decide +kernel
theorem dX5_readSpeeds_4 : decode cX5_readSpeeds 4 = .ok (.istore 5, 2) := by decide +kernel
theorem dX5_readSpeeds_6 : decode cX5_readSpeeds 6 = .ok (.iconst 0, 1) := by decide +kernel
theorem dX5_readSpeeds_7 : decode cX5_readSpeeds 7 = .ok (.istore 6, 2) := by decide +kernel
theorem dX5_readSpeeds_9 : decode cX5_readSpeeds 9 = .ok (.iconst 0, 1) := by decide +kernel
theorem dX5_readSpeeds_10 : decode cX5_readSpeeds 10 = .ok (.istore 7, 2) := by decide +kernel
theorem dX5_readSpeeds_12 : decode cX5_readSpeeds 12 = .ok (.iload 7, 2) := by decide +kernel
theorem dX5_readSpeeds_14 : decode cX5_readSpeeds 14 = .ok (.sipush 600, 3) := by decide +kernel
theorem dX5_readSpeeds_17 : decode cX5_readSpeeds 17 = .ok (.if_icmp .ge 98, 3) := by decide +kernel
theorem dX5_readSpeeds_20 : decode cX5_readSpeeds 20 = .ok (.aload_n 0, 1) := by decide +kernel
theorem dX5_readSpeeds_21 : decode cX5_readSpeeds 21 = .ok (.invokevirtual 67, 3) := by decide +kernel
theorem dX5_readSpeeds_24 : decode cX5_readSpeeds 24 = .ok (.ifCond .eq 91, 3) := by decide +kernel
theorem dX5_readSpeeds_27 : decode cX5_readSpeeds 27 = .ok (.aload_n 0, 1) := by decide +kernel
theorem dX5_readSpeeds_28 : decode cX5_readSpeeds 28 = .ok (.getfield 71, 3) := by decide +kernel
theorem dX5_readSpeeds_31 : decode cX5_readSpeeds 31 = .ok (.bipush 17, 2) := by decide +kernel
theorem dX5_readSpeeds_33 : decode cX5_readSpeeds 33 = .ok (.bipush 18, 2) := by decide +kernel
theorem dX5_readSpeeds_35 : decode cX5_readSpeeds 35 = .ok (.invokestatic 106, 3) := by decide +kernel
theorem dX5_readSpeeds_38 : decode cX5_readSpeeds 38 = .ok (.ifCond .eq 77, 3) := by decide +kernel
theorem dX5_readSpeeds_41 : decode cX5_readSpeeds 41 = .ok (.aload_n 0, 1) := by decide +kernel
theorem dX5_readSpeeds_42 : decode cX5_readSpeeds 42 = .ok (.iload 6, 2) := by decide +kernel
theorem dX5_readSpeeds_44 : decode cX5_readSpeeds 44 = .ok (.invokevirtual 110, 3) := by decide +kernel
theorem dX5_readSpeeds_47 : decode cX5_readSpeeds 47 = .ok (.istore 6, 2) := by decide +kernel
theorem dX5_readSpeeds_49 : decode cX5_readSpeeds 49 = .ok (.aload_n 0, 1) := by decide +kernel
theorem dX5_readSpeeds_50 : decode cX5_readSpeeds 50 = .ok (.getfield 71, 3) := by decide +kernel
theorem dX5_readSpeeds_53 : decode cX5_readSpeeds 53 = .ok (.bipush 17, 2) := by decide +kernel
theorem dX5_readSpeeds_55 : decode cX5_readSpeeds 55 = .ok (.if_icmp .ne 18, 3) := by decide +kernel
theorem dX5_readSpeeds_58 : decode cX5_readSpeeds 58 = .ok (.aload_n 0, 1) := by decide +kernel
theorem dX5_readSpeeds_59 : decode cX5_readSpeeds 59 = .ok (.invokevirtual 64, 3) := by decide +kernel
theorem dX5_readSpeeds_62 : decode cX5_readSpeeds 62 = .ok (.aload_n 0, 1) := by decide +kernel
theorem dX5_readSpeeds_63 : decode cX5_readSpeeds 63 = .ok (.iconst 1, 1) := by decide +kernel
theorem dX5_readSpeeds_64 : decode cX5_readSpeeds 64 = .ok (.iconst 5, 1) := by decide +kernel
theorem dX5_readSpeeds_65 : decode cX5_readSpeeds 65 = .ok (.invokevirtual 122, 3) := by decide +kernel
theorem dX5_readSpeeds_68 : decode cX5_readSpeeds 68 = .ok (.istore 4, 2) := by decide +kernel
theorem dX5_readSpeeds_70 : decode cX5_readSpeeds 70 = .ok (.goto 39, 3) := by decide +kernel
theorem dX5_readSpeeds_73 : decode cX5_readSpeeds 73 = .ok (.iconst 1, 1) := by decide +kernel
theorem dX5_readSpeeds_74 : decode cX5_readSpeeds 74 = .ok (.istore 5, 2) := by decide +kernel
theorem dX5_readSpeeds_76 : decode cX5_readSpeeds 76 = .ok (.aload_n 0, 1) := by decide +kernel
theorem dX5_readSpeeds_77 : decode cX5_readSpeeds 77 = .ok (.getfield 22, 3) := by decide +kernel
theorem dX5_readSpeeds_80 : decode cX5_readSpeeds 80 = .ok (.iconst 2, 1) := by decide +kernel
theorem dX5_readSpeeds_81 : decode cX5_readSpeeds 81 = .ok (.invokevirtual 137, 3) := by decide +kernel
theorem dX5_readSpeeds_84 : decode cX5_readSpeeds 84 = .ok (.ifCond .eq 15, 3) := by decide +kernel
theorem dX5_readSpeeds_87 : decode cX5_readSpeeds 87 = .ok (.aload_n 0, 1) := by decide +kernel
theorem dX5_readSpeeds_88 : decode cX5_readSpeeds 88 = .ok (.getfield 22, 3) := by decide +kernel
theorem dX5_readSpeeds_91 : decode cX5_readSpeeds 91 = .ok (.iload_n 2, 1) := by decide +kernel
theorem dX5_readSpeeds_92 : decode cX5_readSpeeds 92 = .ok (.iload_n 1, 1) := by decide +kernel
theorem dX5_readSpeeds_93 : decode cX5_readSpeeds 93 = .ok (.invokevirtual 144, 3) := by decide +kernel
theorem dX5_readSpeeds_96 : decode cX5_readSpeeds 96 = .ok (.ifCond .eq 9, 3) := by decide +kernel
theorem dX5_readSpeeds_99 : decode cX5_readSpeeds 99 = .ok (.aload_n 0, 1) := by decide +kernel
theorem dX5_readSpeeds_100 : decode cX5_readSpeeds 100 = .ok (.bipush 6, 2) := by decide +kernel
theorem dX5_readSpeeds_102 : decode cX5_readSpeeds 102 = .ok (.invokevirtual 83, 3) := by decide +kernel
theorem dX5_readSpeeds_105 : decode cX5_readSpeeds 105 = .ok (.aload_n 0, 1) := by decide +kernel
theorem dX5_readSpeeds_106 : decode cX5_readSpeeds 106 = .ok (.invokevirtual 64, 3) := by decide +kernel
theorem dX5_readSpeeds_109 : decode cX5_readSpeeds 109 = .ok (.iinc 7 1, 3) := by decide +kernel
theorem dX5_readSpeeds_112 : decode cX5_readSpeeds 112 = .ok (.goto (-100), 3) := by decide +kernel
theorem dX5_readSpeeds_115 : decode cX5_readSpeeds 115 = .ok (.aload_n 0, 1) := by decide +kernel
theorem dX5_readSpeeds_116 : decode cX5_readSpeeds 116 = .ok (.invokevirtual 67, 3) := by decide +kernel
theorem dX5_readSpeeds_119 : decode cX5_readSpeeds 119 = .ok (.ifCond .eq 15, 3) := by decide +kernel
theorem dX5_readSpeeds_122 : decode cX5_readSpeeds 122 = .ok (.aload_n 0, 1) := by decide +kernel
theorem dX5_readSpeeds_123 : decode cX5_readSpeeds 123 = .ok (.getfield 22, 3) := by decide +kernel
theorem dX5_readSpeeds_126 : decode cX5_readSpeeds 126 = .ok (.iload_n 1, 1) := by decide +kernel
theorem dX5_readSpeeds_127 : decode cX5_readSpeeds 127 = .ok (.iload_n 2, 1) := by decide +kernel
theorem dX5_readSpeeds_128 : decode cX5_readSpeeds 128 = .ok (.iload_n 3, 1) := by decide +kernel
theorem dX5_readSpeeds_129 : decode cX5_readSpeeds 129 = .ok (.iload 4, 2) := by decide +kernel
theorem dX5_readSpeeds_131 : decode cX5_readSpeeds 131 = .ok (.invokevirtual 152, 3) := by decide +kernel
theorem dX5_readSpeeds_134 : decode cX5_readSpeeds 134 = .ok (.aload_n 0, 1) := by decide +kernel
theorem dX5_readSpeeds_135 : decode cX5_readSpeeds 135 = .ok (.invokevirtual 67, 3) := by decide +kernel
theorem dX5_readSpeeds_138 : decode cX5_readSpeeds 138 = .ok (.ifCond .eq 20, 3) := by decide +kernel
theorem dX5_readSpeeds_141 : decode cX5_readSpeeds 141 = .ok (.iload 5, 2) := by decide +kernel
theorem dX5_readSpeeds_143 : decode cX5_readSpeeds 143 = .ok (.ifCond .eq 15, 3) := by decide +kernel
theorem dX5_readSpeeds_146 : decode cX5_readSpeeds 146 = .ok (.aload_n 0, 1) := by decide +kernel
theorem dX5_readSpeeds_147 : decode cX5_readSpeeds 147 = .ok (.getfield 22, 3) := by decide +kernel
theorem dX5_readSpeeds_150 : decode cX5_readSpeeds 150 = .ok (.iload_n 2, 1) := by decide +kernel
theorem dX5_readSpeeds_151 : decode cX5_readSpeeds 151 = .ok (.iload_n 1, 1) := by decide +kernel
theorem dX5_readSpeeds_152 : decode cX5_readSpeeds 152 = .ok (.iload_n 3, 1) := by decide +kernel
theorem dX5_readSpeeds_153 : decode cX5_readSpeeds 153 = .ok (.iload 4, 2) := by decide +kernel
theorem dX5_readSpeeds_155 : decode cX5_readSpeeds 155 = .ok (.invokevirtual 152, 3) := by decide +kernel
theorem dX5_readSpeeds_158 : decode cX5_readSpeeds 158 = .ok (.return_, 1) := by decide +kernel
def wj_X5_readSpeeds_105 (I : HI) (J : HJ) (x1 : Int32) (x2 : Int32) (x3 : Int32) (x4 : Int32) (x5 : Int32) (x6 : Int32) (x7 : Int32) (E12 : Int32 → Int32 → HI → HJ → Prop) (K12 : Int32 × Int32 × Int32 × Int32 × HI × HJ → Prop) (Post : HI → HJ → Prop) : Prop :=
  w_X5_advance  I J (fun (I_7 : HI) (J_8 : HJ) => (K12 (x4, x5, x6, (x7 + 1), I_7, J_8)))
set_option maxHeartbeats 4000000 in
set_option maxRecDepth 20000 in
theorem wk_X5_readSpeeds_105 (g : kf_G) (hg : kf_g g) {x : kf_X} (hx : kf_ok g x RX5 cX5_readSpeeds 8 3 67) (I : HI) (J : HJ) (x1 : Int32) (x2 : Int32) (x3 : Int32) (x4 : Int32) (x5 : Int32) (x6 : Int32) (x7 : Int32) (E12 : Int32 → Int32 → HI → HJ → Prop) (K12 : Int32 × Int32 × Int32 × Int32 × HI × HJ → Prop) (hE12 : ∀ (y4 : Int32) (y5 : Int32) (Iy : HI) (Jy : HJ), E12 y4 y5 Iy Jy → kf_M g x 8 115 [(0, .ref (g.2.2.2 36)), (1, .int x1), (2, .int x2), (3, .int x3), (4, .int y4), (5, .int y5)] [] Iy Jy) (hK12 : ∀ (y4 : Int32) (y5 : Int32) (y6 : Int32) (y7 : Int32) (Iy : HI) (Jy : HJ), K12 (y4, y5, y6, y7, Iy, Jy) → kf_M g x 8 12 [(0, .ref (g.2.2.2 36)), (1, .int x1), (2, .int x2), (3, .int x3), (4, .int y4), (5, .int y5), (6, .int y6), (7, .int y7)] [] Iy Jy) (Post : HI → HJ → Prop) (hret : ∀ (pc : Nat) (lv : List (Nat × Value)) (Iy : HI) (Jy : HJ), decode cX5_readSpeeds pc = .ok (.return_, 1) → Post Iy Jy → kf_M g x 8 pc lv [] Iy Jy) (h : wj_X5_readSpeeds_105 I J x1 x2 x3 x4 x5 x6 x7 E12 K12 Post) : kf_M g x 8 105 [(0, .ref (g.2.2.2 36)), (1, .int x1), (2, .int x2), (3, .int x3), (4, .int x4), (5, .int x5), (6, .int x6), (7, .int x7)] [] I J := by
  unfold wj_X5_readSpeeds_105 at h
  refine kf_aload_n hx dX5_readSpeeds_105 rfl 0 rfl ?_
  refine kf_callVv (st := []) hx (m_X5_advance g hg  I J _ h) lk_RX5_64 km_X5_advance ob_36 rfl (by decide) rfl (Nat.le_of_ble_eq_true rfl) dX5_readSpeeds_106 (fun I_7 J_8 h => ?_)
  refine kf_iinc (w := (x7 + 1)) (lv' := [(7, .int (x7 + 1)), (0, .ref (g.2.2.2 36)), (1, .int x1), (2, .int x2), (3, .int x3), (4, .int x4), (5, .int x5), (6, .int x6)]) hx dX5_readSpeeds_109 7 rfl rfl (by decide) rfl ?_
  refine kf_goto hx 12 dX5_readSpeeds_112 (by decide) ?_
  refine kf_sub [1, 2, 3, 4, 5, 6, 7, 0] rfl ?_
  exact hK12 _ _ _ _ _ _ h
def wj_X5_readSpeeds_99 (I : HI) (J : HJ) (x1 : Int32) (x2 : Int32) (x3 : Int32) (x4 : Int32) (x5 : Int32) (x6 : Int32) (x7 : Int32) (E12 : Int32 → Int32 → HI → HJ → Prop) (K12 : Int32 × Int32 × Int32 × Int32 × HI × HJ → Prop) (Post : HI → HJ → Prop) : Prop :=
  w_X5_fail 6 I J (fun (I_6 : HI) => (wj_X5_readSpeeds_105 I_6 J x1 x2 x3 x4 x5 x6 x7 E12 K12 Post))
set_option maxHeartbeats 4000000 in
set_option maxRecDepth 20000 in
theorem wk_X5_readSpeeds_99 (g : kf_G) (hg : kf_g g) {x : kf_X} (hx : kf_ok g x RX5 cX5_readSpeeds 8 3 67) (I : HI) (J : HJ) (x1 : Int32) (x2 : Int32) (x3 : Int32) (x4 : Int32) (x5 : Int32) (x6 : Int32) (x7 : Int32) (E12 : Int32 → Int32 → HI → HJ → Prop) (K12 : Int32 × Int32 × Int32 × Int32 × HI × HJ → Prop) (hE12 : ∀ (y4 : Int32) (y5 : Int32) (Iy : HI) (Jy : HJ), E12 y4 y5 Iy Jy → kf_M g x 8 115 [(0, .ref (g.2.2.2 36)), (1, .int x1), (2, .int x2), (3, .int x3), (4, .int y4), (5, .int y5)] [] Iy Jy) (hK12 : ∀ (y4 : Int32) (y5 : Int32) (y6 : Int32) (y7 : Int32) (Iy : HI) (Jy : HJ), K12 (y4, y5, y6, y7, Iy, Jy) → kf_M g x 8 12 [(0, .ref (g.2.2.2 36)), (1, .int x1), (2, .int x2), (3, .int x3), (4, .int y4), (5, .int y5), (6, .int y6), (7, .int y7)] [] Iy Jy) (Post : HI → HJ → Prop) (hret : ∀ (pc : Nat) (lv : List (Nat × Value)) (Iy : HI) (Jy : HJ), decode cX5_readSpeeds pc = .ok (.return_, 1) → Post Iy Jy → kf_M g x 8 pc lv [] Iy Jy) (h : wj_X5_readSpeeds_99 I J x1 x2 x3 x4 x5 x6 x7 E12 K12 Post) : kf_M g x 8 99 [(0, .ref (g.2.2.2 36)), (1, .int x1), (2, .int x2), (3, .int x3), (4, .int x4), (5, .int x5), (6, .int x6), (7, .int x7)] [] I J := by
  unfold wj_X5_readSpeeds_99 at h
  refine kf_aload_n hx dX5_readSpeeds_99 rfl 0 rfl ?_
  refine kf_bipush (v := 6) hx dX5_readSpeeds_100 (by decide) ?_
  refine kf_callVvI (st := []) hx (m_X5_fail g hg 6 I J _ h) lk_RX5_83 km_X5_fail ob_36 rfl (by decide) rfl (Nat.le_of_ble_eq_true rfl) dX5_readSpeeds_102 (fun I_6 h => ?_)
  exact wk_X5_readSpeeds_105 g hg hx I_6 J x1 x2 x3 x4 x5 x6 x7 _ _ hE12 hK12 _ hret h
def wb_X5_readSpeeds_12 (x1 : Int32) (x2 : Int32) (x3 : Int32) (Post : HI → HJ → Prop) (E12 : Int32 → Int32 → HI → HJ → Prop) (K12 : (Int32 × Int32 × Int32 × Int32 × HI × HJ) → Prop) (s : Int32 × Int32 × Int32 × Int32 × HI × HJ) : Prop :=
  match s with
  | (x4, x5, x6, x7, I, J) => (600 ≤ x7 → (E12 x4 x5 I J)) ∧ (¬ 600 ≤ x7 → (w_X5_goesOn  I J (fun (r_1 : Bool) => ((r_1 = false → (E12 x4 x5 I J)) ∧ (r_1 = true → (w_X10_isBetween (I 36 7) 17 18 (fun (r_2 : Bool) => ((r_2 = false → (E12 x4 x5 I J)) ∧ (r_2 = true → (w_X5_passOnce x6 I J (fun (r_3 : Int32) (I_4 : HI) => ((¬ (I_4 36 7) = 17 → (w_X4_hasRoomForTies 2 I_4 J (fun (r_5 : Bool) => ((r_5 = false → (wj_X5_readSpeeds_99 I_4 J x1 x2 x3 x4 1 r_3 x7 E12 K12 Post)) ∧ (r_5 = true → (w_X4_hasTie x2 x1 I_4 J (fun (r_9 : Bool) => ((r_9 = false → (wj_X5_readSpeeds_105 I_4 J x1 x2 x3 x4 1 r_3 x7 E12 K12 Post)) ∧ (r_9 = true → (wj_X5_readSpeeds_99 I_4 J x1 x2 x3 x4 1 r_3 x7 E12 K12 Post)))))))))) ∧ ((I_4 36 7) = 17 → (w_X5_advance  I_4 J (fun (I_10 : HI) (J_11 : HJ) => (w_X5_passNumber 1 5 I_10 J_11 (fun (r_12 : Int32) (I_13 : HI) (J_14 : HJ) => (K12 (r_12, x5, r_3, (x7 + 1), I_13, J_14)))))))))))))))))))
set_option maxHeartbeats 4000000 in
set_option maxRecDepth 20000 in
theorem ws_X5_readSpeeds_12 (g : kf_G) (hg : kf_g g) {x : kf_X} (hx : kf_ok g x RX5 cX5_readSpeeds 8 3 67) (x1 : Int32) (x2 : Int32) (x3 : Int32) (Post : HI → HJ → Prop) (hret : ∀ (pc : Nat) (lv : List (Nat × Value)) (Iy : HI) (Jy : HJ), decode cX5_readSpeeds pc = .ok (.return_, 1) → Post Iy Jy → kf_M g x 8 pc lv [] Iy Jy) (E12 : Int32 → Int32 → HI → HJ → Prop) (hE12 : ∀ (y4 : Int32) (y5 : Int32) (Iy : HI) (Jy : HJ), E12 y4 y5 Iy Jy → kf_M g x 8 115 [(0, .ref (g.2.2.2 36)), (1, .int x1), (2, .int x2), (3, .int x3), (4, .int y4), (5, .int y5)] [] Iy Jy) (K12 : (Int32 × Int32 × Int32 × Int32 × HI × HJ) → Prop) (hK12 : ∀ (y4 : Int32) (y5 : Int32) (y6 : Int32) (y7 : Int32) (Iy : HI) (Jy : HJ), K12 (y4, y5, y6, y7, Iy, Jy) → kf_M g x 8 12 [(0, .ref (g.2.2.2 36)), (1, .int x1), (2, .int x2), (3, .int x3), (4, .int y4), (5, .int y5), (6, .int y6), (7, .int y7)] [] Iy Jy) (x4 : Int32) (x5 : Int32) (x6 : Int32) (x7 : Int32) (I : HI) (J : HJ) (h : wb_X5_readSpeeds_12 x1 x2 x3 Post E12 K12 (x4, x5, x6, x7, I, J)) : kf_M g x 8 12 [(0, .ref (g.2.2.2 36)), (1, .int x1), (2, .int x2), (3, .int x3), (4, .int x4), (5, .int x5), (6, .int x6), (7, .int x7)] [] I J := by
  unfold wb_X5_readSpeeds_12 at h
  refine kf_iload hx dX5_readSpeeds_12 7 rfl ?_
  refine kf_sipush (v := 600) hx dX5_readSpeeds_14 (by decide) ?_
  refine kf_icmp_ge hx 115 dX5_readSpeeds_17 (by decide) (fun c => ?_) (fun c => ?_)
  · replace h := h.1 c
    refine kf_sub [0, 1, 2, 3, 4, 5] rfl ?_
    exact hE12 _ _ _ _ h
  · replace h := h.2 c
    refine kf_aload_n hx dX5_readSpeeds_20 rfl 0 rfl ?_
    refine kf_callVbP (st := []) hx (m_X5_goesOn g hg  I J _ h) lk_RX5_67 km_X5_goesOn ob_36 rfl (by decide) rfl (Nat.le_of_ble_eq_true rfl) dX5_readSpeeds_21 (fun r_1 h => ?_)
    refine kf_ifB_eq hx 115 dX5_readSpeeds_24 (by decide) (fun c => ?_) (fun c => ?_)
    · replace h := h.1 c
      refine kf_sub [0, 1, 2, 3, 4, 5] rfl ?_
      exact hE12 _ _ _ _ h
    · replace h := h.2 c
      refine kf_aload_n hx dX5_readSpeeds_27 rfl 0 rfl ?_
      refine kf_getI hx sl_36_7 fl_RX5_71 dX5_readSpeeds_28 ?_
      refine kf_bipush (v := 17) hx dX5_readSpeeds_31 (by decide) ?_
      refine kf_bipush (v := 18) hx dX5_readSpeeds_33 (by decide) ?_
      refine kf_callSbP (st := []) hx (m_X10_isBetween g hg (I 36 7) 17 18 I J _ h) lk_RX5_106 km_X10_isBetween rfl (by decide) rfl (Nat.le_of_ble_eq_true rfl) dX5_readSpeeds_35 (fun r_2 h => ?_)
      refine kf_ifB_eq hx 115 dX5_readSpeeds_38 (by decide) (fun c => ?_) (fun c => ?_)
      · replace h := h.1 c
        refine kf_sub [0, 1, 2, 3, 4, 5] rfl ?_
        exact hE12 _ _ _ _ h
      · replace h := h.2 c
        refine kf_aload_n hx dX5_readSpeeds_41 rfl 0 rfl ?_
        refine kf_iload hx dX5_readSpeeds_42 6 rfl ?_
        refine kf_callViI (st := []) hx (m_X5_passOnce g hg x6 I J _ h) lk_RX5_110 km_X5_passOnce ob_36 rfl (by decide) rfl (Nat.le_of_ble_eq_true rfl) dX5_readSpeeds_44 (fun r_3 I_4 h => ?_)
        refine kf_istore (lv' := [(6, .int r_3), (0, .ref (g.2.2.2 36)), (1, .int x1), (2, .int x2), (3, .int x3), (4, .int x4), (5, .int x5), (7, .int x7)]) hx dX5_readSpeeds_47 (by decide) rfl ?_
        refine kf_aload_n hx dX5_readSpeeds_49 rfl 1 rfl ?_
        refine kf_getI hx sl_36_7 fl_RX5_71 dX5_readSpeeds_50 ?_
        refine kf_bipush (v := 17) hx dX5_readSpeeds_53 (by decide) ?_
        refine kf_icmp_ne hx 73 dX5_readSpeeds_55 (by decide) (fun c => ?_) (fun c => ?_)
        · replace h := h.1 c
          refine kf_iconst (v := 1) hx dX5_readSpeeds_73 (by decide) ?_
          refine kf_istore (lv' := [(5, .int 1), (6, .int r_3), (0, .ref (g.2.2.2 36)), (1, .int x1), (2, .int x2), (3, .int x3), (4, .int x4), (7, .int x7)]) hx dX5_readSpeeds_74 (by decide) rfl ?_
          refine kf_aload_n hx dX5_readSpeeds_76 rfl 2 rfl ?_
          refine kf_getR (n := 24) hx sl_36_3 fl_RX5_22 dX5_readSpeeds_77 ?_
          refine kf_iconst (v := 2) hx dX5_readSpeeds_80 (by decide) ?_
          refine kf_callVbP (st := []) hx (m_X4_hasRoomForTies g hg 2 I_4 J _ h) lk_RX5_137 km_X4_hasRoomForTies ob_24 rfl (by decide) rfl (Nat.le_of_ble_eq_true rfl) dX5_readSpeeds_81 (fun r_5 h => ?_)
          refine kf_ifB_eq hx 99 dX5_readSpeeds_84 (by decide) (fun c => ?_) (fun c => ?_)
          · replace h := h.1 c
            refine kf_sub [2, 3, 4, 5, 6, 0, 1, 7] rfl ?_
            exact wk_X5_readSpeeds_99 g hg hx I_4 J x1 x2 x3 x4 1 r_3 x7 _ _ hE12 hK12 _ hret h
          · replace h := h.2 c
            refine kf_aload_n hx dX5_readSpeeds_87 rfl 2 rfl ?_
            refine kf_getR (n := 24) hx sl_36_3 fl_RX5_22 dX5_readSpeeds_88 ?_
            refine kf_iload_n hx dX5_readSpeeds_91 rfl 4 rfl ?_
            refine kf_iload_n hx dX5_readSpeeds_92 rfl 3 rfl ?_
            refine kf_callVbP (st := []) hx (m_X4_hasTie g hg x2 x1 I_4 J _ h) lk_RX5_144 km_X4_hasTie ob_24 rfl (by decide) rfl (Nat.le_of_ble_eq_true rfl) dX5_readSpeeds_93 (fun r_9 h => ?_)
            refine kf_ifB_eq hx 105 dX5_readSpeeds_96 (by decide) (fun c => ?_) (fun c => ?_)
            · replace h := h.1 c
              refine kf_sub [2, 3, 4, 5, 6, 0, 1, 7] rfl ?_
              exact wk_X5_readSpeeds_105 g hg hx I_4 J x1 x2 x3 x4 1 r_3 x7 _ _ hE12 hK12 _ hret h
            · replace h := h.2 c
              refine kf_sub [2, 3, 4, 5, 6, 0, 1, 7] rfl ?_
              exact wk_X5_readSpeeds_99 g hg hx I_4 J x1 x2 x3 x4 1 r_3 x7 _ _ hE12 hK12 _ hret h
        · replace h := h.2 c
          refine kf_aload_n hx dX5_readSpeeds_58 rfl 1 rfl ?_
          refine kf_callVv (st := []) hx (m_X5_advance g hg  I_4 J _ h) lk_RX5_64 km_X5_advance ob_36 rfl (by decide) rfl (Nat.le_of_ble_eq_true rfl) dX5_readSpeeds_59 (fun I_10 J_11 h => ?_)
          refine kf_aload_n hx dX5_readSpeeds_62 rfl 1 rfl ?_
          refine kf_iconst (v := 1) hx dX5_readSpeeds_63 (by decide) ?_
          refine kf_iconst (v := 5) hx dX5_readSpeeds_64 (by decide) ?_
          refine kf_callVi (st := []) hx (m_X5_passNumber g hg 1 5 I_10 J_11 _ h) lk_RX5_122 km_X5_passNumber ob_36 rfl (by decide) rfl (Nat.le_of_ble_eq_true rfl) dX5_readSpeeds_65 (fun r_12 I_13 J_14 h => ?_)
          refine kf_istore (lv' := [(4, .int r_12), (6, .int r_3), (0, .ref (g.2.2.2 36)), (1, .int x1), (2, .int x2), (3, .int x3), (5, .int x5), (7, .int x7)]) hx dX5_readSpeeds_68 (by decide) rfl ?_
          refine kf_goto hx 109 dX5_readSpeeds_70 (by decide) ?_
          refine kf_iinc (w := (x7 + 1)) (lv' := [(7, .int (x7 + 1)), (4, .int r_12), (6, .int r_3), (0, .ref (g.2.2.2 36)), (1, .int x1), (2, .int x2), (3, .int x3), (5, .int x5)]) hx dX5_readSpeeds_109 7 rfl rfl (by decide) rfl ?_
          refine kf_goto hx 12 dX5_readSpeeds_112 (by decide) ?_
          refine kf_sub [3, 4, 5, 6, 1, 7, 2, 0] rfl ?_
          exact hK12 _ _ _ _ _ _ h
theorem wl_X5_readSpeeds_12 (g : kf_G) (hg : kf_g g) {x : kf_X} (hx : kf_ok g x RX5 cX5_readSpeeds 8 3 67) (x1 : Int32) (x2 : Int32) (x3 : Int32) (Post : HI → HJ → Prop) (hret : ∀ (pc : Nat) (lv : List (Nat × Value)) (Iy : HI) (Jy : HJ), decode cX5_readSpeeds pc = .ok (.return_, 1) → Post Iy Jy → kf_M g x 8 pc lv [] Iy Jy) (E12 : Int32 → Int32 → HI → HJ → Prop) (hE12 : ∀ (y4 : Int32) (y5 : Int32) (Iy : HI) (Jy : HJ), E12 y4 y5 Iy Jy → kf_M g x 8 115 [(0, .ref (g.2.2.2 36)), (1, .int x1), (2, .int x2), (3, .int x3), (4, .int y4), (5, .int y5)] [] Iy Jy) : ∀ (n : Nat) (x4 : Int32) (x5 : Int32) (x6 : Int32) (x7 : Int32) (I : HI) (J : HJ), lp (wb_X5_readSpeeds_12 x1 x2 x3 Post E12) n (x4, x5, x6, x7, I, J) → kf_M g x 8 12 [(0, .ref (g.2.2.2 36)), (1, .int x1), (2, .int x2), (3, .int x3), (4, .int x4), (5, .int x5), (6, .int x6), (7, .int x7)] [] I J := by
  intro n
  induction n with
  | zero => intro x4 x5 x6 x7 I J h; exact h.elim
  | succ n ih => intro x4 x5 x6 x7 I J h; exact ws_X5_readSpeeds_12 g hg hx x1 x2 x3 Post hret E12 hE12 (lp (wb_X5_readSpeeds_12 x1 x2 x3 Post E12) n) ih x4 x5 x6 x7 I J h
def wj_X5_readSpeeds_134 (I : HI) (J : HJ) (x1 : Int32) (x2 : Int32) (x3 : Int32) (x4 : Int32) (x5 : Int32) (Post : HI → HJ → Prop) : Prop :=
  w_X5_goesOn  I J (fun (r_20 : Bool) => ((r_20 = false → (Post I J)) ∧ (r_20 = true → ((x5 = 0 → (Post I J)) ∧ (¬ x5 = 0 → (w_X4_addTie x2 x1 x3 x4 I J (fun (I_21 : HI) => (Post I_21 J))))))))
set_option maxHeartbeats 4000000 in
set_option maxRecDepth 20000 in
theorem wk_X5_readSpeeds_134 (g : kf_G) (hg : kf_g g) {x : kf_X} (hx : kf_ok g x RX5 cX5_readSpeeds 8 3 67) (I : HI) (J : HJ) (x1 : Int32) (x2 : Int32) (x3 : Int32) (x4 : Int32) (x5 : Int32) (Post : HI → HJ → Prop) (hret : ∀ (pc : Nat) (lv : List (Nat × Value)) (Iy : HI) (Jy : HJ), decode cX5_readSpeeds pc = .ok (.return_, 1) → Post Iy Jy → kf_M g x 8 pc lv [] Iy Jy) (h : wj_X5_readSpeeds_134 I J x1 x2 x3 x4 x5 Post) : kf_M g x 8 134 [(0, .ref (g.2.2.2 36)), (1, .int x1), (2, .int x2), (3, .int x3), (4, .int x4), (5, .int x5)] [] I J := by
  unfold wj_X5_readSpeeds_134 at h
  refine kf_aload_n hx dX5_readSpeeds_134 rfl 0 rfl ?_
  refine kf_callVbP (st := []) hx (m_X5_goesOn g hg  I J _ h) lk_RX5_67 km_X5_goesOn ob_36 rfl (by decide) rfl (Nat.le_of_ble_eq_true rfl) dX5_readSpeeds_135 (fun r_20 h => ?_)
  refine kf_ifB_eq hx 158 dX5_readSpeeds_138 (by decide) (fun c => ?_) (fun c => ?_)
  · replace h := h.1 c
    exact hret _ _ _ _ dX5_readSpeeds_158 h
  · replace h := h.2 c
    refine kf_iload hx dX5_readSpeeds_141 5 rfl ?_
    refine kf_if_eq hx 158 dX5_readSpeeds_143 (by decide) (fun c => ?_) (fun c => ?_)
    · replace h := h.1 c
      exact hret _ _ _ _ dX5_readSpeeds_158 h
    · replace h := h.2 c
      refine kf_aload_n hx dX5_readSpeeds_146 rfl 0 rfl ?_
      refine kf_getR (n := 24) hx sl_36_3 fl_RX5_22 dX5_readSpeeds_147 ?_
      refine kf_iload_n hx dX5_readSpeeds_150 rfl 2 rfl ?_
      refine kf_iload_n hx dX5_readSpeeds_151 rfl 1 rfl ?_
      refine kf_iload_n hx dX5_readSpeeds_152 rfl 3 rfl ?_
      refine kf_iload hx dX5_readSpeeds_153 4 rfl ?_
      refine kf_callVvI (st := []) hx (m_X4_addTie g hg x2 x1 x3 x4 I J _ h) lk_RX5_152 km_X4_addTie ob_24 rfl (by decide) rfl (Nat.le_of_ble_eq_true rfl) dX5_readSpeeds_155 (fun I_21 h => ?_)
      exact hret _ _ _ _ dX5_readSpeeds_158 h
def w_X5_readSpeeds (x1 : Int32) (x2 : Int32) (x3 : Int32) (I : HI) (J : HJ) (Post : HI → HJ → Prop) : Prop :=
  ∃ n, lp (wb_X5_readSpeeds_12 x1 x2 x3 Post (fun (x4_15 : Int32) (x5_16 : Int32) (I_17 : HI) (J_18 : HJ) => w_X5_goesOn  I_17 J_18 (fun (r_19 : Bool) => ((r_19 = false → (wj_X5_readSpeeds_134 I_17 J_18 x1 x2 x3 x4_15 x5_16 Post)) ∧ (r_19 = true → (w_X4_addTie x1 x2 x3 x4_15 I_17 J_18 (fun (I_22 : HI) => (wj_X5_readSpeeds_134 I_22 J_18 x1 x2 x3 x4_15 x5_16 Post)))))))) n (1, 0, 0, 0, I, J)
set_option maxHeartbeats 4000000 in
set_option maxRecDepth 20000 in
theorem we_X5_readSpeeds (g : kf_G) (hg : kf_g g) {x : kf_X} (hx : kf_ok g x RX5 cX5_readSpeeds 8 3 67) (x1 : Int32) (x2 : Int32) (x3 : Int32) (I : HI) (J : HJ) (Post : HI → HJ → Prop) (hret : ∀ (pc : Nat) (lv : List (Nat × Value)) (Iy : HI) (Jy : HJ), decode cX5_readSpeeds pc = .ok (.return_, 1) → Post Iy Jy → kf_M g x 8 pc lv [] Iy Jy) (h : w_X5_readSpeeds x1 x2 x3 I J Post) : kf_M g x 8 0 [(0, .ref (g.2.2.2 36)), (1, .int x1), (2, .int x2), (3, .int x3)] [] I J := by
  unfold w_X5_readSpeeds at h
  refine kf_iconst (v := 1) hx dX5_readSpeeds_0 (by decide) ?_
  refine kf_istore (lv' := [(4, .int 1), (0, .ref (g.2.2.2 36)), (1, .int x1), (2, .int x2), (3, .int x3)]) hx dX5_readSpeeds_1 (by decide) rfl ?_
  refine kf_iconst (v := 0) hx dX5_readSpeeds_3 (by decide) ?_
  refine kf_istore (lv' := [(5, .int 0), (4, .int 1), (0, .ref (g.2.2.2 36)), (1, .int x1), (2, .int x2), (3, .int x3)]) hx dX5_readSpeeds_4 (by decide) rfl ?_
  refine kf_iconst (v := 0) hx dX5_readSpeeds_6 (by decide) ?_
  refine kf_istore (lv' := [(6, .int 0), (5, .int 0), (4, .int 1), (0, .ref (g.2.2.2 36)), (1, .int x1), (2, .int x2), (3, .int x3)]) hx dX5_readSpeeds_7 (by decide) rfl ?_
  refine kf_iconst (v := 0) hx dX5_readSpeeds_9 (by decide) ?_
  refine kf_istore (lv' := [(7, .int 0), (6, .int 0), (5, .int 0), (4, .int 1), (0, .ref (g.2.2.2 36)), (1, .int x1), (2, .int x2), (3, .int x3)]) hx dX5_readSpeeds_10 (by decide) rfl ?_
  obtain ⟨n, h⟩ := h
  refine kf_sub [4, 5, 6, 7, 3, 2, 1, 0] rfl ?_
  refine wl_X5_readSpeeds_12 g hg hx  x1 x2 x3 _ hret _ (fun x4_15 x5_16 I_17 J_18 h => ?_) n _ _ _ _ _ _ h
  refine kf_aload_n hx dX5_readSpeeds_115 rfl 0 rfl ?_
  refine kf_callVbP (st := []) hx (m_X5_goesOn g hg  I_17 J_18 _ h) lk_RX5_67 km_X5_goesOn ob_36 rfl (by decide) rfl (Nat.le_of_ble_eq_true rfl) dX5_readSpeeds_116 (fun r_19 h => ?_)
  refine kf_ifB_eq hx 134 dX5_readSpeeds_119 (by decide) (fun c => ?_) (fun c => ?_)
  · replace h := h.1 c
    exact wk_X5_readSpeeds_134 g hg hx I_17 J_18 x1 x2 x3 x4_15 x5_16 _ hret h
  · replace h := h.2 c
    refine kf_aload_n hx dX5_readSpeeds_122 rfl 0 rfl ?_
    refine kf_getR (n := 24) hx sl_36_3 fl_RX5_22 dX5_readSpeeds_123 ?_
    refine kf_iload_n hx dX5_readSpeeds_126 rfl 1 rfl ?_
    refine kf_iload_n hx dX5_readSpeeds_127 rfl 2 rfl ?_
    refine kf_iload_n hx dX5_readSpeeds_128 rfl 3 rfl ?_
    refine kf_iload hx dX5_readSpeeds_129 4 rfl ?_
    refine kf_callVvI (st := []) hx (m_X4_addTie g hg x1 x2 x3 x4_15 I_17 J_18 _ h) lk_RX5_152 km_X4_addTie ob_24 rfl (by decide) rfl (Nat.le_of_ble_eq_true rfl) dX5_readSpeeds_131 (fun I_22 h => ?_)
    exact wk_X5_readSpeeds_134 g hg hx I_22 J_18 x1 x2 x3 x4_15 x5_16 _ hret h
set_option maxHeartbeats 4000000 in
set_option maxRecDepth 20000 in
theorem m_X5_readSpeeds (g : kf_G) (hg : kf_g g) (x1 : Int32) (x2 : Int32) (x3 : Int32) (I : HI) (J : HJ) (Post : HI → HJ → Prop) (h : w_X5_readSpeeds x1 x2 x3 I J Post) : kf_Mv g yX5_readSpeeds (kf_W yX5_readSpeeds cX5_readSpeeds 8 (Option.none : Option Jvm.ClassFile.FieldType)) 3 67 [.ref (g.2.2.2 36), .int x1, .int x2, .int x3] I J Post :=
  kf_entv hg (by decide) (Nat.le_of_ble_eq_true rfl) rfl (fun x hx hr => we_X5_readSpeeds g hg hx x1 x2 x3 I J Post (fun pc lv I' J' hd hP => hr pc lv I' J' hd hP) h)
theorem dX5_readTie_0 : decode cX5_readTie 0 = .ok (.aload_n 0, 1) := by decide +kernel
theorem dX5_readTie_1 : decode cX5_readTie 1 = .ok (.getfield 22, 3) := by decide +kernel
theorem dX5_readTie_4 : decode cX5_readTie 4 = .ok (.iconst 1, 1) := by decide +kernel
theorem dX5_readTie_5 : decode cX5_readTie 5 = .ok (.invokevirtual 137, 3) := by decide +kernel
theorem dX5_readTie_8 : decode cX5_readTie 8 = .ok (.ifCond .ne 9, 3) := by decide +kernel
theorem dX5_readTie_11 : decode cX5_readTie 11 = .ok (.aload_n 0, 1) := by decide +kernel
theorem dX5_readTie_12 : decode cX5_readTie 12 = .ok (.bipush 6, 2) := by decide +kernel
theorem dX5_readTie_14 : decode cX5_readTie 14 = .ok (.invokevirtual 83, 3) := by decide +kernel
theorem dX5_readTie_17 : decode cX5_readTie 17 = .ok (.aload_n 0, 1) := by decide +kernel
theorem dX5_readTie_18 : decode cX5_readTie 18 = .ok (.bipush 7, 2) := by decide +kernel
theorem dX5_readTie_20 : decode cX5_readTie 20 = .ok (.invokevirtual 87, 3) := by decide +kernel
theorem dX5_readTie_23 : decode cX5_readTie 23 = .ok (.aload_n 0, 1) := by decide +kernel
theorem dX5_readTie_24 : decode cX5_readTie 24 = .ok (.invokevirtual 141, 3) := by decide +kernel
theorem dX5_readTie_27 : decode cX5_readTie 27 = .ok (.istore_n 1, 1) := by decide +kernel
theorem dX5_readTie_28 : decode cX5_readTie 28 = .ok (.aload_n 0, 1) := by decide +kernel
theorem dX5_readTie_29 : decode cX5_readTie 29 = .ok (.invokevirtual 64, 3) := by decide +kernel
theorem dX5_readTie_32 : decode cX5_readTie 32 = .ok (.aload_n 0, 1) := by decide +kernel
theorem dX5_readTie_33 : decode cX5_readTie 33 = .ok (.bipush 8, 2) := by decide +kernel
theorem dX5_readTie_35 : decode cX5_readTie 35 = .ok (.invokevirtual 87, 3) := by decide +kernel
theorem dX5_readTie_38 : decode cX5_readTie 38 = .ok (.aload_n 0, 1) := by decide +kernel
theorem dX5_readTie_39 : decode cX5_readTie 39 = .ok (.invokevirtual 141, 3) := by decide +kernel
theorem dX5_readTie_42 : decode cX5_readTie 42 = .ok (.istore_n 2, 1) := by decide +kernel
theorem dX5_readTie_43 : decode cX5_readTie 43 = .ok (.aload_n 0, 1) := by decide +kernel
theorem dX5_readTie_44 : decode cX5_readTie 44 = .ok (.invokevirtual 67, 3) := by decide +kernel
theorem dX5_readTie_47 : decode cX5_readTie 47 = .ok (.ifCond .eq 16, 3) := by decide +kernel
theorem dX5_readTie_50 : decode cX5_readTie 50 = .ok (.iload_n 2, 1) := by decide +kernel
theorem dX5_readTie_51 : decode cX5_readTie 51 = .ok (.iload_n 1, 1) := by decide +kernel
theorem dX5_readTie_52 : decode cX5_readTie 52 = .ok (.if_icmp .ne 11, 3) := by decide +kernel
theorem dX5_readTie_55 : decode cX5_readTie 55 = .ok (.aload_n 0, 1) := by decide +kernel
theorem dX5_readTie_56 : decode cX5_readTie 56 = .ok (.iconst 5, 1) := by decide +kernel
theorem dX5_readTie_57 : decode cX5_readTie 57 = .ok (.invokevirtual 83, 3) := by decide +kernel
theorem dX5_readTie_60 : decode cX5_readTie 60 = .ok (.goto 21, 3) := by decide +kernel
theorem dX5_readTie_63 : decode cX5_readTie 63 = .ok (.aload_n 0, 1) := by decide +kernel
theorem dX5_readTie_64 : decode cX5_readTie 64 = .ok (.getfield 22, 3) := by decide +kernel
theorem dX5_readTie_67 : decode cX5_readTie 67 = .ok (.iload_n 1, 1) := by decide +kernel
theorem dX5_readTie_68 : decode cX5_readTie 68 = .ok (.iload_n 2, 1) := by decide +kernel
theorem dX5_readTie_69 : decode cX5_readTie 69 = .ok (.invokevirtual 144, 3) := by decide +kernel
theorem dX5_readTie_72 : decode cX5_readTie 72 = .ok (.ifCond .eq 9, 3) := by decide +kernel
theorem dX5_readTie_75 : decode cX5_readTie 75 = .ok (.aload_n 0, 1) := by decide +kernel
theorem dX5_readTie_76 : decode cX5_readTie 76 = .ok (.bipush 6, 2) := by decide +kernel
theorem dX5_readTie_78 : decode cX5_readTie 78 = .ok (.invokevirtual 83, 3) := by decide +kernel
theorem dX5_readTie_81 : decode cX5_readTie 81 = .ok (.aload_n 0, 1) := by decide +kernel
theorem dX5_readTie_82 : decode cX5_readTie 82 = .ok (.invokevirtual 64, 3) := by decide +kernel
theorem dX5_readTie_85 : decode cX5_readTie 85 = .ok (.aload_n 0, 1) := by decide +kernel
theorem dX5_readTie_86 : decode cX5_readTie 86 = .ok (.bipush 9, 2) := by decide +kernel
theorem dX5_readTie_88 : decode cX5_readTie 88 = .ok (.invokevirtual 87, 3) := by decide +kernel
theorem dX5_readTie_91 : decode cX5_readTie 91 = .ok (.aload_n 0, 1) := by decide +kernel
theorem dX5_readTie_92 : decode cX5_readTie 92 = .ok (.iconst 0, 1) := by decide +kernel
theorem dX5_readTie_93 : decode cX5_readTie 93 = .ok (.bipush 16, 2) := by decide +kernel
theorem dX5_readTie_95 : decode cX5_readTie 95 = .ok (.invokevirtual 122, 3) := by decide +kernel
theorem dX5_readTie_98 : decode cX5_readTie 98 = .ok (.istore_n 3, 1) := by decide +kernel
theorem dX5_readTie_99 : decode cX5_readTie 99 = .ok (.aload_n 0, 1) := by decide +kernel
theorem dX5_readTie_100 : decode cX5_readTie 100 = .ok (.iload_n 1, 1) := by decide +kernel
theorem dX5_readTie_101 : decode cX5_readTie 101 = .ok (.iload_n 2, 1) := by decide +kernel
theorem dX5_readTie_102 : decode cX5_readTie 102 = .ok (.iload_n 3, 1) := by decide +kernel
theorem dX5_readTie_103 : decode cX5_readTie 103 = .ok (.invokevirtual 148, 3) := by decide +kernel
theorem dX5_readTie_106 : decode cX5_readTie 106 = .ok (.return_, 1) := by decide +kernel
def wj_X5_readTie_81 (I : HI) (J : HJ) (x1 : Int32) (x2 : Int32) (Post : HI → HJ → Prop) : Prop :=
  w_X5_advance  I J (fun (I_14 : HI) (J_15 : HJ) => (w_X5_pass 9 I_14 J_15 (fun (I_16 : HI) (J_17 : HJ) => (w_X5_passNumber 0 16 I_16 J_17 (fun (r_18 : Int32) (I_19 : HI) (J_20 : HJ) => (w_X5_readSpeeds x1 x2 r_18 I_19 J_20 (fun (I_21 : HI) (J_22 : HJ) => (Post I_21 J_22))))))))
set_option maxHeartbeats 4000000 in
set_option maxRecDepth 20000 in
theorem wk_X5_readTie_81 (g : kf_G) (hg : kf_g g) {x : kf_X} (hx : kf_ok g x RX5 cX5_readTie 4 4 94) (I : HI) (J : HJ) (x1 : Int32) (x2 : Int32) (Post : HI → HJ → Prop) (hret : ∀ (pc : Nat) (lv : List (Nat × Value)) (Iy : HI) (Jy : HJ), decode cX5_readTie pc = .ok (.return_, 1) → Post Iy Jy → kf_M g x 4 pc lv [] Iy Jy) (h : wj_X5_readTie_81 I J x1 x2 Post) : kf_M g x 4 81 [(0, .ref (g.2.2.2 36)), (1, .int x1), (2, .int x2)] [] I J := by
  unfold wj_X5_readTie_81 at h
  refine kf_aload_n hx dX5_readTie_81 rfl 0 rfl ?_
  refine kf_callVv (st := []) hx (m_X5_advance g hg  I J _ h) lk_RX5_64 km_X5_advance ob_36 rfl (by decide) rfl (Nat.le_of_ble_eq_true rfl) dX5_readTie_82 (fun I_14 J_15 h => ?_)
  refine kf_aload_n hx dX5_readTie_85 rfl 0 rfl ?_
  refine kf_bipush (v := 9) hx dX5_readTie_86 (by decide) ?_
  refine kf_callVv (st := []) hx (m_X5_pass g hg 9 I_14 J_15 _ h) lk_RX5_87 km_X5_pass ob_36 rfl (by decide) rfl (Nat.le_of_ble_eq_true rfl) dX5_readTie_88 (fun I_16 J_17 h => ?_)
  refine kf_aload_n hx dX5_readTie_91 rfl 0 rfl ?_
  refine kf_iconst (v := 0) hx dX5_readTie_92 (by decide) ?_
  refine kf_bipush (v := 16) hx dX5_readTie_93 (by decide) ?_
  refine kf_callVi (st := []) hx (m_X5_passNumber g hg 0 16 I_16 J_17 _ h) lk_RX5_122 km_X5_passNumber ob_36 rfl (by decide) rfl (Nat.le_of_ble_eq_true rfl) dX5_readTie_95 (fun r_18 I_19 J_20 h => ?_)
  refine kf_istore_n (lv' := [(3, .int r_18), (0, .ref (g.2.2.2 36)), (1, .int x1), (2, .int x2)]) hx dX5_readTie_98 rfl (by decide) rfl ?_
  refine kf_aload_n hx dX5_readTie_99 rfl 1 rfl ?_
  refine kf_iload_n hx dX5_readTie_100 rfl 2 rfl ?_
  refine kf_iload_n hx dX5_readTie_101 rfl 3 rfl ?_
  refine kf_iload_n hx dX5_readTie_102 rfl 0 rfl ?_
  refine kf_callVv (st := []) hx (m_X5_readSpeeds g hg x1 x2 r_18 I_19 J_20 _ h) lk_RX5_148 km_X5_readSpeeds ob_36 rfl (by decide) rfl (Nat.le_of_ble_eq_true rfl) dX5_readTie_103 (fun I_21 J_22 h => ?_)
  exact hret _ _ _ _ dX5_readTie_106 h
def wj_X5_readTie_63 (I : HI) (J : HJ) (x1 : Int32) (x2 : Int32) (Post : HI → HJ → Prop) : Prop :=
  w_X4_hasTie x1 x2 I J (fun (r_13 : Bool) => ((r_13 = false → (wj_X5_readTie_81 I J x1 x2 Post)) ∧ (r_13 = true → (w_X5_fail 6 I J (fun (I_23 : HI) => (wj_X5_readTie_81 I_23 J x1 x2 Post))))))
set_option maxHeartbeats 4000000 in
set_option maxRecDepth 20000 in
theorem wk_X5_readTie_63 (g : kf_G) (hg : kf_g g) {x : kf_X} (hx : kf_ok g x RX5 cX5_readTie 4 4 94) (I : HI) (J : HJ) (x1 : Int32) (x2 : Int32) (Post : HI → HJ → Prop) (hret : ∀ (pc : Nat) (lv : List (Nat × Value)) (Iy : HI) (Jy : HJ), decode cX5_readTie pc = .ok (.return_, 1) → Post Iy Jy → kf_M g x 4 pc lv [] Iy Jy) (h : wj_X5_readTie_63 I J x1 x2 Post) : kf_M g x 4 63 [(0, .ref (g.2.2.2 36)), (1, .int x1), (2, .int x2)] [] I J := by
  unfold wj_X5_readTie_63 at h
  refine kf_aload_n hx dX5_readTie_63 rfl 0 rfl ?_
  refine kf_getR (n := 24) hx sl_36_3 fl_RX5_22 dX5_readTie_64 ?_
  refine kf_iload_n hx dX5_readTie_67 rfl 1 rfl ?_
  refine kf_iload_n hx dX5_readTie_68 rfl 2 rfl ?_
  refine kf_callVbP (st := []) hx (m_X4_hasTie g hg x1 x2 I J _ h) lk_RX5_144 km_X4_hasTie ob_24 rfl (by decide) rfl (Nat.le_of_ble_eq_true rfl) dX5_readTie_69 (fun r_13 h => ?_)
  refine kf_ifB_eq hx 81 dX5_readTie_72 (by decide) (fun c => ?_) (fun c => ?_)
  · replace h := h.1 c
    exact wk_X5_readTie_81 g hg hx I J x1 x2 _ hret h
  · replace h := h.2 c
    refine kf_aload_n hx dX5_readTie_75 rfl 0 rfl ?_
    refine kf_bipush (v := 6) hx dX5_readTie_76 (by decide) ?_
    refine kf_callVvI (st := []) hx (m_X5_fail g hg 6 I J _ h) lk_RX5_83 km_X5_fail ob_36 rfl (by decide) rfl (Nat.le_of_ble_eq_true rfl) dX5_readTie_78 (fun I_23 h => ?_)
    exact wk_X5_readTie_81 g hg hx I_23 J x1 x2 _ hret h
def wj_X5_readTie_17 (I : HI) (J : HJ)  (Post : HI → HJ → Prop) : Prop :=
  w_X5_pass 7 I J (fun (I_2 : HI) (J_3 : HJ) => (w_X5_knownPerson  I_2 J_3 (fun (r_4 : Int32) (I_5 : HI) => (w_X5_advance  I_5 J_3 (fun (I_6 : HI) (J_7 : HJ) => (w_X5_pass 8 I_6 J_7 (fun (I_8 : HI) (J_9 : HJ) => (w_X5_knownPerson  I_8 J_9 (fun (r_10 : Int32) (I_11 : HI) => (w_X5_goesOn  I_11 J_9 (fun (r_12 : Bool) => ((r_12 = false → (wj_X5_readTie_63 I_11 J_9 r_4 r_10 Post)) ∧ (r_12 = true → ((¬ r_10 = r_4 → (wj_X5_readTie_63 I_11 J_9 r_4 r_10 Post)) ∧ (r_10 = r_4 → (w_X5_fail 5 I_11 J_9 (fun (I_24 : HI) => (wj_X5_readTie_81 I_24 J_9 r_4 r_10 Post))))))))))))))))))
set_option maxHeartbeats 4000000 in
set_option maxRecDepth 20000 in
theorem wk_X5_readTie_17 (g : kf_G) (hg : kf_g g) {x : kf_X} (hx : kf_ok g x RX5 cX5_readTie 4 4 94) (I : HI) (J : HJ)  (Post : HI → HJ → Prop) (hret : ∀ (pc : Nat) (lv : List (Nat × Value)) (Iy : HI) (Jy : HJ), decode cX5_readTie pc = .ok (.return_, 1) → Post Iy Jy → kf_M g x 4 pc lv [] Iy Jy) (h : wj_X5_readTie_17 I J  Post) : kf_M g x 4 17 [(0, .ref (g.2.2.2 36))] [] I J := by
  unfold wj_X5_readTie_17 at h
  refine kf_aload_n hx dX5_readTie_17 rfl 0 rfl ?_
  refine kf_bipush (v := 7) hx dX5_readTie_18 (by decide) ?_
  refine kf_callVv (st := []) hx (m_X5_pass g hg 7 I J _ h) lk_RX5_87 km_X5_pass ob_36 rfl (by decide) rfl (Nat.le_of_ble_eq_true rfl) dX5_readTie_20 (fun I_2 J_3 h => ?_)
  refine kf_aload_n hx dX5_readTie_23 rfl 0 rfl ?_
  refine kf_callViI (st := []) hx (m_X5_knownPerson g hg  I_2 J_3 _ h) lk_RX5_141 km_X5_knownPerson ob_36 rfl (by decide) rfl (Nat.le_of_ble_eq_true rfl) dX5_readTie_24 (fun r_4 I_5 h => ?_)
  refine kf_istore_n (lv' := [(1, .int r_4), (0, .ref (g.2.2.2 36))]) hx dX5_readTie_27 rfl (by decide) rfl ?_
  refine kf_aload_n hx dX5_readTie_28 rfl 1 rfl ?_
  refine kf_callVv (st := []) hx (m_X5_advance g hg  I_5 J_3 _ h) lk_RX5_64 km_X5_advance ob_36 rfl (by decide) rfl (Nat.le_of_ble_eq_true rfl) dX5_readTie_29 (fun I_6 J_7 h => ?_)
  refine kf_aload_n hx dX5_readTie_32 rfl 1 rfl ?_
  refine kf_bipush (v := 8) hx dX5_readTie_33 (by decide) ?_
  refine kf_callVv (st := []) hx (m_X5_pass g hg 8 I_6 J_7 _ h) lk_RX5_87 km_X5_pass ob_36 rfl (by decide) rfl (Nat.le_of_ble_eq_true rfl) dX5_readTie_35 (fun I_8 J_9 h => ?_)
  refine kf_aload_n hx dX5_readTie_38 rfl 1 rfl ?_
  refine kf_callViI (st := []) hx (m_X5_knownPerson g hg  I_8 J_9 _ h) lk_RX5_141 km_X5_knownPerson ob_36 rfl (by decide) rfl (Nat.le_of_ble_eq_true rfl) dX5_readTie_39 (fun r_10 I_11 h => ?_)
  refine kf_istore_n (lv' := [(2, .int r_10), (1, .int r_4), (0, .ref (g.2.2.2 36))]) hx dX5_readTie_42 rfl (by decide) rfl ?_
  refine kf_aload_n hx dX5_readTie_43 rfl 2 rfl ?_
  refine kf_callVbP (st := []) hx (m_X5_goesOn g hg  I_11 J_9 _ h) lk_RX5_67 km_X5_goesOn ob_36 rfl (by decide) rfl (Nat.le_of_ble_eq_true rfl) dX5_readTie_44 (fun r_12 h => ?_)
  refine kf_ifB_eq hx 63 dX5_readTie_47 (by decide) (fun c => ?_) (fun c => ?_)
  · replace h := h.1 c
    refine kf_sub [2, 1, 0] rfl ?_
    exact wk_X5_readTie_63 g hg hx I_11 J_9 r_4 r_10 _ hret h
  · replace h := h.2 c
    refine kf_iload_n hx dX5_readTie_50 rfl 0 rfl ?_
    refine kf_iload_n hx dX5_readTie_51 rfl 1 rfl ?_
    refine kf_icmp_ne hx 63 dX5_readTie_52 (by decide) (fun c => ?_) (fun c => ?_)
    · replace h := h.1 c
      refine kf_sub [2, 1, 0] rfl ?_
      exact wk_X5_readTie_63 g hg hx I_11 J_9 r_4 r_10 _ hret h
    · replace h := h.2 c
      refine kf_aload_n hx dX5_readTie_55 rfl 2 rfl ?_
      refine kf_iconst (v := 5) hx dX5_readTie_56 (by decide) ?_
      refine kf_callVvI (st := []) hx (m_X5_fail g hg 5 I_11 J_9 _ h) lk_RX5_83 km_X5_fail ob_36 rfl (by decide) rfl (Nat.le_of_ble_eq_true rfl) dX5_readTie_57 (fun I_24 h => ?_)
      refine kf_goto hx 81 dX5_readTie_60 (by decide) ?_
      refine kf_sub [2, 1, 0] rfl ?_
      exact wk_X5_readTie_81 g hg hx I_24 J_9 r_4 r_10 _ hret h
def w_X5_readTie  (I : HI) (J : HJ) (Post : HI → HJ → Prop) : Prop :=
  w_X4_hasRoomForTies 1 I J (fun (r_1 : Bool) => ((r_1 = true → (wj_X5_readTie_17 I J Post)) ∧ (r_1 = false → (w_X5_fail 6 I J (fun (I_25 : HI) => (wj_X5_readTie_17 I_25 J Post))))))
set_option maxHeartbeats 4000000 in
set_option maxRecDepth 20000 in
theorem we_X5_readTie (g : kf_G) (hg : kf_g g) {x : kf_X} (hx : kf_ok g x RX5 cX5_readTie 4 4 94)  (I : HI) (J : HJ) (Post : HI → HJ → Prop) (hret : ∀ (pc : Nat) (lv : List (Nat × Value)) (Iy : HI) (Jy : HJ), decode cX5_readTie pc = .ok (.return_, 1) → Post Iy Jy → kf_M g x 4 pc lv [] Iy Jy) (h : w_X5_readTie  I J Post) : kf_M g x 4 0 [(0, .ref (g.2.2.2 36))] [] I J := by
  unfold w_X5_readTie at h
  refine kf_aload_n hx dX5_readTie_0 rfl 0 rfl ?_
  refine kf_getR (n := 24) hx sl_36_3 fl_RX5_22 dX5_readTie_1 ?_
  refine kf_iconst (v := 1) hx dX5_readTie_4 (by decide) ?_
  refine kf_callVbP (st := []) hx (m_X4_hasRoomForTies g hg 1 I J _ h) lk_RX5_137 km_X4_hasRoomForTies ob_24 rfl (by decide) rfl (Nat.le_of_ble_eq_true rfl) dX5_readTie_5 (fun r_1 h => ?_)
  refine kf_ifB_ne hx 17 dX5_readTie_8 (by decide) (fun c => ?_) (fun c => ?_)
  · replace h := h.1 c
    exact wk_X5_readTie_17 g hg hx I J  _ hret h
  · replace h := h.2 c
    refine kf_aload_n hx dX5_readTie_11 rfl 0 rfl ?_
    refine kf_bipush (v := 6) hx dX5_readTie_12 (by decide) ?_
    refine kf_callVvI (st := []) hx (m_X5_fail g hg 6 I J _ h) lk_RX5_83 km_X5_fail ob_36 rfl (by decide) rfl (Nat.le_of_ble_eq_true rfl) dX5_readTie_14 (fun I_25 h => ?_)
    exact wk_X5_readTie_17 g hg hx I_25 J  _ hret h
set_option maxHeartbeats 4000000 in
set_option maxRecDepth 20000 in
theorem m_X5_readTie (g : kf_G) (hg : kf_g g)  (I : HI) (J : HJ) (Post : HI → HJ → Prop) (h : w_X5_readTie  I J Post) : kf_Mv g yX5_readTie (kf_W yX5_readTie cX5_readTie 4 (Option.none : Option Jvm.ClassFile.FieldType)) 4 94 [.ref (g.2.2.2 36)] I J Post :=
  kf_entv hg (by decide) (Nat.le_of_ble_eq_true rfl) rfl (fun x hx hr => we_X5_readTie g hg hx  I J Post (fun pc lv I' J' hd hP => hr pc lv I' J' hd hP) h)
theorem dX5_readValley_0 : decode cX5_readValley 0 = .ok (.aload_n 0, 1) := by decide +kernel
theorem dX5_readValley_1 : decode cX5_readValley 1 = .ok (.invokevirtual 64, 3) := by decide +kernel
theorem dX5_readValley_4 : decode cX5_readValley 4 = .ok (.aload_n 0, 1) := by decide +kernel
theorem dX5_readValley_5 : decode cX5_readValley 5 = .ok (.iconst 0, 1) := by decide +kernel
theorem dX5_readValley_6 : decode cX5_readValley 6 = .ok (.iconst 3, 1) := by decide +kernel
theorem dX5_readValley_7 : decode cX5_readValley 7 = .ok (.invokevirtual 156, 3) := by decide +kernel
theorem dX5_readValley_10 : decode cX5_readValley 10 = .ok (.istore_n 1, 1) := by decide +kernel
theorem dX5_readValley_11 : decode cX5_readValley 11 = .ok (.aload_n 0, 1) := by decide +kernel
theorem dX5_readValley_12 : decode cX5_readValley 12 = .ok (.invokevirtual 67, 3) := by decide +kernel
theorem dX5_readValley_15 : decode cX5_readValley 15 = .ok (.ifCond .eq 19, 3) := by decide +kernel
theorem dX5_readValley_18 : decode cX5_readValley 18 = .ok (.aload_n 0, 1) := by decide +kernel
theorem dX5_readValley_19 : decode cX5_readValley 19 = .ok (.getfield 55, 3) := by decide +kernel
theorem dX5_readValley_22 : decode cX5_readValley 22 = .ok (.iload_n 1, 1) := by decide +kernel
theorem dX5_readValley_23 : decode cX5_readValley 23 = .ok (.invokestatic 159, 3) := by decide +kernel
theorem dX5_readValley_26 : decode cX5_readValley 26 = .ok (.ifCond .eq 8, 3) := by decide +kernel
theorem dX5_readValley_29 : decode cX5_readValley 29 = .ok (.aload_n 0, 1) := by decide +kernel
theorem dX5_readValley_30 : decode cX5_readValley 30 = .ok (.iconst 5, 1) := by decide +kernel
theorem dX5_readValley_31 : decode cX5_readValley 31 = .ok (.invokevirtual 83, 3) := by decide +kernel
theorem dX5_readValley_34 : decode cX5_readValley 34 = .ok (.aload_n 0, 1) := by decide +kernel
theorem dX5_readValley_35 : decode cX5_readValley 35 = .ok (.invokevirtual 64, 3) := by decide +kernel
theorem dX5_readValley_38 : decode cX5_readValley 38 = .ok (.aload_n 0, 1) := by decide +kernel
theorem dX5_readValley_39 : decode cX5_readValley 39 = .ok (.bipush 11, 2) := by decide +kernel
theorem dX5_readValley_41 : decode cX5_readValley 41 = .ok (.invokevirtual 87, 3) := by decide +kernel
theorem dX5_readValley_44 : decode cX5_readValley 44 = .ok (.aload_n 0, 1) := by decide +kernel
theorem dX5_readValley_45 : decode cX5_readValley 45 = .ok (.iconst 0, 1) := by decide +kernel
theorem dX5_readValley_46 : decode cX5_readValley 46 = .ok (.bipush 12, 2) := by decide +kernel
theorem dX5_readValley_48 : decode cX5_readValley 48 = .ok (.invokevirtual 122, 3) := by decide +kernel
theorem dX5_readValley_51 : decode cX5_readValley 51 = .ok (.istore_n 2, 1) := by decide +kernel
theorem dX5_readValley_52 : decode cX5_readValley 52 = .ok (.aload_n 0, 1) := by decide +kernel
theorem dX5_readValley_53 : decode cX5_readValley 53 = .ok (.invokevirtual 67, 3) := by decide +kernel
theorem dX5_readValley_56 : decode cX5_readValley 56 = .ok (.ifCond .eq 25, 3) := by decide +kernel
theorem dX5_readValley_59 : decode cX5_readValley 59 = .ok (.aload_n 0, 1) := by decide +kernel
theorem dX5_readValley_60 : decode cX5_readValley 60 = .ok (.dup, 1) := by decide +kernel
theorem dX5_readValley_61 : decode cX5_readValley 61 = .ok (.getfield 55, 3) := by decide +kernel
theorem dX5_readValley_64 : decode cX5_readValley 64 = .ok (.iconst 1, 1) := by decide +kernel
theorem dX5_readValley_65 : decode cX5_readValley 65 = .ok (.iload_n 1, 1) := by decide +kernel
theorem dX5_readValley_66 : decode cX5_readValley 66 = .ok (.ishl, 1) := by decide +kernel
theorem dX5_readValley_67 : decode cX5_readValley 67 = .ok (.ior, 1) := by decide +kernel
theorem dX5_readValley_68 : decode cX5_readValley 68 = .ok (.putfield 55, 3) := by decide +kernel
theorem dX5_readValley_71 : decode cX5_readValley 71 = .ok (.aload_n 0, 1) := by decide +kernel
theorem dX5_readValley_72 : decode cX5_readValley 72 = .ok (.getfield 22, 3) := by decide +kernel
theorem dX5_readValley_75 : decode cX5_readValley 75 = .ok (.getfield 162, 3) := by decide +kernel
theorem dX5_readValley_78 : decode cX5_readValley 78 = .ok (.iload_n 1, 1) := by decide +kernel
theorem dX5_readValley_79 : decode cX5_readValley 79 = .ok (.iload_n 2, 1) := by decide +kernel
theorem dX5_readValley_80 : decode cX5_readValley 80 = .ok (.iastore, 1) := by decide +kernel
theorem dX5_readValley_81 : decode cX5_readValley 81 = .ok (.return_, 1) := by decide +kernel
def wj_X5_readValley_34 (I : HI) (J : HJ) (x1 : Int32) (Post : HI → HJ → Prop) : Prop :=
  w_X5_advance  I J (fun (I_6 : HI) (J_7 : HJ) => (w_X5_pass 11 I_6 J_7 (fun (I_8 : HI) (J_9 : HJ) => (w_X5_passNumber 0 12 I_8 J_9 (fun (r_10 : Int32) (I_11 : HI) (J_12 : HJ) => (w_X5_goesOn  I_11 J_12 (fun (r_13 : Bool) => ((r_13 = false → (Post I_11 J_12)) ∧ (r_13 = true → (∀ I_14 : HI, I_14 = hI I_11 36 10 ((I_11 36 10) ||| (1 <<< (x1 &&& 31))) → (vp_in x1 4 ∧ (∀ I_15 : HI, I_15 = hI I_14 35 (Int32.toNatClampNeg x1) r_10 → (Post I_15 J_12)))))))))))))
set_option maxHeartbeats 4000000 in
set_option maxRecDepth 20000 in
theorem wk_X5_readValley_34 (g : kf_G) (hg : kf_g g) {x : kf_X} (hx : kf_ok g x RX5 cX5_readValley 3 3 67) (I : HI) (J : HJ) (x1 : Int32) (Post : HI → HJ → Prop) (hret : ∀ (pc : Nat) (lv : List (Nat × Value)) (Iy : HI) (Jy : HJ), decode cX5_readValley pc = .ok (.return_, 1) → Post Iy Jy → kf_M g x 3 pc lv [] Iy Jy) (h : wj_X5_readValley_34 I J x1 Post) : kf_M g x 3 34 [(0, .ref (g.2.2.2 36)), (1, .int x1)] [] I J := by
  unfold wj_X5_readValley_34 at h
  refine kf_aload_n hx dX5_readValley_34 rfl 0 rfl ?_
  refine kf_callVv (st := []) hx (m_X5_advance g hg  I J _ h) lk_RX5_64 km_X5_advance ob_36 rfl (by decide) rfl (Nat.le_of_ble_eq_true rfl) dX5_readValley_35 (fun I_6 J_7 h => ?_)
  refine kf_aload_n hx dX5_readValley_38 rfl 0 rfl ?_
  refine kf_bipush (v := 11) hx dX5_readValley_39 (by decide) ?_
  refine kf_callVv (st := []) hx (m_X5_pass g hg 11 I_6 J_7 _ h) lk_RX5_87 km_X5_pass ob_36 rfl (by decide) rfl (Nat.le_of_ble_eq_true rfl) dX5_readValley_41 (fun I_8 J_9 h => ?_)
  refine kf_aload_n hx dX5_readValley_44 rfl 0 rfl ?_
  refine kf_iconst (v := 0) hx dX5_readValley_45 (by decide) ?_
  refine kf_bipush (v := 12) hx dX5_readValley_46 (by decide) ?_
  refine kf_callVi (st := []) hx (m_X5_passNumber g hg 0 12 I_8 J_9 _ h) lk_RX5_122 km_X5_passNumber ob_36 rfl (by decide) rfl (Nat.le_of_ble_eq_true rfl) dX5_readValley_48 (fun r_10 I_11 J_12 h => ?_)
  refine kf_istore_n (lv' := [(2, .int r_10), (0, .ref (g.2.2.2 36)), (1, .int x1)]) hx dX5_readValley_51 rfl (by decide) rfl ?_
  refine kf_aload_n hx dX5_readValley_52 rfl 1 rfl ?_
  refine kf_callVbP (st := []) hx (m_X5_goesOn g hg  I_11 J_12 _ h) lk_RX5_67 km_X5_goesOn ob_36 rfl (by decide) rfl (Nat.le_of_ble_eq_true rfl) dX5_readValley_53 (fun r_13 h => ?_)
  refine kf_ifB_eq hx 81 dX5_readValley_56 (by decide) (fun c => ?_) (fun c => ?_)
  · replace h := h.1 c
    exact hret _ _ _ _ dX5_readValley_81 h
  · replace h := h.2 c
    refine kf_aload_n hx dX5_readValley_59 rfl 1 rfl ?_
    refine kf_dup hx dX5_readValley_60 rfl ?_
    refine kf_getI hx sl_36_10 fl_RX5_55 dX5_readValley_61 ?_
    refine kf_iconst (v := 1) hx dX5_readValley_64 (by decide) ?_
    refine kf_iload_n hx dX5_readValley_65 rfl 2 rfl ?_
    refine kf_ishl hx dX5_readValley_66 ?_
    refine kf_ior hx dX5_readValley_67 ?_
    refine kf_putI hx sl_36_10 fl_RX5_55 fp_5_10 dX5_readValley_68 ?_
    refine kf_nmI (fun I_14 eI_14 => ?_)
    replace h := h I_14 eI_14
    refine kf_aload_n hx dX5_readValley_71 rfl 1 rfl ?_
    refine kf_getR (n := 24) hx sl_36_3 fl_RX5_22 dX5_readValley_72 ?_
    refine kf_getR (n := 35) hx sl_24_10 fl_RX5_162 dX5_readValley_75 ?_
    refine kf_iload_n hx dX5_readValley_78 rfl 2 rfl ?_
    refine kf_iload_n hx dX5_readValley_79 rfl 0 rfl ?_
    refine kf_iast hx ar_35 h.1 dX5_readValley_80 ?_
    replace h := h.2
    refine kf_nmI (fun I_15 eI_15 => ?_)
    replace h := h I_15 eI_15
    exact hret _ _ _ _ dX5_readValley_81 h
def w_X5_readValley  (I : HI) (J : HJ) (Post : HI → HJ → Prop) : Prop :=
  w_X5_advance  I J (fun (I_1 : HI) (J_2 : HJ) => (w_X5_soundNumber 0 3 I_1 J_2 (fun (r_3 : Int32) (I_4 : HI) => (w_X5_goesOn  I_4 J_2 (fun (r_5 : Bool) => ((r_5 = false → (wj_X5_readValley_34 I_4 J_2 r_3 Post)) ∧ (r_5 = true → (w_X10_has (I_4 36 10) r_3 (fun (r_16 : Bool) => ((r_16 = false → (wj_X5_readValley_34 I_4 J_2 r_3 Post)) ∧ (r_16 = true → (w_X5_fail 5 I_4 J_2 (fun (I_17 : HI) => (wj_X5_readValley_34 I_17 J_2 r_3 Post))))))))))))))
set_option maxHeartbeats 4000000 in
set_option maxRecDepth 20000 in
theorem we_X5_readValley (g : kf_G) (hg : kf_g g) {x : kf_X} (hx : kf_ok g x RX5 cX5_readValley 3 3 67)  (I : HI) (J : HJ) (Post : HI → HJ → Prop) (hret : ∀ (pc : Nat) (lv : List (Nat × Value)) (Iy : HI) (Jy : HJ), decode cX5_readValley pc = .ok (.return_, 1) → Post Iy Jy → kf_M g x 3 pc lv [] Iy Jy) (h : w_X5_readValley  I J Post) : kf_M g x 3 0 [(0, .ref (g.2.2.2 36))] [] I J := by
  unfold w_X5_readValley at h
  refine kf_aload_n hx dX5_readValley_0 rfl 0 rfl ?_
  refine kf_callVv (st := []) hx (m_X5_advance g hg  I J _ h) lk_RX5_64 km_X5_advance ob_36 rfl (by decide) rfl (Nat.le_of_ble_eq_true rfl) dX5_readValley_1 (fun I_1 J_2 h => ?_)
  refine kf_aload_n hx dX5_readValley_4 rfl 0 rfl ?_
  refine kf_iconst (v := 0) hx dX5_readValley_5 (by decide) ?_
  refine kf_iconst (v := 3) hx dX5_readValley_6 (by decide) ?_
  refine kf_callViI (st := []) hx (m_X5_soundNumber g hg 0 3 I_1 J_2 _ h) lk_RX5_156 km_X5_soundNumber ob_36 rfl (by decide) rfl (Nat.le_of_ble_eq_true rfl) dX5_readValley_7 (fun r_3 I_4 h => ?_)
  refine kf_istore_n (lv' := [(1, .int r_3), (0, .ref (g.2.2.2 36))]) hx dX5_readValley_10 rfl (by decide) rfl ?_
  refine kf_aload_n hx dX5_readValley_11 rfl 1 rfl ?_
  refine kf_callVbP (st := []) hx (m_X5_goesOn g hg  I_4 J_2 _ h) lk_RX5_67 km_X5_goesOn ob_36 rfl (by decide) rfl (Nat.le_of_ble_eq_true rfl) dX5_readValley_12 (fun r_5 h => ?_)
  refine kf_ifB_eq hx 34 dX5_readValley_15 (by decide) (fun c => ?_) (fun c => ?_)
  · replace h := h.1 c
    refine kf_sub [1, 0] rfl ?_
    exact wk_X5_readValley_34 g hg hx I_4 J_2 r_3 _ hret h
  · replace h := h.2 c
    refine kf_aload_n hx dX5_readValley_18 rfl 1 rfl ?_
    refine kf_getI hx sl_36_10 fl_RX5_55 dX5_readValley_19 ?_
    refine kf_iload_n hx dX5_readValley_22 rfl 0 rfl ?_
    refine kf_callSbP (st := []) hx (m_X10_has g hg (I_4 36 10) r_3 I_4 J_2 _ h) lk_RX5_159 km_X10_has rfl (by decide) rfl (Nat.le_of_ble_eq_true rfl) dX5_readValley_23 (fun r_16 h => ?_)
    refine kf_ifB_eq hx 34 dX5_readValley_26 (by decide) (fun c => ?_) (fun c => ?_)
    · replace h := h.1 c
      refine kf_sub [1, 0] rfl ?_
      exact wk_X5_readValley_34 g hg hx I_4 J_2 r_3 _ hret h
    · replace h := h.2 c
      refine kf_aload_n hx dX5_readValley_29 rfl 1 rfl ?_
      refine kf_iconst (v := 5) hx dX5_readValley_30 (by decide) ?_
      refine kf_callVvI (st := []) hx (m_X5_fail g hg 5 I_4 J_2 _ h) lk_RX5_83 km_X5_fail ob_36 rfl (by decide) rfl (Nat.le_of_ble_eq_true rfl) dX5_readValley_31 (fun I_17 h => ?_)
      refine kf_sub [1, 0] rfl ?_
      exact wk_X5_readValley_34 g hg hx I_17 J_2 r_3 _ hret h
set_option maxHeartbeats 4000000 in
set_option maxRecDepth 20000 in
theorem m_X5_readValley (g : kf_G) (hg : kf_g g)  (I : HI) (J : HJ) (Post : HI → HJ → Prop) (h : w_X5_readValley  I J Post) : kf_Mv g yX5_readValley (kf_W yX5_readValley cX5_readValley 3 (Option.none : Option Jvm.ClassFile.FieldType)) 3 67 [.ref (g.2.2.2 36)] I J Post :=
  kf_entv hg (by decide) (Nat.le_of_ble_eq_true rfl) rfl (fun x hx hr => we_X5_readValley g hg hx  I J Post (fun pc lv I' J' hd hP => hr pc lv I' J' hd hP) h)
theorem dX5_readAll_0 : decode cX5_readAll 0 = .ok (.aload_n 0, 1) := by decide +kernel
theorem dX5_readAll_1 : decode cX5_readAll 1 = .ok (.iload_n 1, 1) := by decide +kernel
theorem dX5_readAll_2 : decode cX5_readAll 2 = .ok (.aload_n 0, 1) := by decide +kernel
theorem dX5_readAll_3 : decode cX5_readAll 3 = .ok (.getfield 18, 3) := by decide +kernel
theorem dX5_readAll_6 : decode cX5_readAll 6 = .ok (.arraylength, 1) := by decide +kernel
theorem dX5_readAll_7 : decode cX5_readAll 7 = .ok (.invokestatic 38, 3) := by decide +kernel
theorem dX5_readAll_10 : decode cX5_readAll 10 = .ok (.putfield 44, 3) := by decide +kernel
theorem dX5_readAll_13 : decode cX5_readAll 13 = .ok (.aload_n 0, 1) := by decide +kernel
theorem dX5_readAll_14 : decode cX5_readAll 14 = .ok (.iconst 0, 1) := by decide +kernel
theorem dX5_readAll_15 : decode cX5_readAll 15 = .ok (.putfield 47, 3) := by decide +kernel
theorem dX5_readAll_18 : decode cX5_readAll 18 = .ok (.aload_n 0, 1) := by decide +kernel
theorem dX5_readAll_19 : decode cX5_readAll 19 = .ok (.getfield 22, 3) := by decide +kernel
theorem dX5_readAll_22 : decode cX5_readAll 22 = .ok (.invokevirtual 50, 3) := by decide +kernel
theorem dX5_readAll_25 : decode cX5_readAll 25 = .ok (.aload_n 0, 1) := by decide +kernel
theorem dX5_readAll_26 : decode cX5_readAll 26 = .ok (.iconst 0, 1) := by decide +kernel
theorem dX5_readAll_27 : decode cX5_readAll 27 = .ok (.putfield 55, 3) := by decide +kernel
theorem dX5_readAll_30 : decode cX5_readAll 30 = .ok (.aload_n 0, 1) := by decide +kernel
theorem dX5_readAll_31 : decode cX5_readAll 31 = .ok (.iconst 0, 1) := by decide +kernel
theorem dX5_readAll_32 : decode cX5_readAll 32 = .ok (.putfield 58, 3) := by decide +kernel
theorem dX5_readAll_35 : decode cX5_readAll 35 = .ok (.aload_n 0, 1) := by decide +kernel
theorem dX5_readAll_36 : decode cX5_readAll 36 = .ok (.iconst (-1), 1) := by decide +kernel
theorem dX5_readAll_37 : decode cX5_readAll 37 = .ok (.putfield 61, 3) := by decide +kernel
theorem dX5_readAll_40 : decode cX5_readAll 40 = .ok (.aload_n 0, 1) := by decide +kernel
theorem dX5_readAll_41 : decode cX5_readAll 41 = .ok (.invokevirtual 64, 3) := by decide +kernel
theorem dX5_readAll_44 : decode cX5_readAll 44 = .ok (.iconst 0, 1) := by decide +kernel
theorem dX5_readAll_45 : decode cX5_readAll 45 = .ok (.istore_n 2, 1) := by decide +kernel
theorem dX5_readAll_46 : decode cX5_readAll 46 = .ok (.iload_n 2, 1) := by decide +kernel
theorem dX5_readAll_47 : decode cX5_readAll 47 = .ok (.sipush 600, 3) := by decide +kernel
theorem dX5_readAll_50 : decode cX5_readAll 50 = .ok (.if_icmp .ge 91, 3) := by decide +kernel
theorem dX5_readAll_53 : decode cX5_readAll 53 = .ok (.aload_n 0, 1) := by decide +kernel
theorem dX5_readAll_54 : decode cX5_readAll 54 = .ok (.invokevirtual 67, 3) := by decide +kernel
theorem dX5_readAll_57 : decode cX5_readAll 57 = .ok (.ifCond .eq 84, 3) := by decide +kernel
theorem dX5_readAll_60 : decode cX5_readAll 60 = .ok (.aload_n 0, 1) := by decide +kernel
theorem dX5_readAll_61 : decode cX5_readAll 61 = .ok (.getfield 71, 3) := by decide +kernel
theorem dX5_readAll_64 : decode cX5_readAll 64 = .ok (.ifCond .eq 77, 3) := by decide +kernel
theorem dX5_readAll_67 : decode cX5_readAll 67 = .ok (.aload_n 0, 1) := by decide +kernel
theorem dX5_readAll_68 : decode cX5_readAll 68 = .ok (.getfield 71, 3) := by decide +kernel
theorem dX5_readAll_71 : decode cX5_readAll 71 = .ok (.tableswitch 54 6 10 #[33, 40, 54, 54, 47], 33) := by decide +kernel
theorem dX5_readAll_104 : decode cX5_readAll 104 = .ok (.aload_n 0, 1) := by decide +kernel
theorem dX5_readAll_105 : decode cX5_readAll 105 = .ok (.invokevirtual 74, 3) := by decide +kernel
theorem dX5_readAll_108 : decode cX5_readAll 108 = .ok (.goto 22, 3) := by decide +kernel
theorem dX5_readAll_111 : decode cX5_readAll 111 = .ok (.aload_n 0, 1) := by decide +kernel
theorem dX5_readAll_112 : decode cX5_readAll 112 = .ok (.invokevirtual 77, 3) := by decide +kernel
theorem dX5_readAll_115 : decode cX5_readAll 115 = .ok (.goto 15, 3) := by decide +kernel
theorem dX5_readAll_118 : decode cX5_readAll 118 = .ok (.aload_n 0, 1) := by decide +kernel
theorem dX5_readAll_119 : decode cX5_readAll 119 = .ok (.invokevirtual 80, 3) := by decide +kernel
theorem dX5_readAll_122 : decode cX5_readAll 122 = .ok (.goto 8, 3) := by decide +kernel
theorem dX5_readAll_125 : decode cX5_readAll 125 = .ok (.aload_n 0, 1) := by decide +kernel
theorem dX5_readAll_126 : decode cX5_readAll 126 = .ok (.iconst 2, 1) := by decide +kernel
theorem dX5_readAll_127 : decode cX5_readAll 127 = .ok (.invokevirtual 83, 3) := by decide +kernel
theorem dX5_readAll_130 : decode cX5_readAll 130 = .ok (.aload_n 0, 1) := by decide +kernel
theorem dX5_readAll_131 : decode cX5_readAll 131 = .ok (.iconst 3, 1) := by decide +kernel
theorem dX5_readAll_132 : decode cX5_readAll 132 = .ok (.invokevirtual 87, 3) := by decide +kernel
theorem dX5_readAll_135 : decode cX5_readAll 135 = .ok (.iinc 2 1, 3) := by decide +kernel
theorem dX5_readAll_138 : decode cX5_readAll 138 = .ok (.goto (-92), 3) := by decide +kernel
theorem dX5_readAll_141 : decode cX5_readAll 141 = .ok (.return_, 1) := by decide +kernel
def wj_X5_readAll_130 (I : HI) (J : HJ) (x2 : Int32) (E46 : HI → HJ → Prop) (K46 : Int32 × HI × HJ → Prop) (Post : HI → HJ → Prop) : Prop :=
  w_X5_pass 3 I J (fun (I_12 : HI) (J_13 : HJ) => (K46 ((x2 + 1), I_12, J_13)))
set_option maxHeartbeats 4000000 in
set_option maxRecDepth 20000 in
theorem wk_X5_readAll_130 (g : kf_G) (hg : kf_g g) {x : kf_X} (hx : kf_ok g x RX5 cX5_readAll 3 5 117) (I : HI) (J : HJ) (x2 : Int32) (E46 : HI → HJ → Prop) (K46 : Int32 × HI × HJ → Prop) (hE46 : ∀ (Iy : HI) (Jy : HJ), E46 Iy Jy → kf_M g x 3 141 [] [] Iy Jy) (hK46 : ∀ (y2 : Int32) (Iy : HI) (Jy : HJ), K46 (y2, Iy, Jy) → kf_M g x 3 46 [(0, .ref (g.2.2.2 36)), (2, .int y2)] [] Iy Jy) (Post : HI → HJ → Prop) (hret : ∀ (pc : Nat) (lv : List (Nat × Value)) (Iy : HI) (Jy : HJ), decode cX5_readAll pc = .ok (.return_, 1) → Post Iy Jy → kf_M g x 3 pc lv [] Iy Jy) (h : wj_X5_readAll_130 I J x2 E46 K46 Post) : kf_M g x 3 130 [(0, .ref (g.2.2.2 36)), (2, .int x2)] [] I J := by
  unfold wj_X5_readAll_130 at h
  refine kf_aload_n hx dX5_readAll_130 rfl 0 rfl ?_
  refine kf_iconst (v := 3) hx dX5_readAll_131 (by decide) ?_
  refine kf_callVv (st := []) hx (m_X5_pass g hg 3 I J _ h) lk_RX5_87 km_X5_pass ob_36 rfl (by decide) rfl (Nat.le_of_ble_eq_true rfl) dX5_readAll_132 (fun I_12 J_13 h => ?_)
  refine kf_iinc (w := (x2 + 1)) (lv' := [(2, .int (x2 + 1)), (0, .ref (g.2.2.2 36))]) hx dX5_readAll_135 1 rfl rfl (by decide) rfl ?_
  refine kf_goto hx 46 dX5_readAll_138 (by decide) ?_
  refine kf_sub [1, 0] rfl ?_
  exact hK46 _ _ _ h
def wb_X5_readAll_46  (Post : HI → HJ → Prop) (E46 : HI → HJ → Prop) (K46 : (Int32 × HI × HJ) → Prop) (s : Int32 × HI × HJ) : Prop :=
  match s with
  | (x2, I, J) => (600 ≤ x2 → (E46 I J)) ∧ (¬ 600 ≤ x2 → (w_X5_goesOn  I J (fun (r_9 : Bool) => ((r_9 = false → (E46 I J)) ∧ (r_9 = true → (((I 36 7) = 0 → (E46 I J)) ∧ (¬ (I 36 7) = 0 → (((I 36 7) = 6 → (w_X5_readPerson  I J (fun (I_10 : HI) (J_11 : HJ) => (wj_X5_readAll_130 I_10 J_11 x2 E46 K46 Post)))) ∧ ((I 36 7) = 7 → (w_X5_readTie  I J (fun (I_14 : HI) (J_15 : HJ) => (wj_X5_readAll_130 I_14 J_15 x2 E46 K46 Post)))) ∧ ((I 36 7) = 10 → (w_X5_readValley  I J (fun (I_18 : HI) (J_19 : HJ) => (wj_X5_readAll_130 I_18 J_19 x2 E46 K46 Post)))) ∧ (¬ (I 36 7) = 6 → ¬ (I 36 7) = 7 → ¬ (I 36 7) = 10 → (w_X5_fail 2 I J (fun (I_20 : HI) => (wj_X5_readAll_130 I_20 J x2 E46 K46 Post))))))))))))
set_option maxHeartbeats 4000000 in
set_option maxRecDepth 20000 in
theorem ws_X5_readAll_46 (g : kf_G) (hg : kf_g g) {x : kf_X} (hx : kf_ok g x RX5 cX5_readAll 3 5 117)  (Post : HI → HJ → Prop) (hret : ∀ (pc : Nat) (lv : List (Nat × Value)) (Iy : HI) (Jy : HJ), decode cX5_readAll pc = .ok (.return_, 1) → Post Iy Jy → kf_M g x 3 pc lv [] Iy Jy) (E46 : HI → HJ → Prop) (hE46 : ∀ (Iy : HI) (Jy : HJ), E46 Iy Jy → kf_M g x 3 141 [] [] Iy Jy) (K46 : (Int32 × HI × HJ) → Prop) (hK46 : ∀ (y2 : Int32) (Iy : HI) (Jy : HJ), K46 (y2, Iy, Jy) → kf_M g x 3 46 [(0, .ref (g.2.2.2 36)), (2, .int y2)] [] Iy Jy) (x2 : Int32) (I : HI) (J : HJ) (h : wb_X5_readAll_46  Post E46 K46 (x2, I, J)) : kf_M g x 3 46 [(0, .ref (g.2.2.2 36)), (2, .int x2)] [] I J := by
  unfold wb_X5_readAll_46 at h
  refine kf_iload_n hx dX5_readAll_46 rfl 1 rfl ?_
  refine kf_sipush (v := 600) hx dX5_readAll_47 (by decide) ?_
  refine kf_icmp_ge hx 141 dX5_readAll_50 (by decide) (fun c => ?_) (fun c => ?_)
  · replace h := h.1 c
    refine kf_sub [] rfl ?_
    exact hE46 _ _ h
  · replace h := h.2 c
    refine kf_aload_n hx dX5_readAll_53 rfl 0 rfl ?_
    refine kf_callVbP (st := []) hx (m_X5_goesOn g hg  I J _ h) lk_RX5_67 km_X5_goesOn ob_36 rfl (by decide) rfl (Nat.le_of_ble_eq_true rfl) dX5_readAll_54 (fun r_9 h => ?_)
    refine kf_ifB_eq hx 141 dX5_readAll_57 (by decide) (fun c => ?_) (fun c => ?_)
    · replace h := h.1 c
      refine kf_sub [] rfl ?_
      exact hE46 _ _ h
    · replace h := h.2 c
      refine kf_aload_n hx dX5_readAll_60 rfl 0 rfl ?_
      refine kf_getI hx sl_36_7 fl_RX5_71 dX5_readAll_61 ?_
      refine kf_if_eq hx 141 dX5_readAll_64 (by decide) (fun c => ?_) (fun c => ?_)
      · replace h := h.1 c
        refine kf_sub [] rfl ?_
        exact hE46 _ _ h
      · replace h := h.2 c
        refine kf_aload_n hx dX5_readAll_67 rfl 0 rfl ?_
        refine kf_getI hx sl_36_7 fl_RX5_71 dX5_readAll_68 ?_
        by_cases e6 : (I 36 7) = 6
        · refine kf_tabIn (off := 33) hx 104 dX5_readAll_71 (by rw [e6]; decide) (by rw [e6]; decide) (by rw [e6]; rfl) (by decide) ?_
          replace h := h.1 e6
          refine kf_aload_n hx dX5_readAll_104 rfl 0 rfl ?_
          refine kf_callVv (st := []) hx (m_X5_readPerson g hg  I J _ h) lk_RX5_74 km_X5_readPerson ob_36 rfl (by decide) rfl (Nat.le_of_ble_eq_true rfl) dX5_readAll_105 (fun I_10 J_11 h => ?_)
          refine kf_goto hx 130 dX5_readAll_108 (by decide) ?_
          exact wk_X5_readAll_130 g hg hx I_10 J_11 x2 _ _ hE46 hK46 _ hret h
        by_cases e7 : (I 36 7) = 7
        · refine kf_tabIn (off := 40) hx 111 dX5_readAll_71 (by rw [e7]; decide) (by rw [e7]; decide) (by rw [e7]; rfl) (by decide) ?_
          replace h := h.2.1 e7
          refine kf_aload_n hx dX5_readAll_111 rfl 0 rfl ?_
          refine kf_callVv (st := []) hx (m_X5_readTie g hg  I J _ h) lk_RX5_77 km_X5_readTie ob_36 rfl (by decide) rfl (Nat.le_of_ble_eq_true rfl) dX5_readAll_112 (fun I_14 J_15 h => ?_)
          refine kf_goto hx 130 dX5_readAll_115 (by decide) ?_
          exact wk_X5_readAll_130 g hg hx I_14 J_15 x2 _ _ hE46 hK46 _ hret h
        by_cases e8 : (I 36 7) = 8
        · refine kf_tabIn (off := 54) hx 125 dX5_readAll_71 (by rw [e8]; decide) (by rw [e8]; decide) (by rw [e8]; rfl) (by decide) ?_
          replace h := h.2.2.2 (by rw [e8]; decide) (by rw [e8]; decide) (by rw [e8]; decide)
          refine kf_aload_n hx dX5_readAll_125 rfl 0 rfl ?_
          refine kf_iconst (v := 2) hx dX5_readAll_126 (by decide) ?_
          refine kf_callVvI (st := []) hx (m_X5_fail g hg 2 I J _ h) lk_RX5_83 km_X5_fail ob_36 rfl (by decide) rfl (Nat.le_of_ble_eq_true rfl) dX5_readAll_127 (fun I_16 h => ?_)
          exact wk_X5_readAll_130 g hg hx I_16 J x2 _ _ hE46 hK46 _ hret h
        by_cases e9 : (I 36 7) = 9
        · refine kf_tabIn (off := 54) hx 125 dX5_readAll_71 (by rw [e9]; decide) (by rw [e9]; decide) (by rw [e9]; rfl) (by decide) ?_
          replace h := h.2.2.2 (by rw [e9]; decide) (by rw [e9]; decide) (by rw [e9]; decide)
          refine kf_aload_n hx dX5_readAll_125 rfl 0 rfl ?_
          refine kf_iconst (v := 2) hx dX5_readAll_126 (by decide) ?_
          refine kf_callVvI (st := []) hx (m_X5_fail g hg 2 I J _ h) lk_RX5_83 km_X5_fail ob_36 rfl (by decide) rfl (Nat.le_of_ble_eq_true rfl) dX5_readAll_127 (fun I_17 h => ?_)
          exact wk_X5_readAll_130 g hg hx I_17 J x2 _ _ hE46 hK46 _ hret h
        by_cases e10 : (I 36 7) = 10
        · refine kf_tabIn (off := 47) hx 118 dX5_readAll_71 (by rw [e10]; decide) (by rw [e10]; decide) (by rw [e10]; rfl) (by decide) ?_
          replace h := h.2.2.1 e10
          refine kf_aload_n hx dX5_readAll_118 rfl 0 rfl ?_
          refine kf_callVv (st := []) hx (m_X5_readValley g hg  I J _ h) lk_RX5_80 km_X5_readValley ob_36 rfl (by decide) rfl (Nat.le_of_ble_eq_true rfl) dX5_readAll_119 (fun I_18 J_19 h => ?_)
          refine kf_goto hx 130 dX5_readAll_122 (by decide) ?_
          exact wk_X5_readAll_130 g hg hx I_18 J_19 x2 _ _ hE46 hK46 _ hret h
        refine kf_tabOut hx 125 dX5_readAll_71 (tw_out (fun v h1 h2 => ?_)) (by decide) ?_
        · rcases (show v = 6 ∨ v = 7 ∨ v = 8 ∨ v = 9 ∨ v = 10 by omega) with rfl | rfl | rfl | rfl | rfl
          · exact tw_ne e6 (by decide)
          · exact tw_ne e7 (by decide)
          · exact tw_ne e8 (by decide)
          · exact tw_ne e9 (by decide)
          · exact tw_ne e10 (by decide)
        · replace h := h.2.2.2 e6 e7 e10
          refine kf_aload_n hx dX5_readAll_125 rfl 0 rfl ?_
          refine kf_iconst (v := 2) hx dX5_readAll_126 (by decide) ?_
          refine kf_callVvI (st := []) hx (m_X5_fail g hg 2 I J _ h) lk_RX5_83 km_X5_fail ob_36 rfl (by decide) rfl (Nat.le_of_ble_eq_true rfl) dX5_readAll_127 (fun I_20 h => ?_)
          exact wk_X5_readAll_130 g hg hx I_20 J x2 _ _ hE46 hK46 _ hret h
theorem wl_X5_readAll_46 (g : kf_G) (hg : kf_g g) {x : kf_X} (hx : kf_ok g x RX5 cX5_readAll 3 5 117)  (Post : HI → HJ → Prop) (hret : ∀ (pc : Nat) (lv : List (Nat × Value)) (Iy : HI) (Jy : HJ), decode cX5_readAll pc = .ok (.return_, 1) → Post Iy Jy → kf_M g x 3 pc lv [] Iy Jy) (E46 : HI → HJ → Prop) (hE46 : ∀ (Iy : HI) (Jy : HJ), E46 Iy Jy → kf_M g x 3 141 [] [] Iy Jy) : ∀ (n : Nat) (x2 : Int32) (I : HI) (J : HJ), lp (wb_X5_readAll_46  Post E46) n (x2, I, J) → kf_M g x 3 46 [(0, .ref (g.2.2.2 36)), (2, .int x2)] [] I J := by
  intro n
  induction n with
  | zero => intro x2 I J h; exact h.elim
  | succ n ih => intro x2 I J h; exact ws_X5_readAll_46 g hg hx Post hret E46 hE46 (lp (wb_X5_readAll_46  Post E46) n) ih x2 I J h
def w_X5_readAll (x1 : Int32) (I : HI) (J : HJ) (Post : HI → HJ → Prop) : Prop :=
  ∀ I_1 : HI, I_1 = hI I 36 4 (if 600 < x1 then 600 else x1) → (∀ I_2 : HI, I_2 = hI I_1 36 6 0 → (w_X4_empty  I_2 J (fun (I_3 : HI) => (∀ I_4 : HI, I_4 = hI I_3 36 10 0 → (∀ I_5 : HI, I_5 = hI I_4 36 11 0 → (∀ I_6 : HI, I_6 = hI I_5 36 12 (-1) → (w_X5_advance  I_6 J (fun (I_7 : HI) (J_8 : HJ) => (∃ n, lp (wb_X5_readAll_46 Post (fun (I_21 : HI) (J_22 : HJ) => Post I_21 J_22)) n (0, I_7, J_8))))))))))
set_option maxHeartbeats 4000000 in
set_option maxRecDepth 20000 in
theorem we_X5_readAll (g : kf_G) (hg : kf_g g) {x : kf_X} (hx : kf_ok g x RX5 cX5_readAll 3 5 117) (x1 : Int32) (I : HI) (J : HJ) (Post : HI → HJ → Prop) (hret : ∀ (pc : Nat) (lv : List (Nat × Value)) (Iy : HI) (Jy : HJ), decode cX5_readAll pc = .ok (.return_, 1) → Post Iy Jy → kf_M g x 3 pc lv [] Iy Jy) (h : w_X5_readAll x1 I J Post) : kf_M g x 3 0 [(0, .ref (g.2.2.2 36)), (1, .int x1)] [] I J := by
  unfold w_X5_readAll at h
  refine kf_aload_n hx dX5_readAll_0 rfl 0 rfl ?_
  refine kf_iload_n hx dX5_readAll_1 rfl 1 rfl ?_
  refine kf_aload_n hx dX5_readAll_2 rfl 0 rfl ?_
  refine kf_getR (n := 10) hx sl_36_2 fl_RX5_18 dX5_readAll_3 ?_
  refine kf_alenI (v := 600) hx ar_10 rfl (by decide) dX5_readAll_6 ?_
  refine kf_mminI (st := [.ref (g.2.2.2 36)]) hx lm_RX5_38 lm_mminI (by decide) (Nat.le_of_ble_eq_true rfl) dX5_readAll_7 ?_
  refine kf_putI hx sl_36_4 fl_RX5_44 fp_5_4 dX5_readAll_10 ?_
  refine kf_nmI (fun I_1 eI_1 => ?_)
  replace h := h I_1 eI_1
  refine kf_aload_n hx dX5_readAll_13 rfl 0 rfl ?_
  refine kf_iconst (v := 0) hx dX5_readAll_14 (by decide) ?_
  refine kf_putI hx sl_36_6 fl_RX5_47 fp_5_6 dX5_readAll_15 ?_
  refine kf_nmI (fun I_2 eI_2 => ?_)
  replace h := h I_2 eI_2
  refine kf_aload_n hx dX5_readAll_18 rfl 0 rfl ?_
  refine kf_getR (n := 24) hx sl_36_3 fl_RX5_22 dX5_readAll_19 ?_
  refine kf_callVvI (st := []) hx (m_X4_empty g hg  I_2 J _ h) lk_RX5_50 km_X4_empty ob_24 rfl (by decide) rfl (Nat.le_of_ble_eq_true rfl) dX5_readAll_22 (fun I_3 h => ?_)
  refine kf_aload_n hx dX5_readAll_25 rfl 0 rfl ?_
  refine kf_iconst (v := 0) hx dX5_readAll_26 (by decide) ?_
  refine kf_putI hx sl_36_10 fl_RX5_55 fp_5_10 dX5_readAll_27 ?_
  refine kf_nmI (fun I_4 eI_4 => ?_)
  replace h := h I_4 eI_4
  refine kf_aload_n hx dX5_readAll_30 rfl 0 rfl ?_
  refine kf_iconst (v := 0) hx dX5_readAll_31 (by decide) ?_
  refine kf_putI hx sl_36_11 fl_RX5_58 fp_5_11 dX5_readAll_32 ?_
  refine kf_nmI (fun I_5 eI_5 => ?_)
  replace h := h I_5 eI_5
  refine kf_aload_n hx dX5_readAll_35 rfl 0 rfl ?_
  refine kf_iconst (v := (-1)) hx dX5_readAll_36 (by decide) ?_
  refine kf_putI hx sl_36_12 fl_RX5_61 fp_5_12 dX5_readAll_37 ?_
  refine kf_nmI (fun I_6 eI_6 => ?_)
  replace h := h I_6 eI_6
  refine kf_aload_n hx dX5_readAll_40 rfl 0 rfl ?_
  refine kf_callVv (st := []) hx (m_X5_advance g hg  I_6 J _ h) lk_RX5_64 km_X5_advance ob_36 rfl (by decide) rfl (Nat.le_of_ble_eq_true rfl) dX5_readAll_41 (fun I_7 J_8 h => ?_)
  refine kf_iconst (v := 0) hx dX5_readAll_44 (by decide) ?_
  refine kf_istore_n (lv' := [(2, .int 0), (0, .ref (g.2.2.2 36)), (1, .int x1)]) hx dX5_readAll_45 rfl (by decide) rfl ?_
  obtain ⟨n, h⟩ := h
  refine kf_sub [1, 0] rfl ?_
  refine wl_X5_readAll_46 g hg hx   _ hret _ (fun I_21 J_22 h => ?_) n _ _ _ h
  exact hret _ _ _ _ dX5_readAll_141 h
set_option maxHeartbeats 4000000 in
set_option maxRecDepth 20000 in
theorem m_X5_readAll (g : kf_G) (hg : kf_g g) (x1 : Int32) (I : HI) (J : HJ) (Post : HI → HJ → Prop) (h : w_X5_readAll x1 I J Post) : kf_Mv g yX5_readAll (kf_W yX5_readAll cX5_readAll 3 (Option.none : Option Jvm.ClassFile.FieldType)) 5 117 [.ref (g.2.2.2 36), .int x1] I J Post :=
  kf_entv hg (by decide) (Nat.le_of_ble_eq_true rfl) rfl (fun x hx hr => we_X5_readAll g hg hx x1 I J Post (fun pc lv I' J' hd hP => hr pc lv I' J' hd hP) h)
theorem dX6_forgetAll_0 : decode cX6_forgetAll 0 = .ok (.aload_n 0, 1) := by decide +kernel
theorem dX6_forgetAll_1 : decode cX6_forgetAll 1 = .ok (.iconst 0, 1) := by decide +kernel
theorem dX6_forgetAll_2 : decode cX6_forgetAll 2 = .ok (.putfield 24, 3) := by decide +kernel
theorem dX6_forgetAll_5 : decode cX6_forgetAll 5 = .ok (.return_, 1) := by decide +kernel
def w_X6_forgetAll  (I : HI) (J : HJ) (Post : HI → Prop) : Prop :=
  ∀ I_1 : HI, I_1 = hI I 54 3 0 → (Post I_1)
set_option maxHeartbeats 4000000 in
set_option maxRecDepth 20000 in
theorem we_X6_forgetAll (g : kf_G) (hg : kf_g g) {x : kf_X} (hx : kf_ok g x RX6 cX6_forgetAll 1 0 0)  (I : HI) (J : HJ) (Post : HI → Prop) (hret : ∀ (pc : Nat) (lv : List (Nat × Value)) (Iy : HI), decode cX6_forgetAll pc = .ok (.return_, 1) → Post Iy → kf_M g x 1 pc lv [] Iy J) (h : w_X6_forgetAll  I J Post) : kf_M g x 1 0 [(0, .ref (g.2.2.2 54))] [] I J := by
  unfold w_X6_forgetAll at h
  refine kf_aload_n hx dX6_forgetAll_0 rfl 0 rfl ?_
  refine kf_iconst (v := 0) hx dX6_forgetAll_1 (by decide) ?_
  refine kf_putI hx sl_54_3 fl_RX6_24 fp_6_3 dX6_forgetAll_2 ?_
  refine kf_nmI (fun I_1 eI_1 => ?_)
  replace h := h I_1 eI_1
  exact hret _ _ _ dX6_forgetAll_5 h
set_option maxHeartbeats 4000000 in
set_option maxRecDepth 20000 in
theorem m_X6_forgetAll (g : kf_G) (hg : kf_g g)  (I : HI) (J : HJ) (Post : HI → Prop) (h : w_X6_forgetAll  I J Post) : kf_Mv g yX6_forgetAll (kf_W yX6_forgetAll cX6_forgetAll 1 (Option.none : Option Jvm.ClassFile.FieldType)) 0 0 [.ref (g.2.2.2 54)] I J (fun I' J' => Post I' ∧ J' = J) :=
  kf_entv hg (by decide) (Nat.le_of_ble_eq_true rfl) rfl (fun x hx hr => we_X6_forgetAll g hg hx  I J Post (fun pc lv I' hd hP => hr pc lv I' J hd ⟨hP, rfl⟩) h)
theorem dX6_keep_0 : decode cX6_keep 0 = .ok (.aload_n 0, 1) := by decide +kernel
theorem dX6_keep_1 : decode cX6_keep 1 = .ok (.getfield 24, 3) := by decide +kernel
theorem dX6_keep_4 : decode cX6_keep 4 = .ok (.bipush 15, 2) := by decide +kernel
theorem dX6_keep_6 : decode cX6_keep 6 = .ok (.if_icmp .lt 5, 3) := by decide +kernel
theorem dX6_keep_9 : decode cX6_keep 9 = .ok (.iconst (-1), 1) := by decide +kernel
theorem dX6_keep_10 : decode cX6_keep 10 = .ok (.ireturn, 1) := by decide +kernel
theorem dX6_keep_11 : decode cX6_keep 11 = .ok (.iconst 0, 1) := by decide +kernel
theorem dX6_keep_12 : decode cX6_keep 12 = .ok (.istore_n 2, 1) := by decide +kernel
theorem dX6_keep_13 : decode cX6_keep 13 = .ok (.iload_n 2, 1) := by decide +kernel
theorem dX6_keep_14 : decode cX6_keep 14 = .ok (.aload_n 0, 1) := by decide +kernel
theorem dX6_keep_15 : decode cX6_keep 15 = .ok (.getfield 20, 3) := by decide +kernel
theorem dX6_keep_18 : decode cX6_keep 18 = .ok (.getfield 28, 3) := by decide +kernel
theorem dX6_keep_21 : decode cX6_keep 21 = .ok (.if_icmp .ge 30, 3) := by decide +kernel
theorem dX6_keep_24 : decode cX6_keep 24 = .ok (.iload_n 2, 1) := by decide +kernel
theorem dX6_keep_25 : decode cX6_keep 25 = .ok (.aload_n 1, 1) := by decide +kernel
theorem dX6_keep_26 : decode cX6_keep 26 = .ok (.arraylength, 1) := by decide +kernel
theorem dX6_keep_27 : decode cX6_keep 27 = .ok (.if_icmp .ge 24, 3) := by decide +kernel
theorem dX6_keep_30 : decode cX6_keep 30 = .ok (.aload_n 0, 1) := by decide +kernel
theorem dX6_keep_31 : decode cX6_keep 31 = .ok (.getfield 13, 3) := by decide +kernel
theorem dX6_keep_34 : decode cX6_keep 34 = .ok (.aload_n 0, 1) := by decide +kernel
theorem dX6_keep_35 : decode cX6_keep 35 = .ok (.getfield 24, 3) := by decide +kernel
theorem dX6_keep_38 : decode cX6_keep 38 = .ok (.aaload, 1) := by decide +kernel
theorem dX6_keep_39 : decode cX6_keep 39 = .ok (.iload_n 2, 1) := by decide +kernel
theorem dX6_keep_40 : decode cX6_keep 40 = .ok (.aload_n 1, 1) := by decide +kernel
theorem dX6_keep_41 : decode cX6_keep 41 = .ok (.iload_n 2, 1) := by decide +kernel
theorem dX6_keep_42 : decode cX6_keep 42 = .ok (.laload, 1) := by decide +kernel
theorem dX6_keep_43 : decode cX6_keep 43 = .ok (.l2i, 1) := by decide +kernel
theorem dX6_keep_44 : decode cX6_keep 44 = .ok (.iastore, 1) := by decide +kernel
theorem dX6_keep_45 : decode cX6_keep 45 = .ok (.iinc 2 1, 3) := by decide +kernel
theorem dX6_keep_48 : decode cX6_keep 48 = .ok (.goto (-35), 3) := by decide +kernel
theorem dX6_keep_51 : decode cX6_keep 51 = .ok (.aload_n 0, 1) := by decide +kernel
theorem dX6_keep_52 : decode cX6_keep 52 = .ok (.dup, 1) := by decide +kernel
theorem dX6_keep_53 : decode cX6_keep 53 = .ok (.getfield 24, 3) := by decide +kernel
theorem dX6_keep_56 : decode cX6_keep 56 = .ok (.iconst 1, 1) := by decide +kernel
theorem dX6_keep_57 : decode cX6_keep 57 = .ok (.iadd, 1) := by decide +kernel
theorem dX6_keep_58 : decode cX6_keep 58 = .ok (.putfield 24, 3) := by decide +kernel
theorem dX6_keep_61 : decode cX6_keep 61 = .ok (.aload_n 0, 1) := by decide +kernel
theorem dX6_keep_62 : decode cX6_keep 62 = .ok (.getfield 24, 3) := by decide +kernel
theorem dX6_keep_65 : decode cX6_keep 65 = .ok (.iconst 1, 1) := by decide +kernel
theorem dX6_keep_66 : decode cX6_keep 66 = .ok (.isub, 1) := by decide +kernel
theorem dX6_keep_67 : decode cX6_keep 67 = .ok (.ireturn, 1) := by decide +kernel
def wb_X6_keep_13 (J : HJ) (c1 : Nat) (Post : Int32 → HI → Prop) (E13 : HI → Prop) (K13 : (Int32 × HI) → Prop) (s : Int32 × HI) : Prop :=
  match s with
  | (x2, I) => ((I 12 11) ≤ x2 → (E13 I)) ∧ (¬ (I 12 11) ≤ x2 → ((40 ≤ x2 → (E13 I)) ∧ (¬ 40 ≤ x2 → (vp_in (I 54 3) 15 ∧ (vp_in x2 40 ∧ (vp_in x2 12 ∧ (∀ I_2 : HI, I_2 = hI I (56 + 1 * Int32.toNatClampNeg (I 54 3)) (Int32.toNatClampNeg x2) (Int64.toInt32 (J c1 (Int32.toNatClampNeg x2))) → (K13 ((x2 + 1), I_2)))))))))
set_option maxHeartbeats 4000000 in
set_option maxRecDepth 20000 in
theorem ws_X6_keep_13 (g : kf_G) (hg : kf_g g) {x : kf_X} (hx : kf_ok g x RX6 cX6_keep 3 0 0) (J : HJ) (c1 : Nat) (hc1 : kf_SH[c1]? = some (2, 40, [1])) (Post : Int32 → HI → Prop) (hret : ∀ (pc : Nat) (lv : List (Nat × Value)) (v : Int32) (Iy : HI), decode cX6_keep pc = .ok (.ireturn, 1) → Post v Iy → kf_M g x 3 pc lv [.int v] Iy J) (E13 : HI → Prop) (hE13 : ∀ (Iy : HI), E13 Iy → kf_M g x 3 51 [(0, .ref (g.2.2.2 54))] [] Iy J) (K13 : (Int32 × HI) → Prop) (hK13 : ∀ (y2 : Int32) (Iy : HI), K13 (y2, Iy) → kf_M g x 3 13 [(0, .ref (g.2.2.2 54)), (1, .ref (g.2.2.2 c1)), (2, .int y2)] [] Iy J) (x2 : Int32) (I : HI) (h : wb_X6_keep_13 J c1 Post E13 K13 (x2, I)) : kf_M g x 3 13 [(0, .ref (g.2.2.2 54)), (1, .ref (g.2.2.2 c1)), (2, .int x2)] [] I J := by
  unfold wb_X6_keep_13 at h
  refine kf_iload_n hx dX6_keep_13 rfl 2 rfl ?_
  refine kf_aload_n hx dX6_keep_14 rfl 0 rfl ?_
  refine kf_getR (n := 12) hx sl_54_0 fl_RX6_20 dX6_keep_15 ?_
  refine kf_getI hx sl_12_11 fl_RX6_28 dX6_keep_18 ?_
  refine kf_icmp_ge hx 51 dX6_keep_21 (by decide) (fun c => ?_) (fun c => ?_)
  · replace h := h.1 c
    refine kf_sub [0] rfl ?_
    exact hE13 _ h
  · replace h := h.2 c
    refine kf_iload_n hx dX6_keep_24 rfl 2 rfl ?_
    refine kf_aload_n hx dX6_keep_25 rfl 1 rfl ?_
    refine kf_alenJ (v := 40) hx hc1 (by decide) dX6_keep_26 ?_
    refine kf_icmp_ge hx 51 dX6_keep_27 (by decide) (fun c => ?_) (fun c => ?_)
    · replace h := h.1 c
      refine kf_sub [0] rfl ?_
      exact hE13 _ h
    · replace h := h.2 c
      refine kf_aload_n hx dX6_keep_30 rfl 0 rfl ?_
      refine kf_getR (n := 55) hx sl_54_1 fl_RX6_13 dX6_keep_31 ?_
      refine kf_aload_n hx dX6_keep_34 rfl 0 rfl ?_
      refine kf_getI hx sl_54_3 fl_RX6_24 dX6_keep_35 ?_
      have hb_1 := h.1
      refine kf_aald hx ar_55 rfl rfl h.1 dX6_keep_38 ?_
      replace h := h.2
      refine kf_iload_n hx dX6_keep_39 rfl 2 rfl ?_
      refine kf_aload_n hx dX6_keep_40 rfl 1 rfl ?_
      refine kf_iload_n hx dX6_keep_41 rfl 2 rfl ?_
      refine kf_lald hx hc1 h.1 dX6_keep_42 ?_
      replace h := h.2
      refine kf_l2i hx dX6_keep_43 ?_
      refine kf_iast hx (rn_of hb_1) h.1 dX6_keep_44 ?_
      replace h := h.2
      refine kf_nmI (fun I_2 eI_2 => ?_)
      replace h := h I_2 eI_2
      refine kf_iinc (w := (x2 + 1)) (lv' := [(2, .int (x2 + 1)), (0, .ref (g.2.2.2 54)), (1, .ref (g.2.2.2 c1))]) hx dX6_keep_45 2 rfl rfl (by decide) rfl ?_
      refine kf_goto hx 13 dX6_keep_48 (by decide) ?_
      refine kf_sub [1, 2, 0] rfl ?_
      exact hK13 _ _ h
theorem wl_X6_keep_13 (g : kf_G) (hg : kf_g g) {x : kf_X} (hx : kf_ok g x RX6 cX6_keep 3 0 0) (J : HJ) (c1 : Nat) (hc1 : kf_SH[c1]? = some (2, 40, [1])) (Post : Int32 → HI → Prop) (hret : ∀ (pc : Nat) (lv : List (Nat × Value)) (v : Int32) (Iy : HI), decode cX6_keep pc = .ok (.ireturn, 1) → Post v Iy → kf_M g x 3 pc lv [.int v] Iy J) (E13 : HI → Prop) (hE13 : ∀ (Iy : HI), E13 Iy → kf_M g x 3 51 [(0, .ref (g.2.2.2 54))] [] Iy J) : ∀ (n : Nat) (x2 : Int32) (I : HI), lp (wb_X6_keep_13 J c1 Post E13) n (x2, I) → kf_M g x 3 13 [(0, .ref (g.2.2.2 54)), (1, .ref (g.2.2.2 c1)), (2, .int x2)] [] I J := by
  intro n
  induction n with
  | zero => intro x2 I h; exact h.elim
  | succ n ih => intro x2 I h; exact ws_X6_keep_13 g hg hx J c1 hc1 Post hret E13 hE13 (lp (wb_X6_keep_13 J c1 Post E13) n) ih x2 I h
def w_X6_keep (c1 : Nat) (I : HI) (J : HJ) (Post : Int32 → HI → Prop) : Prop :=
  ((I 54 3) < 15 → (∃ n, lp (wb_X6_keep_13 J c1 Post (fun (I_3 : HI) => ∀ I_4 : HI, I_4 = hI I_3 54 3 ((I_3 54 3) + 1) → (Post ((I_4 54 3) - 1) I_4))) n (0, I))) ∧ (¬ (I 54 3) < 15 → (Post (-1) I))
set_option maxHeartbeats 4000000 in
set_option maxRecDepth 20000 in
theorem we_X6_keep (g : kf_G) (hg : kf_g g) {x : kf_X} (hx : kf_ok g x RX6 cX6_keep 3 0 0) (c1 : Nat) (hc1 : kf_SH[c1]? = some (2, 40, [1])) (I : HI) (J : HJ) (Post : Int32 → HI → Prop) (hret : ∀ (pc : Nat) (lv : List (Nat × Value)) (v : Int32) (Iy : HI), decode cX6_keep pc = .ok (.ireturn, 1) → Post v Iy → kf_M g x 3 pc lv [.int v] Iy J) (h : w_X6_keep c1 I J Post) : kf_M g x 3 0 [(0, .ref (g.2.2.2 54)), (1, .ref (g.2.2.2 c1))] [] I J := by
  unfold w_X6_keep at h
  refine kf_aload_n hx dX6_keep_0 rfl 0 rfl ?_
  refine kf_getI hx sl_54_3 fl_RX6_24 dX6_keep_1 ?_
  refine kf_bipush (v := 15) hx dX6_keep_4 (by decide) ?_
  refine kf_icmp_lt hx 11 dX6_keep_6 (by decide) (fun c => ?_) (fun c => ?_)
  · replace h := h.1 c
    refine kf_iconst (v := 0) hx dX6_keep_11 (by decide) ?_
    refine kf_istore_n (lv' := [(2, .int 0), (0, .ref (g.2.2.2 54)), (1, .ref (g.2.2.2 c1))]) hx dX6_keep_12 rfl (by decide) rfl ?_
    obtain ⟨n, h⟩ := h
    refine kf_sub [1, 2, 0] rfl ?_
    refine wl_X6_keep_13 g hg hx J c1 hc1 _ hret _ (fun I_3 h => ?_) n _ _ h
    refine kf_aload_n hx dX6_keep_51 rfl 0 rfl ?_
    refine kf_dup hx dX6_keep_52 rfl ?_
    refine kf_getI hx sl_54_3 fl_RX6_24 dX6_keep_53 ?_
    refine kf_iconst (v := 1) hx dX6_keep_56 (by decide) ?_
    refine kf_iadd hx dX6_keep_57 ?_
    refine kf_putI hx sl_54_3 fl_RX6_24 fp_6_3 dX6_keep_58 ?_
    refine kf_nmI (fun I_4 eI_4 => ?_)
    replace h := h I_4 eI_4
    refine kf_aload_n hx dX6_keep_61 rfl 0 rfl ?_
    refine kf_getI hx sl_54_3 fl_RX6_24 dX6_keep_62 ?_
    refine kf_iconst (v := 1) hx dX6_keep_65 (by decide) ?_
    refine kf_isub hx dX6_keep_66 ?_
    exact hret _ _ ((I_4 54 3) - 1) _ dX6_keep_67 h
  · replace h := h.2 c
    refine kf_iconst (v := (-1)) hx dX6_keep_9 (by decide) ?_
    exact hret _ _ (-1) _ dX6_keep_10 h
set_option maxHeartbeats 4000000 in
set_option maxRecDepth 20000 in
theorem m_X6_keep (g : kf_G) (hg : kf_g g) (c1 : Nat) (hc1 : kf_SH[c1]? = some (2, 40, [1])) (I : HI) (J : HJ) (Post : Int32 → HI → Prop) (h : w_X6_keep c1 I J Post) : kf_Mi g yX6_keep (kf_W yX6_keep cX6_keep 3 (Option.some Jvm.ClassFile.FieldType.int)) 0 0 [.ref (g.2.2.2 54), .ref (g.2.2.2 c1)] I J (fun v I' J' => Post v I' ∧ J' = J) :=
  kf_enti hg (by decide) (Nat.le_of_ble_eq_true rfl) rfl (fun x hx hr => we_X6_keep g hg hx c1 hc1 I J Post (fun pc lv v I' hd hP => hr pc lv v I' J hd ⟨hP, rfl⟩) h)
theorem dX6_wasTried_0 : decode cX6_wasTried 0 = .ok (.aload_n 2, 1) := by decide +kernel
theorem dX6_wasTried_1 : decode cX6_wasTried 1 = .ok (.aload_n 0, 1) := by decide +kernel
theorem dX6_wasTried_2 : decode cX6_wasTried 2 = .ok (.getfield 20, 3) := by decide +kernel
theorem dX6_wasTried_5 : decode cX6_wasTried 5 = .ok (.getfield 33, 3) := by decide +kernel
theorem dX6_wasTried_8 : decode cX6_wasTried 8 = .ok (.iload_n 1, 1) := by decide +kernel
theorem dX6_wasTried_9 : decode cX6_wasTried 9 = .ok (.iaload, 1) := by decide +kernel
theorem dX6_wasTried_10 : decode cX6_wasTried 10 = .ok (.iaload, 1) := by decide +kernel
theorem dX6_wasTried_11 : decode cX6_wasTried 11 = .ok (.istore_n 3, 1) := by decide +kernel
theorem dX6_wasTried_12 : decode cX6_wasTried 12 = .ok (.aload_n 2, 1) := by decide +kernel
theorem dX6_wasTried_13 : decode cX6_wasTried 13 = .ok (.aload_n 0, 1) := by decide +kernel
theorem dX6_wasTried_14 : decode cX6_wasTried 14 = .ok (.getfield 20, 3) := by decide +kernel
theorem dX6_wasTried_17 : decode cX6_wasTried 17 = .ok (.getfield 36, 3) := by decide +kernel
theorem dX6_wasTried_20 : decode cX6_wasTried 20 = .ok (.iload_n 1, 1) := by decide +kernel
theorem dX6_wasTried_21 : decode cX6_wasTried 21 = .ok (.iaload, 1) := by decide +kernel
theorem dX6_wasTried_22 : decode cX6_wasTried 22 = .ok (.iaload, 1) := by decide +kernel
theorem dX6_wasTried_23 : decode cX6_wasTried 23 = .ok (.istore 4, 2) := by decide +kernel
theorem dX6_wasTried_25 : decode cX6_wasTried 25 = .ok (.iload_n 3, 1) := by decide +kernel
theorem dX6_wasTried_26 : decode cX6_wasTried 26 = .ok (.iconst (-1), 1) := by decide +kernel
theorem dX6_wasTried_27 : decode cX6_wasTried 27 = .ok (.if_icmp .eq 29, 3) := by decide +kernel
theorem dX6_wasTried_30 : decode cX6_wasTried 30 = .ok (.iload 4, 2) := by decide +kernel
theorem dX6_wasTried_32 : decode cX6_wasTried 32 = .ok (.iconst (-1), 1) := by decide +kernel
theorem dX6_wasTried_33 : decode cX6_wasTried 33 = .ok (.if_icmp .eq 19, 3) := by decide +kernel
theorem dX6_wasTried_36 : decode cX6_wasTried 36 = .ok (.iload 4, 2) := by decide +kernel
theorem dX6_wasTried_38 : decode cX6_wasTried 38 = .ok (.iload_n 3, 1) := by decide +kernel
theorem dX6_wasTried_39 : decode cX6_wasTried 39 = .ok (.aload_n 0, 1) := by decide +kernel
theorem dX6_wasTried_40 : decode cX6_wasTried 40 = .ok (.getfield 20, 3) := by decide +kernel
theorem dX6_wasTried_43 : decode cX6_wasTried 43 = .ok (.getfield 39, 3) := by decide +kernel
theorem dX6_wasTried_46 : decode cX6_wasTried 46 = .ok (.iload_n 1, 1) := by decide +kernel
theorem dX6_wasTried_47 : decode cX6_wasTried 47 = .ok (.iaload, 1) := by decide +kernel
theorem dX6_wasTried_48 : decode cX6_wasTried 48 = .ok (.iadd, 1) := by decide +kernel
theorem dX6_wasTried_49 : decode cX6_wasTried 49 = .ok (.if_icmp .lt 7, 3) := by decide +kernel
theorem dX6_wasTried_52 : decode cX6_wasTried 52 = .ok (.iconst 1, 1) := by decide +kernel
theorem dX6_wasTried_53 : decode cX6_wasTried 53 = .ok (.goto 4, 3) := by decide +kernel
theorem dX6_wasTried_56 : decode cX6_wasTried 56 = .ok (.iconst 0, 1) := by decide +kernel
theorem dX6_wasTried_57 : decode cX6_wasTried 57 = .ok (.ireturn, 1) := by decide +kernel
def w_X6_wasTried (x1 : Int32) (c2 : Nat) (I : HI) (J : HJ) (Post : Bool → Prop) : Prop :=
  vp_in x1 10 ∧ (vp_in (I 19 (Int32.toNatClampNeg x1)) 12 ∧ (∀ z_1 : Int32, z_1 = (I c2 (Int32.toNatClampNeg (I 19 (Int32.toNatClampNeg x1)))) → (vp_in x1 10 ∧ (vp_in (I 20 (Int32.toNatClampNeg x1)) 12 ∧ (∀ z_2 : Int32, z_2 = (I c2 (Int32.toNatClampNeg (I 20 (Int32.toNatClampNeg x1)))) → ((z_1 = (-1) → (Post false)) ∧ (¬ z_1 = (-1) → ((z_2 = (-1) → (Post true)) ∧ (¬ z_2 = (-1) → (vp_in x1 10 ∧ ((z_2 < (z_1 + (I 22 (Int32.toNatClampNeg x1))) → (Post false)) ∧ (¬ z_2 < (z_1 + (I 22 (Int32.toNatClampNeg x1))) → (Post true)))))))))))))
set_option maxHeartbeats 4000000 in
set_option maxRecDepth 20000 in
theorem we_X6_wasTried (g : kf_G) (hg : kf_g g) {x : kf_X} (hx : kf_ok g x RX6 cX6_wasTried 5 0 0) (x1 : Int32) (c2 : Nat) (hc2 : kf_SH[c2]? = some (1, 12, [0])) (I : HI) (J : HJ) (Post : Bool → Prop) (hret : ∀ (pc : Nat) (lv : List (Nat × Value)) (v : Bool), decode cX6_wasTried pc = .ok (.ireturn, 1) → Post v → kf_M g x 5 pc lv [.int (kb v)] I J) (h : w_X6_wasTried x1 c2 I J Post) : kf_M g x 5 0 [(0, .ref (g.2.2.2 54)), (1, .int x1), (2, .ref (g.2.2.2 c2))] [] I J := by
  unfold w_X6_wasTried at h
  refine kf_aload_n hx dX6_wasTried_0 rfl 2 rfl ?_
  refine kf_aload_n hx dX6_wasTried_1 rfl 0 rfl ?_
  refine kf_getR (n := 12) hx sl_54_0 fl_RX6_20 dX6_wasTried_2 ?_
  refine kf_getR (n := 19) hx sl_12_6 fl_RX6_33 dX6_wasTried_5 ?_
  refine kf_iload_n hx dX6_wasTried_8 rfl 1 rfl ?_
  refine kf_iald hx ar_19 h.1 dX6_wasTried_9 ?_
  replace h := h.2
  refine kf_iald hx hc2 h.1 dX6_wasTried_10 ?_
  replace h := h.2
  refine kf_topi (fun z_1 ez_1 => ?_)
  replace h := h z_1 ez_1
  refine kf_istore_n (lv' := [(3, .int z_1), (0, .ref (g.2.2.2 54)), (1, .int x1), (2, .ref (g.2.2.2 c2))]) hx dX6_wasTried_11 rfl (by decide) rfl ?_
  refine kf_aload_n hx dX6_wasTried_12 rfl 3 rfl ?_
  refine kf_aload_n hx dX6_wasTried_13 rfl 1 rfl ?_
  refine kf_getR (n := 12) hx sl_54_0 fl_RX6_20 dX6_wasTried_14 ?_
  refine kf_getR (n := 20) hx sl_12_7 fl_RX6_36 dX6_wasTried_17 ?_
  refine kf_iload_n hx dX6_wasTried_20 rfl 2 rfl ?_
  refine kf_iald hx ar_20 h.1 dX6_wasTried_21 ?_
  replace h := h.2
  refine kf_iald hx hc2 h.1 dX6_wasTried_22 ?_
  replace h := h.2
  refine kf_topi (fun z_2 ez_2 => ?_)
  replace h := h z_2 ez_2
  refine kf_istore (lv' := [(4, .int z_2), (3, .int z_1), (0, .ref (g.2.2.2 54)), (1, .int x1), (2, .ref (g.2.2.2 c2))]) hx dX6_wasTried_23 (by decide) rfl ?_
  refine kf_iload_n hx dX6_wasTried_25 rfl 1 rfl ?_
  refine kf_iconst (v := (-1)) hx dX6_wasTried_26 (by decide) ?_
  refine kf_icmp_eq hx 56 dX6_wasTried_27 (by decide) (fun c => ?_) (fun c => ?_)
  · replace h := h.1 c
    refine kf_iconst (v := 0) hx dX6_wasTried_56 (by decide) ?_
    exact hret _ _ false  dX6_wasTried_57 h
  · replace h := h.2 c
    refine kf_iload hx dX6_wasTried_30 0 rfl ?_
    refine kf_iconst (v := (-1)) hx dX6_wasTried_32 (by decide) ?_
    refine kf_icmp_eq hx 52 dX6_wasTried_33 (by decide) (fun c => ?_) (fun c => ?_)
    · replace h := h.1 c
      refine kf_iconst (v := 1) hx dX6_wasTried_52 (by decide) ?_
      refine kf_goto hx 57 dX6_wasTried_53 (by decide) ?_
      exact hret _ _ true  dX6_wasTried_57 h
    · replace h := h.2 c
      refine kf_iload hx dX6_wasTried_36 0 rfl ?_
      refine kf_iload_n hx dX6_wasTried_38 rfl 1 rfl ?_
      refine kf_aload_n hx dX6_wasTried_39 rfl 2 rfl ?_
      refine kf_getR (n := 12) hx sl_54_0 fl_RX6_20 dX6_wasTried_40 ?_
      refine kf_getR (n := 22) hx sl_12_9 fl_RX6_39 dX6_wasTried_43 ?_
      refine kf_iload_n hx dX6_wasTried_46 rfl 3 rfl ?_
      refine kf_iald hx ar_22 h.1 dX6_wasTried_47 ?_
      replace h := h.2
      refine kf_iadd hx dX6_wasTried_48 ?_
      refine kf_icmp_lt hx 56 dX6_wasTried_49 (by decide) (fun c => ?_) (fun c => ?_)
      · replace h := h.1 c
        refine kf_iconst (v := 0) hx dX6_wasTried_56 (by decide) ?_
        exact hret _ _ false  dX6_wasTried_57 h
      · replace h := h.2 c
        refine kf_iconst (v := 1) hx dX6_wasTried_52 (by decide) ?_
        refine kf_goto hx 57 dX6_wasTried_53 (by decide) ?_
        exact hret _ _ true  dX6_wasTried_57 h
set_option maxHeartbeats 4000000 in
set_option maxRecDepth 20000 in
theorem m_X6_wasTried (g : kf_G) (hg : kf_g g) (x1 : Int32) (c2 : Nat) (hc2 : kf_SH[c2]? = some (1, 12, [0])) (I : HI) (J : HJ) (Post : Bool → Prop) (h : w_X6_wasTried x1 c2 I J Post) : kf_Mb g yX6_wasTried (kf_W yX6_wasTried cX6_wasTried 5 (Option.some Jvm.ClassFile.FieldType.boolean)) 0 0 [.ref (g.2.2.2 54), .int x1, .ref (g.2.2.2 c2)] I J (fun v I' J' => Post v ∧ I' = I ∧ J' = J) :=
  kf_entb hg (by decide) (Nat.le_of_ble_eq_true rfl) rfl (fun x hx hr => we_X6_wasTried g hg hx x1 c2 hc2 I J Post (fun pc lv v hd hP => hr pc lv v I J hd ⟨hP, rfl, rfl⟩) h)
theorem dX6_didTell_0 : decode cX6_didTell 0 = .ok (.aload_n 2, 1) := by decide +kernel
theorem dX6_didTell_1 : decode cX6_didTell 1 = .ok (.aload_n 0, 1) := by decide +kernel
theorem dX6_didTell_2 : decode cX6_didTell 2 = .ok (.getfield 20, 3) := by decide +kernel
theorem dX6_didTell_5 : decode cX6_didTell 5 = .ok (.getfield 33, 3) := by decide +kernel
theorem dX6_didTell_8 : decode cX6_didTell 8 = .ok (.iload_n 1, 1) := by decide +kernel
theorem dX6_didTell_9 : decode cX6_didTell 9 = .ok (.iaload, 1) := by decide +kernel
theorem dX6_didTell_10 : decode cX6_didTell 10 = .ok (.iaload, 1) := by decide +kernel
theorem dX6_didTell_11 : decode cX6_didTell 11 = .ok (.istore_n 3, 1) := by decide +kernel
theorem dX6_didTell_12 : decode cX6_didTell 12 = .ok (.aload_n 0, 1) := by decide +kernel
theorem dX6_didTell_13 : decode cX6_didTell 13 = .ok (.getfield 20, 3) := by decide +kernel
theorem dX6_didTell_16 : decode cX6_didTell 16 = .ok (.getfield 36, 3) := by decide +kernel
theorem dX6_didTell_19 : decode cX6_didTell 19 = .ok (.iload_n 1, 1) := by decide +kernel
theorem dX6_didTell_20 : decode cX6_didTell 20 = .ok (.iaload, 1) := by decide +kernel
theorem dX6_didTell_21 : decode cX6_didTell 21 = .ok (.istore 4, 2) := by decide +kernel
theorem dX6_didTell_23 : decode cX6_didTell 23 = .ok (.iload_n 3, 1) := by decide +kernel
theorem dX6_didTell_24 : decode cX6_didTell 24 = .ok (.iconst (-1), 1) := by decide +kernel
theorem dX6_didTell_25 : decode cX6_didTell 25 = .ok (.if_icmp .eq 36, 3) := by decide +kernel
theorem dX6_didTell_28 : decode cX6_didTell 28 = .ok (.aload_n 2, 1) := by decide +kernel
theorem dX6_didTell_29 : decode cX6_didTell 29 = .ok (.iload 4, 2) := by decide +kernel
theorem dX6_didTell_31 : decode cX6_didTell 31 = .ok (.iaload, 1) := by decide +kernel
theorem dX6_didTell_32 : decode cX6_didTell 32 = .ok (.iload_n 3, 1) := by decide +kernel
theorem dX6_didTell_33 : decode cX6_didTell 33 = .ok (.aload_n 0, 1) := by decide +kernel
theorem dX6_didTell_34 : decode cX6_didTell 34 = .ok (.getfield 20, 3) := by decide +kernel
theorem dX6_didTell_37 : decode cX6_didTell 37 = .ok (.getfield 39, 3) := by decide +kernel
theorem dX6_didTell_40 : decode cX6_didTell 40 = .ok (.iload_n 1, 1) := by decide +kernel
theorem dX6_didTell_41 : decode cX6_didTell 41 = .ok (.iaload, 1) := by decide +kernel
theorem dX6_didTell_42 : decode cX6_didTell 42 = .ok (.iadd, 1) := by decide +kernel
theorem dX6_didTell_43 : decode cX6_didTell 43 = .ok (.aload_n 0, 1) := by decide +kernel
theorem dX6_didTell_44 : decode cX6_didTell 44 = .ok (.getfield 20, 3) := by decide +kernel
theorem dX6_didTell_47 : decode cX6_didTell 47 = .ok (.getfield 42, 3) := by decide +kernel
theorem dX6_didTell_50 : decode cX6_didTell 50 = .ok (.iload 4, 2) := by decide +kernel
theorem dX6_didTell_52 : decode cX6_didTell 52 = .ok (.iaload, 1) := by decide +kernel
theorem dX6_didTell_53 : decode cX6_didTell 53 = .ok (.iadd, 1) := by decide +kernel
theorem dX6_didTell_54 : decode cX6_didTell 54 = .ok (.if_icmp .ne 7, 3) := by decide +kernel
theorem dX6_didTell_57 : decode cX6_didTell 57 = .ok (.iconst 1, 1) := by decide +kernel
theorem dX6_didTell_58 : decode cX6_didTell 58 = .ok (.goto 4, 3) := by decide +kernel
theorem dX6_didTell_61 : decode cX6_didTell 61 = .ok (.iconst 0, 1) := by decide +kernel
theorem dX6_didTell_62 : decode cX6_didTell 62 = .ok (.ireturn, 1) := by decide +kernel
def w_X6_didTell (x1 : Int32) (c2 : Nat) (I : HI) (J : HJ) (Post : Bool → Prop) : Prop :=
  vp_in x1 10 ∧ (vp_in (I 19 (Int32.toNatClampNeg x1)) 12 ∧ (∀ z_1 : Int32, z_1 = (I c2 (Int32.toNatClampNeg (I 19 (Int32.toNatClampNeg x1)))) → (vp_in x1 10 ∧ ((z_1 = (-1) → (Post false)) ∧ (¬ z_1 = (-1) → (vp_in (I 20 (Int32.toNatClampNeg x1)) 12 ∧ (vp_in x1 10 ∧ (vp_in (I 20 (Int32.toNatClampNeg x1)) 12 ∧ ((¬ (I c2 (Int32.toNatClampNeg (I 20 (Int32.toNatClampNeg x1)))) = ((z_1 + (I 22 (Int32.toNatClampNeg x1))) + (I 15 (Int32.toNatClampNeg (I 20 (Int32.toNatClampNeg x1))))) → (Post false)) ∧ ((I c2 (Int32.toNatClampNeg (I 20 (Int32.toNatClampNeg x1)))) = ((z_1 + (I 22 (Int32.toNatClampNeg x1))) + (I 15 (Int32.toNatClampNeg (I 20 (Int32.toNatClampNeg x1))))) → (Post true)))))))))))
set_option maxHeartbeats 4000000 in
set_option maxRecDepth 20000 in
theorem we_X6_didTell (g : kf_G) (hg : kf_g g) {x : kf_X} (hx : kf_ok g x RX6 cX6_didTell 5 0 0) (x1 : Int32) (c2 : Nat) (hc2 : kf_SH[c2]? = some (1, 12, [0])) (I : HI) (J : HJ) (Post : Bool → Prop) (hret : ∀ (pc : Nat) (lv : List (Nat × Value)) (v : Bool), decode cX6_didTell pc = .ok (.ireturn, 1) → Post v → kf_M g x 5 pc lv [.int (kb v)] I J) (h : w_X6_didTell x1 c2 I J Post) : kf_M g x 5 0 [(0, .ref (g.2.2.2 54)), (1, .int x1), (2, .ref (g.2.2.2 c2))] [] I J := by
  unfold w_X6_didTell at h
  refine kf_aload_n hx dX6_didTell_0 rfl 2 rfl ?_
  refine kf_aload_n hx dX6_didTell_1 rfl 0 rfl ?_
  refine kf_getR (n := 12) hx sl_54_0 fl_RX6_20 dX6_didTell_2 ?_
  refine kf_getR (n := 19) hx sl_12_6 fl_RX6_33 dX6_didTell_5 ?_
  refine kf_iload_n hx dX6_didTell_8 rfl 1 rfl ?_
  refine kf_iald hx ar_19 h.1 dX6_didTell_9 ?_
  replace h := h.2
  refine kf_iald hx hc2 h.1 dX6_didTell_10 ?_
  replace h := h.2
  refine kf_topi (fun z_1 ez_1 => ?_)
  replace h := h z_1 ez_1
  refine kf_istore_n (lv' := [(3, .int z_1), (0, .ref (g.2.2.2 54)), (1, .int x1), (2, .ref (g.2.2.2 c2))]) hx dX6_didTell_11 rfl (by decide) rfl ?_
  refine kf_aload_n hx dX6_didTell_12 rfl 1 rfl ?_
  refine kf_getR (n := 12) hx sl_54_0 fl_RX6_20 dX6_didTell_13 ?_
  refine kf_getR (n := 20) hx sl_12_7 fl_RX6_36 dX6_didTell_16 ?_
  refine kf_iload_n hx dX6_didTell_19 rfl 2 rfl ?_
  refine kf_iald hx ar_20 h.1 dX6_didTell_20 ?_
  replace h := h.2
  refine kf_istore (lv' := [(4, .int (I 20 (Int32.toNatClampNeg x1))), (3, .int z_1), (0, .ref (g.2.2.2 54)), (1, .int x1), (2, .ref (g.2.2.2 c2))]) hx dX6_didTell_21 (by decide) rfl ?_
  refine kf_iload_n hx dX6_didTell_23 rfl 1 rfl ?_
  refine kf_iconst (v := (-1)) hx dX6_didTell_24 (by decide) ?_
  refine kf_icmp_eq hx 61 dX6_didTell_25 (by decide) (fun c => ?_) (fun c => ?_)
  · replace h := h.1 c
    refine kf_iconst (v := 0) hx dX6_didTell_61 (by decide) ?_
    exact hret _ _ false  dX6_didTell_62 h
  · replace h := h.2 c
    refine kf_aload_n hx dX6_didTell_28 rfl 4 rfl ?_
    refine kf_iload hx dX6_didTell_29 0 rfl ?_
    refine kf_iald hx hc2 h.1 dX6_didTell_31 ?_
    replace h := h.2
    refine kf_iload_n hx dX6_didTell_32 rfl 1 rfl ?_
    refine kf_aload_n hx dX6_didTell_33 rfl 2 rfl ?_
    refine kf_getR (n := 12) hx sl_54_0 fl_RX6_20 dX6_didTell_34 ?_
    refine kf_getR (n := 22) hx sl_12_9 fl_RX6_39 dX6_didTell_37 ?_
    refine kf_iload_n hx dX6_didTell_40 rfl 3 rfl ?_
    refine kf_iald hx ar_22 h.1 dX6_didTell_41 ?_
    replace h := h.2
    refine kf_iadd hx dX6_didTell_42 ?_
    refine kf_aload_n hx dX6_didTell_43 rfl 2 rfl ?_
    refine kf_getR (n := 12) hx sl_54_0 fl_RX6_20 dX6_didTell_44 ?_
    refine kf_getR (n := 15) hx sl_12_2 fl_RX6_42 dX6_didTell_47 ?_
    refine kf_iload hx dX6_didTell_50 0 rfl ?_
    refine kf_iald hx ar_15 h.1 dX6_didTell_52 ?_
    replace h := h.2
    refine kf_iadd hx dX6_didTell_53 ?_
    refine kf_icmp_ne hx 61 dX6_didTell_54 (by decide) (fun c => ?_) (fun c => ?_)
    · replace h := h.1 c
      refine kf_iconst (v := 0) hx dX6_didTell_61 (by decide) ?_
      exact hret _ _ false  dX6_didTell_62 h
    · replace h := h.2 c
      refine kf_iconst (v := 1) hx dX6_didTell_57 (by decide) ?_
      refine kf_goto hx 62 dX6_didTell_58 (by decide) ?_
      exact hret _ _ true  dX6_didTell_62 h
set_option maxHeartbeats 4000000 in
set_option maxRecDepth 20000 in
theorem m_X6_didTell (g : kf_G) (hg : kf_g g) (x1 : Int32) (c2 : Nat) (hc2 : kf_SH[c2]? = some (1, 12, [0])) (I : HI) (J : HJ) (Post : Bool → Prop) (h : w_X6_didTell x1 c2 I J Post) : kf_Mb g yX6_didTell (kf_W yX6_didTell cX6_didTell 5 (Option.some Jvm.ClassFile.FieldType.boolean)) 0 0 [.ref (g.2.2.2 54), .int x1, .ref (g.2.2.2 c2)] I J (fun v I' J' => Post v ∧ I' = I ∧ J' = J) :=
  kf_entb hg (by decide) (Nat.le_of_ble_eq_true rfl) rfl (fun x hx hr => we_X6_didTell g hg hx x1 c2 hc2 I J Post (fun pc lv v hd hP => hr pc lv v I J hd ⟨hP, rfl, rfl⟩) h)
theorem dX6_timesTried_0 : decode cX6_timesTried 0 = .ok (.iconst 0, 1) := by decide +kernel
theorem dX6_timesTried_1 : decode cX6_timesTried 1 = .ok (.istore_n 2, 1) := by decide +kernel
theorem dX6_timesTried_2 : decode cX6_timesTried 2 = .ok (.iconst 0, 1) := by decide +kernel
theorem dX6_timesTried_3 : decode cX6_timesTried 3 = .ok (.istore_n 3, 1) := by decide +kernel
theorem dX6_timesTried_4 : decode cX6_timesTried 4 = .ok (.iload_n 3, 1) := by decide +kernel
theorem dX6_timesTried_5 : decode cX6_timesTried 5 = .ok (.aload_n 0, 1) := by decide +kernel
theorem dX6_timesTried_6 : decode cX6_timesTried 6 = .ok (.getfield 24, 3) := by decide +kernel
theorem dX6_timesTried_9 : decode cX6_timesTried 9 = .ok (.if_icmp .ge 31, 3) := by decide +kernel
theorem dX6_timesTried_12 : decode cX6_timesTried 12 = .ok (.iload_n 2, 1) := by decide +kernel
theorem dX6_timesTried_13 : decode cX6_timesTried 13 = .ok (.aload_n 0, 1) := by decide +kernel
theorem dX6_timesTried_14 : decode cX6_timesTried 14 = .ok (.iload_n 1, 1) := by decide +kernel
theorem dX6_timesTried_15 : decode cX6_timesTried 15 = .ok (.aload_n 0, 1) := by decide +kernel
theorem dX6_timesTried_16 : decode cX6_timesTried 16 = .ok (.getfield 13, 3) := by decide +kernel
theorem dX6_timesTried_19 : decode cX6_timesTried 19 = .ok (.iload_n 3, 1) := by decide +kernel
theorem dX6_timesTried_20 : decode cX6_timesTried 20 = .ok (.aaload, 1) := by decide +kernel
theorem dX6_timesTried_21 : decode cX6_timesTried 21 = .ok (.invokevirtual 45, 3) := by decide +kernel
theorem dX6_timesTried_24 : decode cX6_timesTried 24 = .ok (.ifCond .eq 7, 3) := by decide +kernel
theorem dX6_timesTried_27 : decode cX6_timesTried 27 = .ok (.iconst 1, 1) := by decide +kernel
theorem dX6_timesTried_28 : decode cX6_timesTried 28 = .ok (.goto 4, 3) := by decide +kernel
theorem dX6_timesTried_31 : decode cX6_timesTried 31 = .ok (.iconst 0, 1) := by decide +kernel
theorem dX6_timesTried_32 : decode cX6_timesTried 32 = .ok (.iadd, 1) := by decide +kernel
theorem dX6_timesTried_33 : decode cX6_timesTried 33 = .ok (.istore_n 2, 1) := by decide +kernel
theorem dX6_timesTried_34 : decode cX6_timesTried 34 = .ok (.iinc 3 1, 3) := by decide +kernel
theorem dX6_timesTried_37 : decode cX6_timesTried 37 = .ok (.goto (-33), 3) := by decide +kernel
theorem dX6_timesTried_40 : decode cX6_timesTried 40 = .ok (.iload_n 2, 1) := by decide +kernel
theorem dX6_timesTried_41 : decode cX6_timesTried 41 = .ok (.ireturn, 1) := by decide +kernel
def wb_X6_timesTried_4 (I : HI) (J : HJ) (x1 : Int32) (Post : Int32 → Prop) (E4 : Int32 → Prop) (K4 : (Int32 × Int32) → Prop) (s : Int32 × Int32) : Prop :=
  match s with
  | (x2, x3) => ((I 54 3) ≤ x3 → (E4 x2)) ∧ (¬ (I 54 3) ≤ x3 → (vp_in x3 15 ∧ (w_X6_wasTried x1 (56 + 1 * Int32.toNatClampNeg x3) I J (fun (r_2 : Bool) => ((r_2 = false → (K4 ((x2 + 0), (x3 + 1)))) ∧ (r_2 = true → (K4 ((x2 + 1), (x3 + 1)))))))))
set_option maxHeartbeats 4000000 in
set_option maxRecDepth 20000 in
theorem ws_X6_timesTried_4 (g : kf_G) (hg : kf_g g) {x : kf_X} (hx : kf_ok g x RX6 cX6_timesTried 4 1 24) (I : HI) (J : HJ) (x1 : Int32) (Post : Int32 → Prop) (hret : ∀ (pc : Nat) (lv : List (Nat × Value)) (v : Int32), decode cX6_timesTried pc = .ok (.ireturn, 1) → Post v → kf_M g x 4 pc lv [.int v] I J) (E4 : Int32 → Prop) (hE4 : ∀ (y2 : Int32), E4 y2 → kf_M g x 4 40 [(2, .int y2)] [] I J) (K4 : (Int32 × Int32) → Prop) (hK4 : ∀ (y2 : Int32) (y3 : Int32), K4 (y2, y3) → kf_M g x 4 4 [(0, .ref (g.2.2.2 54)), (1, .int x1), (2, .int y2), (3, .int y3)] [] I J) (x2 : Int32) (x3 : Int32) (h : wb_X6_timesTried_4 I J x1 Post E4 K4 (x2, x3)) : kf_M g x 4 4 [(0, .ref (g.2.2.2 54)), (1, .int x1), (2, .int x2), (3, .int x3)] [] I J := by
  unfold wb_X6_timesTried_4 at h
  refine kf_iload_n hx dX6_timesTried_4 rfl 3 rfl ?_
  refine kf_aload_n hx dX6_timesTried_5 rfl 0 rfl ?_
  refine kf_getI hx sl_54_3 fl_RX6_24 dX6_timesTried_6 ?_
  refine kf_icmp_ge hx 40 dX6_timesTried_9 (by decide) (fun c => ?_) (fun c => ?_)
  · replace h := h.1 c
    refine kf_sub [2] rfl ?_
    exact hE4 _ h
  · replace h := h.2 c
    refine kf_iload_n hx dX6_timesTried_12 rfl 2 rfl ?_
    refine kf_aload_n hx dX6_timesTried_13 rfl 0 rfl ?_
    refine kf_iload_n hx dX6_timesTried_14 rfl 1 rfl ?_
    refine kf_aload_n hx dX6_timesTried_15 rfl 0 rfl ?_
    refine kf_getR (n := 55) hx sl_54_1 fl_RX6_13 dX6_timesTried_16 ?_
    refine kf_iload_n hx dX6_timesTried_19 rfl 3 rfl ?_
    have hb_1 := h.1
    refine kf_aald hx ar_55 rfl rfl h.1 dX6_timesTried_20 ?_
    replace h := h.2
    refine kf_callVbP (st := [.int x2]) hx (m_X6_wasTried g hg x1 (56 + 1 * Int32.toNatClampNeg x3) (rn_of hb_1) I J _ h) lk_RX6_45 km_X6_wasTried ob_54 rfl (by decide) rfl (Nat.le_of_ble_eq_true rfl) dX6_timesTried_21 (fun r_2 h => ?_)
    refine kf_ifB_eq hx 31 dX6_timesTried_24 (by decide) (fun c => ?_) (fun c => ?_)
    · replace h := h.1 c
      refine kf_iconst (v := 0) hx dX6_timesTried_31 (by decide) ?_
      refine kf_iadd hx dX6_timesTried_32 ?_
      refine kf_istore_n (lv' := [(2, .int (x2 + 0)), (0, .ref (g.2.2.2 54)), (1, .int x1), (3, .int x3)]) hx dX6_timesTried_33 rfl (by decide) rfl ?_
      refine kf_iinc (w := (x3 + 1)) (lv' := [(3, .int (x3 + 1)), (2, .int (x2 + 0)), (0, .ref (g.2.2.2 54)), (1, .int x1)]) hx dX6_timesTried_34 3 rfl rfl (by decide) rfl ?_
      refine kf_goto hx 4 dX6_timesTried_37 (by decide) ?_
      refine kf_sub [2, 3, 1, 0] rfl ?_
      exact hK4 _ _ h
    · replace h := h.2 c
      refine kf_iconst (v := 1) hx dX6_timesTried_27 (by decide) ?_
      refine kf_goto hx 32 dX6_timesTried_28 (by decide) ?_
      refine kf_iadd hx dX6_timesTried_32 ?_
      refine kf_istore_n (lv' := [(2, .int (x2 + 1)), (0, .ref (g.2.2.2 54)), (1, .int x1), (3, .int x3)]) hx dX6_timesTried_33 rfl (by decide) rfl ?_
      refine kf_iinc (w := (x3 + 1)) (lv' := [(3, .int (x3 + 1)), (2, .int (x2 + 1)), (0, .ref (g.2.2.2 54)), (1, .int x1)]) hx dX6_timesTried_34 3 rfl rfl (by decide) rfl ?_
      refine kf_goto hx 4 dX6_timesTried_37 (by decide) ?_
      refine kf_sub [2, 3, 1, 0] rfl ?_
      exact hK4 _ _ h
theorem wl_X6_timesTried_4 (g : kf_G) (hg : kf_g g) {x : kf_X} (hx : kf_ok g x RX6 cX6_timesTried 4 1 24) (I : HI) (J : HJ) (x1 : Int32) (Post : Int32 → Prop) (hret : ∀ (pc : Nat) (lv : List (Nat × Value)) (v : Int32), decode cX6_timesTried pc = .ok (.ireturn, 1) → Post v → kf_M g x 4 pc lv [.int v] I J) (E4 : Int32 → Prop) (hE4 : ∀ (y2 : Int32), E4 y2 → kf_M g x 4 40 [(2, .int y2)] [] I J) : ∀ (n : Nat) (x2 : Int32) (x3 : Int32), lp (wb_X6_timesTried_4 I J x1 Post E4) n (x2, x3) → kf_M g x 4 4 [(0, .ref (g.2.2.2 54)), (1, .int x1), (2, .int x2), (3, .int x3)] [] I J := by
  intro n
  induction n with
  | zero => intro x2 x3 h; exact h.elim
  | succ n ih => intro x2 x3 h; exact ws_X6_timesTried_4 g hg hx I J x1 Post hret E4 hE4 (lp (wb_X6_timesTried_4 I J x1 Post E4) n) ih x2 x3 h
def w_X6_timesTried (x1 : Int32) (I : HI) (J : HJ) (Post : Int32 → Prop) : Prop :=
  ∃ n, lp (wb_X6_timesTried_4 I J x1 Post (fun (x2_3 : Int32) => Post x2_3)) n (0, 0)
set_option maxHeartbeats 4000000 in
set_option maxRecDepth 20000 in
theorem we_X6_timesTried (g : kf_G) (hg : kf_g g) {x : kf_X} (hx : kf_ok g x RX6 cX6_timesTried 4 1 24) (x1 : Int32) (I : HI) (J : HJ) (Post : Int32 → Prop) (hret : ∀ (pc : Nat) (lv : List (Nat × Value)) (v : Int32), decode cX6_timesTried pc = .ok (.ireturn, 1) → Post v → kf_M g x 4 pc lv [.int v] I J) (h : w_X6_timesTried x1 I J Post) : kf_M g x 4 0 [(0, .ref (g.2.2.2 54)), (1, .int x1)] [] I J := by
  unfold w_X6_timesTried at h
  refine kf_iconst (v := 0) hx dX6_timesTried_0 (by decide) ?_
  refine kf_istore_n (lv' := [(2, .int 0), (0, .ref (g.2.2.2 54)), (1, .int x1)]) hx dX6_timesTried_1 rfl (by decide) rfl ?_
  refine kf_iconst (v := 0) hx dX6_timesTried_2 (by decide) ?_
  refine kf_istore_n (lv' := [(3, .int 0), (2, .int 0), (0, .ref (g.2.2.2 54)), (1, .int x1)]) hx dX6_timesTried_3 rfl (by decide) rfl ?_
  obtain ⟨n, h⟩ := h
  refine kf_sub [2, 3, 1, 0] rfl ?_
  refine wl_X6_timesTried_4 g hg hx I J x1 _ hret _ (fun x2_3 h => ?_) n _ _ h
  refine kf_iload_n hx dX6_timesTried_40 rfl 0 rfl ?_
  exact hret _ _ x2_3  dX6_timesTried_41 h
set_option maxHeartbeats 4000000 in
set_option maxRecDepth 20000 in
theorem m_X6_timesTried (g : kf_G) (hg : kf_g g) (x1 : Int32) (I : HI) (J : HJ) (Post : Int32 → Prop) (h : w_X6_timesTried x1 I J Post) : kf_Mi g yX6_timesTried (kf_W yX6_timesTried cX6_timesTried 4 (Option.some Jvm.ClassFile.FieldType.int)) 1 24 [.ref (g.2.2.2 54), .int x1] I J (fun v I' J' => Post v ∧ I' = I ∧ J' = J) :=
  kf_enti hg (by decide) (Nat.le_of_ble_eq_true rfl) rfl (fun x hx hr => we_X6_timesTried g hg hx x1 I J Post (fun pc lv v hd hP => hr pc lv v I J hd ⟨hP, rfl, rfl⟩) h)
theorem dX6_timesTold_0 : decode cX6_timesTold 0 = .ok (.iconst 0, 1) := by decide +kernel
theorem dX6_timesTold_1 : decode cX6_timesTold 1 = .ok (.istore_n 2, 1) := by decide +kernel
theorem dX6_timesTold_2 : decode cX6_timesTold 2 = .ok (.iconst 0, 1) := by decide +kernel
theorem dX6_timesTold_3 : decode cX6_timesTold 3 = .ok (.istore_n 3, 1) := by decide +kernel
theorem dX6_timesTold_4 : decode cX6_timesTold 4 = .ok (.iload_n 3, 1) := by decide +kernel
theorem dX6_timesTold_5 : decode cX6_timesTold 5 = .ok (.aload_n 0, 1) := by decide +kernel
theorem dX6_timesTold_6 : decode cX6_timesTold 6 = .ok (.getfield 24, 3) := by decide +kernel
theorem dX6_timesTold_9 : decode cX6_timesTold 9 = .ok (.if_icmp .ge 31, 3) := by decide +kernel
theorem dX6_timesTold_12 : decode cX6_timesTold 12 = .ok (.iload_n 2, 1) := by decide +kernel
theorem dX6_timesTold_13 : decode cX6_timesTold 13 = .ok (.aload_n 0, 1) := by decide +kernel
theorem dX6_timesTold_14 : decode cX6_timesTold 14 = .ok (.iload_n 1, 1) := by decide +kernel
theorem dX6_timesTold_15 : decode cX6_timesTold 15 = .ok (.aload_n 0, 1) := by decide +kernel
theorem dX6_timesTold_16 : decode cX6_timesTold 16 = .ok (.getfield 13, 3) := by decide +kernel
theorem dX6_timesTold_19 : decode cX6_timesTold 19 = .ok (.iload_n 3, 1) := by decide +kernel
theorem dX6_timesTold_20 : decode cX6_timesTold 20 = .ok (.aaload, 1) := by decide +kernel
theorem dX6_timesTold_21 : decode cX6_timesTold 21 = .ok (.invokevirtual 49, 3) := by decide +kernel
theorem dX6_timesTold_24 : decode cX6_timesTold 24 = .ok (.ifCond .eq 7, 3) := by decide +kernel
theorem dX6_timesTold_27 : decode cX6_timesTold 27 = .ok (.iconst 1, 1) := by decide +kernel
theorem dX6_timesTold_28 : decode cX6_timesTold 28 = .ok (.goto 4, 3) := by decide +kernel
theorem dX6_timesTold_31 : decode cX6_timesTold 31 = .ok (.iconst 0, 1) := by decide +kernel
theorem dX6_timesTold_32 : decode cX6_timesTold 32 = .ok (.iadd, 1) := by decide +kernel
theorem dX6_timesTold_33 : decode cX6_timesTold 33 = .ok (.istore_n 2, 1) := by decide +kernel
theorem dX6_timesTold_34 : decode cX6_timesTold 34 = .ok (.iinc 3 1, 3) := by decide +kernel
theorem dX6_timesTold_37 : decode cX6_timesTold 37 = .ok (.goto (-33), 3) := by decide +kernel
theorem dX6_timesTold_40 : decode cX6_timesTold 40 = .ok (.iload_n 2, 1) := by decide +kernel
theorem dX6_timesTold_41 : decode cX6_timesTold 41 = .ok (.ireturn, 1) := by decide +kernel
def wb_X6_timesTold_4 (I : HI) (J : HJ) (x1 : Int32) (Post : Int32 → Prop) (E4 : Int32 → Prop) (K4 : (Int32 × Int32) → Prop) (s : Int32 × Int32) : Prop :=
  match s with
  | (x2, x3) => ((I 54 3) ≤ x3 → (E4 x2)) ∧ (¬ (I 54 3) ≤ x3 → (vp_in x3 15 ∧ (w_X6_didTell x1 (56 + 1 * Int32.toNatClampNeg x3) I J (fun (r_2 : Bool) => ((r_2 = false → (K4 ((x2 + 0), (x3 + 1)))) ∧ (r_2 = true → (K4 ((x2 + 1), (x3 + 1)))))))))
set_option maxHeartbeats 4000000 in
set_option maxRecDepth 20000 in
theorem ws_X6_timesTold_4 (g : kf_G) (hg : kf_g g) {x : kf_X} (hx : kf_ok g x RX6 cX6_timesTold 4 1 24) (I : HI) (J : HJ) (x1 : Int32) (Post : Int32 → Prop) (hret : ∀ (pc : Nat) (lv : List (Nat × Value)) (v : Int32), decode cX6_timesTold pc = .ok (.ireturn, 1) → Post v → kf_M g x 4 pc lv [.int v] I J) (E4 : Int32 → Prop) (hE4 : ∀ (y2 : Int32), E4 y2 → kf_M g x 4 40 [(2, .int y2)] [] I J) (K4 : (Int32 × Int32) → Prop) (hK4 : ∀ (y2 : Int32) (y3 : Int32), K4 (y2, y3) → kf_M g x 4 4 [(0, .ref (g.2.2.2 54)), (1, .int x1), (2, .int y2), (3, .int y3)] [] I J) (x2 : Int32) (x3 : Int32) (h : wb_X6_timesTold_4 I J x1 Post E4 K4 (x2, x3)) : kf_M g x 4 4 [(0, .ref (g.2.2.2 54)), (1, .int x1), (2, .int x2), (3, .int x3)] [] I J := by
  unfold wb_X6_timesTold_4 at h
  refine kf_iload_n hx dX6_timesTold_4 rfl 3 rfl ?_
  refine kf_aload_n hx dX6_timesTold_5 rfl 0 rfl ?_
  refine kf_getI hx sl_54_3 fl_RX6_24 dX6_timesTold_6 ?_
  refine kf_icmp_ge hx 40 dX6_timesTold_9 (by decide) (fun c => ?_) (fun c => ?_)
  · replace h := h.1 c
    refine kf_sub [2] rfl ?_
    exact hE4 _ h
  · replace h := h.2 c
    refine kf_iload_n hx dX6_timesTold_12 rfl 2 rfl ?_
    refine kf_aload_n hx dX6_timesTold_13 rfl 0 rfl ?_
    refine kf_iload_n hx dX6_timesTold_14 rfl 1 rfl ?_
    refine kf_aload_n hx dX6_timesTold_15 rfl 0 rfl ?_
    refine kf_getR (n := 55) hx sl_54_1 fl_RX6_13 dX6_timesTold_16 ?_
    refine kf_iload_n hx dX6_timesTold_19 rfl 3 rfl ?_
    have hb_1 := h.1
    refine kf_aald hx ar_55 rfl rfl h.1 dX6_timesTold_20 ?_
    replace h := h.2
    refine kf_callVbP (st := [.int x2]) hx (m_X6_didTell g hg x1 (56 + 1 * Int32.toNatClampNeg x3) (rn_of hb_1) I J _ h) lk_RX6_49 km_X6_didTell ob_54 rfl (by decide) rfl (Nat.le_of_ble_eq_true rfl) dX6_timesTold_21 (fun r_2 h => ?_)
    refine kf_ifB_eq hx 31 dX6_timesTold_24 (by decide) (fun c => ?_) (fun c => ?_)
    · replace h := h.1 c
      refine kf_iconst (v := 0) hx dX6_timesTold_31 (by decide) ?_
      refine kf_iadd hx dX6_timesTold_32 ?_
      refine kf_istore_n (lv' := [(2, .int (x2 + 0)), (0, .ref (g.2.2.2 54)), (1, .int x1), (3, .int x3)]) hx dX6_timesTold_33 rfl (by decide) rfl ?_
      refine kf_iinc (w := (x3 + 1)) (lv' := [(3, .int (x3 + 1)), (2, .int (x2 + 0)), (0, .ref (g.2.2.2 54)), (1, .int x1)]) hx dX6_timesTold_34 3 rfl rfl (by decide) rfl ?_
      refine kf_goto hx 4 dX6_timesTold_37 (by decide) ?_
      refine kf_sub [2, 3, 1, 0] rfl ?_
      exact hK4 _ _ h
    · replace h := h.2 c
      refine kf_iconst (v := 1) hx dX6_timesTold_27 (by decide) ?_
      refine kf_goto hx 32 dX6_timesTold_28 (by decide) ?_
      refine kf_iadd hx dX6_timesTold_32 ?_
      refine kf_istore_n (lv' := [(2, .int (x2 + 1)), (0, .ref (g.2.2.2 54)), (1, .int x1), (3, .int x3)]) hx dX6_timesTold_33 rfl (by decide) rfl ?_
      refine kf_iinc (w := (x3 + 1)) (lv' := [(3, .int (x3 + 1)), (2, .int (x2 + 1)), (0, .ref (g.2.2.2 54)), (1, .int x1)]) hx dX6_timesTold_34 3 rfl rfl (by decide) rfl ?_
      refine kf_goto hx 4 dX6_timesTold_37 (by decide) ?_
      refine kf_sub [2, 3, 1, 0] rfl ?_
      exact hK4 _ _ h
theorem wl_X6_timesTold_4 (g : kf_G) (hg : kf_g g) {x : kf_X} (hx : kf_ok g x RX6 cX6_timesTold 4 1 24) (I : HI) (J : HJ) (x1 : Int32) (Post : Int32 → Prop) (hret : ∀ (pc : Nat) (lv : List (Nat × Value)) (v : Int32), decode cX6_timesTold pc = .ok (.ireturn, 1) → Post v → kf_M g x 4 pc lv [.int v] I J) (E4 : Int32 → Prop) (hE4 : ∀ (y2 : Int32), E4 y2 → kf_M g x 4 40 [(2, .int y2)] [] I J) : ∀ (n : Nat) (x2 : Int32) (x3 : Int32), lp (wb_X6_timesTold_4 I J x1 Post E4) n (x2, x3) → kf_M g x 4 4 [(0, .ref (g.2.2.2 54)), (1, .int x1), (2, .int x2), (3, .int x3)] [] I J := by
  intro n
  induction n with
  | zero => intro x2 x3 h; exact h.elim
  | succ n ih => intro x2 x3 h; exact ws_X6_timesTold_4 g hg hx I J x1 Post hret E4 hE4 (lp (wb_X6_timesTold_4 I J x1 Post E4) n) ih x2 x3 h
def w_X6_timesTold (x1 : Int32) (I : HI) (J : HJ) (Post : Int32 → Prop) : Prop :=
  ∃ n, lp (wb_X6_timesTold_4 I J x1 Post (fun (x2_3 : Int32) => Post x2_3)) n (0, 0)
set_option maxHeartbeats 4000000 in
set_option maxRecDepth 20000 in
theorem we_X6_timesTold (g : kf_G) (hg : kf_g g) {x : kf_X} (hx : kf_ok g x RX6 cX6_timesTold 4 1 24) (x1 : Int32) (I : HI) (J : HJ) (Post : Int32 → Prop) (hret : ∀ (pc : Nat) (lv : List (Nat × Value)) (v : Int32), decode cX6_timesTold pc = .ok (.ireturn, 1) → Post v → kf_M g x 4 pc lv [.int v] I J) (h : w_X6_timesTold x1 I J Post) : kf_M g x 4 0 [(0, .ref (g.2.2.2 54)), (1, .int x1)] [] I J := by
  unfold w_X6_timesTold at h
  refine kf_iconst (v := 0) hx dX6_timesTold_0 (by decide) ?_
  refine kf_istore_n (lv' := [(2, .int 0), (0, .ref (g.2.2.2 54)), (1, .int x1)]) hx dX6_timesTold_1 rfl (by decide) rfl ?_
  refine kf_iconst (v := 0) hx dX6_timesTold_2 (by decide) ?_
  refine kf_istore_n (lv' := [(3, .int 0), (2, .int 0), (0, .ref (g.2.2.2 54)), (1, .int x1)]) hx dX6_timesTold_3 rfl (by decide) rfl ?_
  obtain ⟨n, h⟩ := h
  refine kf_sub [2, 3, 1, 0] rfl ?_
  refine wl_X6_timesTold_4 g hg hx I J x1 _ hret _ (fun x2_3 h => ?_) n _ _ h
  refine kf_iload_n hx dX6_timesTold_40 rfl 0 rfl ?_
  exact hret _ _ x2_3  dX6_timesTold_41 h
set_option maxHeartbeats 4000000 in
set_option maxRecDepth 20000 in
theorem m_X6_timesTold (g : kf_G) (hg : kf_g g) (x1 : Int32) (I : HI) (J : HJ) (Post : Int32 → Prop) (h : w_X6_timesTold x1 I J Post) : kf_Mi g yX6_timesTold (kf_W yX6_timesTold cX6_timesTold 4 (Option.some Jvm.ClassFile.FieldType.int)) 1 24 [.ref (g.2.2.2 54), .int x1] I J (fun v I' J' => Post v ∧ I' = I ∧ J' = J) :=
  kf_enti hg (by decide) (Nat.le_of_ble_eq_true rfl) rfl (fun x hx hr => we_X6_timesTold g hg hx x1 I J Post (fun pc lv v hd hP => hr pc lv v I J hd ⟨hP, rfl, rfl⟩) h)
theorem dX6_power_0 : decode cX6_power 0 = .ok (.lconst 1, 1) := by decide +kernel
theorem dX6_power_1 : decode cX6_power 1 = .ok (.lstore_n 3, 1) := by decide +kernel
theorem dX6_power_2 : decode cX6_power 2 = .ok (.iconst 0, 1) := by decide +kernel
theorem dX6_power_3 : decode cX6_power 3 = .ok (.istore 5, 2) := by decide +kernel
theorem dX6_power_5 : decode cX6_power 5 = .ok (.iload 5, 2) := by decide +kernel
theorem dX6_power_7 : decode cX6_power 7 = .ok (.iload_n 2, 1) := by decide +kernel
theorem dX6_power_8 : decode cX6_power 8 = .ok (.if_icmp .ge 13, 3) := by decide +kernel
theorem dX6_power_11 : decode cX6_power 11 = .ok (.lload_n 3, 1) := by decide +kernel
theorem dX6_power_12 : decode cX6_power 12 = .ok (.lload_n 0, 1) := by decide +kernel
theorem dX6_power_13 : decode cX6_power 13 = .ok (.lmul, 1) := by decide +kernel
theorem dX6_power_14 : decode cX6_power 14 = .ok (.lstore_n 3, 1) := by decide +kernel
theorem dX6_power_15 : decode cX6_power 15 = .ok (.iinc 5 1, 3) := by decide +kernel
theorem dX6_power_18 : decode cX6_power 18 = .ok (.goto (-13), 3) := by decide +kernel
theorem dX6_power_21 : decode cX6_power 21 = .ok (.lload_n 3, 1) := by decide +kernel
theorem dX6_power_22 : decode cX6_power 22 = .ok (.lreturn, 1) := by decide +kernel
def wb_X6_power_5 (x0 : Int64) (x2 : Int32) (Post : Int64 → Prop) (E5 : Int64 → Prop) (K5 : (Int64 × Int32) → Prop) (s : Int64 × Int32) : Prop :=
  match s with
  | (x3, x5) => (x2 ≤ x5 → (E5 x3)) ∧ (¬ x2 ≤ x5 → (K5 ((x3 * x0), (x5 + 1))))
set_option maxHeartbeats 4000000 in
set_option maxRecDepth 20000 in
theorem ws_X6_power_5 (g : kf_G) (hg : kf_g g) {x : kf_X} (hx : kf_ok g x RX6 cX6_power 6 0 0) (I : HI) (J : HJ) (x0 : Int64) (x2 : Int32) (Post : Int64 → Prop) (hret : ∀ (pc : Nat) (lv : List (Nat × Value)) (v : Int64), decode cX6_power pc = .ok (.lreturn, 1) → Post v → kf_M g x 6 pc lv [.long v] I J) (E5 : Int64 → Prop) (hE5 : ∀ (y3 : Int64), E5 y3 → kf_M g x 6 21 [(3, .long y3)] [] I J) (K5 : (Int64 × Int32) → Prop) (hK5 : ∀ (y3 : Int64) (y5 : Int32), K5 (y3, y5) → kf_M g x 6 5 [(0, .long x0), (2, .int x2), (3, .long y3), (5, .int y5)] [] I J) (x3 : Int64) (x5 : Int32) (h : wb_X6_power_5 x0 x2 Post E5 K5 (x3, x5)) : kf_M g x 6 5 [(0, .long x0), (2, .int x2), (3, .long x3), (5, .int x5)] [] I J := by
  unfold wb_X6_power_5 at h
  refine kf_iload hx dX6_power_5 3 rfl ?_
  refine kf_iload_n hx dX6_power_7 rfl 1 rfl ?_
  refine kf_icmp_ge hx 21 dX6_power_8 (by decide) (fun c => ?_) (fun c => ?_)
  · replace h := h.1 c
    refine kf_sub [2] rfl ?_
    exact hE5 _ h
  · replace h := h.2 c
    refine kf_lload_n hx dX6_power_11 rfl 2 rfl ?_
    refine kf_lload_n hx dX6_power_12 rfl 0 rfl ?_
    refine kf_lmul hx dX6_power_13 ?_
    refine kf_lstore_n (lv' := [(3, .long (x3 * x0)), (0, .long x0), (2, .int x2), (5, .int x5)]) hx dX6_power_14 rfl (by decide) rfl ?_
    refine kf_iinc (w := (x5 + 1)) (lv' := [(5, .int (x5 + 1)), (3, .long (x3 * x0)), (0, .long x0), (2, .int x2)]) hx dX6_power_15 3 rfl rfl (by decide) rfl ?_
    refine kf_goto hx 5 dX6_power_18 (by decide) ?_
    refine kf_sub [2, 3, 1, 0] rfl ?_
    exact hK5 _ _ h
theorem wl_X6_power_5 (g : kf_G) (hg : kf_g g) {x : kf_X} (hx : kf_ok g x RX6 cX6_power 6 0 0) (I : HI) (J : HJ) (x0 : Int64) (x2 : Int32) (Post : Int64 → Prop) (hret : ∀ (pc : Nat) (lv : List (Nat × Value)) (v : Int64), decode cX6_power pc = .ok (.lreturn, 1) → Post v → kf_M g x 6 pc lv [.long v] I J) (E5 : Int64 → Prop) (hE5 : ∀ (y3 : Int64), E5 y3 → kf_M g x 6 21 [(3, .long y3)] [] I J) : ∀ (n : Nat) (x3 : Int64) (x5 : Int32), lp (wb_X6_power_5 x0 x2 Post E5) n (x3, x5) → kf_M g x 6 5 [(0, .long x0), (2, .int x2), (3, .long x3), (5, .int x5)] [] I J := by
  intro n
  induction n with
  | zero => intro x3 x5 h; exact h.elim
  | succ n ih => intro x3 x5 h; exact ws_X6_power_5 g hg hx I J x0 x2 Post hret E5 hE5 (lp (wb_X6_power_5 x0 x2 Post E5) n) ih x3 x5 h
def w_X6_power (x0 : Int64) (x2 : Int32) (Post : Int64 → Prop) : Prop :=
  ∃ n, lp (wb_X6_power_5 x0 x2 Post (fun (x3_1 : Int64) => Post x3_1)) n (1, 0)
set_option maxHeartbeats 4000000 in
set_option maxRecDepth 20000 in
theorem we_X6_power (g : kf_G) (hg : kf_g g) {x : kf_X} (hx : kf_ok g x RX6 cX6_power 6 0 0) (x0 : Int64) (x2 : Int32) (I : HI) (J : HJ) (Post : Int64 → Prop) (hret : ∀ (pc : Nat) (lv : List (Nat × Value)) (v : Int64), decode cX6_power pc = .ok (.lreturn, 1) → Post v → kf_M g x 6 pc lv [.long v] I J) (h : w_X6_power x0 x2 Post) : kf_M g x 6 0 [(0, .long x0), (2, .int x2)] [] I J := by
  unfold w_X6_power at h
  refine kf_lconst (v := 1) hx dX6_power_0 (by decide) ?_
  refine kf_lstore_n (lv' := [(3, .long 1), (0, .long x0), (2, .int x2)]) hx dX6_power_1 rfl (by decide) rfl ?_
  refine kf_iconst (v := 0) hx dX6_power_2 (by decide) ?_
  refine kf_istore (lv' := [(5, .int 0), (3, .long 1), (0, .long x0), (2, .int x2)]) hx dX6_power_3 (by decide) rfl ?_
  obtain ⟨n, h⟩ := h
  refine kf_sub [2, 3, 1, 0] rfl ?_
  refine wl_X6_power_5 g hg hx I J x0 x2 _ hret _ (fun x3_1 h => ?_) n _ _ h
  refine kf_lload_n hx dX6_power_21 rfl 0 rfl ?_
  exact hret _ _ x3_1  dX6_power_22 h
set_option maxHeartbeats 4000000 in
set_option maxRecDepth 20000 in
theorem m_X6_power (g : kf_G) (hg : kf_g g) (x0 : Int64) (x2 : Int32) (I : HI) (J : HJ) (Post : Int64 → Prop) (h : w_X6_power x0 x2 Post) : kf_Ml g yX6_power (kf_W yX6_power cX6_power 6 (Option.some Jvm.ClassFile.FieldType.long)) 0 0 [.long x0, .int x2] I J (fun v I' J' => Post v ∧ I' = I ∧ J' = J) :=
  kf_entl hg (by decide) (Nat.le_of_ble_eq_true rfl) rfl (fun x hx hr => we_X6_power g hg hx x0 x2 I J Post (fun pc lv v hd hP => hr pc lv v I J hd ⟨hP, rfl, rfl⟩) h)
theorem dX6_likeliestOdds_0 : decode cX6_likeliestOdds 0 = .ok (.aload_n 0, 1) := by decide +kernel
theorem dX6_likeliestOdds_1 : decode cX6_likeliestOdds 1 = .ok (.iload_n 1, 1) := by decide +kernel
theorem dX6_likeliestOdds_2 : decode cX6_likeliestOdds 2 = .ok (.invokevirtual 52, 3) := by decide +kernel
theorem dX6_likeliestOdds_5 : decode cX6_likeliestOdds 5 = .ok (.istore_n 2, 1) := by decide +kernel
theorem dX6_likeliestOdds_6 : decode cX6_likeliestOdds 6 = .ok (.aload_n 0, 1) := by decide +kernel
theorem dX6_likeliestOdds_7 : decode cX6_likeliestOdds 7 = .ok (.iload_n 1, 1) := by decide +kernel
theorem dX6_likeliestOdds_8 : decode cX6_likeliestOdds 8 = .ok (.invokevirtual 56, 3) := by decide +kernel
theorem dX6_likeliestOdds_11 : decode cX6_likeliestOdds 11 = .ok (.iload_n 2, 1) := by decide +kernel
theorem dX6_likeliestOdds_12 : decode cX6_likeliestOdds 12 = .ok (.isub, 1) := by decide +kernel
theorem dX6_likeliestOdds_13 : decode cX6_likeliestOdds 13 = .ok (.istore_n 3, 1) := by decide +kernel
theorem dX6_likeliestOdds_14 : decode cX6_likeliestOdds 14 = .ok (.iconst 0, 1) := by decide +kernel
theorem dX6_likeliestOdds_15 : decode cX6_likeliestOdds 15 = .ok (.istore 4, 2) := by decide +kernel
theorem dX6_likeliestOdds_17 : decode cX6_likeliestOdds 17 = .ok (.ldc2_w 59, 3) := by decide +kernel
theorem dX6_likeliestOdds_20 : decode cX6_likeliestOdds 20 = .ok (.lstore 5, 2) := by decide +kernel
theorem dX6_likeliestOdds_22 : decode cX6_likeliestOdds 22 = .ok (.iconst 0, 1) := by decide +kernel
theorem dX6_likeliestOdds_23 : decode cX6_likeliestOdds 23 = .ok (.istore 7, 2) := by decide +kernel
theorem dX6_likeliestOdds_25 : decode cX6_likeliestOdds 25 = .ok (.iload 7, 2) := by decide +kernel
theorem dX6_likeliestOdds_27 : decode cX6_likeliestOdds 27 = .ok (.bipush 16, 2) := by decide +kernel
theorem dX6_likeliestOdds_29 : decode cX6_likeliestOdds 29 = .ok (.if_icmp .gt 45, 3) := by decide +kernel
theorem dX6_likeliestOdds_32 : decode cX6_likeliestOdds 32 = .ok (.iload 7, 2) := by decide +kernel
theorem dX6_likeliestOdds_34 : decode cX6_likeliestOdds 34 = .ok (.i2l, 1) := by decide +kernel
theorem dX6_likeliestOdds_35 : decode cX6_likeliestOdds 35 = .ok (.iload_n 2, 1) := by decide +kernel
theorem dX6_likeliestOdds_36 : decode cX6_likeliestOdds 36 = .ok (.invokestatic 61, 3) := by decide +kernel
theorem dX6_likeliestOdds_39 : decode cX6_likeliestOdds 39 = .ok (.bipush 16, 2) := by decide +kernel
theorem dX6_likeliestOdds_41 : decode cX6_likeliestOdds 41 = .ok (.iload 7, 2) := by decide +kernel
theorem dX6_likeliestOdds_43 : decode cX6_likeliestOdds 43 = .ok (.isub, 1) := by decide +kernel
theorem dX6_likeliestOdds_44 : decode cX6_likeliestOdds 44 = .ok (.i2l, 1) := by decide +kernel
theorem dX6_likeliestOdds_45 : decode cX6_likeliestOdds 45 = .ok (.iload_n 3, 1) := by decide +kernel
theorem dX6_likeliestOdds_46 : decode cX6_likeliestOdds 46 = .ok (.invokestatic 61, 3) := by decide +kernel
theorem dX6_likeliestOdds_49 : decode cX6_likeliestOdds 49 = .ok (.lmul, 1) := by decide +kernel
theorem dX6_likeliestOdds_50 : decode cX6_likeliestOdds 50 = .ok (.lstore 8, 2) := by decide +kernel
theorem dX6_likeliestOdds_52 : decode cX6_likeliestOdds 52 = .ok (.lload 8, 2) := by decide +kernel
theorem dX6_likeliestOdds_54 : decode cX6_likeliestOdds 54 = .ok (.lload 5, 2) := by decide +kernel
theorem dX6_likeliestOdds_56 : decode cX6_likeliestOdds 56 = .ok (.lcmp, 1) := by decide +kernel
theorem dX6_likeliestOdds_57 : decode cX6_likeliestOdds 57 = .ok (.ifCond .le 11, 3) := by decide +kernel
theorem dX6_likeliestOdds_60 : decode cX6_likeliestOdds 60 = .ok (.lload 8, 2) := by decide +kernel
theorem dX6_likeliestOdds_62 : decode cX6_likeliestOdds 62 = .ok (.lstore 5, 2) := by decide +kernel
theorem dX6_likeliestOdds_64 : decode cX6_likeliestOdds 64 = .ok (.iload 7, 2) := by decide +kernel
theorem dX6_likeliestOdds_66 : decode cX6_likeliestOdds 66 = .ok (.istore 4, 2) := by decide +kernel
theorem dX6_likeliestOdds_68 : decode cX6_likeliestOdds 68 = .ok (.iinc 7 1, 3) := by decide +kernel
theorem dX6_likeliestOdds_71 : decode cX6_likeliestOdds 71 = .ok (.goto (-46), 3) := by decide +kernel
theorem dX6_likeliestOdds_74 : decode cX6_likeliestOdds 74 = .ok (.iload 4, 2) := by decide +kernel
theorem dX6_likeliestOdds_76 : decode cX6_likeliestOdds 76 = .ok (.ireturn, 1) := by decide +kernel
def wb_X6_likeliestOdds_25 (I : HI) (J : HJ) (x2 : Int32) (x3 : Int32) (Post : Int32 → Prop) (E25 : Int32 → Prop) (K25 : (Int32 × Int64 × Int32) → Prop) (s : Int32 × Int64 × Int32) : Prop :=
  match s with
  | (x4, x5, x7) => (16 < x7 → (E25 x4)) ∧ (¬ 16 < x7 → (w_X6_power (Int32.toInt64 x7) x2 (fun (r_3 : Int64) => (w_X6_power (Int32.toInt64 (16 - x7)) x3 (fun (r_4 : Int64) => (((r_3 * r_4) ≤ x5 → (K25 (x4, x5, (x7 + 1)))) ∧ (¬ (r_3 * r_4) ≤ x5 → (K25 (x7, (r_3 * r_4), (x7 + 1))))))))))
set_option maxHeartbeats 4000000 in
set_option maxRecDepth 20000 in
theorem ws_X6_likeliestOdds_25 (g : kf_G) (hg : kf_g g) {x : kf_X} (hx : kf_ok g x RX6 cX6_likeliestOdds 10 2 47) (I : HI) (J : HJ) (x2 : Int32) (x3 : Int32) (Post : Int32 → Prop) (hret : ∀ (pc : Nat) (lv : List (Nat × Value)) (v : Int32), decode cX6_likeliestOdds pc = .ok (.ireturn, 1) → Post v → kf_M g x 10 pc lv [.int v] I J) (E25 : Int32 → Prop) (hE25 : ∀ (y4 : Int32), E25 y4 → kf_M g x 10 74 [(4, .int y4)] [] I J) (K25 : (Int32 × Int64 × Int32) → Prop) (hK25 : ∀ (y4 : Int32) (y5 : Int64) (y7 : Int32), K25 (y4, y5, y7) → kf_M g x 10 25 [(2, .int x2), (3, .int x3), (4, .int y4), (5, .long y5), (7, .int y7)] [] I J) (x4 : Int32) (x5 : Int64) (x7 : Int32) (h : wb_X6_likeliestOdds_25 I J x2 x3 Post E25 K25 (x4, x5, x7)) : kf_M g x 10 25 [(2, .int x2), (3, .int x3), (4, .int x4), (5, .long x5), (7, .int x7)] [] I J := by
  unfold wb_X6_likeliestOdds_25 at h
  refine kf_iload hx dX6_likeliestOdds_25 4 rfl ?_
  refine kf_bipush (v := 16) hx dX6_likeliestOdds_27 (by decide) ?_
  refine kf_icmp_gt hx 74 dX6_likeliestOdds_29 (by decide) (fun c => ?_) (fun c => ?_)
  · replace h := h.1 c
    refine kf_sub [2] rfl ?_
    exact hE25 _ h
  · replace h := h.2 c
    refine kf_iload hx dX6_likeliestOdds_32 4 rfl ?_
    refine kf_i2l hx dX6_likeliestOdds_34 ?_
    refine kf_iload_n hx dX6_likeliestOdds_35 rfl 0 rfl ?_
    refine kf_callSlP (st := []) hx (m_X6_power g hg (Int32.toInt64 x7) x2 I J _ h) lk_RX6_61 km_X6_power rfl (by decide) rfl (Nat.le_of_ble_eq_true rfl) dX6_likeliestOdds_36 (fun r_3 h => ?_)
    refine kf_bipush (v := 16) hx dX6_likeliestOdds_39 (by decide) ?_
    refine kf_iload hx dX6_likeliestOdds_41 4 rfl ?_
    refine kf_isub hx dX6_likeliestOdds_43 ?_
    refine kf_i2l hx dX6_likeliestOdds_44 ?_
    refine kf_iload_n hx dX6_likeliestOdds_45 rfl 1 rfl ?_
    refine kf_callSlP (st := [.long r_3]) hx (m_X6_power g hg (Int32.toInt64 (16 - x7)) x3 I J _ h) lk_RX6_61 km_X6_power rfl (by decide) rfl (Nat.le_of_ble_eq_true rfl) dX6_likeliestOdds_46 (fun r_4 h => ?_)
    refine kf_lmul hx dX6_likeliestOdds_49 ?_
    refine kf_lstore (lv' := [(8, .long (r_3 * r_4)), (2, .int x2), (3, .int x3), (4, .int x4), (5, .long x5), (7, .int x7)]) hx dX6_likeliestOdds_50 (by decide) rfl ?_
    refine kf_lload hx dX6_likeliestOdds_52 0 rfl ?_
    refine kf_lload hx dX6_likeliestOdds_54 4 rfl ?_
    refine kf_l_le hx 68 dX6_likeliestOdds_56 dX6_likeliestOdds_57 (by decide) (fun c => ?_) (fun c => ?_)
    · replace h := h.1 c
      refine kf_iinc (w := (x7 + 1)) (lv' := [(7, .int (x7 + 1)), (8, .long (r_3 * r_4)), (2, .int x2), (3, .int x3), (4, .int x4), (5, .long x5)]) hx dX6_likeliestOdds_68 5 rfl rfl (by decide) rfl ?_
      refine kf_goto hx 25 dX6_likeliestOdds_71 (by decide) ?_
      refine kf_sub [2, 3, 4, 5, 0] rfl ?_
      exact hK25 _ _ _ h
    · replace h := h.2 c
      refine kf_lload hx dX6_likeliestOdds_60 0 rfl ?_
      refine kf_lstore (lv' := [(5, .long (r_3 * r_4)), (8, .long (r_3 * r_4)), (2, .int x2), (3, .int x3), (4, .int x4), (7, .int x7)]) hx dX6_likeliestOdds_62 (by decide) rfl ?_
      refine kf_iload hx dX6_likeliestOdds_64 5 rfl ?_
      refine kf_istore (lv' := [(4, .int x7), (5, .long (r_3 * r_4)), (8, .long (r_3 * r_4)), (2, .int x2), (3, .int x3), (7, .int x7)]) hx dX6_likeliestOdds_66 (by decide) rfl ?_
      refine kf_iinc (w := (x7 + 1)) (lv' := [(7, .int (x7 + 1)), (4, .int x7), (5, .long (r_3 * r_4)), (8, .long (r_3 * r_4)), (2, .int x2), (3, .int x3)]) hx dX6_likeliestOdds_68 5 rfl rfl (by decide) rfl ?_
      refine kf_goto hx 25 dX6_likeliestOdds_71 (by decide) ?_
      refine kf_sub [4, 5, 1, 2, 0] rfl ?_
      exact hK25 _ _ _ h
theorem wl_X6_likeliestOdds_25 (g : kf_G) (hg : kf_g g) {x : kf_X} (hx : kf_ok g x RX6 cX6_likeliestOdds 10 2 47) (I : HI) (J : HJ) (x2 : Int32) (x3 : Int32) (Post : Int32 → Prop) (hret : ∀ (pc : Nat) (lv : List (Nat × Value)) (v : Int32), decode cX6_likeliestOdds pc = .ok (.ireturn, 1) → Post v → kf_M g x 10 pc lv [.int v] I J) (E25 : Int32 → Prop) (hE25 : ∀ (y4 : Int32), E25 y4 → kf_M g x 10 74 [(4, .int y4)] [] I J) : ∀ (n : Nat) (x4 : Int32) (x5 : Int64) (x7 : Int32), lp (wb_X6_likeliestOdds_25 I J x2 x3 Post E25) n (x4, x5, x7) → kf_M g x 10 25 [(2, .int x2), (3, .int x3), (4, .int x4), (5, .long x5), (7, .int x7)] [] I J := by
  intro n
  induction n with
  | zero => intro x4 x5 x7 h; exact h.elim
  | succ n ih => intro x4 x5 x7 h; exact ws_X6_likeliestOdds_25 g hg hx I J x2 x3 Post hret E25 hE25 (lp (wb_X6_likeliestOdds_25 I J x2 x3 Post E25) n) ih x4 x5 x7 h
def w_X6_likeliestOdds (x1 : Int32) (I : HI) (J : HJ) (Post : Int32 → Prop) : Prop :=
  w_X6_timesTold x1 I J (fun (r_1 : Int32) => (w_X6_timesTried x1 I J (fun (r_2 : Int32) => (∃ n, lp (wb_X6_likeliestOdds_25 I J r_1 (r_2 - r_1) Post (fun (x4_5 : Int32) => Post x4_5)) n (0, (-1), 0)))))
set_option maxHeartbeats 4000000 in
set_option maxRecDepth 20000 in
theorem we_X6_likeliestOdds (g : kf_G) (hg : kf_g g) {x : kf_X} (hx : kf_ok g x RX6 cX6_likeliestOdds 10 2 47) (x1 : Int32) (I : HI) (J : HJ) (Post : Int32 → Prop) (hret : ∀ (pc : Nat) (lv : List (Nat × Value)) (v : Int32), decode cX6_likeliestOdds pc = .ok (.ireturn, 1) → Post v → kf_M g x 10 pc lv [.int v] I J) (h : w_X6_likeliestOdds x1 I J Post) : kf_M g x 10 0 [(0, .ref (g.2.2.2 54)), (1, .int x1)] [] I J := by
  unfold w_X6_likeliestOdds at h
  refine kf_aload_n hx dX6_likeliestOdds_0 rfl 0 rfl ?_
  refine kf_iload_n hx dX6_likeliestOdds_1 rfl 1 rfl ?_
  refine kf_callViP (st := []) hx (m_X6_timesTold g hg x1 I J _ h) lk_RX6_52 km_X6_timesTold ob_54 rfl (by decide) rfl (Nat.le_of_ble_eq_true rfl) dX6_likeliestOdds_2 (fun r_1 h => ?_)
  refine kf_istore_n (lv' := [(2, .int r_1), (0, .ref (g.2.2.2 54)), (1, .int x1)]) hx dX6_likeliestOdds_5 rfl (by decide) rfl ?_
  refine kf_aload_n hx dX6_likeliestOdds_6 rfl 1 rfl ?_
  refine kf_iload_n hx dX6_likeliestOdds_7 rfl 2 rfl ?_
  refine kf_callViP (st := []) hx (m_X6_timesTried g hg x1 I J _ h) lk_RX6_56 km_X6_timesTried ob_54 rfl (by decide) rfl (Nat.le_of_ble_eq_true rfl) dX6_likeliestOdds_8 (fun r_2 h => ?_)
  refine kf_iload_n hx dX6_likeliestOdds_11 rfl 0 rfl ?_
  refine kf_isub hx dX6_likeliestOdds_12 ?_
  refine kf_istore_n (lv' := [(3, .int (r_2 - r_1)), (2, .int r_1), (0, .ref (g.2.2.2 54)), (1, .int x1)]) hx dX6_likeliestOdds_13 rfl (by decide) rfl ?_
  refine kf_iconst (v := 0) hx dX6_likeliestOdds_14 (by decide) ?_
  refine kf_istore (lv' := [(4, .int 0), (3, .int (r_2 - r_1)), (2, .int r_1), (0, .ref (g.2.2.2 54)), (1, .int x1)]) hx dX6_likeliestOdds_15 (by decide) rfl ?_
  refine kf_ldc2 hx ko_RX6_59 dX6_likeliestOdds_17 ?_
  refine kf_lstore (lv' := [(5, .long (-1)), (4, .int 0), (3, .int (r_2 - r_1)), (2, .int r_1), (0, .ref (g.2.2.2 54)), (1, .int x1)]) hx dX6_likeliestOdds_20 (by decide) rfl ?_
  refine kf_iconst (v := 0) hx dX6_likeliestOdds_22 (by decide) ?_
  refine kf_istore (lv' := [(7, .int 0), (5, .long (-1)), (4, .int 0), (3, .int (r_2 - r_1)), (2, .int r_1), (0, .ref (g.2.2.2 54)), (1, .int x1)]) hx dX6_likeliestOdds_23 (by decide) rfl ?_
  obtain ⟨n, h⟩ := h
  refine kf_sub [4, 3, 2, 1, 0] rfl ?_
  refine wl_X6_likeliestOdds_25 g hg hx I J r_1 (r_2 - r_1) _ hret _ (fun x4_5 h => ?_) n _ _ _ h
  refine kf_iload hx dX6_likeliestOdds_74 0 rfl ?_
  exact hret _ _ x4_5  dX6_likeliestOdds_76 h
set_option maxHeartbeats 4000000 in
set_option maxRecDepth 20000 in
theorem m_X6_likeliestOdds (g : kf_G) (hg : kf_g g) (x1 : Int32) (I : HI) (J : HJ) (Post : Int32 → Prop) (h : w_X6_likeliestOdds x1 I J Post) : kf_Mi g yX6_likeliestOdds (kf_W yX6_likeliestOdds cX6_likeliestOdds 10 (Option.some Jvm.ClassFile.FieldType.int)) 2 47 [.ref (g.2.2.2 54), .int x1] I J (fun v I' J' => Post v ∧ I' = I ∧ J' = J) :=
  kf_enti hg (by decide) (Nat.le_of_ble_eq_true rfl) rfl (fun x hx hr => we_X6_likeliestOdds g hg hx x1 I J Post (fun pc lv v hd hP => hr pc lv v I J hd ⟨hP, rfl, rfl⟩) h)
theorem dX6_untriedTies_0 : decode cX6_untriedTies 0 = .ok (.iconst 0, 1) := by decide +kernel
theorem dX6_untriedTies_1 : decode cX6_untriedTies 1 = .ok (.istore_n 1, 1) := by decide +kernel
theorem dX6_untriedTies_2 : decode cX6_untriedTies 2 = .ok (.iconst 0, 1) := by decide +kernel
theorem dX6_untriedTies_3 : decode cX6_untriedTies 3 = .ok (.istore_n 2, 1) := by decide +kernel
theorem dX6_untriedTies_4 : decode cX6_untriedTies 4 = .ok (.iload_n 2, 1) := by decide +kernel
theorem dX6_untriedTies_5 : decode cX6_untriedTies 5 = .ok (.aload_n 0, 1) := by decide +kernel
theorem dX6_untriedTies_6 : decode cX6_untriedTies 6 = .ok (.getfield 20, 3) := by decide +kernel
theorem dX6_untriedTies_9 : decode cX6_untriedTies 9 = .ok (.getfield 65, 3) := by decide +kernel
theorem dX6_untriedTies_12 : decode cX6_untriedTies 12 = .ok (.if_icmp .ge 27, 3) := by decide +kernel
theorem dX6_untriedTies_15 : decode cX6_untriedTies 15 = .ok (.iload_n 1, 1) := by decide +kernel
theorem dX6_untriedTies_16 : decode cX6_untriedTies 16 = .ok (.aload_n 0, 1) := by decide +kernel
theorem dX6_untriedTies_17 : decode cX6_untriedTies 17 = .ok (.iload_n 2, 1) := by decide +kernel
theorem dX6_untriedTies_18 : decode cX6_untriedTies 18 = .ok (.invokevirtual 56, 3) := by decide +kernel
theorem dX6_untriedTies_21 : decode cX6_untriedTies 21 = .ok (.ifCond .ne 9, 3) := by decide +kernel
theorem dX6_untriedTies_24 : decode cX6_untriedTies 24 = .ok (.iconst 1, 1) := by decide +kernel
theorem dX6_untriedTies_25 : decode cX6_untriedTies 25 = .ok (.iload_n 2, 1) := by decide +kernel
theorem dX6_untriedTies_26 : decode cX6_untriedTies 26 = .ok (.ishl, 1) := by decide +kernel
theorem dX6_untriedTies_27 : decode cX6_untriedTies 27 = .ok (.goto 4, 3) := by decide +kernel
theorem dX6_untriedTies_30 : decode cX6_untriedTies 30 = .ok (.iconst 0, 1) := by decide +kernel
theorem dX6_untriedTies_31 : decode cX6_untriedTies 31 = .ok (.ior, 1) := by decide +kernel
theorem dX6_untriedTies_32 : decode cX6_untriedTies 32 = .ok (.istore_n 1, 1) := by decide +kernel
theorem dX6_untriedTies_33 : decode cX6_untriedTies 33 = .ok (.iinc 2 1, 3) := by decide +kernel
theorem dX6_untriedTies_36 : decode cX6_untriedTies 36 = .ok (.goto (-32), 3) := by decide +kernel
theorem dX6_untriedTies_39 : decode cX6_untriedTies 39 = .ok (.iload_n 1, 1) := by decide +kernel
theorem dX6_untriedTies_40 : decode cX6_untriedTies 40 = .ok (.ireturn, 1) := by decide +kernel
def wb_X6_untriedTies_4 (I : HI) (J : HJ) (Post : Int32 → Prop) (E4 : Int32 → Prop) (K4 : (Int32 × Int32) → Prop) (s : Int32 × Int32) : Prop :=
  match s with
  | (x1, x2) => ((I 12 12) ≤ x2 → (E4 x1)) ∧ (¬ (I 12 12) ≤ x2 → (w_X6_timesTried x2 I J (fun (r_1 : Int32) => ((¬ r_1 = 0 → (K4 ((x1 ||| 0), (x2 + 1)))) ∧ (r_1 = 0 → (K4 ((x1 ||| (1 <<< (x2 &&& 31))), (x2 + 1))))))))
set_option maxHeartbeats 4000000 in
set_option maxRecDepth 20000 in
theorem ws_X6_untriedTies_4 (g : kf_G) (hg : kf_g g) {x : kf_X} (hx : kf_ok g x RX6 cX6_untriedTies 3 2 47) (I : HI) (J : HJ) (Post : Int32 → Prop) (hret : ∀ (pc : Nat) (lv : List (Nat × Value)) (v : Int32), decode cX6_untriedTies pc = .ok (.ireturn, 1) → Post v → kf_M g x 3 pc lv [.int v] I J) (E4 : Int32 → Prop) (hE4 : ∀ (y1 : Int32), E4 y1 → kf_M g x 3 39 [(1, .int y1)] [] I J) (K4 : (Int32 × Int32) → Prop) (hK4 : ∀ (y1 : Int32) (y2 : Int32), K4 (y1, y2) → kf_M g x 3 4 [(0, .ref (g.2.2.2 54)), (1, .int y1), (2, .int y2)] [] I J) (x1 : Int32) (x2 : Int32) (h : wb_X6_untriedTies_4 I J Post E4 K4 (x1, x2)) : kf_M g x 3 4 [(0, .ref (g.2.2.2 54)), (1, .int x1), (2, .int x2)] [] I J := by
  unfold wb_X6_untriedTies_4 at h
  refine kf_iload_n hx dX6_untriedTies_4 rfl 2 rfl ?_
  refine kf_aload_n hx dX6_untriedTies_5 rfl 0 rfl ?_
  refine kf_getR (n := 12) hx sl_54_0 fl_RX6_20 dX6_untriedTies_6 ?_
  refine kf_getI hx sl_12_12 fl_RX6_65 dX6_untriedTies_9 ?_
  refine kf_icmp_ge hx 39 dX6_untriedTies_12 (by decide) (fun c => ?_) (fun c => ?_)
  · replace h := h.1 c
    refine kf_sub [1] rfl ?_
    exact hE4 _ h
  · replace h := h.2 c
    refine kf_iload_n hx dX6_untriedTies_15 rfl 1 rfl ?_
    refine kf_aload_n hx dX6_untriedTies_16 rfl 0 rfl ?_
    refine kf_iload_n hx dX6_untriedTies_17 rfl 2 rfl ?_
    refine kf_callViP (st := [.int x1]) hx (m_X6_timesTried g hg x2 I J _ h) lk_RX6_56 km_X6_timesTried ob_54 rfl (by decide) rfl (Nat.le_of_ble_eq_true rfl) dX6_untriedTies_18 (fun r_1 h => ?_)
    refine kf_if_ne hx 30 dX6_untriedTies_21 (by decide) (fun c => ?_) (fun c => ?_)
    · replace h := h.1 c
      refine kf_iconst (v := 0) hx dX6_untriedTies_30 (by decide) ?_
      refine kf_ior hx dX6_untriedTies_31 ?_
      refine kf_istore_n (lv' := [(1, .int (x1 ||| 0)), (0, .ref (g.2.2.2 54)), (2, .int x2)]) hx dX6_untriedTies_32 rfl (by decide) rfl ?_
      refine kf_iinc (w := (x2 + 1)) (lv' := [(2, .int (x2 + 1)), (1, .int (x1 ||| 0)), (0, .ref (g.2.2.2 54))]) hx dX6_untriedTies_33 2 rfl rfl (by decide) rfl ?_
      refine kf_goto hx 4 dX6_untriedTies_36 (by decide) ?_
      refine kf_sub [2, 1, 0] rfl ?_
      exact hK4 _ _ h
    · replace h := h.2 c
      refine kf_iconst (v := 1) hx dX6_untriedTies_24 (by decide) ?_
      refine kf_iload_n hx dX6_untriedTies_25 rfl 2 rfl ?_
      refine kf_ishl hx dX6_untriedTies_26 ?_
      refine kf_goto hx 31 dX6_untriedTies_27 (by decide) ?_
      refine kf_ior hx dX6_untriedTies_31 ?_
      refine kf_istore_n (lv' := [(1, .int (x1 ||| (1 <<< (x2 &&& 31)))), (0, .ref (g.2.2.2 54)), (2, .int x2)]) hx dX6_untriedTies_32 rfl (by decide) rfl ?_
      refine kf_iinc (w := (x2 + 1)) (lv' := [(2, .int (x2 + 1)), (1, .int (x1 ||| (1 <<< (x2 &&& 31)))), (0, .ref (g.2.2.2 54))]) hx dX6_untriedTies_33 2 rfl rfl (by decide) rfl ?_
      refine kf_goto hx 4 dX6_untriedTies_36 (by decide) ?_
      refine kf_sub [2, 1, 0] rfl ?_
      exact hK4 _ _ h
theorem wl_X6_untriedTies_4 (g : kf_G) (hg : kf_g g) {x : kf_X} (hx : kf_ok g x RX6 cX6_untriedTies 3 2 47) (I : HI) (J : HJ) (Post : Int32 → Prop) (hret : ∀ (pc : Nat) (lv : List (Nat × Value)) (v : Int32), decode cX6_untriedTies pc = .ok (.ireturn, 1) → Post v → kf_M g x 3 pc lv [.int v] I J) (E4 : Int32 → Prop) (hE4 : ∀ (y1 : Int32), E4 y1 → kf_M g x 3 39 [(1, .int y1)] [] I J) : ∀ (n : Nat) (x1 : Int32) (x2 : Int32), lp (wb_X6_untriedTies_4 I J Post E4) n (x1, x2) → kf_M g x 3 4 [(0, .ref (g.2.2.2 54)), (1, .int x1), (2, .int x2)] [] I J := by
  intro n
  induction n with
  | zero => intro x1 x2 h; exact h.elim
  | succ n ih => intro x1 x2 h; exact ws_X6_untriedTies_4 g hg hx I J Post hret E4 hE4 (lp (wb_X6_untriedTies_4 I J Post E4) n) ih x1 x2 h
def w_X6_untriedTies  (I : HI) (J : HJ) (Post : Int32 → Prop) : Prop :=
  ∃ n, lp (wb_X6_untriedTies_4 I J Post (fun (x1_2 : Int32) => Post x1_2)) n (0, 0)
set_option maxHeartbeats 4000000 in
set_option maxRecDepth 20000 in
theorem we_X6_untriedTies (g : kf_G) (hg : kf_g g) {x : kf_X} (hx : kf_ok g x RX6 cX6_untriedTies 3 2 47)  (I : HI) (J : HJ) (Post : Int32 → Prop) (hret : ∀ (pc : Nat) (lv : List (Nat × Value)) (v : Int32), decode cX6_untriedTies pc = .ok (.ireturn, 1) → Post v → kf_M g x 3 pc lv [.int v] I J) (h : w_X6_untriedTies  I J Post) : kf_M g x 3 0 [(0, .ref (g.2.2.2 54))] [] I J := by
  unfold w_X6_untriedTies at h
  refine kf_iconst (v := 0) hx dX6_untriedTies_0 (by decide) ?_
  refine kf_istore_n (lv' := [(1, .int 0), (0, .ref (g.2.2.2 54))]) hx dX6_untriedTies_1 rfl (by decide) rfl ?_
  refine kf_iconst (v := 0) hx dX6_untriedTies_2 (by decide) ?_
  refine kf_istore_n (lv' := [(2, .int 0), (1, .int 0), (0, .ref (g.2.2.2 54))]) hx dX6_untriedTies_3 rfl (by decide) rfl ?_
  obtain ⟨n, h⟩ := h
  refine kf_sub [2, 1, 0] rfl ?_
  refine wl_X6_untriedTies_4 g hg hx I J  _ hret _ (fun x1_2 h => ?_) n _ _ h
  refine kf_iload_n hx dX6_untriedTies_39 rfl 0 rfl ?_
  exact hret _ _ x1_2  dX6_untriedTies_40 h
set_option maxHeartbeats 4000000 in
set_option maxRecDepth 20000 in
theorem m_X6_untriedTies (g : kf_G) (hg : kf_g g)  (I : HI) (J : HJ) (Post : Int32 → Prop) (h : w_X6_untriedTies  I J Post) : kf_Mi g yX6_untriedTies (kf_W yX6_untriedTies cX6_untriedTies 3 (Option.some Jvm.ClassFile.FieldType.int)) 2 47 [.ref (g.2.2.2 54)] I J (fun v I' J' => Post v ∧ I' = I ∧ J' = J) :=
  kf_enti hg (by decide) (Nat.le_of_ble_eq_true rfl) rfl (fun x hx hr => we_X6_untriedTies g hg hx  I J Post (fun pc lv v hd hP => hr pc lv v I J hd ⟨hP, rfl, rfl⟩) h)
theorem dX6_tiesThatTold_0 : decode cX6_tiesThatTold 0 = .ok (.iconst 0, 1) := by decide +kernel
theorem dX6_tiesThatTold_1 : decode cX6_tiesThatTold 1 = .ok (.istore_n 2, 1) := by decide +kernel
theorem dX6_tiesThatTold_2 : decode cX6_tiesThatTold 2 = .ok (.iconst 0, 1) := by decide +kernel
theorem dX6_tiesThatTold_3 : decode cX6_tiesThatTold 3 = .ok (.istore_n 3, 1) := by decide +kernel
theorem dX6_tiesThatTold_4 : decode cX6_tiesThatTold 4 = .ok (.iload_n 3, 1) := by decide +kernel
theorem dX6_tiesThatTold_5 : decode cX6_tiesThatTold 5 = .ok (.aload_n 0, 1) := by decide +kernel
theorem dX6_tiesThatTold_6 : decode cX6_tiesThatTold 6 = .ok (.getfield 20, 3) := by decide +kernel
theorem dX6_tiesThatTold_9 : decode cX6_tiesThatTold 9 = .ok (.getfield 65, 3) := by decide +kernel
theorem dX6_tiesThatTold_12 : decode cX6_tiesThatTold 12 = .ok (.if_icmp .ge 26, 3) := by decide +kernel
theorem dX6_tiesThatTold_15 : decode cX6_tiesThatTold 15 = .ok (.iload_n 2, 1) := by decide +kernel
theorem dX6_tiesThatTold_16 : decode cX6_tiesThatTold 16 = .ok (.aload_n 0, 1) := by decide +kernel
theorem dX6_tiesThatTold_17 : decode cX6_tiesThatTold 17 = .ok (.iload_n 3, 1) := by decide +kernel
theorem dX6_tiesThatTold_18 : decode cX6_tiesThatTold 18 = .ok (.aload_n 1, 1) := by decide +kernel
theorem dX6_tiesThatTold_19 : decode cX6_tiesThatTold 19 = .ok (.invokevirtual 49, 3) := by decide +kernel
theorem dX6_tiesThatTold_22 : decode cX6_tiesThatTold 22 = .ok (.ifCond .eq 7, 3) := by decide +kernel
theorem dX6_tiesThatTold_25 : decode cX6_tiesThatTold 25 = .ok (.iconst 1, 1) := by decide +kernel
theorem dX6_tiesThatTold_26 : decode cX6_tiesThatTold 26 = .ok (.goto 4, 3) := by decide +kernel
theorem dX6_tiesThatTold_29 : decode cX6_tiesThatTold 29 = .ok (.iconst 0, 1) := by decide +kernel
theorem dX6_tiesThatTold_30 : decode cX6_tiesThatTold 30 = .ok (.iadd, 1) := by decide +kernel
theorem dX6_tiesThatTold_31 : decode cX6_tiesThatTold 31 = .ok (.istore_n 2, 1) := by decide +kernel
theorem dX6_tiesThatTold_32 : decode cX6_tiesThatTold 32 = .ok (.iinc 3 1, 3) := by decide +kernel
theorem dX6_tiesThatTold_35 : decode cX6_tiesThatTold 35 = .ok (.goto (-31), 3) := by decide +kernel
theorem dX6_tiesThatTold_38 : decode cX6_tiesThatTold 38 = .ok (.iload_n 2, 1) := by decide +kernel
theorem dX6_tiesThatTold_39 : decode cX6_tiesThatTold 39 = .ok (.ireturn, 1) := by decide +kernel
def wb_X6_tiesThatTold_4 (I : HI) (J : HJ) (c1 : Nat) (Post : Int32 → Prop) (E4 : Int32 → Prop) (K4 : (Int32 × Int32) → Prop) (s : Int32 × Int32) : Prop :=
  match s with
  | (x2, x3) => ((I 12 12) ≤ x3 → (E4 x2)) ∧ (¬ (I 12 12) ≤ x3 → (w_X6_didTell x3 c1 I J (fun (r_1 : Bool) => ((r_1 = false → (K4 ((x2 + 0), (x3 + 1)))) ∧ (r_1 = true → (K4 ((x2 + 1), (x3 + 1))))))))
set_option maxHeartbeats 4000000 in
set_option maxRecDepth 20000 in
theorem ws_X6_tiesThatTold_4 (g : kf_G) (hg : kf_g g) {x : kf_X} (hx : kf_ok g x RX6 cX6_tiesThatTold 4 1 24) (I : HI) (J : HJ) (c1 : Nat) (hc1 : kf_SH[c1]? = some (1, 12, [0])) (Post : Int32 → Prop) (hret : ∀ (pc : Nat) (lv : List (Nat × Value)) (v : Int32), decode cX6_tiesThatTold pc = .ok (.ireturn, 1) → Post v → kf_M g x 4 pc lv [.int v] I J) (E4 : Int32 → Prop) (hE4 : ∀ (y2 : Int32), E4 y2 → kf_M g x 4 38 [(2, .int y2)] [] I J) (K4 : (Int32 × Int32) → Prop) (hK4 : ∀ (y2 : Int32) (y3 : Int32), K4 (y2, y3) → kf_M g x 4 4 [(0, .ref (g.2.2.2 54)), (1, .ref (g.2.2.2 c1)), (2, .int y2), (3, .int y3)] [] I J) (x2 : Int32) (x3 : Int32) (h : wb_X6_tiesThatTold_4 I J c1 Post E4 K4 (x2, x3)) : kf_M g x 4 4 [(0, .ref (g.2.2.2 54)), (1, .ref (g.2.2.2 c1)), (2, .int x2), (3, .int x3)] [] I J := by
  unfold wb_X6_tiesThatTold_4 at h
  refine kf_iload_n hx dX6_tiesThatTold_4 rfl 3 rfl ?_
  refine kf_aload_n hx dX6_tiesThatTold_5 rfl 0 rfl ?_
  refine kf_getR (n := 12) hx sl_54_0 fl_RX6_20 dX6_tiesThatTold_6 ?_
  refine kf_getI hx sl_12_12 fl_RX6_65 dX6_tiesThatTold_9 ?_
  refine kf_icmp_ge hx 38 dX6_tiesThatTold_12 (by decide) (fun c => ?_) (fun c => ?_)
  · replace h := h.1 c
    refine kf_sub [2] rfl ?_
    exact hE4 _ h
  · replace h := h.2 c
    refine kf_iload_n hx dX6_tiesThatTold_15 rfl 2 rfl ?_
    refine kf_aload_n hx dX6_tiesThatTold_16 rfl 0 rfl ?_
    refine kf_iload_n hx dX6_tiesThatTold_17 rfl 3 rfl ?_
    refine kf_aload_n hx dX6_tiesThatTold_18 rfl 1 rfl ?_
    refine kf_callVbP (st := [.int x2]) hx (m_X6_didTell g hg x3 c1 hc1 I J _ h) lk_RX6_49 km_X6_didTell ob_54 rfl (by decide) rfl (Nat.le_of_ble_eq_true rfl) dX6_tiesThatTold_19 (fun r_1 h => ?_)
    refine kf_ifB_eq hx 29 dX6_tiesThatTold_22 (by decide) (fun c => ?_) (fun c => ?_)
    · replace h := h.1 c
      refine kf_iconst (v := 0) hx dX6_tiesThatTold_29 (by decide) ?_
      refine kf_iadd hx dX6_tiesThatTold_30 ?_
      refine kf_istore_n (lv' := [(2, .int (x2 + 0)), (0, .ref (g.2.2.2 54)), (1, .ref (g.2.2.2 c1)), (3, .int x3)]) hx dX6_tiesThatTold_31 rfl (by decide) rfl ?_
      refine kf_iinc (w := (x3 + 1)) (lv' := [(3, .int (x3 + 1)), (2, .int (x2 + 0)), (0, .ref (g.2.2.2 54)), (1, .ref (g.2.2.2 c1))]) hx dX6_tiesThatTold_32 3 rfl rfl (by decide) rfl ?_
      refine kf_goto hx 4 dX6_tiesThatTold_35 (by decide) ?_
      refine kf_sub [2, 3, 1, 0] rfl ?_
      exact hK4 _ _ h
    · replace h := h.2 c
      refine kf_iconst (v := 1) hx dX6_tiesThatTold_25 (by decide) ?_
      refine kf_goto hx 30 dX6_tiesThatTold_26 (by decide) ?_
      refine kf_iadd hx dX6_tiesThatTold_30 ?_
      refine kf_istore_n (lv' := [(2, .int (x2 + 1)), (0, .ref (g.2.2.2 54)), (1, .ref (g.2.2.2 c1)), (3, .int x3)]) hx dX6_tiesThatTold_31 rfl (by decide) rfl ?_
      refine kf_iinc (w := (x3 + 1)) (lv' := [(3, .int (x3 + 1)), (2, .int (x2 + 1)), (0, .ref (g.2.2.2 54)), (1, .ref (g.2.2.2 c1))]) hx dX6_tiesThatTold_32 3 rfl rfl (by decide) rfl ?_
      refine kf_goto hx 4 dX6_tiesThatTold_35 (by decide) ?_
      refine kf_sub [2, 3, 1, 0] rfl ?_
      exact hK4 _ _ h
theorem wl_X6_tiesThatTold_4 (g : kf_G) (hg : kf_g g) {x : kf_X} (hx : kf_ok g x RX6 cX6_tiesThatTold 4 1 24) (I : HI) (J : HJ) (c1 : Nat) (hc1 : kf_SH[c1]? = some (1, 12, [0])) (Post : Int32 → Prop) (hret : ∀ (pc : Nat) (lv : List (Nat × Value)) (v : Int32), decode cX6_tiesThatTold pc = .ok (.ireturn, 1) → Post v → kf_M g x 4 pc lv [.int v] I J) (E4 : Int32 → Prop) (hE4 : ∀ (y2 : Int32), E4 y2 → kf_M g x 4 38 [(2, .int y2)] [] I J) : ∀ (n : Nat) (x2 : Int32) (x3 : Int32), lp (wb_X6_tiesThatTold_4 I J c1 Post E4) n (x2, x3) → kf_M g x 4 4 [(0, .ref (g.2.2.2 54)), (1, .ref (g.2.2.2 c1)), (2, .int x2), (3, .int x3)] [] I J := by
  intro n
  induction n with
  | zero => intro x2 x3 h; exact h.elim
  | succ n ih => intro x2 x3 h; exact ws_X6_tiesThatTold_4 g hg hx I J c1 hc1 Post hret E4 hE4 (lp (wb_X6_tiesThatTold_4 I J c1 Post E4) n) ih x2 x3 h
def w_X6_tiesThatTold (c1 : Nat) (I : HI) (J : HJ) (Post : Int32 → Prop) : Prop :=
  ∃ n, lp (wb_X6_tiesThatTold_4 I J c1 Post (fun (x2_2 : Int32) => Post x2_2)) n (0, 0)
set_option maxHeartbeats 4000000 in
set_option maxRecDepth 20000 in
theorem we_X6_tiesThatTold (g : kf_G) (hg : kf_g g) {x : kf_X} (hx : kf_ok g x RX6 cX6_tiesThatTold 4 1 24) (c1 : Nat) (hc1 : kf_SH[c1]? = some (1, 12, [0])) (I : HI) (J : HJ) (Post : Int32 → Prop) (hret : ∀ (pc : Nat) (lv : List (Nat × Value)) (v : Int32), decode cX6_tiesThatTold pc = .ok (.ireturn, 1) → Post v → kf_M g x 4 pc lv [.int v] I J) (h : w_X6_tiesThatTold c1 I J Post) : kf_M g x 4 0 [(0, .ref (g.2.2.2 54)), (1, .ref (g.2.2.2 c1))] [] I J := by
  unfold w_X6_tiesThatTold at h
  refine kf_iconst (v := 0) hx dX6_tiesThatTold_0 (by decide) ?_
  refine kf_istore_n (lv' := [(2, .int 0), (0, .ref (g.2.2.2 54)), (1, .ref (g.2.2.2 c1))]) hx dX6_tiesThatTold_1 rfl (by decide) rfl ?_
  refine kf_iconst (v := 0) hx dX6_tiesThatTold_2 (by decide) ?_
  refine kf_istore_n (lv' := [(3, .int 0), (2, .int 0), (0, .ref (g.2.2.2 54)), (1, .ref (g.2.2.2 c1))]) hx dX6_tiesThatTold_3 rfl (by decide) rfl ?_
  obtain ⟨n, h⟩ := h
  refine kf_sub [2, 3, 1, 0] rfl ?_
  refine wl_X6_tiesThatTold_4 g hg hx I J c1 hc1 _ hret _ (fun x2_2 h => ?_) n _ _ h
  refine kf_iload_n hx dX6_tiesThatTold_38 rfl 0 rfl ?_
  exact hret _ _ x2_2  dX6_tiesThatTold_39 h
set_option maxHeartbeats 4000000 in
set_option maxRecDepth 20000 in
theorem m_X6_tiesThatTold (g : kf_G) (hg : kf_g g) (c1 : Nat) (hc1 : kf_SH[c1]? = some (1, 12, [0])) (I : HI) (J : HJ) (Post : Int32 → Prop) (h : w_X6_tiesThatTold c1 I J Post) : kf_Mi g yX6_tiesThatTold (kf_W yX6_tiesThatTold cX6_tiesThatTold 4 (Option.some Jvm.ClassFile.FieldType.int)) 1 24 [.ref (g.2.2.2 54), .ref (g.2.2.2 c1)] I J (fun v I' J' => Post v ∧ I' = I ∧ J' = J) :=
  kf_enti hg (by decide) (Nat.le_of_ble_eq_true rfl) rfl (fun x hx hr => we_X6_tiesThatTold g hg hx c1 hc1 I J Post (fun pc lv v hd hP => hr pc lv v I J hd ⟨hP, rfl, rfl⟩) h)
theorem dX6_toldIn_0 : decode cX6_toldIn 0 = .ok (.aload_n 0, 1) := by decide +kernel
theorem dX6_toldIn_1 : decode cX6_toldIn 1 = .ok (.aload_n 0, 1) := by decide +kernel
theorem dX6_toldIn_2 : decode cX6_toldIn 2 = .ok (.getfield 13, 3) := by decide +kernel
theorem dX6_toldIn_5 : decode cX6_toldIn 5 = .ok (.iload_n 1, 1) := by decide +kernel
theorem dX6_toldIn_6 : decode cX6_toldIn 6 = .ok (.aaload, 1) := by decide +kernel
theorem dX6_toldIn_7 : decode cX6_toldIn 7 = .ok (.invokevirtual 68, 3) := by decide +kernel
theorem dX6_toldIn_10 : decode cX6_toldIn 10 = .ok (.ireturn, 1) := by decide +kernel
def w_X6_toldIn (x1 : Int32) (I : HI) (J : HJ) (Post : Int32 → Prop) : Prop :=
  vp_in x1 15 ∧ (w_X6_tiesThatTold (56 + 1 * Int32.toNatClampNeg x1) I J (fun (r_2 : Int32) => (Post r_2)))
set_option maxHeartbeats 4000000 in
set_option maxRecDepth 20000 in
theorem we_X6_toldIn (g : kf_G) (hg : kf_g g) {x : kf_X} (hx : kf_ok g x RX6 cX6_toldIn 2 2 47) (x1 : Int32) (I : HI) (J : HJ) (Post : Int32 → Prop) (hret : ∀ (pc : Nat) (lv : List (Nat × Value)) (v : Int32), decode cX6_toldIn pc = .ok (.ireturn, 1) → Post v → kf_M g x 2 pc lv [.int v] I J) (h : w_X6_toldIn x1 I J Post) : kf_M g x 2 0 [(0, .ref (g.2.2.2 54)), (1, .int x1)] [] I J := by
  unfold w_X6_toldIn at h
  refine kf_aload_n hx dX6_toldIn_0 rfl 0 rfl ?_
  refine kf_aload_n hx dX6_toldIn_1 rfl 0 rfl ?_
  refine kf_getR (n := 55) hx sl_54_1 fl_RX6_13 dX6_toldIn_2 ?_
  refine kf_iload_n hx dX6_toldIn_5 rfl 1 rfl ?_
  have hb_1 := h.1
  refine kf_aald hx ar_55 rfl rfl h.1 dX6_toldIn_6 ?_
  replace h := h.2
  refine kf_callViP (st := []) hx (m_X6_tiesThatTold g hg (56 + 1 * Int32.toNatClampNeg x1) (rn_of hb_1) I J _ h) lk_RX6_68 km_X6_tiesThatTold ob_54 rfl (by decide) rfl (Nat.le_of_ble_eq_true rfl) dX6_toldIn_7 (fun r_2 h => ?_)
  exact hret _ _ r_2  dX6_toldIn_10 h
set_option maxHeartbeats 4000000 in
set_option maxRecDepth 20000 in
theorem m_X6_toldIn (g : kf_G) (hg : kf_g g) (x1 : Int32) (I : HI) (J : HJ) (Post : Int32 → Prop) (h : w_X6_toldIn x1 I J Post) : kf_Mi g yX6_toldIn (kf_W yX6_toldIn cX6_toldIn 2 (Option.some Jvm.ClassFile.FieldType.int)) 2 47 [.ref (g.2.2.2 54), .int x1] I J (fun v I' J' => Post v ∧ I' = I ∧ J' = J) :=
  kf_enti hg (by decide) (Nat.le_of_ble_eq_true rfl) rfl (fun x hx hr => we_X6_toldIn g hg hx x1 I J Post (fun pc lv v hd hP => hr pc lv v I J hd ⟨hP, rfl, rfl⟩) h)
theorem dX6_waysToDeal_0 : decode cX6_waysToDeal 0 = .ok (.lconst 1, 1) := by decide +kernel
theorem dX6_waysToDeal_1 : decode cX6_waysToDeal 1 = .ok (.lstore_n 1, 1) := by decide +kernel
theorem dX6_waysToDeal_2 : decode cX6_waysToDeal 2 = .ok (.iconst 0, 1) := by decide +kernel
theorem dX6_waysToDeal_3 : decode cX6_waysToDeal 3 = .ok (.istore_n 3, 1) := by decide +kernel
theorem dX6_waysToDeal_4 : decode cX6_waysToDeal 4 = .ok (.iload_n 3, 1) := by decide +kernel
theorem dX6_waysToDeal_5 : decode cX6_waysToDeal 5 = .ok (.aload_n 0, 1) := by decide +kernel
theorem dX6_waysToDeal_6 : decode cX6_waysToDeal 6 = .ok (.getfield 20, 3) := by decide +kernel
theorem dX6_waysToDeal_9 : decode cX6_waysToDeal 9 = .ok (.getfield 28, 3) := by decide +kernel
theorem dX6_waysToDeal_12 : decode cX6_waysToDeal 12 = .ok (.if_icmp .ge 65, 3) := by decide +kernel
theorem dX6_waysToDeal_15 : decode cX6_waysToDeal 15 = .ok (.iconst 1, 1) := by decide +kernel
theorem dX6_waysToDeal_16 : decode cX6_waysToDeal 16 = .ok (.istore 4, 2) := by decide +kernel
theorem dX6_waysToDeal_18 : decode cX6_waysToDeal 18 = .ok (.iconst 0, 1) := by decide +kernel
theorem dX6_waysToDeal_19 : decode cX6_waysToDeal 19 = .ok (.istore 5, 2) := by decide +kernel
theorem dX6_waysToDeal_21 : decode cX6_waysToDeal 21 = .ok (.iload 5, 2) := by decide +kernel
theorem dX6_waysToDeal_23 : decode cX6_waysToDeal 23 = .ok (.iload_n 3, 1) := by decide +kernel
theorem dX6_waysToDeal_24 : decode cX6_waysToDeal 24 = .ok (.if_icmp .ge 41, 3) := by decide +kernel
theorem dX6_waysToDeal_27 : decode cX6_waysToDeal 27 = .ok (.iload 4, 2) := by decide +kernel
theorem dX6_waysToDeal_29 : decode cX6_waysToDeal 29 = .ok (.aload_n 0, 1) := by decide +kernel
theorem dX6_waysToDeal_30 : decode cX6_waysToDeal 30 = .ok (.getfield 20, 3) := by decide +kernel
theorem dX6_waysToDeal_33 : decode cX6_waysToDeal 33 = .ok (.getfield 72, 3) := by decide +kernel
theorem dX6_waysToDeal_36 : decode cX6_waysToDeal 36 = .ok (.iload 5, 2) := by decide +kernel
theorem dX6_waysToDeal_38 : decode cX6_waysToDeal 38 = .ok (.iaload, 1) := by decide +kernel
theorem dX6_waysToDeal_39 : decode cX6_waysToDeal 39 = .ok (.aload_n 0, 1) := by decide +kernel
theorem dX6_waysToDeal_40 : decode cX6_waysToDeal 40 = .ok (.getfield 20, 3) := by decide +kernel
theorem dX6_waysToDeal_43 : decode cX6_waysToDeal 43 = .ok (.getfield 72, 3) := by decide +kernel
theorem dX6_waysToDeal_46 : decode cX6_waysToDeal 46 = .ok (.iload_n 3, 1) := by decide +kernel
theorem dX6_waysToDeal_47 : decode cX6_waysToDeal 47 = .ok (.iaload, 1) := by decide +kernel
theorem dX6_waysToDeal_48 : decode cX6_waysToDeal 48 = .ok (.if_icmp .ne 7, 3) := by decide +kernel
theorem dX6_waysToDeal_51 : decode cX6_waysToDeal 51 = .ok (.iconst 1, 1) := by decide +kernel
theorem dX6_waysToDeal_52 : decode cX6_waysToDeal 52 = .ok (.goto 4, 3) := by decide +kernel
theorem dX6_waysToDeal_55 : decode cX6_waysToDeal 55 = .ok (.iconst 0, 1) := by decide +kernel
theorem dX6_waysToDeal_56 : decode cX6_waysToDeal 56 = .ok (.iadd, 1) := by decide +kernel
theorem dX6_waysToDeal_57 : decode cX6_waysToDeal 57 = .ok (.istore 4, 2) := by decide +kernel
theorem dX6_waysToDeal_59 : decode cX6_waysToDeal 59 = .ok (.iinc 5 1, 3) := by decide +kernel
theorem dX6_waysToDeal_62 : decode cX6_waysToDeal 62 = .ok (.goto (-41), 3) := by decide +kernel
theorem dX6_waysToDeal_65 : decode cX6_waysToDeal 65 = .ok (.lload_n 1, 1) := by decide +kernel
theorem dX6_waysToDeal_66 : decode cX6_waysToDeal 66 = .ok (.iload 4, 2) := by decide +kernel
theorem dX6_waysToDeal_68 : decode cX6_waysToDeal 68 = .ok (.i2l, 1) := by decide +kernel
theorem dX6_waysToDeal_69 : decode cX6_waysToDeal 69 = .ok (.lmul, 1) := by decide +kernel
theorem dX6_waysToDeal_70 : decode cX6_waysToDeal 70 = .ok (.lstore_n 1, 1) := by decide +kernel
theorem dX6_waysToDeal_71 : decode cX6_waysToDeal 71 = .ok (.iinc 3 1, 3) := by decide +kernel
theorem dX6_waysToDeal_74 : decode cX6_waysToDeal 74 = .ok (.goto (-70), 3) := by decide +kernel
theorem dX6_waysToDeal_77 : decode cX6_waysToDeal 77 = .ok (.lload_n 1, 1) := by decide +kernel
theorem dX6_waysToDeal_78 : decode cX6_waysToDeal 78 = .ok (.ldc2_w 75, 3) := by decide +kernel
theorem dX6_waysToDeal_81 : decode cX6_waysToDeal 81 = .ok (.lcmp, 1) := by decide +kernel
theorem dX6_waysToDeal_82 : decode cX6_waysToDeal 82 = .ok (.ifCond .le 7, 3) := by decide +kernel
theorem dX6_waysToDeal_85 : decode cX6_waysToDeal 85 = .ok (.iconst (-1), 1) := by decide +kernel
theorem dX6_waysToDeal_86 : decode cX6_waysToDeal 86 = .ok (.goto 5, 3) := by decide +kernel
theorem dX6_waysToDeal_89 : decode cX6_waysToDeal 89 = .ok (.lload_n 1, 1) := by decide +kernel
theorem dX6_waysToDeal_90 : decode cX6_waysToDeal 90 = .ok (.l2i, 1) := by decide +kernel
theorem dX6_waysToDeal_91 : decode cX6_waysToDeal 91 = .ok (.ireturn, 1) := by decide +kernel
def wb_X6_waysToDeal_21 (I : HI) (J : HJ) (x1 : Int64) (x3 : Int32) (E4 : Int64 → Prop) (K4 : Int64 × Int32 → Prop) (Post : Int32 → Prop) (E21 : Int32 → Prop) (K21 : (Int32 × Int32) → Prop) (s : Int32 × Int32) : Prop :=
  match s with
  | (x4, x5) => (x3 ≤ x5 → (E21 x4)) ∧ (¬ x3 ≤ x5 → (vp_in x5 12 ∧ (vp_in x3 12 ∧ ((¬ (I 13 (Int32.toNatClampNeg x5)) = (I 13 (Int32.toNatClampNeg x3)) → (K21 ((x4 + 0), (x5 + 1)))) ∧ ((I 13 (Int32.toNatClampNeg x5)) = (I 13 (Int32.toNatClampNeg x3)) → (K21 ((x4 + 1), (x5 + 1))))))))
set_option maxHeartbeats 4000000 in
set_option maxRecDepth 20000 in
theorem ws_X6_waysToDeal_21 (g : kf_G) (hg : kf_g g) {x : kf_X} (hx : kf_ok g x RX6 cX6_waysToDeal 6 0 0) (I : HI) (J : HJ) (x1 : Int64) (x3 : Int32) (E4 : Int64 → Prop) (K4 : Int64 × Int32 → Prop) (hE4 : ∀ (y1 : Int64), E4 y1 → kf_M g x 6 77 [(1, .long y1)] [] I J) (hK4 : ∀ (y1 : Int64) (y3 : Int32), K4 (y1, y3) → kf_M g x 6 4 [(0, .ref (g.2.2.2 54)), (1, .long y1), (3, .int y3)] [] I J) (Post : Int32 → Prop) (hret : ∀ (pc : Nat) (lv : List (Nat × Value)) (v : Int32), decode cX6_waysToDeal pc = .ok (.ireturn, 1) → Post v → kf_M g x 6 pc lv [.int v] I J) (E21 : Int32 → Prop) (hE21 : ∀ (y4 : Int32), E21 y4 → kf_M g x 6 65 [(0, .ref (g.2.2.2 54)), (1, .long x1), (3, .int x3), (4, .int y4)] [] I J) (K21 : (Int32 × Int32) → Prop) (hK21 : ∀ (y4 : Int32) (y5 : Int32), K21 (y4, y5) → kf_M g x 6 21 [(0, .ref (g.2.2.2 54)), (1, .long x1), (3, .int x3), (4, .int y4), (5, .int y5)] [] I J) (x4 : Int32) (x5 : Int32) (h : wb_X6_waysToDeal_21 I J x1 x3 E4 K4 Post E21 K21 (x4, x5)) : kf_M g x 6 21 [(0, .ref (g.2.2.2 54)), (1, .long x1), (3, .int x3), (4, .int x4), (5, .int x5)] [] I J := by
  unfold wb_X6_waysToDeal_21 at h
  refine kf_iload hx dX6_waysToDeal_21 4 rfl ?_
  refine kf_iload_n hx dX6_waysToDeal_23 rfl 2 rfl ?_
  refine kf_icmp_ge hx 65 dX6_waysToDeal_24 (by decide) (fun c => ?_) (fun c => ?_)
  · replace h := h.1 c
    refine kf_sub [0, 1, 2, 3] rfl ?_
    exact hE21 _ h
  · replace h := h.2 c
    refine kf_iload hx dX6_waysToDeal_27 3 rfl ?_
    refine kf_aload_n hx dX6_waysToDeal_29 rfl 0 rfl ?_
    refine kf_getR (n := 12) hx sl_54_0 fl_RX6_20 dX6_waysToDeal_30 ?_
    refine kf_getR (n := 13) hx sl_12_0 fl_RX6_72 dX6_waysToDeal_33 ?_
    refine kf_iload hx dX6_waysToDeal_36 4 rfl ?_
    refine kf_iald hx ar_13 h.1 dX6_waysToDeal_38 ?_
    replace h := h.2
    refine kf_aload_n hx dX6_waysToDeal_39 rfl 0 rfl ?_
    refine kf_getR (n := 12) hx sl_54_0 fl_RX6_20 dX6_waysToDeal_40 ?_
    refine kf_getR (n := 13) hx sl_12_0 fl_RX6_72 dX6_waysToDeal_43 ?_
    refine kf_iload_n hx dX6_waysToDeal_46 rfl 2 rfl ?_
    refine kf_iald hx ar_13 h.1 dX6_waysToDeal_47 ?_
    replace h := h.2
    refine kf_icmp_ne hx 55 dX6_waysToDeal_48 (by decide) (fun c => ?_) (fun c => ?_)
    · replace h := h.1 c
      refine kf_iconst (v := 0) hx dX6_waysToDeal_55 (by decide) ?_
      refine kf_iadd hx dX6_waysToDeal_56 ?_
      refine kf_istore (lv' := [(4, .int (x4 + 0)), (0, .ref (g.2.2.2 54)), (1, .long x1), (3, .int x3), (5, .int x5)]) hx dX6_waysToDeal_57 (by decide) rfl ?_
      refine kf_iinc (w := (x5 + 1)) (lv' := [(5, .int (x5 + 1)), (4, .int (x4 + 0)), (0, .ref (g.2.2.2 54)), (1, .long x1), (3, .int x3)]) hx dX6_waysToDeal_59 4 rfl rfl (by decide) rfl ?_
      refine kf_goto hx 21 dX6_waysToDeal_62 (by decide) ?_
      refine kf_sub [2, 3, 4, 1, 0] rfl ?_
      exact hK21 _ _ h
    · replace h := h.2 c
      refine kf_iconst (v := 1) hx dX6_waysToDeal_51 (by decide) ?_
      refine kf_goto hx 56 dX6_waysToDeal_52 (by decide) ?_
      refine kf_iadd hx dX6_waysToDeal_56 ?_
      refine kf_istore (lv' := [(4, .int (x4 + 1)), (0, .ref (g.2.2.2 54)), (1, .long x1), (3, .int x3), (5, .int x5)]) hx dX6_waysToDeal_57 (by decide) rfl ?_
      refine kf_iinc (w := (x5 + 1)) (lv' := [(5, .int (x5 + 1)), (4, .int (x4 + 1)), (0, .ref (g.2.2.2 54)), (1, .long x1), (3, .int x3)]) hx dX6_waysToDeal_59 4 rfl rfl (by decide) rfl ?_
      refine kf_goto hx 21 dX6_waysToDeal_62 (by decide) ?_
      refine kf_sub [2, 3, 4, 1, 0] rfl ?_
      exact hK21 _ _ h
theorem wl_X6_waysToDeal_21 (g : kf_G) (hg : kf_g g) {x : kf_X} (hx : kf_ok g x RX6 cX6_waysToDeal 6 0 0) (I : HI) (J : HJ) (x1 : Int64) (x3 : Int32) (E4 : Int64 → Prop) (K4 : Int64 × Int32 → Prop) (hE4 : ∀ (y1 : Int64), E4 y1 → kf_M g x 6 77 [(1, .long y1)] [] I J) (hK4 : ∀ (y1 : Int64) (y3 : Int32), K4 (y1, y3) → kf_M g x 6 4 [(0, .ref (g.2.2.2 54)), (1, .long y1), (3, .int y3)] [] I J) (Post : Int32 → Prop) (hret : ∀ (pc : Nat) (lv : List (Nat × Value)) (v : Int32), decode cX6_waysToDeal pc = .ok (.ireturn, 1) → Post v → kf_M g x 6 pc lv [.int v] I J) (E21 : Int32 → Prop) (hE21 : ∀ (y4 : Int32), E21 y4 → kf_M g x 6 65 [(0, .ref (g.2.2.2 54)), (1, .long x1), (3, .int x3), (4, .int y4)] [] I J) : ∀ (n : Nat) (x4 : Int32) (x5 : Int32), lp (wb_X6_waysToDeal_21 I J x1 x3 E4 K4 Post E21) n (x4, x5) → kf_M g x 6 21 [(0, .ref (g.2.2.2 54)), (1, .long x1), (3, .int x3), (4, .int x4), (5, .int x5)] [] I J := by
  intro n
  induction n with
  | zero => intro x4 x5 h; exact h.elim
  | succ n ih => intro x4 x5 h; exact ws_X6_waysToDeal_21 g hg hx I J x1 x3 E4 K4 hE4 hK4 Post hret E21 hE21 (lp (wb_X6_waysToDeal_21 I J x1 x3 E4 K4 Post E21) n) ih x4 x5 h
def wb_X6_waysToDeal_4 (I : HI) (J : HJ) (Post : Int32 → Prop) (E4 : Int64 → Prop) (K4 : (Int64 × Int32) → Prop) (s : Int64 × Int32) : Prop :=
  match s with
  | (x1, x3) => ((I 12 11) ≤ x3 → (E4 x1)) ∧ (¬ (I 12 11) ≤ x3 → (∃ n, lp (wb_X6_waysToDeal_21 I J x1 x3 E4 K4 Post (fun (x4_1 : Int32) => K4 ((x1 * (Int32.toInt64 x4_1)), (x3 + 1)))) n (1, 0)))
set_option maxHeartbeats 4000000 in
set_option maxRecDepth 20000 in
theorem ws_X6_waysToDeal_4 (g : kf_G) (hg : kf_g g) {x : kf_X} (hx : kf_ok g x RX6 cX6_waysToDeal 6 0 0) (I : HI) (J : HJ) (Post : Int32 → Prop) (hret : ∀ (pc : Nat) (lv : List (Nat × Value)) (v : Int32), decode cX6_waysToDeal pc = .ok (.ireturn, 1) → Post v → kf_M g x 6 pc lv [.int v] I J) (E4 : Int64 → Prop) (hE4 : ∀ (y1 : Int64), E4 y1 → kf_M g x 6 77 [(1, .long y1)] [] I J) (K4 : (Int64 × Int32) → Prop) (hK4 : ∀ (y1 : Int64) (y3 : Int32), K4 (y1, y3) → kf_M g x 6 4 [(0, .ref (g.2.2.2 54)), (1, .long y1), (3, .int y3)] [] I J) (x1 : Int64) (x3 : Int32) (h : wb_X6_waysToDeal_4 I J Post E4 K4 (x1, x3)) : kf_M g x 6 4 [(0, .ref (g.2.2.2 54)), (1, .long x1), (3, .int x3)] [] I J := by
  unfold wb_X6_waysToDeal_4 at h
  refine kf_iload_n hx dX6_waysToDeal_4 rfl 2 rfl ?_
  refine kf_aload_n hx dX6_waysToDeal_5 rfl 0 rfl ?_
  refine kf_getR (n := 12) hx sl_54_0 fl_RX6_20 dX6_waysToDeal_6 ?_
  refine kf_getI hx sl_12_11 fl_RX6_28 dX6_waysToDeal_9 ?_
  refine kf_icmp_ge hx 77 dX6_waysToDeal_12 (by decide) (fun c => ?_) (fun c => ?_)
  · replace h := h.1 c
    refine kf_sub [1] rfl ?_
    exact hE4 _ h
  · replace h := h.2 c
    refine kf_iconst (v := 1) hx dX6_waysToDeal_15 (by decide) ?_
    refine kf_istore (lv' := [(4, .int 1), (0, .ref (g.2.2.2 54)), (1, .long x1), (3, .int x3)]) hx dX6_waysToDeal_16 (by decide) rfl ?_
    refine kf_iconst (v := 0) hx dX6_waysToDeal_18 (by decide) ?_
    refine kf_istore (lv' := [(5, .int 0), (4, .int 1), (0, .ref (g.2.2.2 54)), (1, .long x1), (3, .int x3)]) hx dX6_waysToDeal_19 (by decide) rfl ?_
    obtain ⟨n, h⟩ := h
    refine kf_sub [2, 3, 4, 1, 0] rfl ?_
    refine wl_X6_waysToDeal_21 g hg hx I J x1 x3 _ _ hE4 hK4 _ hret _ (fun x4_1 h => ?_) n _ _ h
    refine kf_lload_n hx dX6_waysToDeal_65 rfl 1 rfl ?_
    refine kf_iload hx dX6_waysToDeal_66 3 rfl ?_
    refine kf_i2l hx dX6_waysToDeal_68 ?_
    refine kf_lmul hx dX6_waysToDeal_69 ?_
    refine kf_lstore_n (lv' := [(1, .long (x1 * (Int32.toInt64 x4_1))), (0, .ref (g.2.2.2 54)), (3, .int x3), (4, .int x4_1)]) hx dX6_waysToDeal_70 rfl (by decide) rfl ?_
    refine kf_iinc (w := (x3 + 1)) (lv' := [(3, .int (x3 + 1)), (1, .long (x1 * (Int32.toInt64 x4_1))), (0, .ref (g.2.2.2 54)), (4, .int x4_1)]) hx dX6_waysToDeal_71 2 rfl rfl (by decide) rfl ?_
    refine kf_goto hx 4 dX6_waysToDeal_74 (by decide) ?_
    refine kf_sub [2, 1, 0] rfl ?_
    exact hK4 _ _ h
theorem wl_X6_waysToDeal_4 (g : kf_G) (hg : kf_g g) {x : kf_X} (hx : kf_ok g x RX6 cX6_waysToDeal 6 0 0) (I : HI) (J : HJ) (Post : Int32 → Prop) (hret : ∀ (pc : Nat) (lv : List (Nat × Value)) (v : Int32), decode cX6_waysToDeal pc = .ok (.ireturn, 1) → Post v → kf_M g x 6 pc lv [.int v] I J) (E4 : Int64 → Prop) (hE4 : ∀ (y1 : Int64), E4 y1 → kf_M g x 6 77 [(1, .long y1)] [] I J) : ∀ (n : Nat) (x1 : Int64) (x3 : Int32), lp (wb_X6_waysToDeal_4 I J Post E4) n (x1, x3) → kf_M g x 6 4 [(0, .ref (g.2.2.2 54)), (1, .long x1), (3, .int x3)] [] I J := by
  intro n
  induction n with
  | zero => intro x1 x3 h; exact h.elim
  | succ n ih => intro x1 x3 h; exact ws_X6_waysToDeal_4 g hg hx I J Post hret E4 hE4 (lp (wb_X6_waysToDeal_4 I J Post E4) n) ih x1 x3 h
def w_X6_waysToDeal  (I : HI) (J : HJ) (Post : Int32 → Prop) : Prop :=
  ∃ n, lp (wb_X6_waysToDeal_4 I J Post (fun (x1_2 : Int64) => (x1_2 ≤ 5040 → (Post (Int64.toInt32 x1_2))) ∧ (¬ x1_2 ≤ 5040 → (Post (-1))))) n (1, 0)
set_option maxHeartbeats 4000000 in
set_option maxRecDepth 20000 in
theorem we_X6_waysToDeal (g : kf_G) (hg : kf_g g) {x : kf_X} (hx : kf_ok g x RX6 cX6_waysToDeal 6 0 0)  (I : HI) (J : HJ) (Post : Int32 → Prop) (hret : ∀ (pc : Nat) (lv : List (Nat × Value)) (v : Int32), decode cX6_waysToDeal pc = .ok (.ireturn, 1) → Post v → kf_M g x 6 pc lv [.int v] I J) (h : w_X6_waysToDeal  I J Post) : kf_M g x 6 0 [(0, .ref (g.2.2.2 54))] [] I J := by
  unfold w_X6_waysToDeal at h
  refine kf_lconst (v := 1) hx dX6_waysToDeal_0 (by decide) ?_
  refine kf_lstore_n (lv' := [(1, .long 1), (0, .ref (g.2.2.2 54))]) hx dX6_waysToDeal_1 rfl (by decide) rfl ?_
  refine kf_iconst (v := 0) hx dX6_waysToDeal_2 (by decide) ?_
  refine kf_istore_n (lv' := [(3, .int 0), (1, .long 1), (0, .ref (g.2.2.2 54))]) hx dX6_waysToDeal_3 rfl (by decide) rfl ?_
  obtain ⟨n, h⟩ := h
  refine kf_sub [2, 1, 0] rfl ?_
  refine wl_X6_waysToDeal_4 g hg hx I J  _ hret _ (fun x1_2 h => ?_) n _ _ h
  refine kf_lload_n hx dX6_waysToDeal_77 rfl 0 rfl ?_
  refine kf_ldc2 hx ko_RX6_75 dX6_waysToDeal_78 ?_
  refine kf_l_le hx 89 dX6_waysToDeal_81 dX6_waysToDeal_82 (by decide) (fun c => ?_) (fun c => ?_)
  · replace h := h.1 c
    refine kf_lload_n hx dX6_waysToDeal_89 rfl 0 rfl ?_
    refine kf_l2i hx dX6_waysToDeal_90 ?_
    exact hret _ _ (Int64.toInt32 x1_2)  dX6_waysToDeal_91 h
  · replace h := h.2 c
    refine kf_iconst (v := (-1)) hx dX6_waysToDeal_85 (by decide) ?_
    refine kf_goto hx 91 dX6_waysToDeal_86 (by decide) ?_
    exact hret _ _ (-1)  dX6_waysToDeal_91 h
set_option maxHeartbeats 4000000 in
set_option maxRecDepth 20000 in
theorem m_X6_waysToDeal (g : kf_G) (hg : kf_g g)  (I : HI) (J : HJ) (Post : Int32 → Prop) (h : w_X6_waysToDeal  I J Post) : kf_Mi g yX6_waysToDeal (kf_W yX6_waysToDeal cX6_waysToDeal 6 (Option.some Jvm.ClassFile.FieldType.int)) 0 0 [.ref (g.2.2.2 54)] I J (fun v I' J' => Post v ∧ I' = I ∧ J' = J) :=
  kf_enti hg (by decide) (Nat.le_of_ble_eq_true rfl) rfl (fun x hx hr => we_X6_waysToDeal g hg hx  I J Post (fun pc lv v hd hP => hr pc lv v I J hd ⟨hP, rfl, rfl⟩) h)
theorem dX6_waysFrom_0 : decode cX6_waysFrom 0 = .ok (.aload_n 0, 1) := by decide +kernel
theorem dX6_waysFrom_1 : decode cX6_waysFrom 1 = .ok (.getfield 20, 3) := by decide +kernel
theorem dX6_waysFrom_4 : decode cX6_waysFrom 4 = .ok (.astore 5, 2) := by decide +kernel
theorem dX6_waysFrom_6 : decode cX6_waysFrom 6 = .ok (.iload_n 2, 1) := by decide +kernel
theorem dX6_waysFrom_7 : decode cX6_waysFrom 7 = .ok (.aload 5, 2) := by decide +kernel
theorem dX6_waysFrom_9 : decode cX6_waysFrom 9 = .ok (.getfield 28, 3) := by decide +kernel
theorem dX6_waysFrom_12 : decode cX6_waysFrom 12 = .ok (.if_icmp .lt 22, 3) := by decide +kernel
theorem dX6_waysFrom_15 : decode cX6_waysFrom 15 = .ok (.aload_n 0, 1) := by decide +kernel
theorem dX6_waysFrom_16 : decode cX6_waysFrom 16 = .ok (.aload_n 0, 1) := by decide +kernel
theorem dX6_waysFrom_17 : decode cX6_waysFrom 17 = .ok (.getfield 16, 3) := by decide +kernel
theorem dX6_waysFrom_20 : decode cX6_waysFrom 20 = .ok (.invokevirtual 68, 3) := by decide +kernel
theorem dX6_waysFrom_23 : decode cX6_waysFrom 23 = .ok (.iload 4, 2) := by decide +kernel
theorem dX6_waysFrom_25 : decode cX6_waysFrom 25 = .ok (.if_icmp .lt 7, 3) := by decide +kernel
theorem dX6_waysFrom_28 : decode cX6_waysFrom 28 = .ok (.iconst 1, 1) := by decide +kernel
theorem dX6_waysFrom_29 : decode cX6_waysFrom 29 = .ok (.goto 4, 3) := by decide +kernel
theorem dX6_waysFrom_32 : decode cX6_waysFrom 32 = .ok (.iconst 0, 1) := by decide +kernel
theorem dX6_waysFrom_33 : decode cX6_waysFrom 33 = .ok (.ireturn, 1) := by decide +kernel
theorem dX6_waysFrom_34 : decode cX6_waysFrom 34 = .ok (.iconst 0, 1) := by decide +kernel
theorem dX6_waysFrom_35 : decode cX6_waysFrom 35 = .ok (.istore 6, 2) := by decide +kernel
theorem dX6_waysFrom_37 : decode cX6_waysFrom 37 = .ok (.iconst 0, 1) := by decide +kernel
theorem dX6_waysFrom_38 : decode cX6_waysFrom 38 = .ok (.istore 7, 2) := by decide +kernel
theorem dX6_waysFrom_40 : decode cX6_waysFrom 40 = .ok (.iload 7, 2) := by decide +kernel
theorem dX6_waysFrom_42 : decode cX6_waysFrom 42 = .ok (.aload 5, 2) := by decide +kernel
theorem dX6_waysFrom_44 : decode cX6_waysFrom 44 = .ok (.getfield 28, 3) := by decide +kernel
theorem dX6_waysFrom_47 : decode cX6_waysFrom 47 = .ok (.if_icmp .ge 67, 3) := by decide +kernel
theorem dX6_waysFrom_50 : decode cX6_waysFrom 50 = .ok (.iload_n 3, 1) := by decide +kernel
theorem dX6_waysFrom_51 : decode cX6_waysFrom 51 = .ok (.iload 7, 2) := by decide +kernel
theorem dX6_waysFrom_53 : decode cX6_waysFrom 53 = .ok (.invokestatic 84, 3) := by decide +kernel
theorem dX6_waysFrom_56 : decode cX6_waysFrom 56 = .ok (.ifCond .ne 52, 3) := by decide +kernel
theorem dX6_waysFrom_59 : decode cX6_waysFrom 59 = .ok (.aload 5, 2) := by decide +kernel
theorem dX6_waysFrom_61 : decode cX6_waysFrom 61 = .ok (.getfield 72, 3) := by decide +kernel
theorem dX6_waysFrom_64 : decode cX6_waysFrom 64 = .ok (.iload 7, 2) := by decide +kernel
theorem dX6_waysFrom_66 : decode cX6_waysFrom 66 = .ok (.iaload, 1) := by decide +kernel
theorem dX6_waysFrom_67 : decode cX6_waysFrom 67 = .ok (.aload 5, 2) := by decide +kernel
theorem dX6_waysFrom_69 : decode cX6_waysFrom 69 = .ok (.getfield 72, 3) := by decide +kernel
theorem dX6_waysFrom_72 : decode cX6_waysFrom 72 = .ok (.iload_n 2, 1) := by decide +kernel
theorem dX6_waysFrom_73 : decode cX6_waysFrom 73 = .ok (.iaload, 1) := by decide +kernel
theorem dX6_waysFrom_74 : decode cX6_waysFrom 74 = .ok (.if_icmp .ne 34, 3) := by decide +kernel
theorem dX6_waysFrom_77 : decode cX6_waysFrom 77 = .ok (.aload_n 0, 1) := by decide +kernel
theorem dX6_waysFrom_78 : decode cX6_waysFrom 78 = .ok (.getfield 16, 3) := by decide +kernel
theorem dX6_waysFrom_81 : decode cX6_waysFrom 81 = .ok (.iload_n 2, 1) := by decide +kernel
theorem dX6_waysFrom_82 : decode cX6_waysFrom 82 = .ok (.aload_n 1, 1) := by decide +kernel
theorem dX6_waysFrom_83 : decode cX6_waysFrom 83 = .ok (.iload 7, 2) := by decide +kernel
theorem dX6_waysFrom_85 : decode cX6_waysFrom 85 = .ok (.iaload, 1) := by decide +kernel
theorem dX6_waysFrom_86 : decode cX6_waysFrom 86 = .ok (.iastore, 1) := by decide +kernel
theorem dX6_waysFrom_87 : decode cX6_waysFrom 87 = .ok (.iload 6, 2) := by decide +kernel
theorem dX6_waysFrom_89 : decode cX6_waysFrom 89 = .ok (.aload_n 0, 1) := by decide +kernel
theorem dX6_waysFrom_90 : decode cX6_waysFrom 90 = .ok (.aload_n 1, 1) := by decide +kernel
theorem dX6_waysFrom_91 : decode cX6_waysFrom 91 = .ok (.iload_n 2, 1) := by decide +kernel
theorem dX6_waysFrom_92 : decode cX6_waysFrom 92 = .ok (.iconst 1, 1) := by decide +kernel
theorem dX6_waysFrom_93 : decode cX6_waysFrom 93 = .ok (.iadd, 1) := by decide +kernel
theorem dX6_waysFrom_94 : decode cX6_waysFrom 94 = .ok (.iload_n 3, 1) := by decide +kernel
theorem dX6_waysFrom_95 : decode cX6_waysFrom 95 = .ok (.iconst 1, 1) := by decide +kernel
theorem dX6_waysFrom_96 : decode cX6_waysFrom 96 = .ok (.iload 7, 2) := by decide +kernel
theorem dX6_waysFrom_98 : decode cX6_waysFrom 98 = .ok (.ishl, 1) := by decide +kernel
theorem dX6_waysFrom_99 : decode cX6_waysFrom 99 = .ok (.ior, 1) := by decide +kernel
theorem dX6_waysFrom_100 : decode cX6_waysFrom 100 = .ok (.iload 4, 2) := by decide +kernel
theorem dX6_waysFrom_102 : decode cX6_waysFrom 102 = .ok (.invokestatic 80, 3) := by decide +kernel
theorem dX6_waysFrom_105 : decode cX6_waysFrom 105 = .ok (.iadd, 1) := by decide +kernel
theorem dX6_waysFrom_106 : decode cX6_waysFrom 106 = .ok (.istore 6, 2) := by decide +kernel
theorem dX6_waysFrom_108 : decode cX6_waysFrom 108 = .ok (.iinc 7 1, 3) := by decide +kernel
theorem dX6_waysFrom_111 : decode cX6_waysFrom 111 = .ok (.goto (-71), 3) := by decide +kernel
theorem dX6_waysFrom_114 : decode cX6_waysFrom 114 = .ok (.iload 6, 2) := by decide +kernel
theorem dX6_waysFrom_116 : decode cX6_waysFrom 116 = .ok (.ireturn, 1) := by decide +kernel
def wb_X6_waysFrom_40 (R : Nat → Int32 → Int32 → Int32 → HI → HJ → (Int32 → HI → Prop) → Prop) (J : HJ) (c1 : Nat) (x2 : Int32) (x3 : Int32) (x4 : Int32) (Post : Int32 → HI → Prop) (E40 : Int32 → HI → Prop) (K40 : (Int32 × Int32 × HI) → Prop) (s : Int32 × Int32 × HI) : Prop :=
  match s with
  | (x6, x7, I) => ((I 12 11) ≤ x7 → (E40 x6 I)) ∧ (¬ (I 12 11) ≤ x7 → (w_X10_has x3 x7 (fun (r_1 : Bool) => ((r_1 = true → (K40 (x6, (x7 + 1), I))) ∧ (r_1 = false → (vp_in x7 12 ∧ (vp_in x2 12 ∧ ((¬ (I 13 (Int32.toNatClampNeg x7)) = (I 13 (Int32.toNatClampNeg x2)) → (K40 (x6, (x7 + 1), I))) ∧ ((I 13 (Int32.toNatClampNeg x7)) = (I 13 (Int32.toNatClampNeg x2)) → (vp_in x7 12 ∧ (vp_in x2 12 ∧ (∀ I_2 : HI, I_2 = hI I 71 (Int32.toNatClampNeg x2) (I c1 (Int32.toNatClampNeg x7)) → (R c1 (x2 + 1) (x3 ||| (1 <<< (x7 &&& 31))) x4 I_2 J (fun (r_3 : Int32) (I_4 : HI) => (K40 ((x6 + r_3), (x7 + 1), I_4))))))))))))))))
set_option maxHeartbeats 4000000 in
set_option maxRecDepth 20000 in
theorem ws_X6_waysFrom_40 (g : kf_G) (hg : kf_g g) {x : kf_X} {fr lc fr' lc' : Nat} (hrm : fr' + 1 ≤ fr ∧ 8 + (8 + 11) + lc' ≤ lc) (hfl : 2 ≤ fr ∧ 47 ≤ lc) (hx : kf_ok g x RX6 cX6_waysFrom 8 fr lc) (R : Nat → Int32 → Int32 → Int32 → HI → HJ → (Int32 → HI → Prop) → Prop) (hR : ∀ (c1 : Nat) (x2 : Int32) (x3 : Int32) (x4 : Int32) (hc1 : kf_SH[c1]? = some (1, 12, [0])) (I : HI) (J : HJ) (P : Int32 → HI → Prop), R c1 x2 x3 x4 I J P → kf_Mi g yX6_waysFrom (kf_W yX6_waysFrom cX6_waysFrom 8 (Option.some Jvm.ClassFile.FieldType.int)) fr' lc' [.ref (g.2.2.2 54), .ref (g.2.2.2 c1), .int x2, .int x3, .int x4] I J (fun v I' J' => P v I' ∧ J' = J)) (J : HJ) (c1 : Nat) (x2 : Int32) (x3 : Int32) (x4 : Int32) (hc1 : kf_SH[c1]? = some (1, 12, [0])) (Post : Int32 → HI → Prop) (hret : ∀ (pc : Nat) (lv : List (Nat × Value)) (v : Int32) (Iy : HI), decode cX6_waysFrom pc = .ok (.ireturn, 1) → Post v Iy → kf_M g x 8 pc lv [.int v] Iy J) (E40 : Int32 → HI → Prop) (hE40 : ∀ (y6 : Int32) (Iy : HI), E40 y6 Iy → kf_M g x 8 114 [(6, .int y6)] [] Iy J) (K40 : (Int32 × Int32 × HI) → Prop) (hK40 : ∀ (y6 : Int32) (y7 : Int32) (Iy : HI), K40 (y6, y7, Iy) → kf_M g x 8 40 [(0, .ref (g.2.2.2 54)), (1, .ref (g.2.2.2 c1)), (2, .int x2), (3, .int x3), (4, .int x4), (5, .ref (g.2.2.2 12)), (6, .int y6), (7, .int y7)] [] Iy J) (x6 : Int32) (x7 : Int32) (I : HI) (h : wb_X6_waysFrom_40 R J c1 x2 x3 x4 Post E40 K40 (x6, x7, I)) : kf_M g x 8 40 [(0, .ref (g.2.2.2 54)), (1, .ref (g.2.2.2 c1)), (2, .int x2), (3, .int x3), (4, .int x4), (5, .ref (g.2.2.2 12)), (6, .int x6), (7, .int x7)] [] I J := by
  unfold wb_X6_waysFrom_40 at h
  refine kf_iload hx dX6_waysFrom_40 7 rfl ?_
  refine kf_aload hx dX6_waysFrom_42 5 rfl ?_
  refine kf_getI hx sl_12_11 fl_RX6_28 dX6_waysFrom_44 ?_
  refine kf_icmp_ge hx 114 dX6_waysFrom_47 (by decide) (fun c => ?_) (fun c => ?_)
  · replace h := h.1 c
    refine kf_sub [6] rfl ?_
    exact hE40 _ _ h
  · replace h := h.2 c
    refine kf_iload_n hx dX6_waysFrom_50 rfl 3 rfl ?_
    refine kf_iload hx dX6_waysFrom_51 7 rfl ?_
    refine kf_callSbP (st := []) hx (m_X10_has g hg x3 x7 I J _ h) lk_RX6_84 km_X10_has rfl ⟨by omega, by omega⟩ rfl (Nat.le_of_ble_eq_true rfl) dX6_waysFrom_53 (fun r_1 h => ?_)
    refine kf_ifB_ne hx 108 dX6_waysFrom_56 (by decide) (fun c => ?_) (fun c => ?_)
    · replace h := h.1 c
      refine kf_iinc (w := (x7 + 1)) (lv' := [(7, .int (x7 + 1)), (0, .ref (g.2.2.2 54)), (1, .ref (g.2.2.2 c1)), (2, .int x2), (3, .int x3), (4, .int x4), (5, .ref (g.2.2.2 12)), (6, .int x6)]) hx dX6_waysFrom_108 7 rfl rfl (by decide) rfl ?_
      refine kf_goto hx 40 dX6_waysFrom_111 (by decide) ?_
      refine kf_sub [1, 2, 3, 4, 5, 6, 7, 0] rfl ?_
      exact hK40 _ _ _ h
    · replace h := h.2 c
      refine kf_aload hx dX6_waysFrom_59 5 rfl ?_
      refine kf_getR (n := 13) hx sl_12_0 fl_RX6_72 dX6_waysFrom_61 ?_
      refine kf_iload hx dX6_waysFrom_64 7 rfl ?_
      refine kf_iald hx ar_13 h.1 dX6_waysFrom_66 ?_
      replace h := h.2
      refine kf_aload hx dX6_waysFrom_67 5 rfl ?_
      refine kf_getR (n := 13) hx sl_12_0 fl_RX6_72 dX6_waysFrom_69 ?_
      refine kf_iload_n hx dX6_waysFrom_72 rfl 2 rfl ?_
      refine kf_iald hx ar_13 h.1 dX6_waysFrom_73 ?_
      replace h := h.2
      refine kf_icmp_ne hx 108 dX6_waysFrom_74 (by decide) (fun c => ?_) (fun c => ?_)
      · replace h := h.1 c
        refine kf_iinc (w := (x7 + 1)) (lv' := [(7, .int (x7 + 1)), (0, .ref (g.2.2.2 54)), (1, .ref (g.2.2.2 c1)), (2, .int x2), (3, .int x3), (4, .int x4), (5, .ref (g.2.2.2 12)), (6, .int x6)]) hx dX6_waysFrom_108 7 rfl rfl (by decide) rfl ?_
        refine kf_goto hx 40 dX6_waysFrom_111 (by decide) ?_
        refine kf_sub [1, 2, 3, 4, 5, 6, 7, 0] rfl ?_
        exact hK40 _ _ _ h
      · replace h := h.2 c
        refine kf_aload_n hx dX6_waysFrom_77 rfl 0 rfl ?_
        refine kf_getR (n := 71) hx sl_54_2 fl_RX6_16 dX6_waysFrom_78 ?_
        refine kf_iload_n hx dX6_waysFrom_81 rfl 2 rfl ?_
        refine kf_aload_n hx dX6_waysFrom_82 rfl 1 rfl ?_
        refine kf_iload hx dX6_waysFrom_83 7 rfl ?_
        refine kf_iald hx hc1 h.1 dX6_waysFrom_85 ?_
        replace h := h.2
        refine kf_iast hx ar_71 h.1 dX6_waysFrom_86 ?_
        replace h := h.2
        refine kf_nmI (fun I_2 eI_2 => ?_)
        replace h := h I_2 eI_2
        refine kf_iload hx dX6_waysFrom_87 6 rfl ?_
        refine kf_aload_n hx dX6_waysFrom_89 rfl 0 rfl ?_
        refine kf_aload_n hx dX6_waysFrom_90 rfl 1 rfl ?_
        refine kf_iload_n hx dX6_waysFrom_91 rfl 2 rfl ?_
        refine kf_iconst (v := 1) hx dX6_waysFrom_92 (by decide) ?_
        refine kf_iadd hx dX6_waysFrom_93 ?_
        refine kf_iload_n hx dX6_waysFrom_94 rfl 3 rfl ?_
        refine kf_iconst (v := 1) hx dX6_waysFrom_95 (by decide) ?_
        refine kf_iload hx dX6_waysFrom_96 7 rfl ?_
        refine kf_ishl hx dX6_waysFrom_98 ?_
        refine kf_ior hx dX6_waysFrom_99 ?_
        refine kf_iload hx dX6_waysFrom_100 4 rfl ?_
        refine kf_callSiI (st := [.int x6]) hx (hR c1 (x2 + 1) (x3 ||| (1 <<< (x7 &&& 31))) x4 hc1 I_2 J _ h) lk_RX6_80 km_X6_waysFrom rfl hrm rfl (Nat.le_of_ble_eq_true rfl) dX6_waysFrom_102 (fun r_3 I_4 h => ?_)
        refine kf_iadd hx dX6_waysFrom_105 ?_
        refine kf_istore (lv' := [(6, .int (x6 + r_3)), (0, .ref (g.2.2.2 54)), (1, .ref (g.2.2.2 c1)), (2, .int x2), (3, .int x3), (4, .int x4), (5, .ref (g.2.2.2 12)), (7, .int x7)]) hx dX6_waysFrom_106 (by decide) rfl ?_
        refine kf_iinc (w := (x7 + 1)) (lv' := [(7, .int (x7 + 1)), (6, .int (x6 + r_3)), (0, .ref (g.2.2.2 54)), (1, .ref (g.2.2.2 c1)), (2, .int x2), (3, .int x3), (4, .int x4), (5, .ref (g.2.2.2 12))]) hx dX6_waysFrom_108 7 rfl rfl (by decide) rfl ?_
        refine kf_goto hx 40 dX6_waysFrom_111 (by decide) ?_
        refine kf_sub [2, 3, 4, 5, 6, 7, 1, 0] rfl ?_
        exact hK40 _ _ _ h
theorem wl_X6_waysFrom_40 (g : kf_G) (hg : kf_g g) {x : kf_X} {fr lc fr' lc' : Nat} (hrm : fr' + 1 ≤ fr ∧ 8 + (8 + 11) + lc' ≤ lc) (hfl : 2 ≤ fr ∧ 47 ≤ lc) (hx : kf_ok g x RX6 cX6_waysFrom 8 fr lc) (R : Nat → Int32 → Int32 → Int32 → HI → HJ → (Int32 → HI → Prop) → Prop) (hR : ∀ (c1 : Nat) (x2 : Int32) (x3 : Int32) (x4 : Int32) (hc1 : kf_SH[c1]? = some (1, 12, [0])) (I : HI) (J : HJ) (P : Int32 → HI → Prop), R c1 x2 x3 x4 I J P → kf_Mi g yX6_waysFrom (kf_W yX6_waysFrom cX6_waysFrom 8 (Option.some Jvm.ClassFile.FieldType.int)) fr' lc' [.ref (g.2.2.2 54), .ref (g.2.2.2 c1), .int x2, .int x3, .int x4] I J (fun v I' J' => P v I' ∧ J' = J)) (J : HJ) (c1 : Nat) (x2 : Int32) (x3 : Int32) (x4 : Int32) (hc1 : kf_SH[c1]? = some (1, 12, [0])) (Post : Int32 → HI → Prop) (hret : ∀ (pc : Nat) (lv : List (Nat × Value)) (v : Int32) (Iy : HI), decode cX6_waysFrom pc = .ok (.ireturn, 1) → Post v Iy → kf_M g x 8 pc lv [.int v] Iy J) (E40 : Int32 → HI → Prop) (hE40 : ∀ (y6 : Int32) (Iy : HI), E40 y6 Iy → kf_M g x 8 114 [(6, .int y6)] [] Iy J) : ∀ (n : Nat) (x6 : Int32) (x7 : Int32) (I : HI), lp (wb_X6_waysFrom_40 R J c1 x2 x3 x4 Post E40) n (x6, x7, I) → kf_M g x 8 40 [(0, .ref (g.2.2.2 54)), (1, .ref (g.2.2.2 c1)), (2, .int x2), (3, .int x3), (4, .int x4), (5, .ref (g.2.2.2 12)), (6, .int x6), (7, .int x7)] [] I J := by
  intro n
  induction n with
  | zero => intro x6 x7 I h; exact h.elim
  | succ n ih => intro x6 x7 I h; exact ws_X6_waysFrom_40 g hg hrm hfl hx R hR J c1 x2 x3 x4 hc1 Post hret E40 hE40 (lp (wb_X6_waysFrom_40 R J c1 x2 x3 x4 Post E40) n) ih x6 x7 I h
def wr_X6_waysFrom (R : Nat → Int32 → Int32 → Int32 → HI → HJ → (Int32 → HI → Prop) → Prop) (c1 : Nat) (x2 : Int32) (x3 : Int32) (x4 : Int32) (I : HI) (J : HJ) (Post : Int32 → HI → Prop) : Prop :=
  (x2 < (I 12 11) → (∃ n, lp (wb_X6_waysFrom_40 R J c1 x2 x3 x4 Post (fun (x6_5 : Int32) (I_6 : HI) => Post x6_5 I_6)) n (0, 0, I))) ∧ (¬ x2 < (I 12 11) → (w_X6_tiesThatTold 71 I J (fun (r_7 : Int32) => ((r_7 < x4 → (Post 0 I)) ∧ (¬ r_7 < x4 → (Post 1 I))))))
set_option maxHeartbeats 4000000 in
set_option maxRecDepth 20000 in
theorem we_X6_waysFrom (g : kf_G) (hg : kf_g g) {x : kf_X} {fr lc fr' lc' : Nat} (hrm : fr' + 1 ≤ fr ∧ 8 + (8 + 11) + lc' ≤ lc) (hfl : 2 ≤ fr ∧ 47 ≤ lc) (hx : kf_ok g x RX6 cX6_waysFrom 8 fr lc) (R : Nat → Int32 → Int32 → Int32 → HI → HJ → (Int32 → HI → Prop) → Prop) (hR : ∀ (c1 : Nat) (x2 : Int32) (x3 : Int32) (x4 : Int32) (hc1 : kf_SH[c1]? = some (1, 12, [0])) (I : HI) (J : HJ) (P : Int32 → HI → Prop), R c1 x2 x3 x4 I J P → kf_Mi g yX6_waysFrom (kf_W yX6_waysFrom cX6_waysFrom 8 (Option.some Jvm.ClassFile.FieldType.int)) fr' lc' [.ref (g.2.2.2 54), .ref (g.2.2.2 c1), .int x2, .int x3, .int x4] I J (fun v I' J' => P v I' ∧ J' = J)) (c1 : Nat) (x2 : Int32) (x3 : Int32) (x4 : Int32) (hc1 : kf_SH[c1]? = some (1, 12, [0])) (I : HI) (J : HJ) (Post : Int32 → HI → Prop) (hret : ∀ (pc : Nat) (lv : List (Nat × Value)) (v : Int32) (Iy : HI), decode cX6_waysFrom pc = .ok (.ireturn, 1) → Post v Iy → kf_M g x 8 pc lv [.int v] Iy J) (h : wr_X6_waysFrom R c1 x2 x3 x4 I J Post) : kf_M g x 8 0 [(0, .ref (g.2.2.2 54)), (1, .ref (g.2.2.2 c1)), (2, .int x2), (3, .int x3), (4, .int x4)] [] I J := by
  unfold wr_X6_waysFrom at h
  refine kf_aload_n hx dX6_waysFrom_0 rfl 0 rfl ?_
  refine kf_getR (n := 12) hx sl_54_0 fl_RX6_20 dX6_waysFrom_1 ?_
  refine kf_astore (lv' := [(5, .ref (g.2.2.2 12)), (0, .ref (g.2.2.2 54)), (1, .ref (g.2.2.2 c1)), (2, .int x2), (3, .int x3), (4, .int x4)]) hx dX6_waysFrom_4 (by decide) rfl ?_
  refine kf_iload_n hx dX6_waysFrom_6 rfl 3 rfl ?_
  refine kf_aload hx dX6_waysFrom_7 0 rfl ?_
  refine kf_getI hx sl_12_11 fl_RX6_28 dX6_waysFrom_9 ?_
  refine kf_icmp_lt hx 34 dX6_waysFrom_12 (by decide) (fun c => ?_) (fun c => ?_)
  · replace h := h.1 c
    refine kf_iconst (v := 0) hx dX6_waysFrom_34 (by decide) ?_
    refine kf_istore (lv' := [(6, .int 0), (5, .ref (g.2.2.2 12)), (0, .ref (g.2.2.2 54)), (1, .ref (g.2.2.2 c1)), (2, .int x2), (3, .int x3), (4, .int x4)]) hx dX6_waysFrom_35 (by decide) rfl ?_
    refine kf_iconst (v := 0) hx dX6_waysFrom_37 (by decide) ?_
    refine kf_istore (lv' := [(7, .int 0), (6, .int 0), (5, .ref (g.2.2.2 12)), (0, .ref (g.2.2.2 54)), (1, .ref (g.2.2.2 c1)), (2, .int x2), (3, .int x3), (4, .int x4)]) hx dX6_waysFrom_38 (by decide) rfl ?_
    obtain ⟨n, h⟩ := h
    refine kf_sub [3, 4, 5, 6, 7, 2, 1, 0] rfl ?_
    refine wl_X6_waysFrom_40 g hg hrm hfl hx R hR J c1 x2 x3 x4 hc1 _ hret _ (fun x6_5 I_6 h => ?_) n _ _ _ h
    refine kf_iload hx dX6_waysFrom_114 0 rfl ?_
    exact hret _ _ x6_5 _ dX6_waysFrom_116 h
  · replace h := h.2 c
    refine kf_aload_n hx dX6_waysFrom_15 rfl 1 rfl ?_
    refine kf_aload_n hx dX6_waysFrom_16 rfl 1 rfl ?_
    refine kf_getR (n := 71) hx sl_54_2 fl_RX6_16 dX6_waysFrom_17 ?_
    refine kf_callViP (st := []) hx (m_X6_tiesThatTold g hg 71 ar_71 I J _ h) lk_RX6_68 km_X6_tiesThatTold ob_54 rfl ⟨by omega, by omega⟩ rfl (Nat.le_of_ble_eq_true rfl) dX6_waysFrom_20 (fun r_7 h => ?_)
    refine kf_iload hx dX6_waysFrom_23 5 rfl ?_
    refine kf_icmp_lt hx 32 dX6_waysFrom_25 (by decide) (fun c => ?_) (fun c => ?_)
    · replace h := h.1 c
      refine kf_iconst (v := 0) hx dX6_waysFrom_32 (by decide) ?_
      exact hret _ _ 0 _ dX6_waysFrom_33 h
    · replace h := h.2 c
      refine kf_iconst (v := 1) hx dX6_waysFrom_28 (by decide) ?_
      refine kf_goto hx 33 dX6_waysFrom_29 (by decide) ?_
      exact hret _ _ 1 _ dX6_waysFrom_33 h
def w_X6_waysFrom : Nat → Nat → Int32 → Int32 → Int32 → HI → HJ → (Int32 → HI → Prop) → Prop
  | 0 => fun _ _ _ _ _ _ _ => False
  | d + 1 => wr_X6_waysFrom (w_X6_waysFrom d)
set_option maxHeartbeats 4000000 in
set_option maxRecDepth 20000 in
theorem m_X6_waysFrom (g : kf_G) (hg : kf_g g) : ∀ (d : Nat) (c1 : Nat) (x2 : Int32) (x3 : Int32) (x4 : Int32) (hc1 : kf_SH[c1]? = some (1, 12, [0])) (I : HI) (J : HJ) (Post : Int32 → HI → Prop), w_X6_waysFrom d c1 x2 x3 x4 I J Post → kf_Mi g yX6_waysFrom (kf_W yX6_waysFrom cX6_waysFrom 8 (Option.some Jvm.ClassFile.FieldType.int)) (d + 2) (27 * d + 47) [.ref (g.2.2.2 54), .ref (g.2.2.2 c1), .int x2, .int x3, .int x4] I J (fun v I' J' => Post v I' ∧ J' = J) := by
  intro d
  induction d with
  | zero => intro c1 x2 x3 x4 hc1 I J Post h; exact h.elim
  | succ d ih =>
    intro c1 x2 x3 x4 hc1 I J Post h
    exact kf_enti hg (by decide) (Nat.le_of_ble_eq_true rfl) rfl (fun x hx hr => we_X6_waysFrom g hg (fr' := d + 2) (lc' := 27 * d + 47) ⟨by omega, by omega⟩ ⟨by omega, by omega⟩ hx (w_X6_waysFrom d) ih c1 x2 x3 x4 hc1 I J Post (fun pc lv v I' hd hP => hr pc lv v I' J hd ⟨hP, rfl⟩) h)
theorem dX6_waysAsGood_0 : decode cX6_waysAsGood 0 = .ok (.aload_n 0, 1) := by decide +kernel
theorem dX6_waysAsGood_1 : decode cX6_waysAsGood 1 = .ok (.aload_n 0, 1) := by decide +kernel
theorem dX6_waysAsGood_2 : decode cX6_waysAsGood 2 = .ok (.getfield 13, 3) := by decide +kernel
theorem dX6_waysAsGood_5 : decode cX6_waysAsGood 5 = .ok (.iload_n 1, 1) := by decide +kernel
theorem dX6_waysAsGood_6 : decode cX6_waysAsGood 6 = .ok (.aaload, 1) := by decide +kernel
theorem dX6_waysAsGood_7 : decode cX6_waysAsGood 7 = .ok (.iconst 0, 1) := by decide +kernel
theorem dX6_waysAsGood_8 : decode cX6_waysAsGood 8 = .ok (.iconst 0, 1) := by decide +kernel
theorem dX6_waysAsGood_9 : decode cX6_waysAsGood 9 = .ok (.aload_n 0, 1) := by decide +kernel
theorem dX6_waysAsGood_10 : decode cX6_waysAsGood 10 = .ok (.iload_n 1, 1) := by decide +kernel
theorem dX6_waysAsGood_11 : decode cX6_waysAsGood 11 = .ok (.invokevirtual 77, 3) := by decide +kernel
theorem dX6_waysAsGood_14 : decode cX6_waysAsGood 14 = .ok (.invokestatic 80, 3) := by decide +kernel
theorem dX6_waysAsGood_17 : decode cX6_waysAsGood 17 = .ok (.ireturn, 1) := by decide +kernel
def w_X6_waysAsGood (x1 : Int32) (I : HI) (J : HJ) (Post : Int32 → HI → Prop) : Prop :=
  vp_in x1 15 ∧ (w_X6_toldIn x1 I J (fun (r_2 : Int32) => (w_X6_waysFrom 14 (56 + 1 * Int32.toNatClampNeg x1) 0 0 r_2 I J (fun (r_3 : Int32) (I_4 : HI) => (Post r_3 I_4)))))
set_option maxHeartbeats 4000000 in
set_option maxRecDepth 20000 in
theorem we_X6_waysAsGood (g : kf_G) (hg : kf_g g) {x : kf_X} (hx : kf_ok g x RX6 cX6_waysAsGood 2 17 452) (x1 : Int32) (I : HI) (J : HJ) (Post : Int32 → HI → Prop) (hret : ∀ (pc : Nat) (lv : List (Nat × Value)) (v : Int32) (Iy : HI), decode cX6_waysAsGood pc = .ok (.ireturn, 1) → Post v Iy → kf_M g x 2 pc lv [.int v] Iy J) (h : w_X6_waysAsGood x1 I J Post) : kf_M g x 2 0 [(0, .ref (g.2.2.2 54)), (1, .int x1)] [] I J := by
  unfold w_X6_waysAsGood at h
  refine kf_aload_n hx dX6_waysAsGood_0 rfl 0 rfl ?_
  refine kf_aload_n hx dX6_waysAsGood_1 rfl 0 rfl ?_
  refine kf_getR (n := 55) hx sl_54_1 fl_RX6_13 dX6_waysAsGood_2 ?_
  refine kf_iload_n hx dX6_waysAsGood_5 rfl 1 rfl ?_
  have hb_1 := h.1
  refine kf_aald hx ar_55 rfl rfl h.1 dX6_waysAsGood_6 ?_
  replace h := h.2
  refine kf_iconst (v := 0) hx dX6_waysAsGood_7 (by decide) ?_
  refine kf_iconst (v := 0) hx dX6_waysAsGood_8 (by decide) ?_
  refine kf_aload_n hx dX6_waysAsGood_9 rfl 0 rfl ?_
  refine kf_iload_n hx dX6_waysAsGood_10 rfl 1 rfl ?_
  refine kf_callViP (st := [.int 0, .int 0, .ref (g.2.2.2 (56 + 1 * Int32.toNatClampNeg x1)), .ref (g.2.2.2 54)]) hx (m_X6_toldIn g hg x1 I J _ h) lk_RX6_77 km_X6_toldIn ob_54 rfl (by decide) rfl (Nat.le_of_ble_eq_true rfl) dX6_waysAsGood_11 (fun r_2 h => ?_)
  refine kf_callSiI (st := []) hx (m_X6_waysFrom g hg 14 (56 + 1 * Int32.toNatClampNeg x1) 0 0 r_2 (rn_of hb_1) I J _ h) lk_RX6_80 km_X6_waysFrom rfl (by decide) rfl (Nat.le_of_ble_eq_true rfl) dX6_waysAsGood_14 (fun r_3 I_4 h => ?_)
  exact hret _ _ r_3 _ dX6_waysAsGood_17 h
set_option maxHeartbeats 4000000 in
set_option maxRecDepth 20000 in
theorem m_X6_waysAsGood (g : kf_G) (hg : kf_g g) (x1 : Int32) (I : HI) (J : HJ) (Post : Int32 → HI → Prop) (h : w_X6_waysAsGood x1 I J Post) : kf_Mi g yX6_waysAsGood (kf_W yX6_waysAsGood cX6_waysAsGood 2 (Option.some Jvm.ClassFile.FieldType.int)) 17 452 [.ref (g.2.2.2 54), .int x1] I J (fun v I' J' => Post v I' ∧ J' = J) :=
  kf_enti hg (by decide) (Nat.le_of_ble_eq_true rfl) rfl (fun x hx hr => we_X6_waysAsGood g hg hx x1 I J Post (fun pc lv v I' hd hP => hr pc lv v I' J hd ⟨hP, rfl⟩) h)
theorem dX7_hourOf_0 : decode cX7_hourOf 0 = .ok (.aload_n 0, 1) := by decide +kernel
theorem dX7_hourOf_1 : decode cX7_hourOf 1 = .ok (.getfield 50, 3) := by decide +kernel
theorem dX7_hourOf_4 : decode cX7_hourOf 4 = .ok (.iload_n 1, 1) := by decide +kernel
theorem dX7_hourOf_5 : decode cX7_hourOf 5 = .ok (.invokestatic 72, 3) := by decide +kernel
theorem dX7_hourOf_8 : decode cX7_hourOf 8 = .ok (.ifCond .eq 12, 3) := by decide +kernel
theorem dX7_hourOf_11 : decode cX7_hourOf 11 = .ok (.aload_n 0, 1) := by decide +kernel
theorem dX7_hourOf_12 : decode cX7_hourOf 12 = .ok (.getfield 9, 3) := by decide +kernel
theorem dX7_hourOf_15 : decode cX7_hourOf 15 = .ok (.iload_n 1, 1) := by decide +kernel
theorem dX7_hourOf_16 : decode cX7_hourOf 16 = .ok (.iaload, 1) := by decide +kernel
theorem dX7_hourOf_17 : decode cX7_hourOf 17 = .ok (.goto 4, 3) := by decide +kernel
theorem dX7_hourOf_20 : decode cX7_hourOf 20 = .ok (.iconst (-1), 1) := by decide +kernel
theorem dX7_hourOf_21 : decode cX7_hourOf 21 = .ok (.ireturn, 1) := by decide +kernel
def w_X7_hourOf (x1 : Int32) (I : HI) (J : HJ) (Post : Int32 → Prop) : Prop :=
  w_X10_has (I 48 8) x1 (fun (r_1 : Bool) => ((r_1 = false → (Post (-1))) ∧ (r_1 = true → (vp_in x1 12 ∧ (Post (I 49 (Int32.toNatClampNeg x1)))))))
set_option maxHeartbeats 4000000 in
set_option maxRecDepth 20000 in
theorem we_X7_hourOf (g : kf_G) (hg : kf_g g) {x : kf_X} (hx : kf_ok g x RX7 cX7_hourOf 2 1 21) (x1 : Int32) (I : HI) (J : HJ) (Post : Int32 → Prop) (hret : ∀ (pc : Nat) (lv : List (Nat × Value)) (v : Int32), decode cX7_hourOf pc = .ok (.ireturn, 1) → Post v → kf_M g x 2 pc lv [.int v] I J) (h : w_X7_hourOf x1 I J Post) : kf_M g x 2 0 [(0, .ref (g.2.2.2 48)), (1, .int x1)] [] I J := by
  unfold w_X7_hourOf at h
  refine kf_aload_n hx dX7_hourOf_0 rfl 0 rfl ?_
  refine kf_getI hx sl_48_8 fl_RX7_50 dX7_hourOf_1 ?_
  refine kf_iload_n hx dX7_hourOf_4 rfl 1 rfl ?_
  refine kf_callSbP (st := []) hx (m_X10_has g hg (I 48 8) x1 I J _ h) lk_RX7_72 km_X10_has rfl (by decide) rfl (Nat.le_of_ble_eq_true rfl) dX7_hourOf_5 (fun r_1 h => ?_)
  refine kf_ifB_eq hx 20 dX7_hourOf_8 (by decide) (fun c => ?_) (fun c => ?_)
  · replace h := h.1 c
    refine kf_iconst (v := (-1)) hx dX7_hourOf_20 (by decide) ?_
    exact hret _ _ (-1)  dX7_hourOf_21 h
  · replace h := h.2 c
    refine kf_aload_n hx dX7_hourOf_11 rfl 0 rfl ?_
    refine kf_getR (n := 49) hx sl_48_1 fl_RX7_9 dX7_hourOf_12 ?_
    refine kf_iload_n hx dX7_hourOf_15 rfl 1 rfl ?_
    refine kf_iald hx ar_49 h.1 dX7_hourOf_16 ?_
    replace h := h.2
    refine kf_goto hx 21 dX7_hourOf_17 (by decide) ?_
    exact hret _ _ (I 49 (Int32.toNatClampNeg x1))  dX7_hourOf_21 h
set_option maxHeartbeats 4000000 in
set_option maxRecDepth 20000 in
theorem m_X7_hourOf (g : kf_G) (hg : kf_g g) (x1 : Int32) (I : HI) (J : HJ) (Post : Int32 → Prop) (h : w_X7_hourOf x1 I J Post) : kf_Mi g yX7_hourOf (kf_W yX7_hourOf cX7_hourOf 2 (Option.some Jvm.ClassFile.FieldType.int)) 1 21 [.ref (g.2.2.2 48), .int x1] I J (fun v I' J' => Post v ∧ I' = I ∧ J' = J) :=
  kf_enti hg (by decide) (Nat.le_of_ble_eq_true rfl) rfl (fun x hx hr => we_X7_hourOf g hg hx x1 I J Post (fun pc lv v hd hP => hr pc lv v I J hd ⟨hP, rfl, rfl⟩) h)
theorem dX7_moverOf_0 : decode cX7_moverOf 0 = .ok (.aload_n 0, 1) := by decide +kernel
theorem dX7_moverOf_1 : decode cX7_moverOf 1 = .ok (.getfield 9, 3) := by decide +kernel
theorem dX7_moverOf_4 : decode cX7_moverOf 4 = .ok (.iload_n 1, 1) := by decide +kernel
theorem dX7_moverOf_5 : decode cX7_moverOf 5 = .ok (.iaload, 1) := by decide +kernel
theorem dX7_moverOf_6 : decode cX7_moverOf 6 = .ok (.aload_n 0, 1) := by decide +kernel
theorem dX7_moverOf_7 : decode cX7_moverOf 7 = .ok (.getfield 21, 3) := by decide +kernel
theorem dX7_moverOf_10 : decode cX7_moverOf 10 = .ok (.getfield 97, 3) := by decide +kernel
theorem dX7_moverOf_13 : decode cX7_moverOf 13 = .ok (.iload_n 1, 1) := by decide +kernel
theorem dX7_moverOf_14 : decode cX7_moverOf 14 = .ok (.iaload, 1) := by decide +kernel
theorem dX7_moverOf_15 : decode cX7_moverOf 15 = .ok (.isub, 1) := by decide +kernel
theorem dX7_moverOf_16 : decode cX7_moverOf 16 = .ok (.istore_n 3, 1) := by decide +kernel
theorem dX7_moverOf_17 : decode cX7_moverOf 17 = .ok (.iconst (-1), 1) := by decide +kernel
theorem dX7_moverOf_18 : decode cX7_moverOf 18 = .ok (.istore 4, 2) := by decide +kernel
theorem dX7_moverOf_20 : decode cX7_moverOf 20 = .ok (.iconst (-1), 1) := by decide +kernel
theorem dX7_moverOf_21 : decode cX7_moverOf 21 = .ok (.istore 5, 2) := by decide +kernel
theorem dX7_moverOf_23 : decode cX7_moverOf 23 = .ok (.iconst 0, 1) := by decide +kernel
theorem dX7_moverOf_24 : decode cX7_moverOf 24 = .ok (.istore 6, 2) := by decide +kernel
theorem dX7_moverOf_26 : decode cX7_moverOf 26 = .ok (.iload 6, 2) := by decide +kernel
theorem dX7_moverOf_28 : decode cX7_moverOf 28 = .ok (.aload_n 0, 1) := by decide +kernel
theorem dX7_moverOf_29 : decode cX7_moverOf 29 = .ok (.getfield 21, 3) := by decide +kernel
theorem dX7_moverOf_32 : decode cX7_moverOf 32 = .ok (.getfield 66, 3) := by decide +kernel
theorem dX7_moverOf_35 : decode cX7_moverOf 35 = .ok (.if_icmp .ge 93, 3) := by decide +kernel
theorem dX7_moverOf_38 : decode cX7_moverOf 38 = .ok (.aload_n 0, 1) := by decide +kernel
theorem dX7_moverOf_39 : decode cX7_moverOf 39 = .ok (.getfield 21, 3) := by decide +kernel
theorem dX7_moverOf_42 : decode cX7_moverOf 42 = .ok (.getfield 109, 3) := by decide +kernel
theorem dX7_moverOf_45 : decode cX7_moverOf 45 = .ok (.iload 6, 2) := by decide +kernel
theorem dX7_moverOf_47 : decode cX7_moverOf 47 = .ok (.iaload, 1) := by decide +kernel
theorem dX7_moverOf_48 : decode cX7_moverOf 48 = .ok (.istore 7, 2) := by decide +kernel
theorem dX7_moverOf_50 : decode cX7_moverOf 50 = .ok (.iload_n 2, 1) := by decide +kernel
theorem dX7_moverOf_51 : decode cX7_moverOf 51 = .ok (.aload_n 0, 1) := by decide +kernel
theorem dX7_moverOf_52 : decode cX7_moverOf 52 = .ok (.getfield 21, 3) := by decide +kernel
theorem dX7_moverOf_55 : decode cX7_moverOf 55 = .ok (.getfield 86, 3) := by decide +kernel
theorem dX7_moverOf_58 : decode cX7_moverOf 58 = .ok (.iload_n 1, 1) := by decide +kernel
theorem dX7_moverOf_59 : decode cX7_moverOf 59 = .ok (.iaload, 1) := by decide +kernel
theorem dX7_moverOf_60 : decode cX7_moverOf 60 = .ok (.iand, 1) := by decide +kernel
theorem dX7_moverOf_61 : decode cX7_moverOf 61 = .ok (.iload 6, 2) := by decide +kernel
theorem dX7_moverOf_63 : decode cX7_moverOf 63 = .ok (.invokestatic 72, 3) := by decide +kernel
theorem dX7_moverOf_66 : decode cX7_moverOf 66 = .ok (.ifCond .eq 56, 3) := by decide +kernel
theorem dX7_moverOf_69 : decode cX7_moverOf 69 = .ok (.aload_n 0, 1) := by decide +kernel
theorem dX7_moverOf_70 : decode cX7_moverOf 70 = .ok (.getfield 50, 3) := by decide +kernel
theorem dX7_moverOf_73 : decode cX7_moverOf 73 = .ok (.iload 7, 2) := by decide +kernel
theorem dX7_moverOf_75 : decode cX7_moverOf 75 = .ok (.invokestatic 72, 3) := by decide +kernel
theorem dX7_moverOf_78 : decode cX7_moverOf 78 = .ok (.ifCond .eq 44, 3) := by decide +kernel
theorem dX7_moverOf_81 : decode cX7_moverOf 81 = .ok (.aload_n 0, 1) := by decide +kernel
theorem dX7_moverOf_82 : decode cX7_moverOf 82 = .ok (.getfield 9, 3) := by decide +kernel
theorem dX7_moverOf_85 : decode cX7_moverOf 85 = .ok (.iload 7, 2) := by decide +kernel
theorem dX7_moverOf_87 : decode cX7_moverOf 87 = .ok (.iaload, 1) := by decide +kernel
theorem dX7_moverOf_88 : decode cX7_moverOf 88 = .ok (.aload_n 0, 1) := by decide +kernel
theorem dX7_moverOf_89 : decode cX7_moverOf 89 = .ok (.getfield 21, 3) := by decide +kernel
theorem dX7_moverOf_92 : decode cX7_moverOf 92 = .ok (.getfield 106, 3) := by decide +kernel
theorem dX7_moverOf_95 : decode cX7_moverOf 95 = .ok (.iload 6, 2) := by decide +kernel
theorem dX7_moverOf_97 : decode cX7_moverOf 97 = .ok (.iaload, 1) := by decide +kernel
theorem dX7_moverOf_98 : decode cX7_moverOf 98 = .ok (.iadd, 1) := by decide +kernel
theorem dX7_moverOf_99 : decode cX7_moverOf 99 = .ok (.istore 8, 2) := by decide +kernel
theorem dX7_moverOf_101 : decode cX7_moverOf 101 = .ok (.iload 8, 2) := by decide +kernel
theorem dX7_moverOf_103 : decode cX7_moverOf 103 = .ok (.iload_n 3, 1) := by decide +kernel
theorem dX7_moverOf_104 : decode cX7_moverOf 104 = .ok (.if_icmp .gt 18, 3) := by decide +kernel
theorem dX7_moverOf_107 : decode cX7_moverOf 107 = .ok (.iload 8, 2) := by decide +kernel
theorem dX7_moverOf_109 : decode cX7_moverOf 109 = .ok (.iload 5, 2) := by decide +kernel
theorem dX7_moverOf_111 : decode cX7_moverOf 111 = .ok (.if_icmp .le 11, 3) := by decide +kernel
theorem dX7_moverOf_114 : decode cX7_moverOf 114 = .ok (.iload 8, 2) := by decide +kernel
theorem dX7_moverOf_116 : decode cX7_moverOf 116 = .ok (.istore 5, 2) := by decide +kernel
theorem dX7_moverOf_118 : decode cX7_moverOf 118 = .ok (.iload 6, 2) := by decide +kernel
theorem dX7_moverOf_120 : decode cX7_moverOf 120 = .ok (.istore 4, 2) := by decide +kernel
theorem dX7_moverOf_122 : decode cX7_moverOf 122 = .ok (.iinc 6 1, 3) := by decide +kernel
theorem dX7_moverOf_125 : decode cX7_moverOf 125 = .ok (.goto (-99), 3) := by decide +kernel
theorem dX7_moverOf_128 : decode cX7_moverOf 128 = .ok (.iload 4, 2) := by decide +kernel
theorem dX7_moverOf_130 : decode cX7_moverOf 130 = .ok (.ireturn, 1) := by decide +kernel
def wb_X7_moverOf_26 (I : HI) (J : HJ) (x1 : Int32) (x2 : Int32) (x3 : Int32) (Post : Int32 → Prop) (E26 : Int32 → Prop) (K26 : (Int32 × Int32 × Int32) → Prop) (s : Int32 × Int32 × Int32) : Prop :=
  match s with
  | (x4, x5, x6) => ((I 12 12) ≤ x6 → (E26 x4)) ∧ (¬ (I 12 12) ≤ x6 → (vp_in x6 10 ∧ (vp_in x1 12 ∧ (w_X10_has (x2 &&& (I 17 (Int32.toNatClampNeg x1))) x6 (fun (r_2 : Bool) => ((r_2 = false → (K26 (x4, x5, (x6 + 1)))) ∧ (r_2 = true → (w_X10_has (I 48 8) (I 19 (Int32.toNatClampNeg x6)) (fun (r_3 : Bool) => ((r_3 = false → (K26 (x4, x5, (x6 + 1)))) ∧ (r_3 = true → (vp_in (I 19 (Int32.toNatClampNeg x6)) 12 ∧ (vp_in x6 10 ∧ (∀ z_4 : Int32, z_4 = ((I 49 (Int32.toNatClampNeg (I 19 (Int32.toNatClampNeg x6)))) + (I 22 (Int32.toNatClampNeg x6))) → ((x3 < z_4 → (K26 (x4, x5, (x6 + 1)))) ∧ (¬ x3 < z_4 → ((z_4 ≤ x5 → (K26 (x4, x5, (x6 + 1)))) ∧ (¬ z_4 ≤ x5 → (K26 (x6, z_4, (x6 + 1)))))))))))))))))))))
set_option maxHeartbeats 4000000 in
set_option maxRecDepth 20000 in
theorem ws_X7_moverOf_26 (g : kf_G) (hg : kf_g g) {x : kf_X} (hx : kf_ok g x RX7 cX7_moverOf 9 1 21) (I : HI) (J : HJ) (x1 : Int32) (x2 : Int32) (x3 : Int32) (Post : Int32 → Prop) (hret : ∀ (pc : Nat) (lv : List (Nat × Value)) (v : Int32), decode cX7_moverOf pc = .ok (.ireturn, 1) → Post v → kf_M g x 9 pc lv [.int v] I J) (E26 : Int32 → Prop) (hE26 : ∀ (y4 : Int32), E26 y4 → kf_M g x 9 128 [(4, .int y4)] [] I J) (K26 : (Int32 × Int32 × Int32) → Prop) (hK26 : ∀ (y4 : Int32) (y5 : Int32) (y6 : Int32), K26 (y4, y5, y6) → kf_M g x 9 26 [(0, .ref (g.2.2.2 48)), (1, .int x1), (2, .int x2), (3, .int x3), (4, .int y4), (5, .int y5), (6, .int y6)] [] I J) (x4 : Int32) (x5 : Int32) (x6 : Int32) (h : wb_X7_moverOf_26 I J x1 x2 x3 Post E26 K26 (x4, x5, x6)) : kf_M g x 9 26 [(0, .ref (g.2.2.2 48)), (1, .int x1), (2, .int x2), (3, .int x3), (4, .int x4), (5, .int x5), (6, .int x6)] [] I J := by
  unfold wb_X7_moverOf_26 at h
  refine kf_iload hx dX7_moverOf_26 6 rfl ?_
  refine kf_aload_n hx dX7_moverOf_28 rfl 0 rfl ?_
  refine kf_getR (n := 12) hx sl_48_0 fl_RX7_21 dX7_moverOf_29 ?_
  refine kf_getI hx sl_12_12 fl_RX7_66 dX7_moverOf_32 ?_
  refine kf_icmp_ge hx 128 dX7_moverOf_35 (by decide) (fun c => ?_) (fun c => ?_)
  · replace h := h.1 c
    refine kf_sub [4] rfl ?_
    exact hE26 _ h
  · replace h := h.2 c
    refine kf_aload_n hx dX7_moverOf_38 rfl 0 rfl ?_
    refine kf_getR (n := 12) hx sl_48_0 fl_RX7_21 dX7_moverOf_39 ?_
    refine kf_getR (n := 19) hx sl_12_6 fl_RX7_109 dX7_moverOf_42 ?_
    refine kf_iload hx dX7_moverOf_45 6 rfl ?_
    refine kf_iald hx ar_19 h.1 dX7_moverOf_47 ?_
    replace h := h.2
    refine kf_istore (lv' := [(7, .int (I 19 (Int32.toNatClampNeg x6))), (0, .ref (g.2.2.2 48)), (1, .int x1), (2, .int x2), (3, .int x3), (4, .int x4), (5, .int x5), (6, .int x6)]) hx dX7_moverOf_48 (by decide) rfl ?_
    refine kf_iload_n hx dX7_moverOf_50 rfl 3 rfl ?_
    refine kf_aload_n hx dX7_moverOf_51 rfl 1 rfl ?_
    refine kf_getR (n := 12) hx sl_48_0 fl_RX7_21 dX7_moverOf_52 ?_
    refine kf_getR (n := 17) hx sl_12_4 fl_RX7_86 dX7_moverOf_55 ?_
    refine kf_iload_n hx dX7_moverOf_58 rfl 2 rfl ?_
    refine kf_iald hx ar_17 h.1 dX7_moverOf_59 ?_
    replace h := h.2
    refine kf_iand hx dX7_moverOf_60 ?_
    refine kf_iload hx dX7_moverOf_61 7 rfl ?_
    refine kf_callSbP (st := []) hx (m_X10_has g hg (x2 &&& (I 17 (Int32.toNatClampNeg x1))) x6 I J _ h) lk_RX7_72 km_X10_has rfl (by decide) rfl (Nat.le_of_ble_eq_true rfl) dX7_moverOf_63 (fun r_2 h => ?_)
    refine kf_ifB_eq hx 122 dX7_moverOf_66 (by decide) (fun c => ?_) (fun c => ?_)
    · replace h := h.1 c
      refine kf_iinc (w := (x6 + 1)) (lv' := [(6, .int (x6 + 1)), (7, .int (I 19 (Int32.toNatClampNeg x6))), (0, .ref (g.2.2.2 48)), (1, .int x1), (2, .int x2), (3, .int x3), (4, .int x4), (5, .int x5)]) hx dX7_moverOf_122 7 rfl rfl (by decide) rfl ?_
      refine kf_goto hx 26 dX7_moverOf_125 (by decide) ?_
      refine kf_sub [2, 3, 4, 5, 6, 7, 0] rfl ?_
      exact hK26 _ _ _ h
    · replace h := h.2 c
      refine kf_aload_n hx dX7_moverOf_69 rfl 1 rfl ?_
      refine kf_getI hx sl_48_8 fl_RX7_50 dX7_moverOf_70 ?_
      refine kf_iload hx dX7_moverOf_73 0 rfl ?_
      refine kf_callSbP (st := []) hx (m_X10_has g hg (I 48 8) (I 19 (Int32.toNatClampNeg x6)) I J _ h) lk_RX7_72 km_X10_has rfl (by decide) rfl (Nat.le_of_ble_eq_true rfl) dX7_moverOf_75 (fun r_3 h => ?_)
      refine kf_ifB_eq hx 122 dX7_moverOf_78 (by decide) (fun c => ?_) (fun c => ?_)
      · replace h := h.1 c
        refine kf_iinc (w := (x6 + 1)) (lv' := [(6, .int (x6 + 1)), (7, .int (I 19 (Int32.toNatClampNeg x6))), (0, .ref (g.2.2.2 48)), (1, .int x1), (2, .int x2), (3, .int x3), (4, .int x4), (5, .int x5)]) hx dX7_moverOf_122 7 rfl rfl (by decide) rfl ?_
        refine kf_goto hx 26 dX7_moverOf_125 (by decide) ?_
        refine kf_sub [2, 3, 4, 5, 6, 7, 0] rfl ?_
        exact hK26 _ _ _ h
      · replace h := h.2 c
        refine kf_aload_n hx dX7_moverOf_81 rfl 1 rfl ?_
        refine kf_getR (n := 49) hx sl_48_1 fl_RX7_9 dX7_moverOf_82 ?_
        refine kf_iload hx dX7_moverOf_85 0 rfl ?_
        refine kf_iald hx ar_49 h.1 dX7_moverOf_87 ?_
        replace h := h.2
        refine kf_aload_n hx dX7_moverOf_88 rfl 1 rfl ?_
        refine kf_getR (n := 12) hx sl_48_0 fl_RX7_21 dX7_moverOf_89 ?_
        refine kf_getR (n := 22) hx sl_12_9 fl_RX7_106 dX7_moverOf_92 ?_
        refine kf_iload hx dX7_moverOf_95 7 rfl ?_
        refine kf_iald hx ar_22 h.1 dX7_moverOf_97 ?_
        replace h := h.2
        refine kf_iadd hx dX7_moverOf_98 ?_
        refine kf_topi (fun z_4 ez_4 => ?_)
        replace h := h z_4 ez_4
        refine kf_istore (lv' := [(8, .int z_4), (7, .int (I 19 (Int32.toNatClampNeg x6))), (0, .ref (g.2.2.2 48)), (1, .int x1), (2, .int x2), (3, .int x3), (4, .int x4), (5, .int x5), (6, .int x6)]) hx dX7_moverOf_99 (by decide) rfl ?_
        refine kf_iload hx dX7_moverOf_101 0 rfl ?_
        refine kf_iload_n hx dX7_moverOf_103 rfl 5 rfl ?_
        refine kf_icmp_gt hx 122 dX7_moverOf_104 (by decide) (fun c => ?_) (fun c => ?_)
        · replace h := h.1 c
          refine kf_iinc (w := (x6 + 1)) (lv' := [(6, .int (x6 + 1)), (8, .int z_4), (7, .int (I 19 (Int32.toNatClampNeg x6))), (0, .ref (g.2.2.2 48)), (1, .int x1), (2, .int x2), (3, .int x3), (4, .int x4), (5, .int x5)]) hx dX7_moverOf_122 8 rfl rfl (by decide) rfl ?_
          refine kf_goto hx 26 dX7_moverOf_125 (by decide) ?_
          refine kf_sub [3, 4, 5, 6, 7, 8, 0] rfl ?_
          exact hK26 _ _ _ h
        · replace h := h.2 c
          refine kf_iload hx dX7_moverOf_107 0 rfl ?_
          refine kf_iload hx dX7_moverOf_109 7 rfl ?_
          refine kf_icmp_le hx 122 dX7_moverOf_111 (by decide) (fun c => ?_) (fun c => ?_)
          · replace h := h.1 c
            refine kf_iinc (w := (x6 + 1)) (lv' := [(6, .int (x6 + 1)), (8, .int z_4), (7, .int (I 19 (Int32.toNatClampNeg x6))), (0, .ref (g.2.2.2 48)), (1, .int x1), (2, .int x2), (3, .int x3), (4, .int x4), (5, .int x5)]) hx dX7_moverOf_122 8 rfl rfl (by decide) rfl ?_
            refine kf_goto hx 26 dX7_moverOf_125 (by decide) ?_
            refine kf_sub [3, 4, 5, 6, 7, 8, 0] rfl ?_
            exact hK26 _ _ _ h
          · replace h := h.2 c
            refine kf_iload hx dX7_moverOf_114 0 rfl ?_
            refine kf_istore (lv' := [(5, .int z_4), (8, .int z_4), (7, .int (I 19 (Int32.toNatClampNeg x6))), (0, .ref (g.2.2.2 48)), (1, .int x1), (2, .int x2), (3, .int x3), (4, .int x4), (6, .int x6)]) hx dX7_moverOf_116 (by decide) rfl ?_
            refine kf_iload hx dX7_moverOf_118 8 rfl ?_
            refine kf_istore (lv' := [(4, .int x6), (5, .int z_4), (8, .int z_4), (7, .int (I 19 (Int32.toNatClampNeg x6))), (0, .ref (g.2.2.2 48)), (1, .int x1), (2, .int x2), (3, .int x3), (6, .int x6)]) hx dX7_moverOf_120 (by decide) rfl ?_
            refine kf_iinc (w := (x6 + 1)) (lv' := [(6, .int (x6 + 1)), (4, .int x6), (5, .int z_4), (8, .int z_4), (7, .int (I 19 (Int32.toNatClampNeg x6))), (0, .ref (g.2.2.2 48)), (1, .int x1), (2, .int x2), (3, .int x3)]) hx dX7_moverOf_122 8 rfl rfl (by decide) rfl ?_
            refine kf_goto hx 26 dX7_moverOf_125 (by decide) ?_
            refine kf_sub [5, 6, 7, 8, 1, 2, 0] rfl ?_
            exact hK26 _ _ _ h
theorem wl_X7_moverOf_26 (g : kf_G) (hg : kf_g g) {x : kf_X} (hx : kf_ok g x RX7 cX7_moverOf 9 1 21) (I : HI) (J : HJ) (x1 : Int32) (x2 : Int32) (x3 : Int32) (Post : Int32 → Prop) (hret : ∀ (pc : Nat) (lv : List (Nat × Value)) (v : Int32), decode cX7_moverOf pc = .ok (.ireturn, 1) → Post v → kf_M g x 9 pc lv [.int v] I J) (E26 : Int32 → Prop) (hE26 : ∀ (y4 : Int32), E26 y4 → kf_M g x 9 128 [(4, .int y4)] [] I J) : ∀ (n : Nat) (x4 : Int32) (x5 : Int32) (x6 : Int32), lp (wb_X7_moverOf_26 I J x1 x2 x3 Post E26) n (x4, x5, x6) → kf_M g x 9 26 [(0, .ref (g.2.2.2 48)), (1, .int x1), (2, .int x2), (3, .int x3), (4, .int x4), (5, .int x5), (6, .int x6)] [] I J := by
  intro n
  induction n with
  | zero => intro x4 x5 x6 h; exact h.elim
  | succ n ih => intro x4 x5 x6 h; exact ws_X7_moverOf_26 g hg hx I J x1 x2 x3 Post hret E26 hE26 (lp (wb_X7_moverOf_26 I J x1 x2 x3 Post E26) n) ih x4 x5 x6 h
def w_X7_moverOf (x1 : Int32) (x2 : Int32) (I : HI) (J : HJ) (Post : Int32 → Prop) : Prop :=
  vp_in x1 12 ∧ (vp_in x1 12 ∧ (∀ z_1 : Int32, z_1 = ((I 49 (Int32.toNatClampNeg x1)) - (I 15 (Int32.toNatClampNeg x1))) → (∃ n, lp (wb_X7_moverOf_26 I J x1 x2 z_1 Post (fun (x4_5 : Int32) => Post x4_5)) n ((-1), (-1), 0))))
set_option maxHeartbeats 4000000 in
set_option maxRecDepth 20000 in
theorem we_X7_moverOf (g : kf_G) (hg : kf_g g) {x : kf_X} (hx : kf_ok g x RX7 cX7_moverOf 9 1 21) (x1 : Int32) (x2 : Int32) (I : HI) (J : HJ) (Post : Int32 → Prop) (hret : ∀ (pc : Nat) (lv : List (Nat × Value)) (v : Int32), decode cX7_moverOf pc = .ok (.ireturn, 1) → Post v → kf_M g x 9 pc lv [.int v] I J) (h : w_X7_moverOf x1 x2 I J Post) : kf_M g x 9 0 [(0, .ref (g.2.2.2 48)), (1, .int x1), (2, .int x2)] [] I J := by
  unfold w_X7_moverOf at h
  refine kf_aload_n hx dX7_moverOf_0 rfl 0 rfl ?_
  refine kf_getR (n := 49) hx sl_48_1 fl_RX7_9 dX7_moverOf_1 ?_
  refine kf_iload_n hx dX7_moverOf_4 rfl 1 rfl ?_
  refine kf_iald hx ar_49 h.1 dX7_moverOf_5 ?_
  replace h := h.2
  refine kf_aload_n hx dX7_moverOf_6 rfl 0 rfl ?_
  refine kf_getR (n := 12) hx sl_48_0 fl_RX7_21 dX7_moverOf_7 ?_
  refine kf_getR (n := 15) hx sl_12_2 fl_RX7_97 dX7_moverOf_10 ?_
  refine kf_iload_n hx dX7_moverOf_13 rfl 1 rfl ?_
  refine kf_iald hx ar_15 h.1 dX7_moverOf_14 ?_
  replace h := h.2
  refine kf_isub hx dX7_moverOf_15 ?_
  refine kf_topi (fun z_1 ez_1 => ?_)
  replace h := h z_1 ez_1
  refine kf_istore_n (lv' := [(3, .int z_1), (0, .ref (g.2.2.2 48)), (1, .int x1), (2, .int x2)]) hx dX7_moverOf_16 rfl (by decide) rfl ?_
  refine kf_iconst (v := (-1)) hx dX7_moverOf_17 (by decide) ?_
  refine kf_istore (lv' := [(4, .int (-1)), (3, .int z_1), (0, .ref (g.2.2.2 48)), (1, .int x1), (2, .int x2)]) hx dX7_moverOf_18 (by decide) rfl ?_
  refine kf_iconst (v := (-1)) hx dX7_moverOf_20 (by decide) ?_
  refine kf_istore (lv' := [(5, .int (-1)), (4, .int (-1)), (3, .int z_1), (0, .ref (g.2.2.2 48)), (1, .int x1), (2, .int x2)]) hx dX7_moverOf_21 (by decide) rfl ?_
  refine kf_iconst (v := 0) hx dX7_moverOf_23 (by decide) ?_
  refine kf_istore (lv' := [(6, .int 0), (5, .int (-1)), (4, .int (-1)), (3, .int z_1), (0, .ref (g.2.2.2 48)), (1, .int x1), (2, .int x2)]) hx dX7_moverOf_24 (by decide) rfl ?_
  obtain ⟨n, h⟩ := h
  refine kf_sub [4, 5, 6, 3, 2, 1, 0] rfl ?_
  refine wl_X7_moverOf_26 g hg hx I J x1 x2 z_1 _ hret _ (fun x4_5 h => ?_) n _ _ _ h
  refine kf_iload hx dX7_moverOf_128 0 rfl ?_
  exact hret _ _ x4_5  dX7_moverOf_130 h
set_option maxHeartbeats 4000000 in
set_option maxRecDepth 20000 in
theorem m_X7_moverOf (g : kf_G) (hg : kf_g g) (x1 : Int32) (x2 : Int32) (I : HI) (J : HJ) (Post : Int32 → Prop) (h : w_X7_moverOf x1 x2 I J Post) : kf_Mi g yX7_moverOf (kf_W yX7_moverOf cX7_moverOf 9 (Option.some Jvm.ClassFile.FieldType.int)) 1 21 [.ref (g.2.2.2 48), .int x1, .int x2] I J (fun v I' J' => Post v ∧ I' = I ∧ J' = J) :=
  kf_enti hg (by decide) (Nat.le_of_ble_eq_true rfl) rfl (fun x hx hr => we_X7_moverOf g hg hx x1 x2 I J Post (fun pc lv v hd hP => hr pc lv v I J hd ⟨hP, rfl, rfl⟩) h)
theorem dX8_isMissing_0 : decode cX8_isMissing 0 = .ok (.aload_n 0, 1) := by decide +kernel
theorem dX8_isMissing_1 : decode cX8_isMissing 1 = .ok (.getfield 15, 3) := by decide +kernel
theorem dX8_isMissing_4 : decode cX8_isMissing 4 = .ok (.iconst (-1), 1) := by decide +kernel
theorem dX8_isMissing_5 : decode cX8_isMissing 5 = .ok (.if_icmp .ne 7, 3) := by decide +kernel
theorem dX8_isMissing_8 : decode cX8_isMissing 8 = .ok (.iconst 1, 1) := by decide +kernel
theorem dX8_isMissing_9 : decode cX8_isMissing 9 = .ok (.goto 4, 3) := by decide +kernel
theorem dX8_isMissing_12 : decode cX8_isMissing 12 = .ok (.iconst 0, 1) := by decide +kernel
theorem dX8_isMissing_13 : decode cX8_isMissing 13 = .ok (.ireturn, 1) := by decide +kernel
def w_X8_isMissing (c0 : Nat) (I : HI) (J : HJ) (Post : Bool → Prop) : Prop :=
  (¬ (I c0 2) = (-1) → (Post false)) ∧ ((I c0 2) = (-1) → (Post true))
set_option maxHeartbeats 4000000 in
set_option maxRecDepth 20000 in
theorem we_X8_isMissing (g : kf_G) (hg : kf_g g) {x : kf_X} (hx : kf_ok g x RX8 cX8_isMissing 1 0 0) (c0 : Nat) (hc0 : kf_tr c0) (I : HI) (J : HJ) (Post : Bool → Prop) (hret : ∀ (pc : Nat) (lv : List (Nat × Value)) (v : Bool), decode cX8_isMissing pc = .ok (.ireturn, 1) → Post v → kf_M g x 1 pc lv [.int (kb v)] I J) (h : w_X8_isMissing c0 I J Post) : kf_M g x 1 0 [(0, .ref (g.2.2.2 c0))] [] I J := by
  unfold w_X8_isMissing at h
  refine kf_aload_n hx dX8_isMissing_0 rfl 0 rfl ?_
  refine kf_getI hx (st_2 hc0) fl_RX8_15 dX8_isMissing_1 ?_
  refine kf_iconst (v := (-1)) hx dX8_isMissing_4 (by decide) ?_
  refine kf_icmp_ne hx 12 dX8_isMissing_5 (by decide) (fun c => ?_) (fun c => ?_)
  · replace h := h.1 c
    refine kf_iconst (v := 0) hx dX8_isMissing_12 (by decide) ?_
    exact hret _ _ false  dX8_isMissing_13 h
  · replace h := h.2 c
    refine kf_iconst (v := 1) hx dX8_isMissing_8 (by decide) ?_
    refine kf_goto hx 13 dX8_isMissing_9 (by decide) ?_
    exact hret _ _ true  dX8_isMissing_13 h
set_option maxHeartbeats 4000000 in
set_option maxRecDepth 20000 in
theorem m_X8_isMissing (g : kf_G) (hg : kf_g g) (c0 : Nat) (hc0 : kf_tr c0) (I : HI) (J : HJ) (Post : Bool → Prop) (h : w_X8_isMissing c0 I J Post) : kf_Mb g yX8_isMissing (kf_W yX8_isMissing cX8_isMissing 1 (Option.some Jvm.ClassFile.FieldType.boolean)) 0 0 [.ref (g.2.2.2 c0)] I J (fun v I' J' => Post v ∧ I' = I ∧ J' = J) :=
  kf_entb hg (by decide) (Nat.le_of_ble_eq_true rfl) rfl (fun x hx hr => we_X8_isMissing g hg hx c0 hc0 I J Post (fun pc lv v hd hP => hr pc lv v I J hd ⟨hP, rfl, rfl⟩) h)
theorem dJ7_fill_d0a16_0 : decode cJ7_fill_d0a16 0 = .ok (.iconst 0, 1) := by decide +kernel
theorem dJ7_fill_d0a16_1 : decode cJ7_fill_d0a16 1 = .ok (.istore_n 3, 1) := by decide +kernel
theorem dJ7_fill_d0a16_2 : decode cJ7_fill_d0a16 2 = .ok (.aload_n 0, 1) := by decide +kernel
theorem dJ7_fill_d0a16_3 : decode cJ7_fill_d0a16 3 = .ok (.arraylength, 1) := by decide +kernel
theorem dJ7_fill_d0a16_4 : decode cJ7_fill_d0a16 4 = .ok (.istore 4, 2) := by decide +kernel
theorem dJ7_fill_d0a16_6 : decode cJ7_fill_d0a16 6 = .ok (.iload_n 3, 1) := by decide +kernel
theorem dJ7_fill_d0a16_7 : decode cJ7_fill_d0a16 7 = .ok (.iload 4, 2) := by decide +kernel
theorem dJ7_fill_d0a16_9 : decode cJ7_fill_d0a16 9 = .ok (.if_icmp .ge 13, 3) := by decide +kernel
theorem dJ7_fill_d0a16_12 : decode cJ7_fill_d0a16 12 = .ok (.aload_n 0, 1) := by decide +kernel
theorem dJ7_fill_d0a16_13 : decode cJ7_fill_d0a16 13 = .ok (.iload_n 3, 1) := by decide +kernel
theorem dJ7_fill_d0a16_14 : decode cJ7_fill_d0a16 14 = .ok (.lload_n 1, 1) := by decide +kernel
theorem dJ7_fill_d0a16_15 : decode cJ7_fill_d0a16 15 = .ok (.lastore, 1) := by decide +kernel
theorem dJ7_fill_d0a16_16 : decode cJ7_fill_d0a16 16 = .ok (.iinc 3 1, 3) := by decide +kernel
theorem dJ7_fill_d0a16_19 : decode cJ7_fill_d0a16 19 = .ok (.goto (-13), 3) := by decide +kernel
theorem dJ7_fill_d0a16_22 : decode cJ7_fill_d0a16 22 = .ok (.return_, 1) := by decide +kernel
def wb_J7_fill_d0a16_6 (I : HI) (c0 n0 : Nat) (x1 : Int64) (x4 : Int32) (Post : HJ → Prop) (E6 : HJ → Prop) (K6 : (Int32 × HJ) → Prop) (s : Int32 × HJ) : Prop :=
  match s with
  | (x3, J) => (x4 ≤ x3 → (E6 J)) ∧ (¬ x4 ≤ x3 → (vp_in x3 n0 ∧ (∀ J_1 : HJ, J_1 = hJ J c0 (Int32.toNatClampNeg x3) x1 → (K6 ((x3 + 1), J_1)))))
set_option maxHeartbeats 4000000 in
set_option maxRecDepth 20000 in
theorem ws_J7_fill_d0a16_6 (g : kf_G) (hg : kf_g g) {x : kf_X} (hx : kf_ok g x RJ7 cJ7_fill_d0a16 5 0 0) (I : HI) (c0 n0 : Nat) (x1 : Int64) (x4 : Int32) (hc0 : kf_SH[c0]? = some (2, n0, [1])) (Post : HJ → Prop) (hret : ∀ (pc : Nat) (lv : List (Nat × Value)) (Jy : HJ), decode cJ7_fill_d0a16 pc = .ok (.return_, 1) → Post Jy → kf_M g x 5 pc lv [] I Jy) (E6 : HJ → Prop) (hE6 : ∀ (Jy : HJ), E6 Jy → kf_M g x 5 22 [] [] I Jy) (K6 : (Int32 × HJ) → Prop) (hK6 : ∀ (y3 : Int32) (Jy : HJ), K6 (y3, Jy) → kf_M g x 5 6 [(0, .ref (g.2.2.2 c0)), (1, .long x1), (3, .int y3), (4, .int x4)] [] I Jy) (x3 : Int32) (J : HJ) (h : wb_J7_fill_d0a16_6 I c0 n0 x1 x4 Post E6 K6 (x3, J)) : kf_M g x 5 6 [(0, .ref (g.2.2.2 c0)), (1, .long x1), (3, .int x3), (4, .int x4)] [] I J := by
  unfold wb_J7_fill_d0a16_6 at h
  refine kf_iload_n hx dJ7_fill_d0a16_6 rfl 2 rfl ?_
  refine kf_iload hx dJ7_fill_d0a16_7 3 rfl ?_
  refine kf_icmp_ge hx 22 dJ7_fill_d0a16_9 (by decide) (fun c => ?_) (fun c => ?_)
  · replace h := h.1 c
    refine kf_sub [] rfl ?_
    exact hE6 _ h
  · replace h := h.2 c
    refine kf_aload_n hx dJ7_fill_d0a16_12 rfl 0 rfl ?_
    refine kf_iload_n hx dJ7_fill_d0a16_13 rfl 2 rfl ?_
    refine kf_lload_n hx dJ7_fill_d0a16_14 rfl 1 rfl ?_
    refine kf_last hx hc0 h.1 dJ7_fill_d0a16_15 ?_
    replace h := h.2
    refine kf_nmJ (fun J_1 eJ_1 => ?_)
    replace h := h J_1 eJ_1
    refine kf_iinc (w := (x3 + 1)) (lv' := [(3, .int (x3 + 1)), (0, .ref (g.2.2.2 c0)), (1, .long x1), (4, .int x4)]) hx dJ7_fill_d0a16_16 2 rfl rfl (by decide) rfl ?_
    refine kf_goto hx 6 dJ7_fill_d0a16_19 (by decide) ?_
    refine kf_sub [1, 2, 0, 3] rfl ?_
    exact hK6 _ _ h
theorem wl_J7_fill_d0a16_6 (g : kf_G) (hg : kf_g g) {x : kf_X} (hx : kf_ok g x RJ7 cJ7_fill_d0a16 5 0 0) (I : HI) (c0 n0 : Nat) (x1 : Int64) (x4 : Int32) (hc0 : kf_SH[c0]? = some (2, n0, [1])) (Post : HJ → Prop) (hret : ∀ (pc : Nat) (lv : List (Nat × Value)) (Jy : HJ), decode cJ7_fill_d0a16 pc = .ok (.return_, 1) → Post Jy → kf_M g x 5 pc lv [] I Jy) (E6 : HJ → Prop) (hE6 : ∀ (Jy : HJ), E6 Jy → kf_M g x 5 22 [] [] I Jy) : ∀ (n : Nat) (x3 : Int32) (J : HJ), lp (wb_J7_fill_d0a16_6 I c0 n0 x1 x4 Post E6) n (x3, J) → kf_M g x 5 6 [(0, .ref (g.2.2.2 c0)), (1, .long x1), (3, .int x3), (4, .int x4)] [] I J := by
  intro n
  induction n with
  | zero => intro x3 J h; exact h.elim
  | succ n ih => intro x3 J h; exact ws_J7_fill_d0a16_6 g hg hx I c0 n0 x1 x4 hc0 Post hret E6 hE6 (lp (wb_J7_fill_d0a16_6 I c0 n0 x1 x4 Post E6) n) ih x3 J h
def w_J7_fill_d0a16 (c0 n0 : Nat) (x1 : Int64) (I : HI) (J : HJ) (Post : HJ → Prop) : Prop :=
  ∃ n, lp (wb_J7_fill_d0a16_6 I c0 n0 x1 (Int32.ofNat n0) Post (fun (J_2 : HJ) => Post J_2)) n (0, J)
set_option maxHeartbeats 4000000 in
set_option maxRecDepth 20000 in
theorem we_J7_fill_d0a16 (g : kf_G) (hg : kf_g g) {x : kf_X} (hx : kf_ok g x RJ7 cJ7_fill_d0a16 5 0 0) (c0 n0 : Nat) (x1 : Int64) (hc0 : kf_SH[c0]? = some (2, n0, [1])) (I : HI) (J : HJ) (Post : HJ → Prop) (hret : ∀ (pc : Nat) (lv : List (Nat × Value)) (Jy : HJ), decode cJ7_fill_d0a16 pc = .ok (.return_, 1) → Post Jy → kf_M g x 5 pc lv [] I Jy) (h : w_J7_fill_d0a16 c0 n0 x1 I J Post) : kf_M g x 5 0 [(0, .ref (g.2.2.2 c0)), (1, .long x1)] [] I J := by
  unfold w_J7_fill_d0a16 at h
  refine kf_iconst (v := 0) hx dJ7_fill_d0a16_0 (by decide) ?_
  refine kf_istore_n (lv' := [(3, .int 0), (0, .ref (g.2.2.2 c0)), (1, .long x1)]) hx dJ7_fill_d0a16_1 rfl (by decide) rfl ?_
  refine kf_aload_n hx dJ7_fill_d0a16_2 rfl 1 rfl ?_
  refine kf_alenJ (v := Int32.ofNat n0) hx hc0 rfl dJ7_fill_d0a16_3 ?_
  refine kf_istore (lv' := [(4, .int (Int32.ofNat n0)), (3, .int 0), (0, .ref (g.2.2.2 c0)), (1, .long x1)]) hx dJ7_fill_d0a16_4 (by decide) rfl ?_
  obtain ⟨n, h⟩ := h
  refine kf_sub [2, 3, 1, 0] rfl ?_
  refine wl_J7_fill_d0a16_6 g hg hx I c0 n0 x1 (Int32.ofNat n0) hc0 _ hret _ (fun J_2 h => ?_) n _ _ h
  exact hret _ _ _ dJ7_fill_d0a16_22 h
set_option maxHeartbeats 4000000 in
set_option maxRecDepth 20000 in
theorem m_J7_fill_d0a16 (g : kf_G) (hg : kf_g g) (c0 n0 : Nat) (x1 : Int64) (hc0 : kf_SH[c0]? = some (2, n0, [1])) (I : HI) (J : HJ) (Post : HJ → Prop) (h : w_J7_fill_d0a16 c0 n0 x1 I J Post) : kf_Mv g yJ7_fill_d0a16 (kf_W yJ7_fill_d0a16 cJ7_fill_d0a16 5 (Option.none : Option Jvm.ClassFile.FieldType)) 0 0 [.ref (g.2.2.2 c0), .long x1] I J (fun I' J' => Post J' ∧ I' = I) :=
  kf_entv hg (by decide) (Nat.le_of_ble_eq_true rfl) rfl (fun x hx hr => we_J7_fill_d0a16 g hg hx c0 n0 x1 hc0 I J Post (fun pc lv J' hd hP => hr pc lv I J' hd ⟨hP, rfl⟩) h)
theorem dX8_makeNew_0 : decode cX8_makeNew 0 = .ok (.aload_n 0, 1) := by decide +kernel
theorem dX8_makeNew_1 : decode cX8_makeNew 1 = .ok (.iload_n 1, 1) := by decide +kernel
theorem dX8_makeNew_2 : decode cX8_makeNew 2 = .ok (.putfield 19, 3) := by decide +kernel
theorem dX8_makeNew_5 : decode cX8_makeNew 5 = .ok (.aload_n 0, 1) := by decide +kernel
theorem dX8_makeNew_6 : decode cX8_makeNew 6 = .ok (.iload_n 2, 1) := by decide +kernel
theorem dX8_makeNew_7 : decode cX8_makeNew 7 = .ok (.putfield 15, 3) := by decide +kernel
theorem dX8_makeNew_10 : decode cX8_makeNew 10 = .ok (.aload_n 0, 1) := by decide +kernel
theorem dX8_makeNew_11 : decode cX8_makeNew 11 = .ok (.getfield 11, 3) := by decide +kernel
theorem dX8_makeNew_14 : decode cX8_makeNew 14 = .ok (.lconst 0, 1) := by decide +kernel
theorem dX8_makeNew_15 : decode cX8_makeNew 15 = .ok (.invokestatic 22, 3) := by decide +kernel
theorem dX8_makeNew_18 : decode cX8_makeNew 18 = .ok (.return_, 1) := by decide +kernel
def w_X8_makeNew (c0 : Nat) (x1 : Int32) (x2 : Int32) (I : HI) (J : HJ) (Post : HI → HJ → Prop) : Prop :=
  ∀ I_1 : HI, I_1 = hI I c0 1 x1 → (∀ I_2 : HI, I_2 = hI I_1 c0 2 x2 → (w_J7_fill_d0a16 (c0 + 1) 40 0 I_2 J (fun (J_3 : HJ) => (Post I_2 J_3))))
set_option maxHeartbeats 4000000 in
set_option maxRecDepth 20000 in
theorem we_X8_makeNew (g : kf_G) (hg : kf_g g) {x : kf_X} (hx : kf_ok g x RX8 cX8_makeNew 3 1 24) (c0 : Nat) (x1 : Int32) (x2 : Int32) (hc0 : kf_tr c0) (I : HI) (J : HJ) (Post : HI → HJ → Prop) (hret : ∀ (pc : Nat) (lv : List (Nat × Value)) (Iy : HI) (Jy : HJ), decode cX8_makeNew pc = .ok (.return_, 1) → Post Iy Jy → kf_M g x 3 pc lv [] Iy Jy) (h : w_X8_makeNew c0 x1 x2 I J Post) : kf_M g x 3 0 [(0, .ref (g.2.2.2 c0)), (1, .int x1), (2, .int x2)] [] I J := by
  unfold w_X8_makeNew at h
  refine kf_aload_n hx dX8_makeNew_0 rfl 0 rfl ?_
  refine kf_iload_n hx dX8_makeNew_1 rfl 1 rfl ?_
  refine kf_putI hx (st_1 hc0) fl_RX8_19 fp_8_1 dX8_makeNew_2 ?_
  refine kf_nmI (fun I_1 eI_1 => ?_)
  replace h := h I_1 eI_1
  refine kf_aload_n hx dX8_makeNew_5 rfl 0 rfl ?_
  refine kf_iload_n hx dX8_makeNew_6 rfl 2 rfl ?_
  refine kf_putI hx (st_2 hc0) fl_RX8_15 fp_8_2 dX8_makeNew_7 ?_
  refine kf_nmI (fun I_2 eI_2 => ?_)
  replace h := h I_2 eI_2
  refine kf_aload_n hx dX8_makeNew_10 rfl 0 rfl ?_
  refine kf_getR (n := (c0 + 1)) hx (st_0 hc0) fl_RX8_11 dX8_makeNew_11 ?_
  refine kf_lconst (v := 0) hx dX8_makeNew_14 (by decide) ?_
  refine kf_callSvJ (st := []) hx (m_J7_fill_d0a16 g hg (c0 + 1) 40 0 (st_r hc0) I_2 J _ h) lk_RX8_22 km_J7_fill_d0a16 rfl (by decide) rfl (Nat.le_of_ble_eq_true rfl) dX8_makeNew_15 (fun J_3 h => ?_)
  exact hret _ _ _ _ dX8_makeNew_18 h
set_option maxHeartbeats 4000000 in
set_option maxRecDepth 20000 in
theorem m_X8_makeNew (g : kf_G) (hg : kf_g g) (c0 : Nat) (x1 : Int32) (x2 : Int32) (hc0 : kf_tr c0) (I : HI) (J : HJ) (Post : HI → HJ → Prop) (h : w_X8_makeNew c0 x1 x2 I J Post) : kf_Mv g yX8_makeNew (kf_W yX8_makeNew cX8_makeNew 3 (Option.none : Option Jvm.ClassFile.FieldType)) 1 24 [.ref (g.2.2.2 c0), .int x1, .int x2] I J Post :=
  kf_entv hg (by decide) (Nat.le_of_ble_eq_true rfl) rfl (fun x hx hr => we_X8_makeNew g hg hx c0 x1 x2 hc0 I J Post (fun pc lv I' J' hd hP => hr pc lv I' J' hd hP) h)
theorem dX8_put_0 : decode cX8_put 0 = .ok (.aload_n 0, 1) := by decide +kernel
theorem dX8_put_1 : decode cX8_put 1 = .ok (.getfield 19, 3) := by decide +kernel
theorem dX8_put_4 : decode cX8_put 4 = .ok (.tableswitch 66 0 2 #[28, 41, 54], 28) := by decide +kernel
theorem dX8_put_32 : decode cX8_put 32 = .ok (.aload_n 0, 1) := by decide +kernel
theorem dX8_put_33 : decode cX8_put 33 = .ok (.getfield 11, 3) := by decide +kernel
theorem dX8_put_36 : decode cX8_put 36 = .ok (.iload_n 1, 1) := by decide +kernel
theorem dX8_put_37 : decode cX8_put 37 = .ok (.lload_n 2, 1) := by decide +kernel
theorem dX8_put_38 : decode cX8_put 38 = .ok (.l2i, 1) := by decide +kernel
theorem dX8_put_39 : decode cX8_put 39 = .ok (.i2b, 1) := by decide +kernel
theorem dX8_put_40 : decode cX8_put 40 = .ok (.i2l, 1) := by decide +kernel
theorem dX8_put_41 : decode cX8_put 41 = .ok (.lastore, 1) := by decide +kernel
theorem dX8_put_42 : decode cX8_put 42 = .ok (.goto 35, 3) := by decide +kernel
theorem dX8_put_45 : decode cX8_put 45 = .ok (.aload_n 0, 1) := by decide +kernel
theorem dX8_put_46 : decode cX8_put 46 = .ok (.getfield 11, 3) := by decide +kernel
theorem dX8_put_49 : decode cX8_put 49 = .ok (.iload_n 1, 1) := by decide +kernel
theorem dX8_put_50 : decode cX8_put 50 = .ok (.lload_n 2, 1) := by decide +kernel
theorem dX8_put_51 : decode cX8_put 51 = .ok (.l2i, 1) := by decide +kernel
theorem dX8_put_52 : decode cX8_put 52 = .ok (.i2s, 1) := by decide +kernel
theorem dX8_put_53 : decode cX8_put 53 = .ok (.i2l, 1) := by decide +kernel
theorem dX8_put_54 : decode cX8_put 54 = .ok (.lastore, 1) := by decide +kernel
theorem dX8_put_55 : decode cX8_put 55 = .ok (.goto 22, 3) := by decide +kernel
theorem dX8_put_58 : decode cX8_put 58 = .ok (.aload_n 0, 1) := by decide +kernel
theorem dX8_put_59 : decode cX8_put 59 = .ok (.getfield 11, 3) := by decide +kernel
theorem dX8_put_62 : decode cX8_put 62 = .ok (.iload_n 1, 1) := by decide +kernel
theorem dX8_put_63 : decode cX8_put 63 = .ok (.lload_n 2, 1) := by decide +kernel
theorem dX8_put_64 : decode cX8_put 64 = .ok (.l2i, 1) := by decide +kernel
theorem dX8_put_65 : decode cX8_put 65 = .ok (.i2l, 1) := by decide +kernel
theorem dX8_put_66 : decode cX8_put 66 = .ok (.lastore, 1) := by decide +kernel
theorem dX8_put_67 : decode cX8_put 67 = .ok (.goto 10, 3) := by decide +kernel
theorem dX8_put_70 : decode cX8_put 70 = .ok (.aload_n 0, 1) := by decide +kernel
theorem dX8_put_71 : decode cX8_put 71 = .ok (.getfield 11, 3) := by decide +kernel
theorem dX8_put_74 : decode cX8_put 74 = .ok (.iload_n 1, 1) := by decide +kernel
theorem dX8_put_75 : decode cX8_put 75 = .ok (.lload_n 2, 1) := by decide +kernel
theorem dX8_put_76 : decode cX8_put 76 = .ok (.lastore, 1) := by decide +kernel
theorem dX8_put_77 : decode cX8_put 77 = .ok (.return_, 1) := by decide +kernel
def w_X8_put (c0 : Nat) (x1 : Int32) (x2 : Int64) (I : HI) (J : HJ) (Post : HJ → Prop) : Prop :=
  ((I c0 1) = 0 → (vp_in x1 40 ∧ (∀ J_1 : HJ, J_1 = hJ J (c0 + 1) (Int32.toNatClampNeg x1) (Int32.toInt64 (Int8.toInt32 (Int32.toInt8 (Int64.toInt32 x2)))) → (Post J_1)))) ∧ ((I c0 1) = 1 → (vp_in x1 40 ∧ (∀ J_2 : HJ, J_2 = hJ J (c0 + 1) (Int32.toNatClampNeg x1) (Int32.toInt64 (Int16.toInt32 (Int32.toInt16 (Int64.toInt32 x2)))) → (Post J_2)))) ∧ ((I c0 1) = 2 → (vp_in x1 40 ∧ (∀ J_3 : HJ, J_3 = hJ J (c0 + 1) (Int32.toNatClampNeg x1) (Int32.toInt64 (Int64.toInt32 x2)) → (Post J_3)))) ∧ (¬ (I c0 1) = 0 → ¬ (I c0 1) = 1 → ¬ (I c0 1) = 2 → (vp_in x1 40 ∧ (∀ J_4 : HJ, J_4 = hJ J (c0 + 1) (Int32.toNatClampNeg x1) x2 → (Post J_4))))
set_option maxHeartbeats 4000000 in
set_option maxRecDepth 20000 in
theorem we_X8_put (g : kf_G) (hg : kf_g g) {x : kf_X} (hx : kf_ok g x RX8 cX8_put 4 0 0) (c0 : Nat) (x1 : Int32) (x2 : Int64) (hc0 : kf_tr c0) (I : HI) (J : HJ) (Post : HJ → Prop) (hret : ∀ (pc : Nat) (lv : List (Nat × Value)) (Jy : HJ), decode cX8_put pc = .ok (.return_, 1) → Post Jy → kf_M g x 4 pc lv [] I Jy) (h : w_X8_put c0 x1 x2 I J Post) : kf_M g x 4 0 [(0, .ref (g.2.2.2 c0)), (1, .int x1), (2, .long x2)] [] I J := by
  unfold w_X8_put at h
  refine kf_aload_n hx dX8_put_0 rfl 0 rfl ?_
  refine kf_getI hx (st_1 hc0) fl_RX8_19 dX8_put_1 ?_
  by_cases e0 : (I c0 1) = 0
  · refine kf_tabIn (off := 28) hx 32 dX8_put_4 (by rw [e0]; decide) (by rw [e0]; decide) (by rw [e0]; rfl) (by decide) ?_
    replace h := h.1 e0
    refine kf_aload_n hx dX8_put_32 rfl 0 rfl ?_
    refine kf_getR (n := (c0 + 1)) hx (st_0 hc0) fl_RX8_11 dX8_put_33 ?_
    refine kf_iload_n hx dX8_put_36 rfl 1 rfl ?_
    refine kf_lload_n hx dX8_put_37 rfl 2 rfl ?_
    refine kf_l2i hx dX8_put_38 ?_
    refine kf_i2b hx dX8_put_39 ?_
    refine kf_i2l hx dX8_put_40 ?_
    refine kf_last hx (st_r hc0) h.1 dX8_put_41 ?_
    replace h := h.2
    refine kf_nmJ (fun J_1 eJ_1 => ?_)
    replace h := h J_1 eJ_1
    refine kf_goto hx 77 dX8_put_42 (by decide) ?_
    exact hret _ _ _ dX8_put_77 h
  by_cases e1 : (I c0 1) = 1
  · refine kf_tabIn (off := 41) hx 45 dX8_put_4 (by rw [e1]; decide) (by rw [e1]; decide) (by rw [e1]; rfl) (by decide) ?_
    replace h := h.2.1 e1
    refine kf_aload_n hx dX8_put_45 rfl 0 rfl ?_
    refine kf_getR (n := (c0 + 1)) hx (st_0 hc0) fl_RX8_11 dX8_put_46 ?_
    refine kf_iload_n hx dX8_put_49 rfl 1 rfl ?_
    refine kf_lload_n hx dX8_put_50 rfl 2 rfl ?_
    refine kf_l2i hx dX8_put_51 ?_
    refine kf_i2s hx dX8_put_52 ?_
    refine kf_i2l hx dX8_put_53 ?_
    refine kf_last hx (st_r hc0) h.1 dX8_put_54 ?_
    replace h := h.2
    refine kf_nmJ (fun J_2 eJ_2 => ?_)
    replace h := h J_2 eJ_2
    refine kf_goto hx 77 dX8_put_55 (by decide) ?_
    exact hret _ _ _ dX8_put_77 h
  by_cases e2 : (I c0 1) = 2
  · refine kf_tabIn (off := 54) hx 58 dX8_put_4 (by rw [e2]; decide) (by rw [e2]; decide) (by rw [e2]; rfl) (by decide) ?_
    replace h := h.2.2.1 e2
    refine kf_aload_n hx dX8_put_58 rfl 0 rfl ?_
    refine kf_getR (n := (c0 + 1)) hx (st_0 hc0) fl_RX8_11 dX8_put_59 ?_
    refine kf_iload_n hx dX8_put_62 rfl 1 rfl ?_
    refine kf_lload_n hx dX8_put_63 rfl 2 rfl ?_
    refine kf_l2i hx dX8_put_64 ?_
    refine kf_i2l hx dX8_put_65 ?_
    refine kf_last hx (st_r hc0) h.1 dX8_put_66 ?_
    replace h := h.2
    refine kf_nmJ (fun J_3 eJ_3 => ?_)
    replace h := h J_3 eJ_3
    refine kf_goto hx 77 dX8_put_67 (by decide) ?_
    exact hret _ _ _ dX8_put_77 h
  refine kf_tabOut hx 70 dX8_put_4 (tw_out (fun v h1 h2 => ?_)) (by decide) ?_
  · rcases (show v = 0 ∨ v = 1 ∨ v = 2 by omega) with rfl | rfl | rfl
    · exact tw_ne e0 (by decide)
    · exact tw_ne e1 (by decide)
    · exact tw_ne e2 (by decide)
  · replace h := h.2.2.2 e0 e1 e2
    refine kf_aload_n hx dX8_put_70 rfl 0 rfl ?_
    refine kf_getR (n := (c0 + 1)) hx (st_0 hc0) fl_RX8_11 dX8_put_71 ?_
    refine kf_iload_n hx dX8_put_74 rfl 1 rfl ?_
    refine kf_lload_n hx dX8_put_75 rfl 2 rfl ?_
    refine kf_last hx (st_r hc0) h.1 dX8_put_76 ?_
    replace h := h.2
    refine kf_nmJ (fun J_4 eJ_4 => ?_)
    replace h := h J_4 eJ_4
    exact hret _ _ _ dX8_put_77 h
set_option maxHeartbeats 4000000 in
set_option maxRecDepth 20000 in
theorem m_X8_put (g : kf_G) (hg : kf_g g) (c0 : Nat) (x1 : Int32) (x2 : Int64) (hc0 : kf_tr c0) (I : HI) (J : HJ) (Post : HJ → Prop) (h : w_X8_put c0 x1 x2 I J Post) : kf_Mv g yX8_put (kf_W yX8_put cX8_put 4 (Option.none : Option Jvm.ClassFile.FieldType)) 0 0 [.ref (g.2.2.2 c0), .int x1, .long x2] I J (fun I' J' => Post J' ∧ I' = I) :=
  kf_entv hg (by decide) (Nat.le_of_ble_eq_true rfl) rfl (fun x hx hr => we_X8_put g hg hx c0 x1 x2 hc0 I J Post (fun pc lv J' hd hP => hr pc lv I J' hd ⟨hP, rfl⟩) h)
theorem dX8_hasStretch_0 : decode cX8_hasStretch 0 = .ok (.iload_n 1, 1) := by decide +kernel
theorem dX8_hasStretch_1 : decode cX8_hasStretch 1 = .ok (.ifCond .lt 25, 3) := by decide +kernel
theorem dX8_hasStretch_4 : decode cX8_hasStretch 4 = .ok (.iload_n 2, 1) := by decide +kernel
theorem dX8_hasStretch_5 : decode cX8_hasStretch 5 = .ok (.aload_n 0, 1) := by decide +kernel
theorem dX8_hasStretch_6 : decode cX8_hasStretch 6 = .ok (.getfield 15, 3) := by decide +kernel
theorem dX8_hasStretch_9 : decode cX8_hasStretch 9 = .ok (.if_icmp .gt 17, 3) := by decide +kernel
theorem dX8_hasStretch_12 : decode cX8_hasStretch 12 = .ok (.iload_n 1, 1) := by decide +kernel
theorem dX8_hasStretch_13 : decode cX8_hasStretch 13 = .ok (.aload_n 0, 1) := by decide +kernel
theorem dX8_hasStretch_14 : decode cX8_hasStretch 14 = .ok (.getfield 15, 3) := by decide +kernel
theorem dX8_hasStretch_17 : decode cX8_hasStretch 17 = .ok (.iload_n 2, 1) := by decide +kernel
theorem dX8_hasStretch_18 : decode cX8_hasStretch 18 = .ok (.isub, 1) := by decide +kernel
theorem dX8_hasStretch_19 : decode cX8_hasStretch 19 = .ok (.if_icmp .gt 7, 3) := by decide +kernel
theorem dX8_hasStretch_22 : decode cX8_hasStretch 22 = .ok (.iconst 1, 1) := by decide +kernel
theorem dX8_hasStretch_23 : decode cX8_hasStretch 23 = .ok (.goto 4, 3) := by decide +kernel
theorem dX8_hasStretch_26 : decode cX8_hasStretch 26 = .ok (.iconst 0, 1) := by decide +kernel
theorem dX8_hasStretch_27 : decode cX8_hasStretch 27 = .ok (.ireturn, 1) := by decide +kernel
def w_X8_hasStretch (c0 : Nat) (x1 : Int32) (x2 : Int32) (I : HI) (J : HJ) (Post : Bool → Prop) : Prop :=
  (x1 < 0 → (Post false)) ∧ (¬ x1 < 0 → (((I c0 2) < x2 → (Post false)) ∧ (¬ (I c0 2) < x2 → ((((I c0 2) - x2) < x1 → (Post false)) ∧ (¬ ((I c0 2) - x2) < x1 → (Post true))))))
set_option maxHeartbeats 4000000 in
set_option maxRecDepth 20000 in
theorem we_X8_hasStretch (g : kf_G) (hg : kf_g g) {x : kf_X} (hx : kf_ok g x RX8 cX8_hasStretch 3 0 0) (c0 : Nat) (x1 : Int32) (x2 : Int32) (hc0 : kf_tr c0) (I : HI) (J : HJ) (Post : Bool → Prop) (hret : ∀ (pc : Nat) (lv : List (Nat × Value)) (v : Bool), decode cX8_hasStretch pc = .ok (.ireturn, 1) → Post v → kf_M g x 3 pc lv [.int (kb v)] I J) (h : w_X8_hasStretch c0 x1 x2 I J Post) : kf_M g x 3 0 [(0, .ref (g.2.2.2 c0)), (1, .int x1), (2, .int x2)] [] I J := by
  unfold w_X8_hasStretch at h
  refine kf_iload_n hx dX8_hasStretch_0 rfl 1 rfl ?_
  refine kf_if_lt hx 26 dX8_hasStretch_1 (by decide) (fun c => ?_) (fun c => ?_)
  · replace h := h.1 c
    refine kf_iconst (v := 0) hx dX8_hasStretch_26 (by decide) ?_
    exact hret _ _ false  dX8_hasStretch_27 h
  · replace h := h.2 c
    refine kf_iload_n hx dX8_hasStretch_4 rfl 2 rfl ?_
    refine kf_aload_n hx dX8_hasStretch_5 rfl 0 rfl ?_
    refine kf_getI hx (st_2 hc0) fl_RX8_15 dX8_hasStretch_6 ?_
    refine kf_icmp_gt hx 26 dX8_hasStretch_9 (by decide) (fun c => ?_) (fun c => ?_)
    · replace h := h.1 c
      refine kf_iconst (v := 0) hx dX8_hasStretch_26 (by decide) ?_
      exact hret _ _ false  dX8_hasStretch_27 h
    · replace h := h.2 c
      refine kf_iload_n hx dX8_hasStretch_12 rfl 1 rfl ?_
      refine kf_aload_n hx dX8_hasStretch_13 rfl 0 rfl ?_
      refine kf_getI hx (st_2 hc0) fl_RX8_15 dX8_hasStretch_14 ?_
      refine kf_iload_n hx dX8_hasStretch_17 rfl 2 rfl ?_
      refine kf_isub hx dX8_hasStretch_18 ?_
      refine kf_icmp_gt hx 26 dX8_hasStretch_19 (by decide) (fun c => ?_) (fun c => ?_)
      · replace h := h.1 c
        refine kf_iconst (v := 0) hx dX8_hasStretch_26 (by decide) ?_
        exact hret _ _ false  dX8_hasStretch_27 h
      · replace h := h.2 c
        refine kf_iconst (v := 1) hx dX8_hasStretch_22 (by decide) ?_
        refine kf_goto hx 27 dX8_hasStretch_23 (by decide) ?_
        exact hret _ _ true  dX8_hasStretch_27 h
set_option maxHeartbeats 4000000 in
set_option maxRecDepth 20000 in
theorem m_X8_hasStretch (g : kf_G) (hg : kf_g g) (c0 : Nat) (x1 : Int32) (x2 : Int32) (hc0 : kf_tr c0) (I : HI) (J : HJ) (Post : Bool → Prop) (h : w_X8_hasStretch c0 x1 x2 I J Post) : kf_Mb g yX8_hasStretch (kf_W yX8_hasStretch cX8_hasStretch 3 (Option.some Jvm.ClassFile.FieldType.boolean)) 0 0 [.ref (g.2.2.2 c0), .int x1, .int x2] I J (fun v I' J' => Post v ∧ I' = I ∧ J' = J) :=
  kf_entb hg (by decide) (Nat.le_of_ble_eq_true rfl) rfl (fun x hx hr => we_X8_hasStretch g hg hx c0 x1 x2 hc0 I J Post (fun pc lv v hd hP => hr pc lv v I J hd ⟨hP, rfl, rfl⟩) h)
