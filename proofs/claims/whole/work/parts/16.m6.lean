theorem dX11_fault_0 : decode cX11_fault 0 = .ok (.aload_n 0, 1) := by decide +kernel
theorem dX11_fault_1 : decode cX11_fault 1 = .ok (.iconst 0, 1) := by decide +kernel
theorem dX11_fault_2 : decode cX11_fault 2 = .ok (.putfield 106, 3) := by decide +kernel
theorem dX11_fault_5 : decode cX11_fault 5 = .ok (.iload_n 1, 1) := by decide +kernel
theorem dX11_fault_6 : decode cX11_fault 6 = .ok (.ifCond .ne 10, 3) := by decide +kernel
theorem dX11_fault_9 : decode cX11_fault 9 = .ok (.aload_n 0, 1) := by decide +kernel
theorem dX11_fault_10 : decode cX11_fault 10 = .ok (.getfield 28, 3) := by decide +kernel
theorem dX11_fault_13 : decode cX11_fault 13 = .ok (.goto 16, 3) := by decide +kernel
theorem dX11_fault_16 : decode cX11_fault 16 = .ok (.iload_n 1, 1) := by decide +kernel
theorem dX11_fault_17 : decode cX11_fault 17 = .ok (.iconst 1, 1) := by decide +kernel
theorem dX11_fault_18 : decode cX11_fault 18 = .ok (.if_icmp .ne 10, 3) := by decide +kernel
theorem dX11_fault_21 : decode cX11_fault 21 = .ok (.aload_n 0, 1) := by decide +kernel
theorem dX11_fault_22 : decode cX11_fault 22 = .ok (.getfield 32, 3) := by decide +kernel
theorem dX11_fault_25 : decode cX11_fault 25 = .ok (.goto 4, 3) := by decide +kernel
theorem dX11_fault_28 : decode cX11_fault 28 = .ok (.iconst (-1), 1) := by decide +kernel
theorem dX11_fault_29 : decode cX11_fault 29 = .ok (.ireturn, 1) := by decide +kernel
def w_X11_fault (x1 : Int32) (I : HI) (J : HJ) (Post : Int32 → HI → Prop) : Prop :=
  ∀ I_1 : HI, I_1 = hI I 72 1 0 → ((¬ x1 = 0 → ((¬ x1 = 1 → (Post (-1) I_1)) ∧ (x1 = 1 → (Post (I_1 72 11) I_1)))) ∧ (x1 = 0 → (Post (I_1 72 10) I_1)))
set_option maxHeartbeats 4000000 in
set_option maxRecDepth 20000 in
theorem we_X11_fault (g : kf_G) (hg : kf_g g) {x : kf_X} (hx : kf_ok g x RX11 cX11_fault 2 0 0) (x1 : Int32) (I : HI) (J : HJ) (Post : Int32 → HI → Prop) (hret : ∀ (pc : Nat) (lv : List (Nat × Value)) (v : Int32) (Iy : HI), decode cX11_fault pc = .ok (.ireturn, 1) → Post v Iy → kf_M g x 2 pc lv [.int v] Iy J) (h : w_X11_fault x1 I J Post) : kf_M g x 2 0 [(0, .ref (g.2.2.2 72)), (1, .int x1)] [] I J := by
  unfold w_X11_fault at h
  refine kf_aload_n hx dX11_fault_0 rfl 0 rfl ?_
  refine kf_iconst (v := 0) hx dX11_fault_1 (by decide) ?_
  refine kf_putI hx sl_72_1 fl_RX11_106 fp_11_1 dX11_fault_2 ?_
  refine kf_nmI (fun I_1 eI_1 => ?_)
  replace h := h I_1 eI_1
  refine kf_iload_n hx dX11_fault_5 rfl 1 rfl ?_
  refine kf_if_ne hx 16 dX11_fault_6 (by decide) (fun c => ?_) (fun c => ?_)
  · replace h := h.1 c
    refine kf_iload_n hx dX11_fault_16 rfl 1 rfl ?_
    refine kf_iconst (v := 1) hx dX11_fault_17 (by decide) ?_
    refine kf_icmp_ne hx 28 dX11_fault_18 (by decide) (fun c => ?_) (fun c => ?_)
    · replace h := h.1 c
      refine kf_iconst (v := (-1)) hx dX11_fault_28 (by decide) ?_
      exact hret _ _ (-1) _ dX11_fault_29 h
    · replace h := h.2 c
      refine kf_aload_n hx dX11_fault_21 rfl 0 rfl ?_
      refine kf_getI hx sl_72_11 fl_RX11_32 dX11_fault_22 ?_
      refine kf_goto hx 29 dX11_fault_25 (by decide) ?_
      exact hret _ _ (I_1 72 11) _ dX11_fault_29 h
  · replace h := h.2 c
    refine kf_aload_n hx dX11_fault_9 rfl 0 rfl ?_
    refine kf_getI hx sl_72_10 fl_RX11_28 dX11_fault_10 ?_
    refine kf_goto hx 29 dX11_fault_13 (by decide) ?_
    exact hret _ _ (I_1 72 10) _ dX11_fault_29 h
set_option maxHeartbeats 4000000 in
set_option maxRecDepth 20000 in
theorem m_X11_fault (g : kf_G) (hg : kf_g g) (x1 : Int32) (I : HI) (J : HJ) (Post : Int32 → HI → Prop) (h : w_X11_fault x1 I J Post) : kf_Mi g yX11_fault (kf_W yX11_fault cX11_fault 2 (Option.some Jvm.ClassFile.FieldType.int)) 0 0 [.ref (g.2.2.2 72), .int x1] I J (fun v I' J' => Post v I' ∧ J' = J) :=
  kf_enti hg (by decide) (Nat.le_of_ble_eq_true rfl) rfl (fun x hx hr => we_X11_fault g hg hx x1 I J Post (fun pc lv v I' hd hP => hr pc lv v I' J hd ⟨hP, rfl⟩) h)
theorem dX11_isOne_0 : decode cX11_isOne 0 = .ok (.iload_n 1, 1) := by decide +kernel
theorem dX11_isOne_1 : decode cX11_isOne 1 = .ok (.i2l, 1) := by decide +kernel
theorem dX11_isOne_2 : decode cX11_isOne 2 = .ok (.lconst 0, 1) := by decide +kernel
theorem dX11_isOne_3 : decode cX11_isOne 3 = .ok (.aload_n 0, 1) := by decide +kernel
theorem dX11_isOne_4 : decode cX11_isOne 4 = .ok (.getfield 287, 3) := by decide +kernel
theorem dX11_isOne_7 : decode cX11_isOne 7 = .ok (.iconst 1, 1) := by decide +kernel
theorem dX11_isOne_8 : decode cX11_isOne 8 = .ok (.isub, 1) := by decide +kernel
theorem dX11_isOne_9 : decode cX11_isOne 9 = .ok (.i2l, 1) := by decide +kernel
theorem dX11_isOne_10 : decode cX11_isOne 10 = .ok (.invokestatic 228, 3) := by decide +kernel
theorem dX11_isOne_13 : decode cX11_isOne 13 = .ok (.ireturn, 1) := by decide +kernel
def w_X11_isOne (x1 : Int32) (I : HI) (J : HJ) (Post : Bool → Prop) : Prop :=
  w_X11_isIn (Int32.toInt64 x1) 0 (Int32.toInt64 ((I 72 20) - 1)) (fun (r_1 : Bool) => (Post r_1))
set_option maxHeartbeats 4000000 in
set_option maxRecDepth 20000 in
theorem we_X11_isOne (g : kf_G) (hg : kf_g g) {x : kf_X} (hx : kf_ok g x RX11 cX11_isOne 2 1 25) (x1 : Int32) (I : HI) (J : HJ) (Post : Bool → Prop) (hret : ∀ (pc : Nat) (lv : List (Nat × Value)) (v : Bool), decode cX11_isOne pc = .ok (.ireturn, 1) → Post v → kf_M g x 2 pc lv [.int (kb v)] I J) (h : w_X11_isOne x1 I J Post) : kf_M g x 2 0 [(0, .ref (g.2.2.2 72)), (1, .int x1)] [] I J := by
  unfold w_X11_isOne at h
  refine kf_iload_n hx dX11_isOne_0 rfl 1 rfl ?_
  refine kf_i2l hx dX11_isOne_1 ?_
  refine kf_lconst (v := 0) hx dX11_isOne_2 (by decide) ?_
  refine kf_aload_n hx dX11_isOne_3 rfl 0 rfl ?_
  refine kf_getI hx sl_72_20 fl_RX11_287 dX11_isOne_4 ?_
  refine kf_iconst (v := 1) hx dX11_isOne_7 (by decide) ?_
  refine kf_isub hx dX11_isOne_8 ?_
  refine kf_i2l hx dX11_isOne_9 ?_
  refine kf_callSbP (st := []) hx (m_X11_isIn g hg (Int32.toInt64 x1) 0 (Int32.toInt64 ((I 72 20) - 1)) I J _ h) lk_RX11_228 km_X11_isIn rfl (by decide) rfl (Nat.le_of_ble_eq_true rfl) dX11_isOne_10 (fun r_1 h => ?_)
  exact hret _ _ r_1  dX11_isOne_13 h
set_option maxHeartbeats 4000000 in
set_option maxRecDepth 20000 in
theorem m_X11_isOne (g : kf_G) (hg : kf_g g) (x1 : Int32) (I : HI) (J : HJ) (Post : Bool → Prop) (h : w_X11_isOne x1 I J Post) : kf_Mb g yX11_isOne (kf_W yX11_isOne cX11_isOne 2 (Option.some Jvm.ClassFile.FieldType.boolean)) 1 25 [.ref (g.2.2.2 72), .int x1] I J (fun v I' J' => Post v ∧ I' = I ∧ J' = J) :=
  kf_entb hg (by decide) (Nat.le_of_ble_eq_true rfl) rfl (fun x hx hr => we_X11_isOne g hg hx x1 I J Post (fun pc lv v hd hP => hr pc lv v I J hd ⟨hP, rfl, rfl⟩) h)
theorem dX11_areSeeds_0 : decode cX11_areSeeds 0 = .ok (.iload_n 1, 1) := by decide +kernel
theorem dX11_areSeeds_1 : decode cX11_areSeeds 1 = .ok (.i2l, 1) := by decide +kernel
theorem dX11_areSeeds_2 : decode cX11_areSeeds 2 = .ok (.lconst 0, 1) := by decide +kernel
theorem dX11_areSeeds_3 : decode cX11_areSeeds 3 = .ok (.iconst 1, 1) := by decide +kernel
theorem dX11_areSeeds_4 : decode cX11_areSeeds 4 = .ok (.aload_n 0, 1) := by decide +kernel
theorem dX11_areSeeds_5 : decode cX11_areSeeds 5 = .ok (.getfield 287, 3) := by decide +kernel
theorem dX11_areSeeds_8 : decode cX11_areSeeds 8 = .ok (.ishl, 1) := by decide +kernel
theorem dX11_areSeeds_9 : decode cX11_areSeeds 9 = .ok (.iconst 1, 1) := by decide +kernel
theorem dX11_areSeeds_10 : decode cX11_areSeeds 10 = .ok (.isub, 1) := by decide +kernel
theorem dX11_areSeeds_11 : decode cX11_areSeeds 11 = .ok (.i2l, 1) := by decide +kernel
theorem dX11_areSeeds_12 : decode cX11_areSeeds 12 = .ok (.invokestatic 228, 3) := by decide +kernel
theorem dX11_areSeeds_15 : decode cX11_areSeeds 15 = .ok (.ireturn, 1) := by decide +kernel
def w_X11_areSeeds (x1 : Int32) (I : HI) (J : HJ) (Post : Bool → Prop) : Prop :=
  w_X11_isIn (Int32.toInt64 x1) 0 (Int32.toInt64 ((1 <<< ((I 72 20) &&& 31)) - 1)) (fun (r_1 : Bool) => (Post r_1))
set_option maxHeartbeats 4000000 in
set_option maxRecDepth 20000 in
theorem we_X11_areSeeds (g : kf_G) (hg : kf_g g) {x : kf_X} (hx : kf_ok g x RX11 cX11_areSeeds 2 1 25) (x1 : Int32) (I : HI) (J : HJ) (Post : Bool → Prop) (hret : ∀ (pc : Nat) (lv : List (Nat × Value)) (v : Bool), decode cX11_areSeeds pc = .ok (.ireturn, 1) → Post v → kf_M g x 2 pc lv [.int (kb v)] I J) (h : w_X11_areSeeds x1 I J Post) : kf_M g x 2 0 [(0, .ref (g.2.2.2 72)), (1, .int x1)] [] I J := by
  unfold w_X11_areSeeds at h
  refine kf_iload_n hx dX11_areSeeds_0 rfl 1 rfl ?_
  refine kf_i2l hx dX11_areSeeds_1 ?_
  refine kf_lconst (v := 0) hx dX11_areSeeds_2 (by decide) ?_
  refine kf_iconst (v := 1) hx dX11_areSeeds_3 (by decide) ?_
  refine kf_aload_n hx dX11_areSeeds_4 rfl 0 rfl ?_
  refine kf_getI hx sl_72_20 fl_RX11_287 dX11_areSeeds_5 ?_
  refine kf_ishl hx dX11_areSeeds_8 ?_
  refine kf_iconst (v := 1) hx dX11_areSeeds_9 (by decide) ?_
  refine kf_isub hx dX11_areSeeds_10 ?_
  refine kf_i2l hx dX11_areSeeds_11 ?_
  refine kf_callSbP (st := []) hx (m_X11_isIn g hg (Int32.toInt64 x1) 0 (Int32.toInt64 ((1 <<< ((I 72 20) &&& 31)) - 1)) I J _ h) lk_RX11_228 km_X11_isIn rfl (by decide) rfl (Nat.le_of_ble_eq_true rfl) dX11_areSeeds_12 (fun r_1 h => ?_)
  exact hret _ _ r_1  dX11_areSeeds_15 h
set_option maxHeartbeats 4000000 in
set_option maxRecDepth 20000 in
theorem m_X11_areSeeds (g : kf_G) (hg : kf_g g) (x1 : Int32) (I : HI) (J : HJ) (Post : Bool → Prop) (h : w_X11_areSeeds x1 I J Post) : kf_Mb g yX11_areSeeds (kf_W yX11_areSeeds cX11_areSeeds 2 (Option.some Jvm.ClassFile.FieldType.boolean)) 1 25 [.ref (g.2.2.2 72), .int x1] I J (fun v I' J' => Post v ∧ I' = I ∧ J' = J) :=
  kf_entb hg (by decide) (Nat.le_of_ble_eq_true rfl) rfl (fun x hx hr => we_X11_areSeeds g hg hx x1 I J Post (fun pc lv v hd hP => hr pc lv v I J hd ⟨hP, rfl, rfl⟩) h)
theorem dX11_isLot_0 : decode cX11_isLot 0 = .ok (.iload_n 1, 1) := by decide +kernel
theorem dX11_isLot_1 : decode cX11_isLot 1 = .ok (.i2l, 1) := by decide +kernel
theorem dX11_isLot_2 : decode cX11_isLot 2 = .ok (.lconst 0, 1) := by decide +kernel
theorem dX11_isLot_3 : decode cX11_isLot 3 = .ok (.iconst 1, 1) := by decide +kernel
theorem dX11_isLot_4 : decode cX11_isLot 4 = .ok (.aload_n 0, 1) := by decide +kernel
theorem dX11_isLot_5 : decode cX11_isLot 5 = .ok (.getfield 290, 3) := by decide +kernel
theorem dX11_isLot_8 : decode cX11_isLot 8 = .ok (.ishl, 1) := by decide +kernel
theorem dX11_isLot_9 : decode cX11_isLot 9 = .ok (.iconst 1, 1) := by decide +kernel
theorem dX11_isLot_10 : decode cX11_isLot 10 = .ok (.isub, 1) := by decide +kernel
theorem dX11_isLot_11 : decode cX11_isLot 11 = .ok (.i2l, 1) := by decide +kernel
theorem dX11_isLot_12 : decode cX11_isLot 12 = .ok (.invokestatic 228, 3) := by decide +kernel
theorem dX11_isLot_15 : decode cX11_isLot 15 = .ok (.ireturn, 1) := by decide +kernel
def w_X11_isLot (x1 : Int32) (I : HI) (J : HJ) (Post : Bool → Prop) : Prop :=
  w_X11_isIn (Int32.toInt64 x1) 0 (Int32.toInt64 ((1 <<< ((I 72 21) &&& 31)) - 1)) (fun (r_1 : Bool) => (Post r_1))
set_option maxHeartbeats 4000000 in
set_option maxRecDepth 20000 in
theorem we_X11_isLot (g : kf_G) (hg : kf_g g) {x : kf_X} (hx : kf_ok g x RX11 cX11_isLot 2 1 25) (x1 : Int32) (I : HI) (J : HJ) (Post : Bool → Prop) (hret : ∀ (pc : Nat) (lv : List (Nat × Value)) (v : Bool), decode cX11_isLot pc = .ok (.ireturn, 1) → Post v → kf_M g x 2 pc lv [.int (kb v)] I J) (h : w_X11_isLot x1 I J Post) : kf_M g x 2 0 [(0, .ref (g.2.2.2 72)), (1, .int x1)] [] I J := by
  unfold w_X11_isLot at h
  refine kf_iload_n hx dX11_isLot_0 rfl 1 rfl ?_
  refine kf_i2l hx dX11_isLot_1 ?_
  refine kf_lconst (v := 0) hx dX11_isLot_2 (by decide) ?_
  refine kf_iconst (v := 1) hx dX11_isLot_3 (by decide) ?_
  refine kf_aload_n hx dX11_isLot_4 rfl 0 rfl ?_
  refine kf_getI hx sl_72_21 fl_RX11_290 dX11_isLot_5 ?_
  refine kf_ishl hx dX11_isLot_8 ?_
  refine kf_iconst (v := 1) hx dX11_isLot_9 (by decide) ?_
  refine kf_isub hx dX11_isLot_10 ?_
  refine kf_i2l hx dX11_isLot_11 ?_
  refine kf_callSbP (st := []) hx (m_X11_isIn g hg (Int32.toInt64 x1) 0 (Int32.toInt64 ((1 <<< ((I 72 21) &&& 31)) - 1)) I J _ h) lk_RX11_228 km_X11_isIn rfl (by decide) rfl (Nat.le_of_ble_eq_true rfl) dX11_isLot_12 (fun r_1 h => ?_)
  exact hret _ _ r_1  dX11_isLot_15 h
set_option maxHeartbeats 4000000 in
set_option maxRecDepth 20000 in
theorem m_X11_isLot (g : kf_G) (hg : kf_g g) (x1 : Int32) (I : HI) (J : HJ) (Post : Bool → Prop) (h : w_X11_isLot x1 I J Post) : kf_Mb g yX11_isLot (kf_W yX11_isLot cX11_isLot 2 (Option.some Jvm.ClassFile.FieldType.boolean)) 1 25 [.ref (g.2.2.2 72), .int x1] I J (fun v I' J' => Post v ∧ I' = I ∧ J' = J) :=
  kf_entb hg (by decide) (Nat.le_of_ble_eq_true rfl) rfl (fun x hx hr => we_X11_isLot g hg hx x1 I J Post (fun pc lv v hd hP => hr pc lv v I J hd ⟨hP, rfl, rfl⟩) h)
theorem dX11_valley_0 : decode cX11_valley 0 = .ok (.aload_n 0, 1) := by decide +kernel
theorem dX11_valley_1 : decode cX11_valley 1 = .ok (.getfield 35, 3) := by decide +kernel
theorem dX11_valley_4 : decode cX11_valley 4 = .ok (.iconst 5, 1) := by decide +kernel
theorem dX11_valley_5 : decode cX11_valley 5 = .ok (.iload_n 1, 1) := by decide +kernel
theorem dX11_valley_6 : decode cX11_valley 6 = .ok (.imul, 1) := by decide +kernel
theorem dX11_valley_7 : decode cX11_valley 7 = .ok (.iaload, 1) := by decide +kernel
theorem dX11_valley_8 : decode cX11_valley 8 = .ok (.ireturn, 1) := by decide +kernel
def w_X11_valley (x1 : Int32) (I : HI) (J : HJ) (Post : Int32 → Prop) : Prop :=
  vp_in (5 * x1) 60 ∧ (Post (I 77 (Int32.toNatClampNeg (5 * x1))))
set_option maxHeartbeats 4000000 in
set_option maxRecDepth 20000 in
theorem we_X11_valley (g : kf_G) (hg : kf_g g) {x : kf_X} (hx : kf_ok g x RX11 cX11_valley 2 0 0) (x1 : Int32) (I : HI) (J : HJ) (Post : Int32 → Prop) (hret : ∀ (pc : Nat) (lv : List (Nat × Value)) (v : Int32), decode cX11_valley pc = .ok (.ireturn, 1) → Post v → kf_M g x 2 pc lv [.int v] I J) (h : w_X11_valley x1 I J Post) : kf_M g x 2 0 [(0, .ref (g.2.2.2 72)), (1, .int x1)] [] I J := by
  unfold w_X11_valley at h
  refine kf_aload_n hx dX11_valley_0 rfl 0 rfl ?_
  refine kf_getR (n := 77) hx sl_72_24 fl_RX11_35 dX11_valley_1 ?_
  refine kf_iconst (v := 5) hx dX11_valley_4 (by decide) ?_
  refine kf_iload_n hx dX11_valley_5 rfl 1 rfl ?_
  refine kf_imul hx dX11_valley_6 ?_
  refine kf_iald hx ar_77 h.1 dX11_valley_7 ?_
  replace h := h.2
  exact hret _ _ (I 77 (Int32.toNatClampNeg (5 * x1)))  dX11_valley_8 h
set_option maxHeartbeats 4000000 in
set_option maxRecDepth 20000 in
theorem m_X11_valley (g : kf_G) (hg : kf_g g) (x1 : Int32) (I : HI) (J : HJ) (Post : Int32 → Prop) (h : w_X11_valley x1 I J Post) : kf_Mi g yX11_valley (kf_W yX11_valley cX11_valley 2 (Option.some Jvm.ClassFile.FieldType.int)) 0 0 [.ref (g.2.2.2 72), .int x1] I J (fun v I' J' => Post v ∧ I' = I ∧ J' = J) :=
  kf_enti hg (by decide) (Nat.le_of_ble_eq_true rfl) rfl (fun x hx hr => we_X11_valley g hg hx x1 I J Post (fun pc lv v hd hP => hr pc lv v I J hd ⟨hP, rfl, rfl⟩) h)
theorem dX11_needs_0 : decode cX11_needs 0 = .ok (.aload_n 0, 1) := by decide +kernel
theorem dX11_needs_1 : decode cX11_needs 1 = .ok (.getfield 35, 3) := by decide +kernel
theorem dX11_needs_4 : decode cX11_needs 4 = .ok (.iconst 5, 1) := by decide +kernel
theorem dX11_needs_5 : decode cX11_needs 5 = .ok (.iload_n 1, 1) := by decide +kernel
theorem dX11_needs_6 : decode cX11_needs 6 = .ok (.imul, 1) := by decide +kernel
theorem dX11_needs_7 : decode cX11_needs 7 = .ok (.iconst 1, 1) := by decide +kernel
theorem dX11_needs_8 : decode cX11_needs 8 = .ok (.iadd, 1) := by decide +kernel
theorem dX11_needs_9 : decode cX11_needs 9 = .ok (.iaload, 1) := by decide +kernel
theorem dX11_needs_10 : decode cX11_needs 10 = .ok (.ireturn, 1) := by decide +kernel
def w_X11_needs (x1 : Int32) (I : HI) (J : HJ) (Post : Int32 → Prop) : Prop :=
  vp_in ((5 * x1) + 1) 60 ∧ (Post (I 77 (Int32.toNatClampNeg ((5 * x1) + 1))))
set_option maxHeartbeats 4000000 in
set_option maxRecDepth 20000 in
theorem we_X11_needs (g : kf_G) (hg : kf_g g) {x : kf_X} (hx : kf_ok g x RX11 cX11_needs 2 0 0) (x1 : Int32) (I : HI) (J : HJ) (Post : Int32 → Prop) (hret : ∀ (pc : Nat) (lv : List (Nat × Value)) (v : Int32), decode cX11_needs pc = .ok (.ireturn, 1) → Post v → kf_M g x 2 pc lv [.int v] I J) (h : w_X11_needs x1 I J Post) : kf_M g x 2 0 [(0, .ref (g.2.2.2 72)), (1, .int x1)] [] I J := by
  unfold w_X11_needs at h
  refine kf_aload_n hx dX11_needs_0 rfl 0 rfl ?_
  refine kf_getR (n := 77) hx sl_72_24 fl_RX11_35 dX11_needs_1 ?_
  refine kf_iconst (v := 5) hx dX11_needs_4 (by decide) ?_
  refine kf_iload_n hx dX11_needs_5 rfl 1 rfl ?_
  refine kf_imul hx dX11_needs_6 ?_
  refine kf_iconst (v := 1) hx dX11_needs_7 (by decide) ?_
  refine kf_iadd hx dX11_needs_8 ?_
  refine kf_iald hx ar_77 h.1 dX11_needs_9 ?_
  replace h := h.2
  exact hret _ _ (I 77 (Int32.toNatClampNeg ((5 * x1) + 1)))  dX11_needs_10 h
set_option maxHeartbeats 4000000 in
set_option maxRecDepth 20000 in
theorem m_X11_needs (g : kf_G) (hg : kf_g g) (x1 : Int32) (I : HI) (J : HJ) (Post : Int32 → Prop) (h : w_X11_needs x1 I J Post) : kf_Mi g yX11_needs (kf_W yX11_needs cX11_needs 2 (Option.some Jvm.ClassFile.FieldType.int)) 0 0 [.ref (g.2.2.2 72), .int x1] I J (fun v I' J' => Post v ∧ I' = I ∧ J' = J) :=
  kf_enti hg (by decide) (Nat.le_of_ble_eq_true rfl) rfl (fun x hx hr => we_X11_needs g hg hx x1 I J Post (fun pc lv v hd hP => hr pc lv v I J hd ⟨hP, rfl, rfl⟩) h)
theorem dX11_late_0 : decode cX11_late 0 = .ok (.aload_n 0, 1) := by decide +kernel
theorem dX11_late_1 : decode cX11_late 1 = .ok (.getfield 35, 3) := by decide +kernel
theorem dX11_late_4 : decode cX11_late 4 = .ok (.iconst 5, 1) := by decide +kernel
theorem dX11_late_5 : decode cX11_late 5 = .ok (.iload_n 1, 1) := by decide +kernel
theorem dX11_late_6 : decode cX11_late 6 = .ok (.imul, 1) := by decide +kernel
theorem dX11_late_7 : decode cX11_late 7 = .ok (.iconst 2, 1) := by decide +kernel
theorem dX11_late_8 : decode cX11_late 8 = .ok (.iadd, 1) := by decide +kernel
theorem dX11_late_9 : decode cX11_late 9 = .ok (.iaload, 1) := by decide +kernel
theorem dX11_late_10 : decode cX11_late 10 = .ok (.ireturn, 1) := by decide +kernel
def w_X11_late (x1 : Int32) (I : HI) (J : HJ) (Post : Int32 → Prop) : Prop :=
  vp_in ((5 * x1) + 2) 60 ∧ (Post (I 77 (Int32.toNatClampNeg ((5 * x1) + 2))))
set_option maxHeartbeats 4000000 in
set_option maxRecDepth 20000 in
theorem we_X11_late (g : kf_G) (hg : kf_g g) {x : kf_X} (hx : kf_ok g x RX11 cX11_late 2 0 0) (x1 : Int32) (I : HI) (J : HJ) (Post : Int32 → Prop) (hret : ∀ (pc : Nat) (lv : List (Nat × Value)) (v : Int32), decode cX11_late pc = .ok (.ireturn, 1) → Post v → kf_M g x 2 pc lv [.int v] I J) (h : w_X11_late x1 I J Post) : kf_M g x 2 0 [(0, .ref (g.2.2.2 72)), (1, .int x1)] [] I J := by
  unfold w_X11_late at h
  refine kf_aload_n hx dX11_late_0 rfl 0 rfl ?_
  refine kf_getR (n := 77) hx sl_72_24 fl_RX11_35 dX11_late_1 ?_
  refine kf_iconst (v := 5) hx dX11_late_4 (by decide) ?_
  refine kf_iload_n hx dX11_late_5 rfl 1 rfl ?_
  refine kf_imul hx dX11_late_6 ?_
  refine kf_iconst (v := 2) hx dX11_late_7 (by decide) ?_
  refine kf_iadd hx dX11_late_8 ?_
  refine kf_iald hx ar_77 h.1 dX11_late_9 ?_
  replace h := h.2
  exact hret _ _ (I 77 (Int32.toNatClampNeg ((5 * x1) + 2)))  dX11_late_10 h
set_option maxHeartbeats 4000000 in
set_option maxRecDepth 20000 in
theorem m_X11_late (g : kf_G) (hg : kf_g g) (x1 : Int32) (I : HI) (J : HJ) (Post : Int32 → Prop) (h : w_X11_late x1 I J Post) : kf_Mi g yX11_late (kf_W yX11_late cX11_late 2 (Option.some Jvm.ClassFile.FieldType.int)) 0 0 [.ref (g.2.2.2 72), .int x1] I J (fun v I' J' => Post v ∧ I' = I ∧ J' = J) :=
  kf_enti hg (by decide) (Nat.le_of_ble_eq_true rfl) rfl (fun x hx hr => we_X11_late g hg hx x1 I J Post (fun pc lv v hd hP => hr pc lv v I J hd ⟨hP, rfl, rfl⟩) h)
theorem dX11_isStubborn_0 : decode cX11_isStubborn 0 = .ok (.aload_n 0, 1) := by decide +kernel
theorem dX11_isStubborn_1 : decode cX11_isStubborn 1 = .ok (.getfield 35, 3) := by decide +kernel
theorem dX11_isStubborn_4 : decode cX11_isStubborn 4 = .ok (.iconst 5, 1) := by decide +kernel
theorem dX11_isStubborn_5 : decode cX11_isStubborn 5 = .ok (.iload_n 1, 1) := by decide +kernel
theorem dX11_isStubborn_6 : decode cX11_isStubborn 6 = .ok (.imul, 1) := by decide +kernel
theorem dX11_isStubborn_7 : decode cX11_isStubborn 7 = .ok (.iconst 3, 1) := by decide +kernel
theorem dX11_isStubborn_8 : decode cX11_isStubborn 8 = .ok (.iadd, 1) := by decide +kernel
theorem dX11_isStubborn_9 : decode cX11_isStubborn 9 = .ok (.iaload, 1) := by decide +kernel
theorem dX11_isStubborn_10 : decode cX11_isStubborn 10 = .ok (.iconst 1, 1) := by decide +kernel
theorem dX11_isStubborn_11 : decode cX11_isStubborn 11 = .ok (.if_icmp .ne 7, 3) := by decide +kernel
theorem dX11_isStubborn_14 : decode cX11_isStubborn 14 = .ok (.iconst 1, 1) := by decide +kernel
theorem dX11_isStubborn_15 : decode cX11_isStubborn 15 = .ok (.goto 4, 3) := by decide +kernel
theorem dX11_isStubborn_18 : decode cX11_isStubborn 18 = .ok (.iconst 0, 1) := by decide +kernel
theorem dX11_isStubborn_19 : decode cX11_isStubborn 19 = .ok (.ireturn, 1) := by decide +kernel
def w_X11_isStubborn (x1 : Int32) (I : HI) (J : HJ) (Post : Bool → Prop) : Prop :=
  vp_in ((5 * x1) + 3) 60 ∧ ((¬ (I 77 (Int32.toNatClampNeg ((5 * x1) + 3))) = 1 → (Post false)) ∧ ((I 77 (Int32.toNatClampNeg ((5 * x1) + 3))) = 1 → (Post true)))
set_option maxHeartbeats 4000000 in
set_option maxRecDepth 20000 in
theorem we_X11_isStubborn (g : kf_G) (hg : kf_g g) {x : kf_X} (hx : kf_ok g x RX11 cX11_isStubborn 2 0 0) (x1 : Int32) (I : HI) (J : HJ) (Post : Bool → Prop) (hret : ∀ (pc : Nat) (lv : List (Nat × Value)) (v : Bool), decode cX11_isStubborn pc = .ok (.ireturn, 1) → Post v → kf_M g x 2 pc lv [.int (kb v)] I J) (h : w_X11_isStubborn x1 I J Post) : kf_M g x 2 0 [(0, .ref (g.2.2.2 72)), (1, .int x1)] [] I J := by
  unfold w_X11_isStubborn at h
  refine kf_aload_n hx dX11_isStubborn_0 rfl 0 rfl ?_
  refine kf_getR (n := 77) hx sl_72_24 fl_RX11_35 dX11_isStubborn_1 ?_
  refine kf_iconst (v := 5) hx dX11_isStubborn_4 (by decide) ?_
  refine kf_iload_n hx dX11_isStubborn_5 rfl 1 rfl ?_
  refine kf_imul hx dX11_isStubborn_6 ?_
  refine kf_iconst (v := 3) hx dX11_isStubborn_7 (by decide) ?_
  refine kf_iadd hx dX11_isStubborn_8 ?_
  refine kf_iald hx ar_77 h.1 dX11_isStubborn_9 ?_
  replace h := h.2
  refine kf_iconst (v := 1) hx dX11_isStubborn_10 (by decide) ?_
  refine kf_icmp_ne hx 18 dX11_isStubborn_11 (by decide) (fun c => ?_) (fun c => ?_)
  · replace h := h.1 c
    refine kf_iconst (v := 0) hx dX11_isStubborn_18 (by decide) ?_
    exact hret _ _ false  dX11_isStubborn_19 h
  · replace h := h.2 c
    refine kf_iconst (v := 1) hx dX11_isStubborn_14 (by decide) ?_
    refine kf_goto hx 19 dX11_isStubborn_15 (by decide) ?_
    exact hret _ _ true  dX11_isStubborn_19 h
set_option maxHeartbeats 4000000 in
set_option maxRecDepth 20000 in
theorem m_X11_isStubborn (g : kf_G) (hg : kf_g g) (x1 : Int32) (I : HI) (J : HJ) (Post : Bool → Prop) (h : w_X11_isStubborn x1 I J Post) : kf_Mb g yX11_isStubborn (kf_W yX11_isStubborn cX11_isStubborn 2 (Option.some Jvm.ClassFile.FieldType.boolean)) 0 0 [.ref (g.2.2.2 72), .int x1] I J (fun v I' J' => Post v ∧ I' = I ∧ J' = J) :=
  kf_entb hg (by decide) (Nat.le_of_ble_eq_true rfl) rfl (fun x hx hr => we_X11_isStubborn g hg hx x1 I J Post (fun pc lv v hd hP => hr pc lv v I J hd ⟨hP, rfl, rfl⟩) h)
theorem dX11_costs_0 : decode cX11_costs 0 = .ok (.aload_n 0, 1) := by decide +kernel
theorem dX11_costs_1 : decode cX11_costs 1 = .ok (.getfield 35, 3) := by decide +kernel
theorem dX11_costs_4 : decode cX11_costs 4 = .ok (.iconst 5, 1) := by decide +kernel
theorem dX11_costs_5 : decode cX11_costs 5 = .ok (.iload_n 1, 1) := by decide +kernel
theorem dX11_costs_6 : decode cX11_costs 6 = .ok (.imul, 1) := by decide +kernel
theorem dX11_costs_7 : decode cX11_costs 7 = .ok (.iconst 4, 1) := by decide +kernel
theorem dX11_costs_8 : decode cX11_costs 8 = .ok (.iadd, 1) := by decide +kernel
theorem dX11_costs_9 : decode cX11_costs 9 = .ok (.iaload, 1) := by decide +kernel
theorem dX11_costs_10 : decode cX11_costs 10 = .ok (.ireturn, 1) := by decide +kernel
def w_X11_costs (x1 : Int32) (I : HI) (J : HJ) (Post : Int32 → Prop) : Prop :=
  vp_in ((5 * x1) + 4) 60 ∧ (Post (I 77 (Int32.toNatClampNeg ((5 * x1) + 4))))
set_option maxHeartbeats 4000000 in
set_option maxRecDepth 20000 in
theorem we_X11_costs (g : kf_G) (hg : kf_g g) {x : kf_X} (hx : kf_ok g x RX11 cX11_costs 2 0 0) (x1 : Int32) (I : HI) (J : HJ) (Post : Int32 → Prop) (hret : ∀ (pc : Nat) (lv : List (Nat × Value)) (v : Int32), decode cX11_costs pc = .ok (.ireturn, 1) → Post v → kf_M g x 2 pc lv [.int v] I J) (h : w_X11_costs x1 I J Post) : kf_M g x 2 0 [(0, .ref (g.2.2.2 72)), (1, .int x1)] [] I J := by
  unfold w_X11_costs at h
  refine kf_aload_n hx dX11_costs_0 rfl 0 rfl ?_
  refine kf_getR (n := 77) hx sl_72_24 fl_RX11_35 dX11_costs_1 ?_
  refine kf_iconst (v := 5) hx dX11_costs_4 (by decide) ?_
  refine kf_iload_n hx dX11_costs_5 rfl 1 rfl ?_
  refine kf_imul hx dX11_costs_6 ?_
  refine kf_iconst (v := 4) hx dX11_costs_7 (by decide) ?_
  refine kf_iadd hx dX11_costs_8 ?_
  refine kf_iald hx ar_77 h.1 dX11_costs_9 ?_
  replace h := h.2
  exact hret _ _ (I 77 (Int32.toNatClampNeg ((5 * x1) + 4)))  dX11_costs_10 h
set_option maxHeartbeats 4000000 in
set_option maxRecDepth 20000 in
theorem m_X11_costs (g : kf_G) (hg : kf_g g) (x1 : Int32) (I : HI) (J : HJ) (Post : Int32 → Prop) (h : w_X11_costs x1 I J Post) : kf_Mi g yX11_costs (kf_W yX11_costs cX11_costs 2 (Option.some Jvm.ClassFile.FieldType.int)) 0 0 [.ref (g.2.2.2 72), .int x1] I J (fun v I' J' => Post v ∧ I' = I ∧ J' = J) :=
  kf_enti hg (by decide) (Nat.le_of_ble_eq_true rfl) rfl (fun x hx hr => we_X11_costs g hg hx x1 I J Post (fun pc lv v hd hP => hr pc lv v I J hd ⟨hP, rfl, rfl⟩) h)
theorem dX11_many_0 : decode cX11_many 0 = .ok (.aload_n 0, 1) := by decide +kernel
theorem dX11_many_1 : decode cX11_many 1 = .ok (.iconst 0, 1) := by decide +kernel
theorem dX11_many_2 : decode cX11_many 2 = .ok (.putfield 106, 3) := by decide +kernel
theorem dX11_many_5 : decode cX11_many 5 = .ok (.aload_n 0, 1) := by decide +kernel
theorem dX11_many_6 : decode cX11_many 6 = .ok (.iconst 0, 1) := by decide +kernel
theorem dX11_many_7 : decode cX11_many 7 = .ok (.putfield 109, 3) := by decide +kernel
theorem dX11_many_10 : decode cX11_many 10 = .ok (.iload_n 1, 1) := by decide +kernel
theorem dX11_many_11 : decode cX11_many 11 = .ok (.ifCond .ne 10, 3) := by decide +kernel
theorem dX11_many_14 : decode cX11_many 14 = .ok (.aload_n 0, 1) := by decide +kernel
theorem dX11_many_15 : decode cX11_many 15 = .ok (.getfield 287, 3) := by decide +kernel
theorem dX11_many_18 : decode cX11_many 18 = .ok (.goto 20, 3) := by decide +kernel
theorem dX11_many_21 : decode cX11_many 21 = .ok (.iload_n 1, 1) := by decide +kernel
theorem dX11_many_22 : decode cX11_many 22 = .ok (.iconst 1, 1) := by decide +kernel
theorem dX11_many_23 : decode cX11_many 23 = .ok (.if_icmp .ne 10, 3) := by decide +kernel
theorem dX11_many_26 : decode cX11_many 26 = .ok (.aload_n 0, 1) := by decide +kernel
theorem dX11_many_27 : decode cX11_many 27 = .ok (.getfield 290, 3) := by decide +kernel
theorem dX11_many_30 : decode cX11_many 30 = .ok (.goto 8, 3) := by decide +kernel
theorem dX11_many_33 : decode cX11_many 33 = .ok (.aload_n 0, 1) := by decide +kernel
theorem dX11_many_34 : decode cX11_many 34 = .ok (.iconst 5, 1) := by decide +kernel
theorem dX11_many_35 : decode cX11_many 35 = .ok (.invokevirtual 272, 3) := by decide +kernel
theorem dX11_many_38 : decode cX11_many 38 = .ok (.ireturn, 1) := by decide +kernel
def w_X11_many (x1 : Int32) (I : HI) (J : HJ) (Post : Int32 → HI → Prop) : Prop :=
  ∀ I_1 : HI, I_1 = hI I 72 1 0 → (∀ I_2 : HI, I_2 = hI I_1 72 0 0 → ((¬ x1 = 0 → ((¬ x1 = 1 → (w_X11_refusedBy 5 I_2 J (fun (r_3 : Int32) (I_4 : HI) => (Post r_3 I_4)))) ∧ (x1 = 1 → (Post (I_2 72 21) I_2)))) ∧ (x1 = 0 → (Post (I_2 72 20) I_2))))
set_option maxHeartbeats 4000000 in
set_option maxRecDepth 20000 in
theorem we_X11_many (g : kf_G) (hg : kf_g g) {x : kf_X} (hx : kf_ok g x RX11 cX11_many 2 1 21) (x1 : Int32) (I : HI) (J : HJ) (Post : Int32 → HI → Prop) (hret : ∀ (pc : Nat) (lv : List (Nat × Value)) (v : Int32) (Iy : HI), decode cX11_many pc = .ok (.ireturn, 1) → Post v Iy → kf_M g x 2 pc lv [.int v] Iy J) (h : w_X11_many x1 I J Post) : kf_M g x 2 0 [(0, .ref (g.2.2.2 72)), (1, .int x1)] [] I J := by
  unfold w_X11_many at h
  refine kf_aload_n hx dX11_many_0 rfl 0 rfl ?_
  refine kf_iconst (v := 0) hx dX11_many_1 (by decide) ?_
  refine kf_putI hx sl_72_1 fl_RX11_106 fp_11_1 dX11_many_2 ?_
  refine kf_nmI (fun I_1 eI_1 => ?_)
  replace h := h I_1 eI_1
  refine kf_aload_n hx dX11_many_5 rfl 0 rfl ?_
  refine kf_iconst (v := 0) hx dX11_many_6 (by decide) ?_
  refine kf_putI hx sl_72_0 fl_RX11_109 fp_11_0 dX11_many_7 ?_
  refine kf_nmI (fun I_2 eI_2 => ?_)
  replace h := h I_2 eI_2
  refine kf_iload_n hx dX11_many_10 rfl 1 rfl ?_
  refine kf_if_ne hx 21 dX11_many_11 (by decide) (fun c => ?_) (fun c => ?_)
  · replace h := h.1 c
    refine kf_iload_n hx dX11_many_21 rfl 1 rfl ?_
    refine kf_iconst (v := 1) hx dX11_many_22 (by decide) ?_
    refine kf_icmp_ne hx 33 dX11_many_23 (by decide) (fun c => ?_) (fun c => ?_)
    · replace h := h.1 c
      refine kf_aload_n hx dX11_many_33 rfl 0 rfl ?_
      refine kf_iconst (v := 5) hx dX11_many_34 (by decide) ?_
      refine kf_callViI (st := []) hx (m_X11_refusedBy g hg 5 I_2 J _ h) lk_RX11_272 km_X11_refusedBy ob_72 rfl (by decide) rfl (Nat.le_of_ble_eq_true rfl) dX11_many_35 (fun r_3 I_4 h => ?_)
      exact hret _ _ r_3 _ dX11_many_38 h
    · replace h := h.2 c
      refine kf_aload_n hx dX11_many_26 rfl 0 rfl ?_
      refine kf_getI hx sl_72_21 fl_RX11_290 dX11_many_27 ?_
      refine kf_goto hx 38 dX11_many_30 (by decide) ?_
      exact hret _ _ (I_2 72 21) _ dX11_many_38 h
  · replace h := h.2 c
    refine kf_aload_n hx dX11_many_14 rfl 0 rfl ?_
    refine kf_getI hx sl_72_20 fl_RX11_287 dX11_many_15 ?_
    refine kf_goto hx 38 dX11_many_18 (by decide) ?_
    exact hret _ _ (I_2 72 20) _ dX11_many_38 h
set_option maxHeartbeats 4000000 in
set_option maxRecDepth 20000 in
theorem m_X11_many (g : kf_G) (hg : kf_g g) (x1 : Int32) (I : HI) (J : HJ) (Post : Int32 → HI → Prop) (h : w_X11_many x1 I J Post) : kf_Mi g yX11_many (kf_W yX11_many cX11_many 2 (Option.some Jvm.ClassFile.FieldType.int)) 1 21 [.ref (g.2.2.2 72), .int x1] I J (fun v I' J' => Post v I' ∧ J' = J) :=
  kf_enti hg (by decide) (Nat.le_of_ble_eq_true rfl) rfl (fun x hx hr => we_X11_many g hg hx x1 I J Post (fun pc lv v I' hd hP => hr pc lv v I' J hd ⟨hP, rfl⟩) h)
theorem dX11_person_0 : decode cX11_person 0 = .ok (.aload_n 0, 1) := by decide +kernel
theorem dX11_person_1 : decode cX11_person 1 = .ok (.iconst 0, 1) := by decide +kernel
theorem dX11_person_2 : decode cX11_person 2 = .ok (.putfield 106, 3) := by decide +kernel
theorem dX11_person_5 : decode cX11_person 5 = .ok (.aload_n 0, 1) := by decide +kernel
theorem dX11_person_6 : decode cX11_person 6 = .ok (.iconst 0, 1) := by decide +kernel
theorem dX11_person_7 : decode cX11_person 7 = .ok (.putfield 109, 3) := by decide +kernel
theorem dX11_person_10 : decode cX11_person 10 = .ok (.aload_n 0, 1) := by decide +kernel
theorem dX11_person_11 : decode cX11_person 11 = .ok (.iload_n 1, 1) := by decide +kernel
theorem dX11_person_12 : decode cX11_person 12 = .ok (.invokevirtual 296, 3) := by decide +kernel
theorem dX11_person_15 : decode cX11_person 15 = .ok (.ifCond .ne 9, 3) := by decide +kernel
theorem dX11_person_18 : decode cX11_person 18 = .ok (.aload_n 0, 1) := by decide +kernel
theorem dX11_person_19 : decode cX11_person 19 = .ok (.iconst 2, 1) := by decide +kernel
theorem dX11_person_20 : decode cX11_person 20 = .ok (.invokevirtual 272, 3) := by decide +kernel
theorem dX11_person_23 : decode cX11_person 23 = .ok (.ireturn, 1) := by decide +kernel
theorem dX11_person_24 : decode cX11_person 24 = .ok (.iload_n 2, 1) := by decide +kernel
theorem dX11_person_25 : decode cX11_person 25 = .ok (.i2l, 1) := by decide +kernel
theorem dX11_person_26 : decode cX11_person 26 = .ok (.lconst 0, 1) := by decide +kernel
theorem dX11_person_27 : decode cX11_person 27 = .ok (.ldc2_w 299, 3) := by decide +kernel
theorem dX11_person_30 : decode cX11_person 30 = .ok (.invokestatic 228, 3) := by decide +kernel
theorem dX11_person_33 : decode cX11_person 33 = .ok (.ifCond .eq 16, 3) := by decide +kernel
theorem dX11_person_36 : decode cX11_person 36 = .ok (.aload_n 0, 1) := by decide +kernel
theorem dX11_person_37 : decode cX11_person 37 = .ok (.getfield 35, 3) := by decide +kernel
theorem dX11_person_40 : decode cX11_person 40 = .ok (.iconst 5, 1) := by decide +kernel
theorem dX11_person_41 : decode cX11_person 41 = .ok (.iload_n 1, 1) := by decide +kernel
theorem dX11_person_42 : decode cX11_person 42 = .ok (.imul, 1) := by decide +kernel
theorem dX11_person_43 : decode cX11_person 43 = .ok (.iload_n 2, 1) := by decide +kernel
theorem dX11_person_44 : decode cX11_person 44 = .ok (.iadd, 1) := by decide +kernel
theorem dX11_person_45 : decode cX11_person 45 = .ok (.iaload, 1) := by decide +kernel
theorem dX11_person_46 : decode cX11_person 46 = .ok (.goto 8, 3) := by decide +kernel
theorem dX11_person_49 : decode cX11_person 49 = .ok (.aload_n 0, 1) := by decide +kernel
theorem dX11_person_50 : decode cX11_person 50 = .ok (.iconst 5, 1) := by decide +kernel
theorem dX11_person_51 : decode cX11_person 51 = .ok (.invokevirtual 272, 3) := by decide +kernel
theorem dX11_person_54 : decode cX11_person 54 = .ok (.ireturn, 1) := by decide +kernel
def w_X11_person (x1 : Int32) (x2 : Int32) (I : HI) (J : HJ) (Post : Int32 → HI → Prop) : Prop :=
  ∀ I_1 : HI, I_1 = hI I 72 1 0 → (∀ I_2 : HI, I_2 = hI I_1 72 0 0 → (w_X11_isOne x1 I_2 J (fun (r_3 : Bool) => ((r_3 = true → (w_X11_isIn (Int32.toInt64 x2) 0 4 (fun (r_4 : Bool) => ((r_4 = false → (w_X11_refusedBy 5 I_2 J (fun (r_5 : Int32) (I_6 : HI) => (Post r_5 I_6)))) ∧ (r_4 = true → (vp_in ((5 * x1) + x2) 60 ∧ (Post (I_2 77 (Int32.toNatClampNeg ((5 * x1) + x2))) I_2))))))) ∧ (r_3 = false → (w_X11_refusedBy 2 I_2 J (fun (r_7 : Int32) (I_8 : HI) => (Post r_7 I_8))))))))
set_option maxHeartbeats 4000000 in
set_option maxRecDepth 20000 in
theorem we_X11_person (g : kf_G) (hg : kf_g g) {x : kf_X} (hx : kf_ok g x RX11 cX11_person 3 2 46) (x1 : Int32) (x2 : Int32) (I : HI) (J : HJ) (Post : Int32 → HI → Prop) (hret : ∀ (pc : Nat) (lv : List (Nat × Value)) (v : Int32) (Iy : HI), decode cX11_person pc = .ok (.ireturn, 1) → Post v Iy → kf_M g x 3 pc lv [.int v] Iy J) (h : w_X11_person x1 x2 I J Post) : kf_M g x 3 0 [(0, .ref (g.2.2.2 72)), (1, .int x1), (2, .int x2)] [] I J := by
  unfold w_X11_person at h
  refine kf_aload_n hx dX11_person_0 rfl 0 rfl ?_
  refine kf_iconst (v := 0) hx dX11_person_1 (by decide) ?_
  refine kf_putI hx sl_72_1 fl_RX11_106 fp_11_1 dX11_person_2 ?_
  refine kf_nmI (fun I_1 eI_1 => ?_)
  replace h := h I_1 eI_1
  refine kf_aload_n hx dX11_person_5 rfl 0 rfl ?_
  refine kf_iconst (v := 0) hx dX11_person_6 (by decide) ?_
  refine kf_putI hx sl_72_0 fl_RX11_109 fp_11_0 dX11_person_7 ?_
  refine kf_nmI (fun I_2 eI_2 => ?_)
  replace h := h I_2 eI_2
  refine kf_aload_n hx dX11_person_10 rfl 0 rfl ?_
  refine kf_iload_n hx dX11_person_11 rfl 1 rfl ?_
  refine kf_callVbP (st := []) hx (m_X11_isOne g hg x1 I_2 J _ h) lk_RX11_296 km_X11_isOne ob_72 rfl (by decide) rfl (Nat.le_of_ble_eq_true rfl) dX11_person_12 (fun r_3 h => ?_)
  refine kf_ifB_ne hx 24 dX11_person_15 (by decide) (fun c => ?_) (fun c => ?_)
  · replace h := h.1 c
    refine kf_iload_n hx dX11_person_24 rfl 2 rfl ?_
    refine kf_i2l hx dX11_person_25 ?_
    refine kf_lconst (v := 0) hx dX11_person_26 (by decide) ?_
    refine kf_ldc2 hx ko_RX11_299 dX11_person_27 ?_
    refine kf_callSbP (st := []) hx (m_X11_isIn g hg (Int32.toInt64 x2) 0 4 I_2 J _ h) lk_RX11_228 km_X11_isIn rfl (by decide) rfl (Nat.le_of_ble_eq_true rfl) dX11_person_30 (fun r_4 h => ?_)
    refine kf_ifB_eq hx 49 dX11_person_33 (by decide) (fun c => ?_) (fun c => ?_)
    · replace h := h.1 c
      refine kf_aload_n hx dX11_person_49 rfl 0 rfl ?_
      refine kf_iconst (v := 5) hx dX11_person_50 (by decide) ?_
      refine kf_callViI (st := []) hx (m_X11_refusedBy g hg 5 I_2 J _ h) lk_RX11_272 km_X11_refusedBy ob_72 rfl (by decide) rfl (Nat.le_of_ble_eq_true rfl) dX11_person_51 (fun r_5 I_6 h => ?_)
      exact hret _ _ r_5 _ dX11_person_54 h
    · replace h := h.2 c
      refine kf_aload_n hx dX11_person_36 rfl 0 rfl ?_
      refine kf_getR (n := 77) hx sl_72_24 fl_RX11_35 dX11_person_37 ?_
      refine kf_iconst (v := 5) hx dX11_person_40 (by decide) ?_
      refine kf_iload_n hx dX11_person_41 rfl 1 rfl ?_
      refine kf_imul hx dX11_person_42 ?_
      refine kf_iload_n hx dX11_person_43 rfl 2 rfl ?_
      refine kf_iadd hx dX11_person_44 ?_
      refine kf_iald hx ar_77 h.1 dX11_person_45 ?_
      replace h := h.2
      refine kf_goto hx 54 dX11_person_46 (by decide) ?_
      exact hret _ _ (I_2 77 (Int32.toNatClampNeg ((5 * x1) + x2))) _ dX11_person_54 h
  · replace h := h.2 c
    refine kf_aload_n hx dX11_person_18 rfl 0 rfl ?_
    refine kf_iconst (v := 2) hx dX11_person_19 (by decide) ?_
    refine kf_callViI (st := []) hx (m_X11_refusedBy g hg 2 I_2 J _ h) lk_RX11_272 km_X11_refusedBy ob_72 rfl (by decide) rfl (Nat.le_of_ble_eq_true rfl) dX11_person_20 (fun r_7 I_8 h => ?_)
    exact hret _ _ r_7 _ dX11_person_23 h
set_option maxHeartbeats 4000000 in
set_option maxRecDepth 20000 in
theorem m_X11_person (g : kf_G) (hg : kf_g g) (x1 : Int32) (x2 : Int32) (I : HI) (J : HJ) (Post : Int32 → HI → Prop) (h : w_X11_person x1 x2 I J Post) : kf_Mi g yX11_person (kf_W yX11_person cX11_person 3 (Option.some Jvm.ClassFile.FieldType.int)) 2 46 [.ref (g.2.2.2 72), .int x1, .int x2] I J (fun v I' J' => Post v I' ∧ J' = J) :=
  kf_enti hg (by decide) (Nat.le_of_ble_eq_true rfl) rfl (fun x hx hr => we_X11_person g hg hx x1 x2 I J Post (fun pc lv v I' hd hP => hr pc lv v I' J hd ⟨hP, rfl⟩) h)
theorem dX11_tie__0 : decode cX11_tie_ 0 = .ok (.aload_n 0, 1) := by decide +kernel
theorem dX11_tie__1 : decode cX11_tie_ 1 = .ok (.iconst 0, 1) := by decide +kernel
theorem dX11_tie__2 : decode cX11_tie_ 2 = .ok (.putfield 106, 3) := by decide +kernel
theorem dX11_tie__5 : decode cX11_tie_ 5 = .ok (.aload_n 0, 1) := by decide +kernel
theorem dX11_tie__6 : decode cX11_tie_ 6 = .ok (.iconst 0, 1) := by decide +kernel
theorem dX11_tie__7 : decode cX11_tie_ 7 = .ok (.putfield 109, 3) := by decide +kernel
theorem dX11_tie__10 : decode cX11_tie_ 10 = .ok (.iload_n 1, 1) := by decide +kernel
theorem dX11_tie__11 : decode cX11_tie_ 11 = .ok (.i2l, 1) := by decide +kernel
theorem dX11_tie__12 : decode cX11_tie_ 12 = .ok (.lconst 0, 1) := by decide +kernel
theorem dX11_tie__13 : decode cX11_tie_ 13 = .ok (.aload_n 0, 1) := by decide +kernel
theorem dX11_tie__14 : decode cX11_tie_ 14 = .ok (.getfield 290, 3) := by decide +kernel
theorem dX11_tie__17 : decode cX11_tie_ 17 = .ok (.iconst 1, 1) := by decide +kernel
theorem dX11_tie__18 : decode cX11_tie_ 18 = .ok (.isub, 1) := by decide +kernel
theorem dX11_tie__19 : decode cX11_tie_ 19 = .ok (.i2l, 1) := by decide +kernel
theorem dX11_tie__20 : decode cX11_tie_ 20 = .ok (.invokestatic 228, 3) := by decide +kernel
theorem dX11_tie__23 : decode cX11_tie_ 23 = .ok (.ifCond .ne 9, 3) := by decide +kernel
theorem dX11_tie__26 : decode cX11_tie_ 26 = .ok (.aload_n 0, 1) := by decide +kernel
theorem dX11_tie__27 : decode cX11_tie_ 27 = .ok (.iconst 2, 1) := by decide +kernel
theorem dX11_tie__28 : decode cX11_tie_ 28 = .ok (.invokevirtual 272, 3) := by decide +kernel
theorem dX11_tie__31 : decode cX11_tie_ 31 = .ok (.ireturn, 1) := by decide +kernel
theorem dX11_tie__32 : decode cX11_tie_ 32 = .ok (.iload_n 2, 1) := by decide +kernel
theorem dX11_tie__33 : decode cX11_tie_ 33 = .ok (.ifCond .ne 12, 3) := by decide +kernel
theorem dX11_tie__36 : decode cX11_tie_ 36 = .ok (.aload_n 0, 1) := by decide +kernel
theorem dX11_tie__37 : decode cX11_tie_ 37 = .ok (.getfield 41, 3) := by decide +kernel
theorem dX11_tie__40 : decode cX11_tie_ 40 = .ok (.iload_n 1, 1) := by decide +kernel
theorem dX11_tie__41 : decode cX11_tie_ 41 = .ok (.iaload, 1) := by decide +kernel
theorem dX11_tie__42 : decode cX11_tie_ 42 = .ok (.goto 50, 3) := by decide +kernel
theorem dX11_tie__45 : decode cX11_tie_ 45 = .ok (.iload_n 2, 1) := by decide +kernel
theorem dX11_tie__46 : decode cX11_tie_ 46 = .ok (.iconst 1, 1) := by decide +kernel
theorem dX11_tie__47 : decode cX11_tie_ 47 = .ok (.if_icmp .ne 12, 3) := by decide +kernel
theorem dX11_tie__50 : decode cX11_tie_ 50 = .ok (.aload_n 0, 1) := by decide +kernel
theorem dX11_tie__51 : decode cX11_tie_ 51 = .ok (.getfield 44, 3) := by decide +kernel
theorem dX11_tie__54 : decode cX11_tie_ 54 = .ok (.iload_n 1, 1) := by decide +kernel
theorem dX11_tie__55 : decode cX11_tie_ 55 = .ok (.iaload, 1) := by decide +kernel
theorem dX11_tie__56 : decode cX11_tie_ 56 = .ok (.goto 36, 3) := by decide +kernel
theorem dX11_tie__59 : decode cX11_tie_ 59 = .ok (.iload_n 2, 1) := by decide +kernel
theorem dX11_tie__60 : decode cX11_tie_ 60 = .ok (.iconst 2, 1) := by decide +kernel
theorem dX11_tie__61 : decode cX11_tie_ 61 = .ok (.if_icmp .ne 12, 3) := by decide +kernel
theorem dX11_tie__64 : decode cX11_tie_ 64 = .ok (.aload_n 0, 1) := by decide +kernel
theorem dX11_tie__65 : decode cX11_tie_ 65 = .ok (.getfield 47, 3) := by decide +kernel
theorem dX11_tie__68 : decode cX11_tie_ 68 = .ok (.iload_n 1, 1) := by decide +kernel
theorem dX11_tie__69 : decode cX11_tie_ 69 = .ok (.iaload, 1) := by decide +kernel
theorem dX11_tie__70 : decode cX11_tie_ 70 = .ok (.goto 22, 3) := by decide +kernel
theorem dX11_tie__73 : decode cX11_tie_ 73 = .ok (.iload_n 2, 1) := by decide +kernel
theorem dX11_tie__74 : decode cX11_tie_ 74 = .ok (.iconst 3, 1) := by decide +kernel
theorem dX11_tie__75 : decode cX11_tie_ 75 = .ok (.if_icmp .ne 12, 3) := by decide +kernel
theorem dX11_tie__78 : decode cX11_tie_ 78 = .ok (.aload_n 0, 1) := by decide +kernel
theorem dX11_tie__79 : decode cX11_tie_ 79 = .ok (.getfield 50, 3) := by decide +kernel
theorem dX11_tie__82 : decode cX11_tie_ 82 = .ok (.iload_n 1, 1) := by decide +kernel
theorem dX11_tie__83 : decode cX11_tie_ 83 = .ok (.iaload, 1) := by decide +kernel
theorem dX11_tie__84 : decode cX11_tie_ 84 = .ok (.goto 8, 3) := by decide +kernel
theorem dX11_tie__87 : decode cX11_tie_ 87 = .ok (.aload_n 0, 1) := by decide +kernel
theorem dX11_tie__88 : decode cX11_tie_ 88 = .ok (.iconst 5, 1) := by decide +kernel
theorem dX11_tie__89 : decode cX11_tie_ 89 = .ok (.invokevirtual 272, 3) := by decide +kernel
theorem dX11_tie__92 : decode cX11_tie_ 92 = .ok (.ireturn, 1) := by decide +kernel
def w_X11_tie_ (x1 : Int32) (x2 : Int32) (I : HI) (J : HJ) (Post : Int32 → HI → Prop) : Prop :=
  ∀ I_1 : HI, I_1 = hI I 72 1 0 → (∀ I_2 : HI, I_2 = hI I_1 72 0 0 → (w_X11_isIn (Int32.toInt64 x1) 0 (Int32.toInt64 ((I_2 72 21) - 1)) (fun (r_3 : Bool) => ((r_3 = true → ((¬ x2 = 0 → ((¬ x2 = 1 → ((¬ x2 = 2 → ((¬ x2 = 3 → (w_X11_refusedBy 5 I_2 J (fun (r_4 : Int32) (I_5 : HI) => (Post r_4 I_5)))) ∧ (x2 = 3 → (vp_in x1 10 ∧ (Post (I_2 82 (Int32.toNatClampNeg x1)) I_2))))) ∧ (x2 = 2 → (vp_in x1 10 ∧ (Post (I_2 81 (Int32.toNatClampNeg x1)) I_2))))) ∧ (x2 = 1 → (vp_in x1 10 ∧ (Post (I_2 80 (Int32.toNatClampNeg x1)) I_2))))) ∧ (x2 = 0 → (vp_in x1 10 ∧ (Post (I_2 79 (Int32.toNatClampNeg x1)) I_2))))) ∧ (r_3 = false → (w_X11_refusedBy 2 I_2 J (fun (r_6 : Int32) (I_7 : HI) => (Post r_6 I_7))))))))
set_option maxHeartbeats 4000000 in
set_option maxRecDepth 20000 in
theorem we_X11_tie_ (g : kf_G) (hg : kf_g g) {x : kf_X} (hx : kf_ok g x RX11 cX11_tie_ 3 1 25) (x1 : Int32) (x2 : Int32) (I : HI) (J : HJ) (Post : Int32 → HI → Prop) (hret : ∀ (pc : Nat) (lv : List (Nat × Value)) (v : Int32) (Iy : HI), decode cX11_tie_ pc = .ok (.ireturn, 1) → Post v Iy → kf_M g x 3 pc lv [.int v] Iy J) (h : w_X11_tie_ x1 x2 I J Post) : kf_M g x 3 0 [(0, .ref (g.2.2.2 72)), (1, .int x1), (2, .int x2)] [] I J := by
  unfold w_X11_tie_ at h
  refine kf_aload_n hx dX11_tie__0 rfl 0 rfl ?_
  refine kf_iconst (v := 0) hx dX11_tie__1 (by decide) ?_
  refine kf_putI hx sl_72_1 fl_RX11_106 fp_11_1 dX11_tie__2 ?_
  refine kf_nmI (fun I_1 eI_1 => ?_)
  replace h := h I_1 eI_1
  refine kf_aload_n hx dX11_tie__5 rfl 0 rfl ?_
  refine kf_iconst (v := 0) hx dX11_tie__6 (by decide) ?_
  refine kf_putI hx sl_72_0 fl_RX11_109 fp_11_0 dX11_tie__7 ?_
  refine kf_nmI (fun I_2 eI_2 => ?_)
  replace h := h I_2 eI_2
  refine kf_iload_n hx dX11_tie__10 rfl 1 rfl ?_
  refine kf_i2l hx dX11_tie__11 ?_
  refine kf_lconst (v := 0) hx dX11_tie__12 (by decide) ?_
  refine kf_aload_n hx dX11_tie__13 rfl 0 rfl ?_
  refine kf_getI hx sl_72_21 fl_RX11_290 dX11_tie__14 ?_
  refine kf_iconst (v := 1) hx dX11_tie__17 (by decide) ?_
  refine kf_isub hx dX11_tie__18 ?_
  refine kf_i2l hx dX11_tie__19 ?_
  refine kf_callSbP (st := []) hx (m_X11_isIn g hg (Int32.toInt64 x1) 0 (Int32.toInt64 ((I_2 72 21) - 1)) I_2 J _ h) lk_RX11_228 km_X11_isIn rfl (by decide) rfl (Nat.le_of_ble_eq_true rfl) dX11_tie__20 (fun r_3 h => ?_)
  refine kf_ifB_ne hx 32 dX11_tie__23 (by decide) (fun c => ?_) (fun c => ?_)
  · replace h := h.1 c
    refine kf_iload_n hx dX11_tie__32 rfl 2 rfl ?_
    refine kf_if_ne hx 45 dX11_tie__33 (by decide) (fun c => ?_) (fun c => ?_)
    · replace h := h.1 c
      refine kf_iload_n hx dX11_tie__45 rfl 2 rfl ?_
      refine kf_iconst (v := 1) hx dX11_tie__46 (by decide) ?_
      refine kf_icmp_ne hx 59 dX11_tie__47 (by decide) (fun c => ?_) (fun c => ?_)
      · replace h := h.1 c
        refine kf_iload_n hx dX11_tie__59 rfl 2 rfl ?_
        refine kf_iconst (v := 2) hx dX11_tie__60 (by decide) ?_
        refine kf_icmp_ne hx 73 dX11_tie__61 (by decide) (fun c => ?_) (fun c => ?_)
        · replace h := h.1 c
          refine kf_iload_n hx dX11_tie__73 rfl 2 rfl ?_
          refine kf_iconst (v := 3) hx dX11_tie__74 (by decide) ?_
          refine kf_icmp_ne hx 87 dX11_tie__75 (by decide) (fun c => ?_) (fun c => ?_)
          · replace h := h.1 c
            refine kf_aload_n hx dX11_tie__87 rfl 0 rfl ?_
            refine kf_iconst (v := 5) hx dX11_tie__88 (by decide) ?_
            refine kf_callViI (st := []) hx (m_X11_refusedBy g hg 5 I_2 J _ h) lk_RX11_272 km_X11_refusedBy ob_72 rfl (by decide) rfl (Nat.le_of_ble_eq_true rfl) dX11_tie__89 (fun r_4 I_5 h => ?_)
            exact hret _ _ r_4 _ dX11_tie__92 h
          · replace h := h.2 c
            refine kf_aload_n hx dX11_tie__78 rfl 0 rfl ?_
            refine kf_getR (n := 82) hx sl_72_29 fl_RX11_50 dX11_tie__79 ?_
            refine kf_iload_n hx dX11_tie__82 rfl 1 rfl ?_
            refine kf_iald hx ar_82 h.1 dX11_tie__83 ?_
            replace h := h.2
            refine kf_goto hx 92 dX11_tie__84 (by decide) ?_
            exact hret _ _ (I_2 82 (Int32.toNatClampNeg x1)) _ dX11_tie__92 h
        · replace h := h.2 c
          refine kf_aload_n hx dX11_tie__64 rfl 0 rfl ?_
          refine kf_getR (n := 81) hx sl_72_28 fl_RX11_47 dX11_tie__65 ?_
          refine kf_iload_n hx dX11_tie__68 rfl 1 rfl ?_
          refine kf_iald hx ar_81 h.1 dX11_tie__69 ?_
          replace h := h.2
          refine kf_goto hx 92 dX11_tie__70 (by decide) ?_
          exact hret _ _ (I_2 81 (Int32.toNatClampNeg x1)) _ dX11_tie__92 h
      · replace h := h.2 c
        refine kf_aload_n hx dX11_tie__50 rfl 0 rfl ?_
        refine kf_getR (n := 80) hx sl_72_27 fl_RX11_44 dX11_tie__51 ?_
        refine kf_iload_n hx dX11_tie__54 rfl 1 rfl ?_
        refine kf_iald hx ar_80 h.1 dX11_tie__55 ?_
        replace h := h.2
        refine kf_goto hx 92 dX11_tie__56 (by decide) ?_
        exact hret _ _ (I_2 80 (Int32.toNatClampNeg x1)) _ dX11_tie__92 h
    · replace h := h.2 c
      refine kf_aload_n hx dX11_tie__36 rfl 0 rfl ?_
      refine kf_getR (n := 79) hx sl_72_26 fl_RX11_41 dX11_tie__37 ?_
      refine kf_iload_n hx dX11_tie__40 rfl 1 rfl ?_
      refine kf_iald hx ar_79 h.1 dX11_tie__41 ?_
      replace h := h.2
      refine kf_goto hx 92 dX11_tie__42 (by decide) ?_
      exact hret _ _ (I_2 79 (Int32.toNatClampNeg x1)) _ dX11_tie__92 h
  · replace h := h.2 c
    refine kf_aload_n hx dX11_tie__26 rfl 0 rfl ?_
    refine kf_iconst (v := 2) hx dX11_tie__27 (by decide) ?_
    refine kf_callViI (st := []) hx (m_X11_refusedBy g hg 2 I_2 J _ h) lk_RX11_272 km_X11_refusedBy ob_72 rfl (by decide) rfl (Nat.le_of_ble_eq_true rfl) dX11_tie__28 (fun r_6 I_7 h => ?_)
    exact hret _ _ r_6 _ dX11_tie__31 h
set_option maxHeartbeats 4000000 in
set_option maxRecDepth 20000 in
theorem m_X11_tie_ (g : kf_G) (hg : kf_g g) (x1 : Int32) (x2 : Int32) (I : HI) (J : HJ) (Post : Int32 → HI → Prop) (h : w_X11_tie_ x1 x2 I J Post) : kf_Mi g yX11_tie_ (kf_W yX11_tie_ cX11_tie_ 3 (Option.some Jvm.ClassFile.FieldType.int)) 1 25 [.ref (g.2.2.2 72), .int x1, .int x2] I J (fun v I' J' => Post v I' ∧ J' = J) :=
  kf_enti hg (by decide) (Nat.le_of_ble_eq_true rfl) rfl (fun x hx hr => we_X11_tie_ g hg hx x1 x2 I J Post (fun pc lv v I' hd hP => hr pc lv v I' J hd ⟨hP, rfl⟩) h)
theorem dX11_refuse_0 : decode cX11_refuse 0 = .ok (.aload_n 0, 1) := by decide +kernel
theorem dX11_refuse_1 : decode cX11_refuse 1 = .ok (.iconst 0, 1) := by decide +kernel
theorem dX11_refuse_2 : decode cX11_refuse 2 = .ok (.putfield 106, 3) := by decide +kernel
theorem dX11_refuse_5 : decode cX11_refuse 5 = .ok (.aload_n 0, 1) := by decide +kernel
theorem dX11_refuse_6 : decode cX11_refuse 6 = .ok (.iconst 0, 1) := by decide +kernel
theorem dX11_refuse_7 : decode cX11_refuse 7 = .ok (.putfield 109, 3) := by decide +kernel
theorem dX11_refuse_10 : decode cX11_refuse 10 = .ok (.aload_n 0, 1) := by decide +kernel
theorem dX11_refuse_11 : decode cX11_refuse 11 = .ok (.iload_n 1, 1) := by decide +kernel
theorem dX11_refuse_12 : decode cX11_refuse 12 = .ok (.invokevirtual 296, 3) := by decide +kernel
theorem dX11_refuse_15 : decode cX11_refuse 15 = .ok (.ifCond .ne 9, 3) := by decide +kernel
theorem dX11_refuse_18 : decode cX11_refuse 18 = .ok (.aload_n 0, 1) := by decide +kernel
theorem dX11_refuse_19 : decode cX11_refuse 19 = .ok (.iconst 2, 1) := by decide +kernel
theorem dX11_refuse_20 : decode cX11_refuse 20 = .ok (.invokevirtual 121, 3) := by decide +kernel
theorem dX11_refuse_23 : decode cX11_refuse 23 = .ok (.ireturn, 1) := by decide +kernel
theorem dX11_refuse_24 : decode cX11_refuse 24 = .ok (.aload_n 0, 1) := by decide +kernel
theorem dX11_refuse_25 : decode cX11_refuse 25 = .ok (.getfield 35, 3) := by decide +kernel
theorem dX11_refuse_28 : decode cX11_refuse 28 = .ok (.iconst 5, 1) := by decide +kernel
theorem dX11_refuse_29 : decode cX11_refuse 29 = .ok (.iload_n 1, 1) := by decide +kernel
theorem dX11_refuse_30 : decode cX11_refuse 30 = .ok (.imul, 1) := by decide +kernel
theorem dX11_refuse_31 : decode cX11_refuse 31 = .ok (.iconst 3, 1) := by decide +kernel
theorem dX11_refuse_32 : decode cX11_refuse 32 = .ok (.iadd, 1) := by decide +kernel
theorem dX11_refuse_33 : decode cX11_refuse 33 = .ok (.iload_n 2, 1) := by decide +kernel
theorem dX11_refuse_34 : decode cX11_refuse 34 = .ok (.ifCond .eq 7, 3) := by decide +kernel
theorem dX11_refuse_37 : decode cX11_refuse 37 = .ok (.iconst 1, 1) := by decide +kernel
theorem dX11_refuse_38 : decode cX11_refuse 38 = .ok (.goto 4, 3) := by decide +kernel
theorem dX11_refuse_41 : decode cX11_refuse 41 = .ok (.iconst 0, 1) := by decide +kernel
theorem dX11_refuse_42 : decode cX11_refuse 42 = .ok (.iastore, 1) := by decide +kernel
theorem dX11_refuse_43 : decode cX11_refuse 43 = .ok (.iconst 1, 1) := by decide +kernel
theorem dX11_refuse_44 : decode cX11_refuse 44 = .ok (.ireturn, 1) := by decide +kernel
def w_X11_refuse (x1 : Int32) (x2 : Int32) (I : HI) (J : HJ) (Post : Bool → HI → Prop) : Prop :=
  ∀ I_1 : HI, I_1 = hI I 72 1 0 → (∀ I_2 : HI, I_2 = hI I_1 72 0 0 → (w_X11_isOne x1 I_2 J (fun (r_3 : Bool) => ((r_3 = true → ((x2 = 0 → (vp_in ((5 * x1) + 3) 60 ∧ (∀ I_4 : HI, I_4 = hI I_2 77 (Int32.toNatClampNeg ((5 * x1) + 3)) 0 → (Post true I_4)))) ∧ (¬ x2 = 0 → (vp_in ((5 * x1) + 3) 60 ∧ (∀ I_5 : HI, I_5 = hI I_2 77 (Int32.toNatClampNeg ((5 * x1) + 3)) 1 → (Post true I_5)))))) ∧ (r_3 = false → (w_X11_no 2 I_2 J (fun (r_6 : Bool) (I_7 : HI) => (Post r_6 I_7))))))))
set_option maxHeartbeats 4000000 in
set_option maxRecDepth 20000 in
theorem we_X11_refuse (g : kf_G) (hg : kf_g g) {x : kf_X} (hx : kf_ok g x RX11 cX11_refuse 3 2 46) (x1 : Int32) (x2 : Int32) (I : HI) (J : HJ) (Post : Bool → HI → Prop) (hret : ∀ (pc : Nat) (lv : List (Nat × Value)) (v : Bool) (Iy : HI), decode cX11_refuse pc = .ok (.ireturn, 1) → Post v Iy → kf_M g x 3 pc lv [.int (kb v)] Iy J) (h : w_X11_refuse x1 x2 I J Post) : kf_M g x 3 0 [(0, .ref (g.2.2.2 72)), (1, .int x1), (2, .int x2)] [] I J := by
  unfold w_X11_refuse at h
  refine kf_aload_n hx dX11_refuse_0 rfl 0 rfl ?_
  refine kf_iconst (v := 0) hx dX11_refuse_1 (by decide) ?_
  refine kf_putI hx sl_72_1 fl_RX11_106 fp_11_1 dX11_refuse_2 ?_
  refine kf_nmI (fun I_1 eI_1 => ?_)
  replace h := h I_1 eI_1
  refine kf_aload_n hx dX11_refuse_5 rfl 0 rfl ?_
  refine kf_iconst (v := 0) hx dX11_refuse_6 (by decide) ?_
  refine kf_putI hx sl_72_0 fl_RX11_109 fp_11_0 dX11_refuse_7 ?_
  refine kf_nmI (fun I_2 eI_2 => ?_)
  replace h := h I_2 eI_2
  refine kf_aload_n hx dX11_refuse_10 rfl 0 rfl ?_
  refine kf_iload_n hx dX11_refuse_11 rfl 1 rfl ?_
  refine kf_callVbP (st := []) hx (m_X11_isOne g hg x1 I_2 J _ h) lk_RX11_296 km_X11_isOne ob_72 rfl (by decide) rfl (Nat.le_of_ble_eq_true rfl) dX11_refuse_12 (fun r_3 h => ?_)
  refine kf_ifB_ne hx 24 dX11_refuse_15 (by decide) (fun c => ?_) (fun c => ?_)
  · replace h := h.1 c
    refine kf_aload_n hx dX11_refuse_24 rfl 0 rfl ?_
    refine kf_getR (n := 77) hx sl_72_24 fl_RX11_35 dX11_refuse_25 ?_
    refine kf_iconst (v := 5) hx dX11_refuse_28 (by decide) ?_
    refine kf_iload_n hx dX11_refuse_29 rfl 1 rfl ?_
    refine kf_imul hx dX11_refuse_30 ?_
    refine kf_iconst (v := 3) hx dX11_refuse_31 (by decide) ?_
    refine kf_iadd hx dX11_refuse_32 ?_
    refine kf_iload_n hx dX11_refuse_33 rfl 2 rfl ?_
    refine kf_if_eq hx 41 dX11_refuse_34 (by decide) (fun c => ?_) (fun c => ?_)
    · replace h := h.1 c
      refine kf_iconst (v := 0) hx dX11_refuse_41 (by decide) ?_
      refine kf_iast hx ar_77 h.1 dX11_refuse_42 ?_
      replace h := h.2
      refine kf_nmI (fun I_4 eI_4 => ?_)
      replace h := h I_4 eI_4
      refine kf_iconst (v := 1) hx dX11_refuse_43 (by decide) ?_
      exact hret _ _ true _ dX11_refuse_44 h
    · replace h := h.2 c
      refine kf_iconst (v := 1) hx dX11_refuse_37 (by decide) ?_
      refine kf_goto hx 42 dX11_refuse_38 (by decide) ?_
      refine kf_iast hx ar_77 h.1 dX11_refuse_42 ?_
      replace h := h.2
      refine kf_nmI (fun I_5 eI_5 => ?_)
      replace h := h I_5 eI_5
      refine kf_iconst (v := 1) hx dX11_refuse_43 (by decide) ?_
      exact hret _ _ true _ dX11_refuse_44 h
  · replace h := h.2 c
    refine kf_aload_n hx dX11_refuse_18 rfl 0 rfl ?_
    refine kf_iconst (v := 2) hx dX11_refuse_19 (by decide) ?_
    refine kf_callVbI (st := []) hx (m_X11_no g hg 2 I_2 J _ h) lk_RX11_121 km_X11_no ob_72 rfl (by decide) rfl (Nat.le_of_ble_eq_true rfl) dX11_refuse_20 (fun r_6 I_7 h => ?_)
    exact hret _ _ r_6 _ dX11_refuse_23 h
set_option maxHeartbeats 4000000 in
set_option maxRecDepth 20000 in
theorem m_X11_refuse (g : kf_G) (hg : kf_g g) (x1 : Int32) (x2 : Int32) (I : HI) (J : HJ) (Post : Bool → HI → Prop) (h : w_X11_refuse x1 x2 I J Post) : kf_Mb g yX11_refuse (kf_W yX11_refuse cX11_refuse 3 (Option.some Jvm.ClassFile.FieldType.boolean)) 2 46 [.ref (g.2.2.2 72), .int x1, .int x2] I J (fun v I' J' => Post v I' ∧ J' = J) :=
  kf_entb hg (by decide) (Nat.le_of_ble_eq_true rfl) rfl (fun x hx hr => we_X11_refuse g hg hx x1 x2 I J Post (fun pc lv v I' hd hP => hr pc lv v I' J hd ⟨hP, rfl⟩) h)
theorem dX11_weightOf_0 : decode cX11_weightOf 0 = .ok (.lconst 1, 1) := by decide +kernel
theorem dX11_weightOf_1 : decode cX11_weightOf 1 = .ok (.lstore_n 2, 1) := by decide +kernel
theorem dX11_weightOf_2 : decode cX11_weightOf 2 = .ok (.iconst 0, 1) := by decide +kernel
theorem dX11_weightOf_3 : decode cX11_weightOf 3 = .ok (.istore 4, 2) := by decide +kernel
theorem dX11_weightOf_5 : decode cX11_weightOf 5 = .ok (.iload 4, 2) := by decide +kernel
theorem dX11_weightOf_7 : decode cX11_weightOf 7 = .ok (.aload_n 0, 1) := by decide +kernel
theorem dX11_weightOf_8 : decode cX11_weightOf 8 = .ok (.getfield 290, 3) := by decide +kernel
theorem dX11_weightOf_11 : decode cX11_weightOf 11 = .ok (.if_icmp .ge 44, 3) := by decide +kernel
theorem dX11_weightOf_14 : decode cX11_weightOf 14 = .ok (.lload_n 2, 1) := by decide +kernel
theorem dX11_weightOf_15 : decode cX11_weightOf 15 = .ok (.iload_n 1, 1) := by decide +kernel
theorem dX11_weightOf_16 : decode cX11_weightOf 16 = .ok (.iload 4, 2) := by decide +kernel
theorem dX11_weightOf_18 : decode cX11_weightOf 18 = .ok (.ishr, 1) := by decide +kernel
theorem dX11_weightOf_19 : decode cX11_weightOf 19 = .ok (.iconst 1, 1) := by decide +kernel
theorem dX11_weightOf_20 : decode cX11_weightOf 20 = .ok (.iand, 1) := by decide +kernel
theorem dX11_weightOf_21 : decode cX11_weightOf 21 = .ok (.iconst 1, 1) := by decide +kernel
theorem dX11_weightOf_22 : decode cX11_weightOf 22 = .ok (.if_icmp .ne 14, 3) := by decide +kernel
theorem dX11_weightOf_25 : decode cX11_weightOf 25 = .ok (.aload_n 0, 1) := by decide +kernel
theorem dX11_weightOf_26 : decode cX11_weightOf 26 = .ok (.getfield 47, 3) := by decide +kernel
theorem dX11_weightOf_29 : decode cX11_weightOf 29 = .ok (.iload 4, 2) := by decide +kernel
theorem dX11_weightOf_31 : decode cX11_weightOf 31 = .ok (.iaload, 1) := by decide +kernel
theorem dX11_weightOf_32 : decode cX11_weightOf 32 = .ok (.i2l, 1) := by decide +kernel
theorem dX11_weightOf_33 : decode cX11_weightOf 33 = .ok (.goto 14, 3) := by decide +kernel
theorem dX11_weightOf_36 : decode cX11_weightOf 36 = .ok (.bipush 16, 2) := by decide +kernel
theorem dX11_weightOf_38 : decode cX11_weightOf 38 = .ok (.aload_n 0, 1) := by decide +kernel
theorem dX11_weightOf_39 : decode cX11_weightOf 39 = .ok (.getfield 47, 3) := by decide +kernel
theorem dX11_weightOf_42 : decode cX11_weightOf 42 = .ok (.iload 4, 2) := by decide +kernel
theorem dX11_weightOf_44 : decode cX11_weightOf 44 = .ok (.iaload, 1) := by decide +kernel
theorem dX11_weightOf_45 : decode cX11_weightOf 45 = .ok (.isub, 1) := by decide +kernel
theorem dX11_weightOf_46 : decode cX11_weightOf 46 = .ok (.i2l, 1) := by decide +kernel
theorem dX11_weightOf_47 : decode cX11_weightOf 47 = .ok (.lmul, 1) := by decide +kernel
theorem dX11_weightOf_48 : decode cX11_weightOf 48 = .ok (.lstore_n 2, 1) := by decide +kernel
theorem dX11_weightOf_49 : decode cX11_weightOf 49 = .ok (.iinc 4 1, 3) := by decide +kernel
theorem dX11_weightOf_52 : decode cX11_weightOf 52 = .ok (.goto (-47), 3) := by decide +kernel
theorem dX11_weightOf_55 : decode cX11_weightOf 55 = .ok (.lload_n 2, 1) := by decide +kernel
theorem dX11_weightOf_56 : decode cX11_weightOf 56 = .ok (.lreturn, 1) := by decide +kernel
def wb_X11_weightOf_5 (I : HI) (J : HJ) (x1 : Int32) (Post : Int64 → Prop) (E5 : Int64 → Prop) (K5 : (Int64 × Int32) → Prop) (s : Int64 × Int32) : Prop :=
  match s with
  | (x2, x4) => ((I 72 21) ≤ x4 → (E5 x2)) ∧ (¬ (I 72 21) ≤ x4 → ((¬ ((x1 >>> (x4 &&& 31)) &&& 1) = 1 → (vp_in x4 10 ∧ (∀ z_1 : Int64, z_1 = (x2 * (Int32.toInt64 (16 - (I 81 (Int32.toNatClampNeg x4))))) → (K5 (z_1, (x4 + 1)))))) ∧ (((x1 >>> (x4 &&& 31)) &&& 1) = 1 → (vp_in x4 10 ∧ (∀ z_2 : Int64, z_2 = (x2 * (Int32.toInt64 (I 81 (Int32.toNatClampNeg x4)))) → (K5 (z_2, (x4 + 1))))))))
set_option maxHeartbeats 4000000 in
set_option maxRecDepth 20000 in
theorem ws_X11_weightOf_5 (g : kf_G) (hg : kf_g g) {x : kf_X} (hx : kf_ok g x RX11 cX11_weightOf 5 0 0) (I : HI) (J : HJ) (x1 : Int32) (Post : Int64 → Prop) (hret : ∀ (pc : Nat) (lv : List (Nat × Value)) (v : Int64), decode cX11_weightOf pc = .ok (.lreturn, 1) → Post v → kf_M g x 5 pc lv [.long v] I J) (E5 : Int64 → Prop) (hE5 : ∀ (y2 : Int64), E5 y2 → kf_M g x 5 55 [(2, .long y2)] [] I J) (K5 : (Int64 × Int32) → Prop) (hK5 : ∀ (y2 : Int64) (y4 : Int32), K5 (y2, y4) → kf_M g x 5 5 [(0, .ref (g.2.2.2 72)), (1, .int x1), (2, .long y2), (4, .int y4)] [] I J) (x2 : Int64) (x4 : Int32) (h : wb_X11_weightOf_5 I J x1 Post E5 K5 (x2, x4)) : kf_M g x 5 5 [(0, .ref (g.2.2.2 72)), (1, .int x1), (2, .long x2), (4, .int x4)] [] I J := by
  unfold wb_X11_weightOf_5 at h
  refine kf_iload hx dX11_weightOf_5 3 rfl ?_
  refine kf_aload_n hx dX11_weightOf_7 rfl 0 rfl ?_
  refine kf_getI hx sl_72_21 fl_RX11_290 dX11_weightOf_8 ?_
  refine kf_icmp_ge hx 55 dX11_weightOf_11 (by decide) (fun c => ?_) (fun c => ?_)
  · replace h := h.1 c
    refine kf_sub [2] rfl ?_
    exact hE5 _ h
  · replace h := h.2 c
    refine kf_lload_n hx dX11_weightOf_14 rfl 2 rfl ?_
    refine kf_iload_n hx dX11_weightOf_15 rfl 1 rfl ?_
    refine kf_iload hx dX11_weightOf_16 3 rfl ?_
    refine kf_ishr hx dX11_weightOf_18 ?_
    refine kf_iconst (v := 1) hx dX11_weightOf_19 (by decide) ?_
    refine kf_iand hx dX11_weightOf_20 ?_
    refine kf_iconst (v := 1) hx dX11_weightOf_21 (by decide) ?_
    refine kf_icmp_ne hx 36 dX11_weightOf_22 (by decide) (fun c => ?_) (fun c => ?_)
    · replace h := h.1 c
      refine kf_bipush (v := 16) hx dX11_weightOf_36 (by decide) ?_
      refine kf_aload_n hx dX11_weightOf_38 rfl 0 rfl ?_
      refine kf_getR (n := 81) hx sl_72_28 fl_RX11_47 dX11_weightOf_39 ?_
      refine kf_iload hx dX11_weightOf_42 3 rfl ?_
      refine kf_iald hx ar_81 h.1 dX11_weightOf_44 ?_
      replace h := h.2
      refine kf_isub hx dX11_weightOf_45 ?_
      refine kf_i2l hx dX11_weightOf_46 ?_
      refine kf_lmul hx dX11_weightOf_47 ?_
      refine kf_topl (fun z_1 ez_1 => ?_)
      replace h := h z_1 ez_1
      refine kf_lstore_n (lv' := [(2, .long z_1), (0, .ref (g.2.2.2 72)), (1, .int x1), (4, .int x4)]) hx dX11_weightOf_48 rfl (by decide) rfl ?_
      refine kf_iinc (w := (x4 + 1)) (lv' := [(4, .int (x4 + 1)), (2, .long z_1), (0, .ref (g.2.2.2 72)), (1, .int x1)]) hx dX11_weightOf_49 3 rfl rfl (by decide) rfl ?_
      refine kf_goto hx 5 dX11_weightOf_52 (by decide) ?_
      refine kf_sub [2, 3, 1, 0] rfl ?_
      exact hK5 _ _ h
    · replace h := h.2 c
      refine kf_aload_n hx dX11_weightOf_25 rfl 0 rfl ?_
      refine kf_getR (n := 81) hx sl_72_28 fl_RX11_47 dX11_weightOf_26 ?_
      refine kf_iload hx dX11_weightOf_29 3 rfl ?_
      refine kf_iald hx ar_81 h.1 dX11_weightOf_31 ?_
      replace h := h.2
      refine kf_i2l hx dX11_weightOf_32 ?_
      refine kf_goto hx 47 dX11_weightOf_33 (by decide) ?_
      refine kf_lmul hx dX11_weightOf_47 ?_
      refine kf_topl (fun z_2 ez_2 => ?_)
      replace h := h z_2 ez_2
      refine kf_lstore_n (lv' := [(2, .long z_2), (0, .ref (g.2.2.2 72)), (1, .int x1), (4, .int x4)]) hx dX11_weightOf_48 rfl (by decide) rfl ?_
      refine kf_iinc (w := (x4 + 1)) (lv' := [(4, .int (x4 + 1)), (2, .long z_2), (0, .ref (g.2.2.2 72)), (1, .int x1)]) hx dX11_weightOf_49 3 rfl rfl (by decide) rfl ?_
      refine kf_goto hx 5 dX11_weightOf_52 (by decide) ?_
      refine kf_sub [2, 3, 1, 0] rfl ?_
      exact hK5 _ _ h
theorem wl_X11_weightOf_5 (g : kf_G) (hg : kf_g g) {x : kf_X} (hx : kf_ok g x RX11 cX11_weightOf 5 0 0) (I : HI) (J : HJ) (x1 : Int32) (Post : Int64 → Prop) (hret : ∀ (pc : Nat) (lv : List (Nat × Value)) (v : Int64), decode cX11_weightOf pc = .ok (.lreturn, 1) → Post v → kf_M g x 5 pc lv [.long v] I J) (E5 : Int64 → Prop) (hE5 : ∀ (y2 : Int64), E5 y2 → kf_M g x 5 55 [(2, .long y2)] [] I J) : ∀ (n : Nat) (x2 : Int64) (x4 : Int32), lp (wb_X11_weightOf_5 I J x1 Post E5) n (x2, x4) → kf_M g x 5 5 [(0, .ref (g.2.2.2 72)), (1, .int x1), (2, .long x2), (4, .int x4)] [] I J := by
  intro n
  induction n with
  | zero => intro x2 x4 h; exact h.elim
  | succ n ih => intro x2 x4 h; exact ws_X11_weightOf_5 g hg hx I J x1 Post hret E5 hE5 (lp (wb_X11_weightOf_5 I J x1 Post E5) n) ih x2 x4 h
def w_X11_weightOf (x1 : Int32) (I : HI) (J : HJ) (Post : Int64 → Prop) : Prop :=
  ∃ n, lp (wb_X11_weightOf_5 I J x1 Post (fun (x2_3 : Int64) => Post x2_3)) n (1, 0)
set_option maxHeartbeats 4000000 in
set_option maxRecDepth 20000 in
theorem we_X11_weightOf (g : kf_G) (hg : kf_g g) {x : kf_X} (hx : kf_ok g x RX11 cX11_weightOf 5 0 0) (x1 : Int32) (I : HI) (J : HJ) (Post : Int64 → Prop) (hret : ∀ (pc : Nat) (lv : List (Nat × Value)) (v : Int64), decode cX11_weightOf pc = .ok (.lreturn, 1) → Post v → kf_M g x 5 pc lv [.long v] I J) (h : w_X11_weightOf x1 I J Post) : kf_M g x 5 0 [(0, .ref (g.2.2.2 72)), (1, .int x1)] [] I J := by
  unfold w_X11_weightOf at h
  refine kf_lconst (v := 1) hx dX11_weightOf_0 (by decide) ?_
  refine kf_lstore_n (lv' := [(2, .long 1), (0, .ref (g.2.2.2 72)), (1, .int x1)]) hx dX11_weightOf_1 rfl (by decide) rfl ?_
  refine kf_iconst (v := 0) hx dX11_weightOf_2 (by decide) ?_
  refine kf_istore (lv' := [(4, .int 0), (2, .long 1), (0, .ref (g.2.2.2 72)), (1, .int x1)]) hx dX11_weightOf_3 (by decide) rfl ?_
  obtain ⟨n, h⟩ := h
  refine kf_sub [2, 3, 1, 0] rfl ?_
  refine wl_X11_weightOf_5 g hg hx I J x1 _ hret _ (fun x2_3 h => ?_) n _ _ h
  refine kf_lload_n hx dX11_weightOf_55 rfl 0 rfl ?_
  exact hret _ _ x2_3  dX11_weightOf_56 h
set_option maxHeartbeats 4000000 in
set_option maxRecDepth 20000 in
theorem m_X11_weightOf (g : kf_G) (hg : kf_g g) (x1 : Int32) (I : HI) (J : HJ) (Post : Int64 → Prop) (h : w_X11_weightOf x1 I J Post) : kf_Ml g yX11_weightOf (kf_W yX11_weightOf cX11_weightOf 5 (Option.some Jvm.ClassFile.FieldType.long)) 0 0 [.ref (g.2.2.2 72), .int x1] I J (fun v I' J' => Post v ∧ I' = I ∧ J' = J) :=
  kf_entl hg (by decide) (Nat.le_of_ble_eq_true rfl) rfl (fun x hx hr => we_X11_weightOf g hg hx x1 I J Post (fun pc lv v hd hP => hr pc lv v I J hd ⟨hP, rfl, rfl⟩) h)
theorem dX11_weight_0 : decode cX11_weight 0 = .ok (.aload_n 0, 1) := by decide +kernel
theorem dX11_weight_1 : decode cX11_weight 1 = .ok (.iconst 0, 1) := by decide +kernel
theorem dX11_weight_2 : decode cX11_weight 2 = .ok (.putfield 106, 3) := by decide +kernel
theorem dX11_weight_5 : decode cX11_weight 5 = .ok (.aload_n 0, 1) := by decide +kernel
theorem dX11_weight_6 : decode cX11_weight 6 = .ok (.iconst 0, 1) := by decide +kernel
theorem dX11_weight_7 : decode cX11_weight 7 = .ok (.putfield 109, 3) := by decide +kernel
theorem dX11_weight_10 : decode cX11_weight 10 = .ok (.aload_n 0, 1) := by decide +kernel
theorem dX11_weight_11 : decode cX11_weight 11 = .ok (.iload_n 1, 1) := by decide +kernel
theorem dX11_weight_12 : decode cX11_weight 12 = .ok (.invokevirtual 301, 3) := by decide +kernel
theorem dX11_weight_15 : decode cX11_weight 15 = .ok (.ifCond .eq 11, 3) := by decide +kernel
theorem dX11_weight_18 : decode cX11_weight 18 = .ok (.aload_n 0, 1) := by decide +kernel
theorem dX11_weight_19 : decode cX11_weight 19 = .ok (.iload_n 1, 1) := by decide +kernel
theorem dX11_weight_20 : decode cX11_weight 20 = .ok (.invokevirtual 304, 3) := by decide +kernel
theorem dX11_weight_23 : decode cX11_weight 23 = .ok (.goto 9, 3) := by decide +kernel
theorem dX11_weight_26 : decode cX11_weight 26 = .ok (.aload_n 0, 1) := by decide +kernel
theorem dX11_weight_27 : decode cX11_weight 27 = .ok (.iconst 2, 1) := by decide +kernel
theorem dX11_weight_28 : decode cX11_weight 28 = .ok (.invokevirtual 272, 3) := by decide +kernel
theorem dX11_weight_31 : decode cX11_weight 31 = .ok (.i2l, 1) := by decide +kernel
theorem dX11_weight_32 : decode cX11_weight 32 = .ok (.lreturn, 1) := by decide +kernel
def w_X11_weight (x1 : Int32) (I : HI) (J : HJ) (Post : Int64 → HI → Prop) : Prop :=
  ∀ I_1 : HI, I_1 = hI I 72 1 0 → (∀ I_2 : HI, I_2 = hI I_1 72 0 0 → (w_X11_isLot x1 I_2 J (fun (r_3 : Bool) => ((r_3 = false → (w_X11_refusedBy 2 I_2 J (fun (r_4 : Int32) (I_5 : HI) => (Post (Int32.toInt64 r_4) I_5)))) ∧ (r_3 = true → (w_X11_weightOf x1 I_2 J (fun (r_6 : Int64) => (Post r_6 I_2))))))))
set_option maxHeartbeats 4000000 in
set_option maxRecDepth 20000 in
theorem we_X11_weight (g : kf_G) (hg : kf_g g) {x : kf_X} (hx : kf_ok g x RX11 cX11_weight 2 2 46) (x1 : Int32) (I : HI) (J : HJ) (Post : Int64 → HI → Prop) (hret : ∀ (pc : Nat) (lv : List (Nat × Value)) (v : Int64) (Iy : HI), decode cX11_weight pc = .ok (.lreturn, 1) → Post v Iy → kf_M g x 2 pc lv [.long v] Iy J) (h : w_X11_weight x1 I J Post) : kf_M g x 2 0 [(0, .ref (g.2.2.2 72)), (1, .int x1)] [] I J := by
  unfold w_X11_weight at h
  refine kf_aload_n hx dX11_weight_0 rfl 0 rfl ?_
  refine kf_iconst (v := 0) hx dX11_weight_1 (by decide) ?_
  refine kf_putI hx sl_72_1 fl_RX11_106 fp_11_1 dX11_weight_2 ?_
  refine kf_nmI (fun I_1 eI_1 => ?_)
  replace h := h I_1 eI_1
  refine kf_aload_n hx dX11_weight_5 rfl 0 rfl ?_
  refine kf_iconst (v := 0) hx dX11_weight_6 (by decide) ?_
  refine kf_putI hx sl_72_0 fl_RX11_109 fp_11_0 dX11_weight_7 ?_
  refine kf_nmI (fun I_2 eI_2 => ?_)
  replace h := h I_2 eI_2
  refine kf_aload_n hx dX11_weight_10 rfl 0 rfl ?_
  refine kf_iload_n hx dX11_weight_11 rfl 1 rfl ?_
  refine kf_callVbP (st := []) hx (m_X11_isLot g hg x1 I_2 J _ h) lk_RX11_301 km_X11_isLot ob_72 rfl (by decide) rfl (Nat.le_of_ble_eq_true rfl) dX11_weight_12 (fun r_3 h => ?_)
  refine kf_ifB_eq hx 26 dX11_weight_15 (by decide) (fun c => ?_) (fun c => ?_)
  · replace h := h.1 c
    refine kf_aload_n hx dX11_weight_26 rfl 0 rfl ?_
    refine kf_iconst (v := 2) hx dX11_weight_27 (by decide) ?_
    refine kf_callViI (st := []) hx (m_X11_refusedBy g hg 2 I_2 J _ h) lk_RX11_272 km_X11_refusedBy ob_72 rfl (by decide) rfl (Nat.le_of_ble_eq_true rfl) dX11_weight_28 (fun r_4 I_5 h => ?_)
    refine kf_i2l hx dX11_weight_31 ?_
    exact hret _ _ (Int32.toInt64 r_4) _ dX11_weight_32 h
  · replace h := h.2 c
    refine kf_aload_n hx dX11_weight_18 rfl 0 rfl ?_
    refine kf_iload_n hx dX11_weight_19 rfl 1 rfl ?_
    refine kf_callVlP (st := []) hx (m_X11_weightOf g hg x1 I_2 J _ h) lk_RX11_304 km_X11_weightOf ob_72 rfl (by decide) rfl (Nat.le_of_ble_eq_true rfl) dX11_weight_20 (fun r_6 h => ?_)
    refine kf_goto hx 32 dX11_weight_23 (by decide) ?_
    exact hret _ _ r_6 _ dX11_weight_32 h
set_option maxHeartbeats 4000000 in
set_option maxRecDepth 20000 in
theorem m_X11_weight (g : kf_G) (hg : kf_g g) (x1 : Int32) (I : HI) (J : HJ) (Post : Int64 → HI → Prop) (h : w_X11_weight x1 I J Post) : kf_Ml g yX11_weight (kf_W yX11_weight cX11_weight 2 (Option.some Jvm.ClassFile.FieldType.long)) 2 46 [.ref (g.2.2.2 72), .int x1] I J (fun v I' J' => Post v I' ∧ J' = J) :=
  kf_entl hg (by decide) (Nat.le_of_ble_eq_true rfl) rfl (fun x hx hr => we_X11_weight g hg hx x1 I J Post (fun pc lv v I' hd hP => hr pc lv v I' J hd ⟨hP, rfl⟩) h)
theorem dX11_reach_0 : decode cX11_reach 0 = .ok (.iload_n 1, 1) := by decide +kernel
theorem dX11_reach_1 : decode cX11_reach 1 = .ok (.istore_n 3, 1) := by decide +kernel
theorem dX11_reach_2 : decode cX11_reach 2 = .ok (.iconst 1, 1) := by decide +kernel
theorem dX11_reach_3 : decode cX11_reach 3 = .ok (.istore 4, 2) := by decide +kernel
theorem dX11_reach_5 : decode cX11_reach 5 = .ok (.iload 4, 2) := by decide +kernel
theorem dX11_reach_7 : decode cX11_reach 7 = .ok (.ifCond .eq 141, 3) := by decide +kernel
theorem dX11_reach_10 : decode cX11_reach 10 = .ok (.iconst 0, 1) := by decide +kernel
theorem dX11_reach_11 : decode cX11_reach 11 = .ok (.istore 4, 2) := by decide +kernel
theorem dX11_reach_13 : decode cX11_reach 13 = .ok (.iconst 0, 1) := by decide +kernel
theorem dX11_reach_14 : decode cX11_reach 14 = .ok (.istore 5, 2) := by decide +kernel
theorem dX11_reach_16 : decode cX11_reach 16 = .ok (.iload 5, 2) := by decide +kernel
theorem dX11_reach_18 : decode cX11_reach 18 = .ok (.aload_n 0, 1) := by decide +kernel
theorem dX11_reach_19 : decode cX11_reach 19 = .ok (.getfield 287, 3) := by decide +kernel
theorem dX11_reach_22 : decode cX11_reach 22 = .ok (.if_icmp .ge 123, 3) := by decide +kernel
theorem dX11_reach_25 : decode cX11_reach 25 = .ok (.iload_n 3, 1) := by decide +kernel
theorem dX11_reach_26 : decode cX11_reach 26 = .ok (.iload 5, 2) := by decide +kernel
theorem dX11_reach_28 : decode cX11_reach 28 = .ok (.ishr, 1) := by decide +kernel
theorem dX11_reach_29 : decode cX11_reach 29 = .ok (.iconst 1, 1) := by decide +kernel
theorem dX11_reach_30 : decode cX11_reach 30 = .ok (.iand, 1) := by decide +kernel
theorem dX11_reach_31 : decode cX11_reach 31 = .ok (.iconst 1, 1) := by decide +kernel
theorem dX11_reach_32 : decode cX11_reach 32 = .ok (.if_icmp .eq 107, 3) := by decide +kernel
theorem dX11_reach_35 : decode cX11_reach 35 = .ok (.aload_n 0, 1) := by decide +kernel
theorem dX11_reach_36 : decode cX11_reach 36 = .ok (.iload 5, 2) := by decide +kernel
theorem dX11_reach_38 : decode cX11_reach 38 = .ok (.invokevirtual 308, 3) := by decide +kernel
theorem dX11_reach_41 : decode cX11_reach 41 = .ok (.ifCond .eq 6, 3) := by decide +kernel
theorem dX11_reach_44 : decode cX11_reach 44 = .ok (.goto 95, 3) := by decide +kernel
theorem dX11_reach_47 : decode cX11_reach 47 = .ok (.iconst 0, 1) := by decide +kernel
theorem dX11_reach_48 : decode cX11_reach 48 = .ok (.istore 6, 2) := by decide +kernel
theorem dX11_reach_50 : decode cX11_reach 50 = .ok (.iconst 0, 1) := by decide +kernel
theorem dX11_reach_51 : decode cX11_reach 51 = .ok (.istore 7, 2) := by decide +kernel
theorem dX11_reach_53 : decode cX11_reach 53 = .ok (.iload 7, 2) := by decide +kernel
theorem dX11_reach_55 : decode cX11_reach 55 = .ok (.aload_n 0, 1) := by decide +kernel
theorem dX11_reach_56 : decode cX11_reach 56 = .ok (.getfield 290, 3) := by decide +kernel
theorem dX11_reach_59 : decode cX11_reach 59 = .ok (.if_icmp .ge 56, 3) := by decide +kernel
theorem dX11_reach_62 : decode cX11_reach 62 = .ok (.iload 6, 2) := by decide +kernel
theorem dX11_reach_64 : decode cX11_reach 64 = .ok (.aload_n 0, 1) := by decide +kernel
theorem dX11_reach_65 : decode cX11_reach 65 = .ok (.getfield 44, 3) := by decide +kernel
theorem dX11_reach_68 : decode cX11_reach 68 = .ok (.iload 7, 2) := by decide +kernel
theorem dX11_reach_70 : decode cX11_reach 70 = .ok (.iaload, 1) := by decide +kernel
theorem dX11_reach_71 : decode cX11_reach 71 = .ok (.iload 5, 2) := by decide +kernel
theorem dX11_reach_73 : decode cX11_reach 73 = .ok (.if_icmp .ne 32, 3) := by decide +kernel
theorem dX11_reach_76 : decode cX11_reach 76 = .ok (.iload_n 2, 1) := by decide +kernel
theorem dX11_reach_77 : decode cX11_reach 77 = .ok (.iload 7, 2) := by decide +kernel
theorem dX11_reach_79 : decode cX11_reach 79 = .ok (.ishr, 1) := by decide +kernel
theorem dX11_reach_80 : decode cX11_reach 80 = .ok (.iconst 1, 1) := by decide +kernel
theorem dX11_reach_81 : decode cX11_reach 81 = .ok (.iand, 1) := by decide +kernel
theorem dX11_reach_82 : decode cX11_reach 82 = .ok (.iconst 1, 1) := by decide +kernel
theorem dX11_reach_83 : decode cX11_reach 83 = .ok (.if_icmp .ne 22, 3) := by decide +kernel
theorem dX11_reach_86 : decode cX11_reach 86 = .ok (.iload_n 3, 1) := by decide +kernel
theorem dX11_reach_87 : decode cX11_reach 87 = .ok (.aload_n 0, 1) := by decide +kernel
theorem dX11_reach_88 : decode cX11_reach 88 = .ok (.getfield 41, 3) := by decide +kernel
theorem dX11_reach_91 : decode cX11_reach 91 = .ok (.iload 7, 2) := by decide +kernel
theorem dX11_reach_93 : decode cX11_reach 93 = .ok (.iaload, 1) := by decide +kernel
theorem dX11_reach_94 : decode cX11_reach 94 = .ok (.ishr, 1) := by decide +kernel
theorem dX11_reach_95 : decode cX11_reach 95 = .ok (.iconst 1, 1) := by decide +kernel
theorem dX11_reach_96 : decode cX11_reach 96 = .ok (.iand, 1) := by decide +kernel
theorem dX11_reach_97 : decode cX11_reach 97 = .ok (.iconst 1, 1) := by decide +kernel
theorem dX11_reach_98 : decode cX11_reach 98 = .ok (.if_icmp .ne 7, 3) := by decide +kernel
theorem dX11_reach_101 : decode cX11_reach 101 = .ok (.iconst 1, 1) := by decide +kernel
theorem dX11_reach_102 : decode cX11_reach 102 = .ok (.goto 4, 3) := by decide +kernel
theorem dX11_reach_105 : decode cX11_reach 105 = .ok (.iconst 0, 1) := by decide +kernel
theorem dX11_reach_106 : decode cX11_reach 106 = .ok (.iadd, 1) := by decide +kernel
theorem dX11_reach_107 : decode cX11_reach 107 = .ok (.istore 6, 2) := by decide +kernel
theorem dX11_reach_109 : decode cX11_reach 109 = .ok (.iinc 7 1, 3) := by decide +kernel
theorem dX11_reach_112 : decode cX11_reach 112 = .ok (.goto (-59), 3) := by decide +kernel
theorem dX11_reach_115 : decode cX11_reach 115 = .ok (.iload 6, 2) := by decide +kernel
theorem dX11_reach_117 : decode cX11_reach 117 = .ok (.aload_n 0, 1) := by decide +kernel
theorem dX11_reach_118 : decode cX11_reach 118 = .ok (.iload 5, 2) := by decide +kernel
theorem dX11_reach_120 : decode cX11_reach 120 = .ok (.invokevirtual 311, 3) := by decide +kernel
theorem dX11_reach_123 : decode cX11_reach 123 = .ok (.if_icmp .ge 6, 3) := by decide +kernel
theorem dX11_reach_126 : decode cX11_reach 126 = .ok (.goto 13, 3) := by decide +kernel
theorem dX11_reach_129 : decode cX11_reach 129 = .ok (.iload_n 3, 1) := by decide +kernel
theorem dX11_reach_130 : decode cX11_reach 130 = .ok (.iconst 1, 1) := by decide +kernel
theorem dX11_reach_131 : decode cX11_reach 131 = .ok (.iload 5, 2) := by decide +kernel
theorem dX11_reach_133 : decode cX11_reach 133 = .ok (.ishl, 1) := by decide +kernel
theorem dX11_reach_134 : decode cX11_reach 134 = .ok (.ior, 1) := by decide +kernel
theorem dX11_reach_135 : decode cX11_reach 135 = .ok (.istore_n 3, 1) := by decide +kernel
theorem dX11_reach_136 : decode cX11_reach 136 = .ok (.iconst 1, 1) := by decide +kernel
theorem dX11_reach_137 : decode cX11_reach 137 = .ok (.istore 4, 2) := by decide +kernel
theorem dX11_reach_139 : decode cX11_reach 139 = .ok (.iinc 5 1, 3) := by decide +kernel
theorem dX11_reach_142 : decode cX11_reach 142 = .ok (.goto (-126), 3) := by decide +kernel
theorem dX11_reach_145 : decode cX11_reach 145 = .ok (.goto (-140), 3) := by decide +kernel
theorem dX11_reach_148 : decode cX11_reach 148 = .ok (.iload_n 3, 1) := by decide +kernel
theorem dX11_reach_149 : decode cX11_reach 149 = .ok (.ireturn, 1) := by decide +kernel
def wb_X11_reach_53 (I : HI) (J : HJ) (x2 : Int32) (x3 : Int32) (x4 : Int32) (x5 : Int32) (E5 : Int32 → Prop) (K5 : Int32 × Int32 → Prop) (E16 : Int32 → Int32 → Prop) (K16 : Int32 × Int32 × Int32 → Prop) (Post : Int32 → Prop) (E53 : Int32 → Prop) (K53 : (Int32 × Int32) → Prop) (s : Int32 × Int32) : Prop :=
  match s with
  | (x6, x7) => ((I 72 21) ≤ x7 → (E53 x6)) ∧ (¬ (I 72 21) ≤ x7 → (vp_in x7 10 ∧ ((¬ (I 80 (Int32.toNatClampNeg x7)) = x5 → (K53 ((x6 + 0), (x7 + 1)))) ∧ ((I 80 (Int32.toNatClampNeg x7)) = x5 → ((¬ ((x2 >>> (x7 &&& 31)) &&& 1) = 1 → (K53 ((x6 + 0), (x7 + 1)))) ∧ (((x2 >>> (x7 &&& 31)) &&& 1) = 1 → (vp_in x7 10 ∧ ((¬ ((x3 >>> ((I 79 (Int32.toNatClampNeg x7)) &&& 31)) &&& 1) = 1 → (K53 ((x6 + 0), (x7 + 1)))) ∧ (((x3 >>> ((I 79 (Int32.toNatClampNeg x7)) &&& 31)) &&& 1) = 1 → (K53 ((x6 + 1), (x7 + 1))))))))))))
set_option maxHeartbeats 4000000 in
set_option maxRecDepth 20000 in
theorem ws_X11_reach_53 (g : kf_G) (hg : kf_g g) {x : kf_X} (hx : kf_ok g x RX11 cX11_reach 8 1 21) (I : HI) (J : HJ) (x2 : Int32) (x3 : Int32) (x4 : Int32) (x5 : Int32) (E5 : Int32 → Prop) (K5 : Int32 × Int32 → Prop) (E16 : Int32 → Int32 → Prop) (K16 : Int32 × Int32 × Int32 → Prop) (hE5 : ∀ (y3 : Int32), E5 y3 → kf_M g x 8 148 [(3, .int y3)] [] I J) (hK5 : ∀ (y3 : Int32) (y4 : Int32), K5 (y3, y4) → kf_M g x 8 5 [(0, .ref (g.2.2.2 72)), (2, .int x2), (3, .int y3), (4, .int y4)] [] I J) (hE16 : ∀ (y3 : Int32) (y4 : Int32), E16 y3 y4 → kf_M g x 8 145 [(0, .ref (g.2.2.2 72)), (2, .int x2), (3, .int y3), (4, .int y4)] [] I J) (hK16 : ∀ (y3 : Int32) (y4 : Int32) (y5 : Int32), K16 (y3, y4, y5) → kf_M g x 8 16 [(0, .ref (g.2.2.2 72)), (2, .int x2), (3, .int y3), (4, .int y4), (5, .int y5)] [] I J) (Post : Int32 → Prop) (hret : ∀ (pc : Nat) (lv : List (Nat × Value)) (v : Int32), decode cX11_reach pc = .ok (.ireturn, 1) → Post v → kf_M g x 8 pc lv [.int v] I J) (E53 : Int32 → Prop) (hE53 : ∀ (y6 : Int32), E53 y6 → kf_M g x 8 115 [(0, .ref (g.2.2.2 72)), (2, .int x2), (3, .int x3), (4, .int x4), (5, .int x5), (6, .int y6)] [] I J) (K53 : (Int32 × Int32) → Prop) (hK53 : ∀ (y6 : Int32) (y7 : Int32), K53 (y6, y7) → kf_M g x 8 53 [(0, .ref (g.2.2.2 72)), (2, .int x2), (3, .int x3), (4, .int x4), (5, .int x5), (6, .int y6), (7, .int y7)] [] I J) (x6 : Int32) (x7 : Int32) (h : wb_X11_reach_53 I J x2 x3 x4 x5 E5 K5 E16 K16 Post E53 K53 (x6, x7)) : kf_M g x 8 53 [(0, .ref (g.2.2.2 72)), (2, .int x2), (3, .int x3), (4, .int x4), (5, .int x5), (6, .int x6), (7, .int x7)] [] I J := by
  unfold wb_X11_reach_53 at h
  refine kf_iload hx dX11_reach_53 6 rfl ?_
  refine kf_aload_n hx dX11_reach_55 rfl 0 rfl ?_
  refine kf_getI hx sl_72_21 fl_RX11_290 dX11_reach_56 ?_
  refine kf_icmp_ge hx 115 dX11_reach_59 (by decide) (fun c => ?_) (fun c => ?_)
  · replace h := h.1 c
    refine kf_sub [0, 1, 2, 3, 4, 5] rfl ?_
    exact hE53 _ h
  · replace h := h.2 c
    refine kf_iload hx dX11_reach_62 5 rfl ?_
    refine kf_aload_n hx dX11_reach_64 rfl 0 rfl ?_
    refine kf_getR (n := 80) hx sl_72_27 fl_RX11_44 dX11_reach_65 ?_
    refine kf_iload hx dX11_reach_68 6 rfl ?_
    refine kf_iald hx ar_80 h.1 dX11_reach_70 ?_
    replace h := h.2
    refine kf_iload hx dX11_reach_71 4 rfl ?_
    refine kf_icmp_ne hx 105 dX11_reach_73 (by decide) (fun c => ?_) (fun c => ?_)
    · replace h := h.1 c
      refine kf_iconst (v := 0) hx dX11_reach_105 (by decide) ?_
      refine kf_iadd hx dX11_reach_106 ?_
      refine kf_istore (lv' := [(6, .int (x6 + 0)), (0, .ref (g.2.2.2 72)), (2, .int x2), (3, .int x3), (4, .int x4), (5, .int x5), (7, .int x7)]) hx dX11_reach_107 (by decide) rfl ?_
      refine kf_iinc (w := (x7 + 1)) (lv' := [(7, .int (x7 + 1)), (6, .int (x6 + 0)), (0, .ref (g.2.2.2 72)), (2, .int x2), (3, .int x3), (4, .int x4), (5, .int x5)]) hx dX11_reach_109 6 rfl rfl (by decide) rfl ?_
      refine kf_goto hx 53 dX11_reach_112 (by decide) ?_
      refine kf_sub [2, 3, 4, 5, 6, 1, 0] rfl ?_
      exact hK53 _ _ h
    · replace h := h.2 c
      refine kf_iload_n hx dX11_reach_76 rfl 1 rfl ?_
      refine kf_iload hx dX11_reach_77 6 rfl ?_
      refine kf_ishr hx dX11_reach_79 ?_
      refine kf_iconst (v := 1) hx dX11_reach_80 (by decide) ?_
      refine kf_iand hx dX11_reach_81 ?_
      refine kf_iconst (v := 1) hx dX11_reach_82 (by decide) ?_
      refine kf_icmp_ne hx 105 dX11_reach_83 (by decide) (fun c => ?_) (fun c => ?_)
      · replace h := h.1 c
        refine kf_iconst (v := 0) hx dX11_reach_105 (by decide) ?_
        refine kf_iadd hx dX11_reach_106 ?_
        refine kf_istore (lv' := [(6, .int (x6 + 0)), (0, .ref (g.2.2.2 72)), (2, .int x2), (3, .int x3), (4, .int x4), (5, .int x5), (7, .int x7)]) hx dX11_reach_107 (by decide) rfl ?_
        refine kf_iinc (w := (x7 + 1)) (lv' := [(7, .int (x7 + 1)), (6, .int (x6 + 0)), (0, .ref (g.2.2.2 72)), (2, .int x2), (3, .int x3), (4, .int x4), (5, .int x5)]) hx dX11_reach_109 6 rfl rfl (by decide) rfl ?_
        refine kf_goto hx 53 dX11_reach_112 (by decide) ?_
        refine kf_sub [2, 3, 4, 5, 6, 1, 0] rfl ?_
        exact hK53 _ _ h
      · replace h := h.2 c
        refine kf_iload_n hx dX11_reach_86 rfl 2 rfl ?_
        refine kf_aload_n hx dX11_reach_87 rfl 0 rfl ?_
        refine kf_getR (n := 79) hx sl_72_26 fl_RX11_41 dX11_reach_88 ?_
        refine kf_iload hx dX11_reach_91 6 rfl ?_
        refine kf_iald hx ar_79 h.1 dX11_reach_93 ?_
        replace h := h.2
        refine kf_ishr hx dX11_reach_94 ?_
        refine kf_iconst (v := 1) hx dX11_reach_95 (by decide) ?_
        refine kf_iand hx dX11_reach_96 ?_
        refine kf_iconst (v := 1) hx dX11_reach_97 (by decide) ?_
        refine kf_icmp_ne hx 105 dX11_reach_98 (by decide) (fun c => ?_) (fun c => ?_)
        · replace h := h.1 c
          refine kf_iconst (v := 0) hx dX11_reach_105 (by decide) ?_
          refine kf_iadd hx dX11_reach_106 ?_
          refine kf_istore (lv' := [(6, .int (x6 + 0)), (0, .ref (g.2.2.2 72)), (2, .int x2), (3, .int x3), (4, .int x4), (5, .int x5), (7, .int x7)]) hx dX11_reach_107 (by decide) rfl ?_
          refine kf_iinc (w := (x7 + 1)) (lv' := [(7, .int (x7 + 1)), (6, .int (x6 + 0)), (0, .ref (g.2.2.2 72)), (2, .int x2), (3, .int x3), (4, .int x4), (5, .int x5)]) hx dX11_reach_109 6 rfl rfl (by decide) rfl ?_
          refine kf_goto hx 53 dX11_reach_112 (by decide) ?_
          refine kf_sub [2, 3, 4, 5, 6, 1, 0] rfl ?_
          exact hK53 _ _ h
        · replace h := h.2 c
          refine kf_iconst (v := 1) hx dX11_reach_101 (by decide) ?_
          refine kf_goto hx 106 dX11_reach_102 (by decide) ?_
          refine kf_iadd hx dX11_reach_106 ?_
          refine kf_istore (lv' := [(6, .int (x6 + 1)), (0, .ref (g.2.2.2 72)), (2, .int x2), (3, .int x3), (4, .int x4), (5, .int x5), (7, .int x7)]) hx dX11_reach_107 (by decide) rfl ?_
          refine kf_iinc (w := (x7 + 1)) (lv' := [(7, .int (x7 + 1)), (6, .int (x6 + 1)), (0, .ref (g.2.2.2 72)), (2, .int x2), (3, .int x3), (4, .int x4), (5, .int x5)]) hx dX11_reach_109 6 rfl rfl (by decide) rfl ?_
          refine kf_goto hx 53 dX11_reach_112 (by decide) ?_
          refine kf_sub [2, 3, 4, 5, 6, 1, 0] rfl ?_
          exact hK53 _ _ h
theorem wl_X11_reach_53 (g : kf_G) (hg : kf_g g) {x : kf_X} (hx : kf_ok g x RX11 cX11_reach 8 1 21) (I : HI) (J : HJ) (x2 : Int32) (x3 : Int32) (x4 : Int32) (x5 : Int32) (E5 : Int32 → Prop) (K5 : Int32 × Int32 → Prop) (E16 : Int32 → Int32 → Prop) (K16 : Int32 × Int32 × Int32 → Prop) (hE5 : ∀ (y3 : Int32), E5 y3 → kf_M g x 8 148 [(3, .int y3)] [] I J) (hK5 : ∀ (y3 : Int32) (y4 : Int32), K5 (y3, y4) → kf_M g x 8 5 [(0, .ref (g.2.2.2 72)), (2, .int x2), (3, .int y3), (4, .int y4)] [] I J) (hE16 : ∀ (y3 : Int32) (y4 : Int32), E16 y3 y4 → kf_M g x 8 145 [(0, .ref (g.2.2.2 72)), (2, .int x2), (3, .int y3), (4, .int y4)] [] I J) (hK16 : ∀ (y3 : Int32) (y4 : Int32) (y5 : Int32), K16 (y3, y4, y5) → kf_M g x 8 16 [(0, .ref (g.2.2.2 72)), (2, .int x2), (3, .int y3), (4, .int y4), (5, .int y5)] [] I J) (Post : Int32 → Prop) (hret : ∀ (pc : Nat) (lv : List (Nat × Value)) (v : Int32), decode cX11_reach pc = .ok (.ireturn, 1) → Post v → kf_M g x 8 pc lv [.int v] I J) (E53 : Int32 → Prop) (hE53 : ∀ (y6 : Int32), E53 y6 → kf_M g x 8 115 [(0, .ref (g.2.2.2 72)), (2, .int x2), (3, .int x3), (4, .int x4), (5, .int x5), (6, .int y6)] [] I J) : ∀ (n : Nat) (x6 : Int32) (x7 : Int32), lp (wb_X11_reach_53 I J x2 x3 x4 x5 E5 K5 E16 K16 Post E53) n (x6, x7) → kf_M g x 8 53 [(0, .ref (g.2.2.2 72)), (2, .int x2), (3, .int x3), (4, .int x4), (5, .int x5), (6, .int x6), (7, .int x7)] [] I J := by
  intro n
  induction n with
  | zero => intro x6 x7 h; exact h.elim
  | succ n ih => intro x6 x7 h; exact ws_X11_reach_53 g hg hx I J x2 x3 x4 x5 E5 K5 E16 K16 hE5 hK5 hE16 hK16 Post hret E53 hE53 (lp (wb_X11_reach_53 I J x2 x3 x4 x5 E5 K5 E16 K16 Post E53) n) ih x6 x7 h
def wb_X11_reach_16 (I : HI) (J : HJ) (x2 : Int32) (E5 : Int32 → Prop) (K5 : Int32 × Int32 → Prop) (Post : Int32 → Prop) (E16 : Int32 → Int32 → Prop) (K16 : (Int32 × Int32 × Int32) → Prop) (s : Int32 × Int32 × Int32) : Prop :=
  match s with
  | (x3, x4, x5) => ((I 72 20) ≤ x5 → (E16 x3 x4)) ∧ (¬ (I 72 20) ≤ x5 → ((((x3 >>> (x5 &&& 31)) &&& 1) = 1 → (K16 (x3, x4, (x5 + 1)))) ∧ (¬ ((x3 >>> (x5 &&& 31)) &&& 1) = 1 → (w_X11_isStubborn x5 I J (fun (r_1 : Bool) => ((r_1 = false → (∃ n, lp (wb_X11_reach_53 I J x2 x3 x4 x5 E5 K5 E16 K16 Post (fun (x6_2 : Int32) => w_X11_needs x5 I J (fun (r_3 : Int32) => ((r_3 ≤ x6_2 → (K16 ((x3 ||| (1 <<< (x5 &&& 31))), 1, (x5 + 1)))) ∧ (¬ r_3 ≤ x6_2 → (K16 (x3, x4, (x5 + 1)))))))) n (0, 0))) ∧ (r_1 = true → (K16 (x3, x4, (x5 + 1))))))))))
set_option maxHeartbeats 4000000 in
set_option maxRecDepth 20000 in
theorem ws_X11_reach_16 (g : kf_G) (hg : kf_g g) {x : kf_X} (hx : kf_ok g x RX11 cX11_reach 8 1 21) (I : HI) (J : HJ) (x2 : Int32) (E5 : Int32 → Prop) (K5 : Int32 × Int32 → Prop) (hE5 : ∀ (y3 : Int32), E5 y3 → kf_M g x 8 148 [(3, .int y3)] [] I J) (hK5 : ∀ (y3 : Int32) (y4 : Int32), K5 (y3, y4) → kf_M g x 8 5 [(0, .ref (g.2.2.2 72)), (2, .int x2), (3, .int y3), (4, .int y4)] [] I J) (Post : Int32 → Prop) (hret : ∀ (pc : Nat) (lv : List (Nat × Value)) (v : Int32), decode cX11_reach pc = .ok (.ireturn, 1) → Post v → kf_M g x 8 pc lv [.int v] I J) (E16 : Int32 → Int32 → Prop) (hE16 : ∀ (y3 : Int32) (y4 : Int32), E16 y3 y4 → kf_M g x 8 145 [(0, .ref (g.2.2.2 72)), (2, .int x2), (3, .int y3), (4, .int y4)] [] I J) (K16 : (Int32 × Int32 × Int32) → Prop) (hK16 : ∀ (y3 : Int32) (y4 : Int32) (y5 : Int32), K16 (y3, y4, y5) → kf_M g x 8 16 [(0, .ref (g.2.2.2 72)), (2, .int x2), (3, .int y3), (4, .int y4), (5, .int y5)] [] I J) (x3 : Int32) (x4 : Int32) (x5 : Int32) (h : wb_X11_reach_16 I J x2 E5 K5 Post E16 K16 (x3, x4, x5)) : kf_M g x 8 16 [(0, .ref (g.2.2.2 72)), (2, .int x2), (3, .int x3), (4, .int x4), (5, .int x5)] [] I J := by
  unfold wb_X11_reach_16 at h
  refine kf_iload hx dX11_reach_16 4 rfl ?_
  refine kf_aload_n hx dX11_reach_18 rfl 0 rfl ?_
  refine kf_getI hx sl_72_20 fl_RX11_287 dX11_reach_19 ?_
  refine kf_icmp_ge hx 145 dX11_reach_22 (by decide) (fun c => ?_) (fun c => ?_)
  · replace h := h.1 c
    refine kf_sub [0, 1, 2, 3] rfl ?_
    exact hE16 _ _ h
  · replace h := h.2 c
    refine kf_iload_n hx dX11_reach_25 rfl 2 rfl ?_
    refine kf_iload hx dX11_reach_26 4 rfl ?_
    refine kf_ishr hx dX11_reach_28 ?_
    refine kf_iconst (v := 1) hx dX11_reach_29 (by decide) ?_
    refine kf_iand hx dX11_reach_30 ?_
    refine kf_iconst (v := 1) hx dX11_reach_31 (by decide) ?_
    refine kf_icmp_eq hx 139 dX11_reach_32 (by decide) (fun c => ?_) (fun c => ?_)
    · replace h := h.1 c
      refine kf_iinc (w := (x5 + 1)) (lv' := [(5, .int (x5 + 1)), (0, .ref (g.2.2.2 72)), (2, .int x2), (3, .int x3), (4, .int x4)]) hx dX11_reach_139 4 rfl rfl (by decide) rfl ?_
      refine kf_goto hx 16 dX11_reach_142 (by decide) ?_
      refine kf_sub [1, 2, 3, 4, 0] rfl ?_
      exact hK16 _ _ _ h
    · replace h := h.2 c
      refine kf_aload_n hx dX11_reach_35 rfl 0 rfl ?_
      refine kf_iload hx dX11_reach_36 4 rfl ?_
      refine kf_callVbP (st := []) hx (m_X11_isStubborn g hg x5 I J _ h) lk_RX11_308 km_X11_isStubborn ob_72 rfl (by decide) rfl (Nat.le_of_ble_eq_true rfl) dX11_reach_38 (fun r_1 h => ?_)
      refine kf_ifB_eq hx 47 dX11_reach_41 (by decide) (fun c => ?_) (fun c => ?_)
      · replace h := h.1 c
        refine kf_iconst (v := 0) hx dX11_reach_47 (by decide) ?_
        refine kf_istore (lv' := [(6, .int 0), (0, .ref (g.2.2.2 72)), (2, .int x2), (3, .int x3), (4, .int x4), (5, .int x5)]) hx dX11_reach_48 (by decide) rfl ?_
        refine kf_iconst (v := 0) hx dX11_reach_50 (by decide) ?_
        refine kf_istore (lv' := [(7, .int 0), (6, .int 0), (0, .ref (g.2.2.2 72)), (2, .int x2), (3, .int x3), (4, .int x4), (5, .int x5)]) hx dX11_reach_51 (by decide) rfl ?_
        obtain ⟨n, h⟩ := h
        refine kf_sub [2, 3, 4, 5, 6, 1, 0] rfl ?_
        refine wl_X11_reach_53 g hg hx I J x2 x3 x4 x5 _ _ _ _ hE5 hK5 hE16 hK16 _ hret _ (fun x6_2 h => ?_) n _ _ h
        refine kf_iload hx dX11_reach_115 5 rfl ?_
        refine kf_aload_n hx dX11_reach_117 rfl 0 rfl ?_
        refine kf_iload hx dX11_reach_118 4 rfl ?_
        refine kf_callViP (st := [.int x6_2]) hx (m_X11_needs g hg x5 I J _ h) lk_RX11_311 km_X11_needs ob_72 rfl (by decide) rfl (Nat.le_of_ble_eq_true rfl) dX11_reach_120 (fun r_3 h => ?_)
        refine kf_icmp_ge hx 129 dX11_reach_123 (by decide) (fun c => ?_) (fun c => ?_)
        · replace h := h.1 c
          refine kf_iload_n hx dX11_reach_129 rfl 2 rfl ?_
          refine kf_iconst (v := 1) hx dX11_reach_130 (by decide) ?_
          refine kf_iload hx dX11_reach_131 4 rfl ?_
          refine kf_ishl hx dX11_reach_133 ?_
          refine kf_ior hx dX11_reach_134 ?_
          refine kf_istore_n (lv' := [(3, .int (x3 ||| (1 <<< (x5 &&& 31)))), (0, .ref (g.2.2.2 72)), (2, .int x2), (4, .int x4), (5, .int x5), (6, .int x6_2)]) hx dX11_reach_135 rfl (by decide) rfl ?_
          refine kf_iconst (v := 1) hx dX11_reach_136 (by decide) ?_
          refine kf_istore (lv' := [(4, .int 1), (3, .int (x3 ||| (1 <<< (x5 &&& 31)))), (0, .ref (g.2.2.2 72)), (2, .int x2), (5, .int x5), (6, .int x6_2)]) hx dX11_reach_137 (by decide) rfl ?_
          refine kf_iinc (w := (x5 + 1)) (lv' := [(5, .int (x5 + 1)), (4, .int 1), (3, .int (x3 ||| (1 <<< (x5 &&& 31)))), (0, .ref (g.2.2.2 72)), (2, .int x2), (6, .int x6_2)]) hx dX11_reach_139 4 rfl rfl (by decide) rfl ?_
          refine kf_goto hx 16 dX11_reach_142 (by decide) ?_
          refine kf_sub [3, 4, 2, 1, 0] rfl ?_
          exact hK16 _ _ _ h
        · replace h := h.2 c
          refine kf_goto hx 139 dX11_reach_126 (by decide) ?_
          refine kf_iinc (w := (x5 + 1)) (lv' := [(5, .int (x5 + 1)), (0, .ref (g.2.2.2 72)), (2, .int x2), (3, .int x3), (4, .int x4), (6, .int x6_2)]) hx dX11_reach_139 4 rfl rfl (by decide) rfl ?_
          refine kf_goto hx 16 dX11_reach_142 (by decide) ?_
          refine kf_sub [1, 2, 3, 4, 0] rfl ?_
          exact hK16 _ _ _ h
      · replace h := h.2 c
        refine kf_goto hx 139 dX11_reach_44 (by decide) ?_
        refine kf_iinc (w := (x5 + 1)) (lv' := [(5, .int (x5 + 1)), (0, .ref (g.2.2.2 72)), (2, .int x2), (3, .int x3), (4, .int x4)]) hx dX11_reach_139 4 rfl rfl (by decide) rfl ?_
        refine kf_goto hx 16 dX11_reach_142 (by decide) ?_
        refine kf_sub [1, 2, 3, 4, 0] rfl ?_
        exact hK16 _ _ _ h
theorem wl_X11_reach_16 (g : kf_G) (hg : kf_g g) {x : kf_X} (hx : kf_ok g x RX11 cX11_reach 8 1 21) (I : HI) (J : HJ) (x2 : Int32) (E5 : Int32 → Prop) (K5 : Int32 × Int32 → Prop) (hE5 : ∀ (y3 : Int32), E5 y3 → kf_M g x 8 148 [(3, .int y3)] [] I J) (hK5 : ∀ (y3 : Int32) (y4 : Int32), K5 (y3, y4) → kf_M g x 8 5 [(0, .ref (g.2.2.2 72)), (2, .int x2), (3, .int y3), (4, .int y4)] [] I J) (Post : Int32 → Prop) (hret : ∀ (pc : Nat) (lv : List (Nat × Value)) (v : Int32), decode cX11_reach pc = .ok (.ireturn, 1) → Post v → kf_M g x 8 pc lv [.int v] I J) (E16 : Int32 → Int32 → Prop) (hE16 : ∀ (y3 : Int32) (y4 : Int32), E16 y3 y4 → kf_M g x 8 145 [(0, .ref (g.2.2.2 72)), (2, .int x2), (3, .int y3), (4, .int y4)] [] I J) : ∀ (n : Nat) (x3 : Int32) (x4 : Int32) (x5 : Int32), lp (wb_X11_reach_16 I J x2 E5 K5 Post E16) n (x3, x4, x5) → kf_M g x 8 16 [(0, .ref (g.2.2.2 72)), (2, .int x2), (3, .int x3), (4, .int x4), (5, .int x5)] [] I J := by
  intro n
  induction n with
  | zero => intro x3 x4 x5 h; exact h.elim
  | succ n ih => intro x3 x4 x5 h; exact ws_X11_reach_16 g hg hx I J x2 E5 K5 hE5 hK5 Post hret E16 hE16 (lp (wb_X11_reach_16 I J x2 E5 K5 Post E16) n) ih x3 x4 x5 h
def wb_X11_reach_5 (I : HI) (J : HJ) (x2 : Int32) (Post : Int32 → Prop) (E5 : Int32 → Prop) (K5 : (Int32 × Int32) → Prop) (s : Int32 × Int32) : Prop :=
  match s with
  | (x3, x4) => (x4 = 0 → (E5 x3)) ∧ (¬ x4 = 0 → (∃ n, lp (wb_X11_reach_16 I J x2 E5 K5 Post (fun (x3_4 : Int32) (x4_5 : Int32) => K5 (x3_4, x4_5))) n (x3, 0, 0)))
set_option maxHeartbeats 4000000 in
set_option maxRecDepth 20000 in
theorem ws_X11_reach_5 (g : kf_G) (hg : kf_g g) {x : kf_X} (hx : kf_ok g x RX11 cX11_reach 8 1 21) (I : HI) (J : HJ) (x2 : Int32) (Post : Int32 → Prop) (hret : ∀ (pc : Nat) (lv : List (Nat × Value)) (v : Int32), decode cX11_reach pc = .ok (.ireturn, 1) → Post v → kf_M g x 8 pc lv [.int v] I J) (E5 : Int32 → Prop) (hE5 : ∀ (y3 : Int32), E5 y3 → kf_M g x 8 148 [(3, .int y3)] [] I J) (K5 : (Int32 × Int32) → Prop) (hK5 : ∀ (y3 : Int32) (y4 : Int32), K5 (y3, y4) → kf_M g x 8 5 [(0, .ref (g.2.2.2 72)), (2, .int x2), (3, .int y3), (4, .int y4)] [] I J) (x3 : Int32) (x4 : Int32) (h : wb_X11_reach_5 I J x2 Post E5 K5 (x3, x4)) : kf_M g x 8 5 [(0, .ref (g.2.2.2 72)), (2, .int x2), (3, .int x3), (4, .int x4)] [] I J := by
  unfold wb_X11_reach_5 at h
  refine kf_iload hx dX11_reach_5 3 rfl ?_
  refine kf_if_eq hx 148 dX11_reach_7 (by decide) (fun c => ?_) (fun c => ?_)
  · replace h := h.1 c
    refine kf_sub [2] rfl ?_
    exact hE5 _ h
  · replace h := h.2 c
    refine kf_iconst (v := 0) hx dX11_reach_10 (by decide) ?_
    refine kf_istore (lv' := [(4, .int 0), (0, .ref (g.2.2.2 72)), (2, .int x2), (3, .int x3)]) hx dX11_reach_11 (by decide) rfl ?_
    refine kf_iconst (v := 0) hx dX11_reach_13 (by decide) ?_
    refine kf_istore (lv' := [(5, .int 0), (4, .int 0), (0, .ref (g.2.2.2 72)), (2, .int x2), (3, .int x3)]) hx dX11_reach_14 (by decide) rfl ?_
    obtain ⟨n, h⟩ := h
    refine kf_sub [2, 3, 4, 1, 0] rfl ?_
    refine wl_X11_reach_16 g hg hx I J x2 _ _ hE5 hK5 _ hret _ (fun x3_4 x4_5 h => ?_) n _ _ _ h
    refine kf_goto hx 5 dX11_reach_145 (by decide) ?_
    exact hK5 _ _ h
theorem wl_X11_reach_5 (g : kf_G) (hg : kf_g g) {x : kf_X} (hx : kf_ok g x RX11 cX11_reach 8 1 21) (I : HI) (J : HJ) (x2 : Int32) (Post : Int32 → Prop) (hret : ∀ (pc : Nat) (lv : List (Nat × Value)) (v : Int32), decode cX11_reach pc = .ok (.ireturn, 1) → Post v → kf_M g x 8 pc lv [.int v] I J) (E5 : Int32 → Prop) (hE5 : ∀ (y3 : Int32), E5 y3 → kf_M g x 8 148 [(3, .int y3)] [] I J) : ∀ (n : Nat) (x3 : Int32) (x4 : Int32), lp (wb_X11_reach_5 I J x2 Post E5) n (x3, x4) → kf_M g x 8 5 [(0, .ref (g.2.2.2 72)), (2, .int x2), (3, .int x3), (4, .int x4)] [] I J := by
  intro n
  induction n with
  | zero => intro x3 x4 h; exact h.elim
  | succ n ih => intro x3 x4 h; exact ws_X11_reach_5 g hg hx I J x2 Post hret E5 hE5 (lp (wb_X11_reach_5 I J x2 Post E5) n) ih x3 x4 h
def w_X11_reach (x1 : Int32) (x2 : Int32) (I : HI) (J : HJ) (Post : Int32 → Prop) : Prop :=
  ∃ n, lp (wb_X11_reach_5 I J x2 Post (fun (x3_6 : Int32) => Post x3_6)) n (x1, 1)
set_option maxHeartbeats 4000000 in
set_option maxRecDepth 20000 in
theorem we_X11_reach (g : kf_G) (hg : kf_g g) {x : kf_X} (hx : kf_ok g x RX11 cX11_reach 8 1 21) (x1 : Int32) (x2 : Int32) (I : HI) (J : HJ) (Post : Int32 → Prop) (hret : ∀ (pc : Nat) (lv : List (Nat × Value)) (v : Int32), decode cX11_reach pc = .ok (.ireturn, 1) → Post v → kf_M g x 8 pc lv [.int v] I J) (h : w_X11_reach x1 x2 I J Post) : kf_M g x 8 0 [(0, .ref (g.2.2.2 72)), (1, .int x1), (2, .int x2)] [] I J := by
  unfold w_X11_reach at h
  refine kf_iload_n hx dX11_reach_0 rfl 1 rfl ?_
  refine kf_istore_n (lv' := [(3, .int x1), (0, .ref (g.2.2.2 72)), (1, .int x1), (2, .int x2)]) hx dX11_reach_1 rfl (by decide) rfl ?_
  refine kf_iconst (v := 1) hx dX11_reach_2 (by decide) ?_
  refine kf_istore (lv' := [(4, .int 1), (3, .int x1), (0, .ref (g.2.2.2 72)), (1, .int x1), (2, .int x2)]) hx dX11_reach_3 (by decide) rfl ?_
  obtain ⟨n, h⟩ := h
  refine kf_sub [2, 4, 1, 0] rfl ?_
  refine wl_X11_reach_5 g hg hx I J x2 _ hret _ (fun x3_6 h => ?_) n _ _ h
  refine kf_iload_n hx dX11_reach_148 rfl 0 rfl ?_
  exact hret _ _ x3_6  dX11_reach_149 h
set_option maxHeartbeats 4000000 in
set_option maxRecDepth 20000 in
theorem m_X11_reach (g : kf_G) (hg : kf_g g) (x1 : Int32) (x2 : Int32) (I : HI) (J : HJ) (Post : Int32 → Prop) (h : w_X11_reach x1 x2 I J Post) : kf_Mi g yX11_reach (kf_W yX11_reach cX11_reach 8 (Option.some Jvm.ClassFile.FieldType.int)) 1 21 [.ref (g.2.2.2 72), .int x1, .int x2] I J (fun v I' J' => Post v ∧ I' = I ∧ J' = J) :=
  kf_enti hg (by decide) (Nat.le_of_ble_eq_true rfl) rfl (fun x hx hr => we_X11_reach g hg hx x1 x2 I J Post (fun pc lv v hd hP => hr pc lv v I J hd ⟨hP, rfl, rfl⟩) h)
theorem dX11_reached_0 : decode cX11_reached 0 = .ok (.aload_n 0, 1) := by decide +kernel
theorem dX11_reached_1 : decode cX11_reached 1 = .ok (.iconst 0, 1) := by decide +kernel
theorem dX11_reached_2 : decode cX11_reached 2 = .ok (.putfield 106, 3) := by decide +kernel
theorem dX11_reached_5 : decode cX11_reached 5 = .ok (.aload_n 0, 1) := by decide +kernel
theorem dX11_reached_6 : decode cX11_reached 6 = .ok (.iconst 0, 1) := by decide +kernel
theorem dX11_reached_7 : decode cX11_reached 7 = .ok (.putfield 109, 3) := by decide +kernel
theorem dX11_reached_10 : decode cX11_reached 10 = .ok (.aload_n 0, 1) := by decide +kernel
theorem dX11_reached_11 : decode cX11_reached 11 = .ok (.iload_n 1, 1) := by decide +kernel
theorem dX11_reached_12 : decode cX11_reached 12 = .ok (.invokevirtual 314, 3) := by decide +kernel
theorem dX11_reached_15 : decode cX11_reached 15 = .ok (.ifCond .eq 20, 3) := by decide +kernel
theorem dX11_reached_18 : decode cX11_reached 18 = .ok (.aload_n 0, 1) := by decide +kernel
theorem dX11_reached_19 : decode cX11_reached 19 = .ok (.iload_n 2, 1) := by decide +kernel
theorem dX11_reached_20 : decode cX11_reached 20 = .ok (.invokevirtual 301, 3) := by decide +kernel
theorem dX11_reached_23 : decode cX11_reached 23 = .ok (.ifCond .eq 12, 3) := by decide +kernel
theorem dX11_reached_26 : decode cX11_reached 26 = .ok (.aload_n 0, 1) := by decide +kernel
theorem dX11_reached_27 : decode cX11_reached 27 = .ok (.iload_n 1, 1) := by decide +kernel
theorem dX11_reached_28 : decode cX11_reached 28 = .ok (.iload_n 2, 1) := by decide +kernel
theorem dX11_reached_29 : decode cX11_reached 29 = .ok (.invokevirtual 317, 3) := by decide +kernel
theorem dX11_reached_32 : decode cX11_reached 32 = .ok (.goto 8, 3) := by decide +kernel
theorem dX11_reached_35 : decode cX11_reached 35 = .ok (.aload_n 0, 1) := by decide +kernel
theorem dX11_reached_36 : decode cX11_reached 36 = .ok (.iconst 2, 1) := by decide +kernel
theorem dX11_reached_37 : decode cX11_reached 37 = .ok (.invokevirtual 272, 3) := by decide +kernel
theorem dX11_reached_40 : decode cX11_reached 40 = .ok (.ireturn, 1) := by decide +kernel
def wj_X11_reached_35 (I : HI) (J : HJ)  (Post : Int32 → HI → Prop) : Prop :=
  w_X11_refusedBy 2 I J (fun (r_4 : Int32) (I_5 : HI) => (Post r_4 I_5))
set_option maxHeartbeats 4000000 in
set_option maxRecDepth 20000 in
theorem wk_X11_reached_35 (g : kf_G) (hg : kf_g g) {x : kf_X} (hx : kf_ok g x RX11 cX11_reached 3 2 48) (I : HI) (J : HJ)  (Post : Int32 → HI → Prop) (hret : ∀ (pc : Nat) (lv : List (Nat × Value)) (v : Int32) (Iy : HI), decode cX11_reached pc = .ok (.ireturn, 1) → Post v Iy → kf_M g x 3 pc lv [.int v] Iy J) (h : wj_X11_reached_35 I J  Post) : kf_M g x 3 35 [(0, .ref (g.2.2.2 72))] [] I J := by
  unfold wj_X11_reached_35 at h
  refine kf_aload_n hx dX11_reached_35 rfl 0 rfl ?_
  refine kf_iconst (v := 2) hx dX11_reached_36 (by decide) ?_
  refine kf_callViI (st := []) hx (m_X11_refusedBy g hg 2 I J _ h) lk_RX11_272 km_X11_refusedBy ob_72 rfl (by decide) rfl (Nat.le_of_ble_eq_true rfl) dX11_reached_37 (fun r_4 I_5 h => ?_)
  exact hret _ _ r_4 _ dX11_reached_40 h
def w_X11_reached (x1 : Int32) (x2 : Int32) (I : HI) (J : HJ) (Post : Int32 → HI → Prop) : Prop :=
  ∀ I_1 : HI, I_1 = hI I 72 1 0 → (∀ I_2 : HI, I_2 = hI I_1 72 0 0 → (w_X11_areSeeds x1 I_2 J (fun (r_3 : Bool) => ((r_3 = false → (wj_X11_reached_35 I_2 J Post)) ∧ (r_3 = true → (w_X11_isLot x2 I_2 J (fun (r_6 : Bool) => ((r_6 = false → (wj_X11_reached_35 I_2 J Post)) ∧ (r_6 = true → (w_X11_reach x1 x2 I_2 J (fun (r_7 : Int32) => (Post r_7 I_2))))))))))))
set_option maxHeartbeats 4000000 in
set_option maxRecDepth 20000 in
theorem we_X11_reached (g : kf_G) (hg : kf_g g) {x : kf_X} (hx : kf_ok g x RX11 cX11_reached 3 2 48) (x1 : Int32) (x2 : Int32) (I : HI) (J : HJ) (Post : Int32 → HI → Prop) (hret : ∀ (pc : Nat) (lv : List (Nat × Value)) (v : Int32) (Iy : HI), decode cX11_reached pc = .ok (.ireturn, 1) → Post v Iy → kf_M g x 3 pc lv [.int v] Iy J) (h : w_X11_reached x1 x2 I J Post) : kf_M g x 3 0 [(0, .ref (g.2.2.2 72)), (1, .int x1), (2, .int x2)] [] I J := by
  unfold w_X11_reached at h
  refine kf_aload_n hx dX11_reached_0 rfl 0 rfl ?_
  refine kf_iconst (v := 0) hx dX11_reached_1 (by decide) ?_
  refine kf_putI hx sl_72_1 fl_RX11_106 fp_11_1 dX11_reached_2 ?_
  refine kf_nmI (fun I_1 eI_1 => ?_)
  replace h := h I_1 eI_1
  refine kf_aload_n hx dX11_reached_5 rfl 0 rfl ?_
  refine kf_iconst (v := 0) hx dX11_reached_6 (by decide) ?_
  refine kf_putI hx sl_72_0 fl_RX11_109 fp_11_0 dX11_reached_7 ?_
  refine kf_nmI (fun I_2 eI_2 => ?_)
  replace h := h I_2 eI_2
  refine kf_aload_n hx dX11_reached_10 rfl 0 rfl ?_
  refine kf_iload_n hx dX11_reached_11 rfl 1 rfl ?_
  refine kf_callVbP (st := []) hx (m_X11_areSeeds g hg x1 I_2 J _ h) lk_RX11_314 km_X11_areSeeds ob_72 rfl (by decide) rfl (Nat.le_of_ble_eq_true rfl) dX11_reached_12 (fun r_3 h => ?_)
  refine kf_ifB_eq hx 35 dX11_reached_15 (by decide) (fun c => ?_) (fun c => ?_)
  · replace h := h.1 c
    refine kf_sub [0] rfl ?_
    exact wk_X11_reached_35 g hg hx I_2 J  _ hret h
  · replace h := h.2 c
    refine kf_aload_n hx dX11_reached_18 rfl 0 rfl ?_
    refine kf_iload_n hx dX11_reached_19 rfl 2 rfl ?_
    refine kf_callVbP (st := []) hx (m_X11_isLot g hg x2 I_2 J _ h) lk_RX11_301 km_X11_isLot ob_72 rfl (by decide) rfl (Nat.le_of_ble_eq_true rfl) dX11_reached_20 (fun r_6 h => ?_)
    refine kf_ifB_eq hx 35 dX11_reached_23 (by decide) (fun c => ?_) (fun c => ?_)
    · replace h := h.1 c
      refine kf_sub [0] rfl ?_
      exact wk_X11_reached_35 g hg hx I_2 J  _ hret h
    · replace h := h.2 c
      refine kf_aload_n hx dX11_reached_26 rfl 0 rfl ?_
      refine kf_iload_n hx dX11_reached_27 rfl 1 rfl ?_
      refine kf_iload_n hx dX11_reached_28 rfl 2 rfl ?_
      refine kf_callViP (st := []) hx (m_X11_reach g hg x1 x2 I_2 J _ h) lk_RX11_317 km_X11_reach ob_72 rfl (by decide) rfl (Nat.le_of_ble_eq_true rfl) dX11_reached_29 (fun r_7 h => ?_)
      refine kf_goto hx 40 dX11_reached_32 (by decide) ?_
      exact hret _ _ r_7 _ dX11_reached_40 h
set_option maxHeartbeats 4000000 in
set_option maxRecDepth 20000 in
theorem m_X11_reached (g : kf_G) (hg : kf_g g) (x1 : Int32) (x2 : Int32) (I : HI) (J : HJ) (Post : Int32 → HI → Prop) (h : w_X11_reached x1 x2 I J Post) : kf_Mi g yX11_reached (kf_W yX11_reached cX11_reached 3 (Option.some Jvm.ClassFile.FieldType.int)) 2 48 [.ref (g.2.2.2 72), .int x1, .int x2] I J (fun v I' J' => Post v I' ∧ J' = J) :=
  kf_enti hg (by decide) (Nat.le_of_ble_eq_true rfl) rfl (fun x hx hr => we_X11_reached g hg hx x1 x2 I J Post (fun pc lv v I' hd hP => hr pc lv v I' J hd ⟨hP, rfl⟩) h)
theorem dX11_walk_0 : decode cX11_walk 0 = .ok (.iconst 1, 1) := by decide +kernel
theorem dX11_walk_1 : decode cX11_walk 1 = .ok (.iload_n 1, 1) := by decide +kernel
theorem dX11_walk_2 : decode cX11_walk 2 = .ok (.ishl, 1) := by decide +kernel
theorem dX11_walk_3 : decode cX11_walk 3 = .ok (.istore_n 3, 1) := by decide +kernel
theorem dX11_walk_4 : decode cX11_walk 4 = .ok (.iconst 1, 1) := by decide +kernel
theorem dX11_walk_5 : decode cX11_walk 5 = .ok (.istore 4, 2) := by decide +kernel
theorem dX11_walk_7 : decode cX11_walk 7 = .ok (.iload 4, 2) := by decide +kernel
theorem dX11_walk_9 : decode cX11_walk 9 = .ok (.ifCond .eq 110, 3) := by decide +kernel
theorem dX11_walk_12 : decode cX11_walk 12 = .ok (.iconst 0, 1) := by decide +kernel
theorem dX11_walk_13 : decode cX11_walk 13 = .ok (.istore 4, 2) := by decide +kernel
theorem dX11_walk_15 : decode cX11_walk 15 = .ok (.iconst 0, 1) := by decide +kernel
theorem dX11_walk_16 : decode cX11_walk 16 = .ok (.istore 5, 2) := by decide +kernel
theorem dX11_walk_18 : decode cX11_walk 18 = .ok (.iload 5, 2) := by decide +kernel
theorem dX11_walk_20 : decode cX11_walk 20 = .ok (.aload_n 0, 1) := by decide +kernel
theorem dX11_walk_21 : decode cX11_walk 21 = .ok (.getfield 290, 3) := by decide +kernel
theorem dX11_walk_24 : decode cX11_walk 24 = .ok (.if_icmp .ge 92, 3) := by decide +kernel
theorem dX11_walk_27 : decode cX11_walk 27 = .ok (.iload_n 2, 1) := by decide +kernel
theorem dX11_walk_28 : decode cX11_walk 28 = .ok (.iload 5, 2) := by decide +kernel
theorem dX11_walk_30 : decode cX11_walk 30 = .ok (.ishr, 1) := by decide +kernel
theorem dX11_walk_31 : decode cX11_walk 31 = .ok (.iconst 1, 1) := by decide +kernel
theorem dX11_walk_32 : decode cX11_walk 32 = .ok (.iand, 1) := by decide +kernel
theorem dX11_walk_33 : decode cX11_walk 33 = .ok (.iconst 1, 1) := by decide +kernel
theorem dX11_walk_34 : decode cX11_walk 34 = .ok (.if_icmp .ne 50, 3) := by decide +kernel
theorem dX11_walk_37 : decode cX11_walk 37 = .ok (.iload_n 3, 1) := by decide +kernel
theorem dX11_walk_38 : decode cX11_walk 38 = .ok (.aload_n 0, 1) := by decide +kernel
theorem dX11_walk_39 : decode cX11_walk 39 = .ok (.getfield 44, 3) := by decide +kernel
theorem dX11_walk_42 : decode cX11_walk 42 = .ok (.iload 5, 2) := by decide +kernel
theorem dX11_walk_44 : decode cX11_walk 44 = .ok (.iaload, 1) := by decide +kernel
theorem dX11_walk_45 : decode cX11_walk 45 = .ok (.ishr, 1) := by decide +kernel
theorem dX11_walk_46 : decode cX11_walk 46 = .ok (.iconst 1, 1) := by decide +kernel
theorem dX11_walk_47 : decode cX11_walk 47 = .ok (.iand, 1) := by decide +kernel
theorem dX11_walk_48 : decode cX11_walk 48 = .ok (.iconst 1, 1) := by decide +kernel
theorem dX11_walk_49 : decode cX11_walk 49 = .ok (.if_icmp .ne 35, 3) := by decide +kernel
theorem dX11_walk_52 : decode cX11_walk 52 = .ok (.aload_n 0, 1) := by decide +kernel
theorem dX11_walk_53 : decode cX11_walk 53 = .ok (.aload_n 0, 1) := by decide +kernel
theorem dX11_walk_54 : decode cX11_walk 54 = .ok (.getfield 44, 3) := by decide +kernel
theorem dX11_walk_57 : decode cX11_walk 57 = .ok (.iload 5, 2) := by decide +kernel
theorem dX11_walk_59 : decode cX11_walk 59 = .ok (.iaload, 1) := by decide +kernel
theorem dX11_walk_60 : decode cX11_walk 60 = .ok (.invokevirtual 308, 3) := by decide +kernel
theorem dX11_walk_63 : decode cX11_walk 63 = .ok (.ifCond .ne 21, 3) := by decide +kernel
theorem dX11_walk_66 : decode cX11_walk 66 = .ok (.iload_n 3, 1) := by decide +kernel
theorem dX11_walk_67 : decode cX11_walk 67 = .ok (.aload_n 0, 1) := by decide +kernel
theorem dX11_walk_68 : decode cX11_walk 68 = .ok (.getfield 41, 3) := by decide +kernel
theorem dX11_walk_71 : decode cX11_walk 71 = .ok (.iload 5, 2) := by decide +kernel
theorem dX11_walk_73 : decode cX11_walk 73 = .ok (.iaload, 1) := by decide +kernel
theorem dX11_walk_74 : decode cX11_walk 74 = .ok (.ishr, 1) := by decide +kernel
theorem dX11_walk_75 : decode cX11_walk 75 = .ok (.iconst 1, 1) := by decide +kernel
theorem dX11_walk_76 : decode cX11_walk 76 = .ok (.iand, 1) := by decide +kernel
theorem dX11_walk_77 : decode cX11_walk 77 = .ok (.ifCond .ne 7, 3) := by decide +kernel
theorem dX11_walk_80 : decode cX11_walk 80 = .ok (.iconst 1, 1) := by decide +kernel
theorem dX11_walk_81 : decode cX11_walk 81 = .ok (.goto 4, 3) := by decide +kernel
theorem dX11_walk_84 : decode cX11_walk 84 = .ok (.iconst 0, 1) := by decide +kernel
theorem dX11_walk_85 : decode cX11_walk 85 = .ok (.istore 6, 2) := by decide +kernel
theorem dX11_walk_87 : decode cX11_walk 87 = .ok (.iload 6, 2) := by decide +kernel
theorem dX11_walk_89 : decode cX11_walk 89 = .ok (.ifCond .ne 6, 3) := by decide +kernel
theorem dX11_walk_92 : decode cX11_walk 92 = .ok (.goto 18, 3) := by decide +kernel
theorem dX11_walk_95 : decode cX11_walk 95 = .ok (.iload_n 3, 1) := by decide +kernel
theorem dX11_walk_96 : decode cX11_walk 96 = .ok (.iconst 1, 1) := by decide +kernel
theorem dX11_walk_97 : decode cX11_walk 97 = .ok (.aload_n 0, 1) := by decide +kernel
theorem dX11_walk_98 : decode cX11_walk 98 = .ok (.getfield 41, 3) := by decide +kernel
theorem dX11_walk_101 : decode cX11_walk 101 = .ok (.iload 5, 2) := by decide +kernel
theorem dX11_walk_103 : decode cX11_walk 103 = .ok (.iaload, 1) := by decide +kernel
theorem dX11_walk_104 : decode cX11_walk 104 = .ok (.ishl, 1) := by decide +kernel
theorem dX11_walk_105 : decode cX11_walk 105 = .ok (.ior, 1) := by decide +kernel
theorem dX11_walk_106 : decode cX11_walk 106 = .ok (.istore_n 3, 1) := by decide +kernel
theorem dX11_walk_107 : decode cX11_walk 107 = .ok (.iconst 1, 1) := by decide +kernel
theorem dX11_walk_108 : decode cX11_walk 108 = .ok (.istore 4, 2) := by decide +kernel
theorem dX11_walk_110 : decode cX11_walk 110 = .ok (.iinc 5 1, 3) := by decide +kernel
theorem dX11_walk_113 : decode cX11_walk 113 = .ok (.goto (-95), 3) := by decide +kernel
theorem dX11_walk_116 : decode cX11_walk 116 = .ok (.goto (-109), 3) := by decide +kernel
theorem dX11_walk_119 : decode cX11_walk 119 = .ok (.iload_n 3, 1) := by decide +kernel
theorem dX11_walk_120 : decode cX11_walk 120 = .ok (.ireturn, 1) := by decide +kernel
def wj_X11_walk_85 (I : HI) (J : HJ) (x2 : Int32) (x3 : Int32) (x4 : Int32) (x5 : Int32) (t0 : Int32) (E7 : Int32 → Prop) (K7 : Int32 × Int32 → Prop) (E18 : Int32 → Int32 → Prop) (K18 : Int32 × Int32 × Int32 → Prop) (Post : Int32 → Prop) : Prop :=
  (¬ t0 = 0 → (vp_in x5 10 ∧ (∀ z_1 : Int32, z_1 = (x3 ||| (1 <<< ((I 79 (Int32.toNatClampNeg x5)) &&& 31))) → (K18 (z_1, 1, (x5 + 1)))))) ∧ (t0 = 0 → (K18 (x3, x4, (x5 + 1))))
set_option maxHeartbeats 4000000 in
set_option maxRecDepth 20000 in
theorem wk_X11_walk_85 (g : kf_G) (hg : kf_g g) {x : kf_X} (hx : kf_ok g x RX11 cX11_walk 7 1 21) (I : HI) (J : HJ) (x2 : Int32) (x3 : Int32) (x4 : Int32) (x5 : Int32) (t0 : Int32) (E7 : Int32 → Prop) (K7 : Int32 × Int32 → Prop) (E18 : Int32 → Int32 → Prop) (K18 : Int32 × Int32 × Int32 → Prop) (hE7 : ∀ (y3 : Int32), E7 y3 → kf_M g x 7 119 [(3, .int y3)] [] I J) (hK7 : ∀ (y3 : Int32) (y4 : Int32), K7 (y3, y4) → kf_M g x 7 7 [(0, .ref (g.2.2.2 72)), (2, .int x2), (3, .int y3), (4, .int y4)] [] I J) (hE18 : ∀ (y3 : Int32) (y4 : Int32), E18 y3 y4 → kf_M g x 7 116 [(0, .ref (g.2.2.2 72)), (2, .int x2), (3, .int y3), (4, .int y4)] [] I J) (hK18 : ∀ (y3 : Int32) (y4 : Int32) (y5 : Int32), K18 (y3, y4, y5) → kf_M g x 7 18 [(0, .ref (g.2.2.2 72)), (2, .int x2), (3, .int y3), (4, .int y4), (5, .int y5)] [] I J) (Post : Int32 → Prop) (hret : ∀ (pc : Nat) (lv : List (Nat × Value)) (v : Int32), decode cX11_walk pc = .ok (.ireturn, 1) → Post v → kf_M g x 7 pc lv [.int v] I J) (h : wj_X11_walk_85 I J x2 x3 x4 x5 t0 E7 K7 E18 K18 Post) : kf_M g x 7 85 [(0, .ref (g.2.2.2 72)), (2, .int x2), (3, .int x3), (4, .int x4), (5, .int x5)] [.int t0] I J := by
  unfold wj_X11_walk_85 at h
  refine kf_istore (lv' := [(6, .int t0), (0, .ref (g.2.2.2 72)), (2, .int x2), (3, .int x3), (4, .int x4), (5, .int x5)]) hx dX11_walk_85 (by decide) rfl ?_
  refine kf_iload hx dX11_walk_87 0 rfl ?_
  refine kf_if_ne hx 95 dX11_walk_89 (by decide) (fun c => ?_) (fun c => ?_)
  · replace h := h.1 c
    refine kf_iload_n hx dX11_walk_95 rfl 3 rfl ?_
    refine kf_iconst (v := 1) hx dX11_walk_96 (by decide) ?_
    refine kf_aload_n hx dX11_walk_97 rfl 1 rfl ?_
    refine kf_getR (n := 79) hx sl_72_26 fl_RX11_41 dX11_walk_98 ?_
    refine kf_iload hx dX11_walk_101 5 rfl ?_
    refine kf_iald hx ar_79 h.1 dX11_walk_103 ?_
    replace h := h.2
    refine kf_ishl hx dX11_walk_104 ?_
    refine kf_ior hx dX11_walk_105 ?_
    refine kf_topi (fun z_1 ez_1 => ?_)
    replace h := h z_1 ez_1
    refine kf_istore_n (lv' := [(3, .int z_1), (6, .int t0), (0, .ref (g.2.2.2 72)), (2, .int x2), (4, .int x4), (5, .int x5)]) hx dX11_walk_106 rfl (by decide) rfl ?_
    refine kf_iconst (v := 1) hx dX11_walk_107 (by decide) ?_
    refine kf_istore (lv' := [(4, .int 1), (3, .int z_1), (6, .int t0), (0, .ref (g.2.2.2 72)), (2, .int x2), (5, .int x5)]) hx dX11_walk_108 (by decide) rfl ?_
    refine kf_iinc (w := (x5 + 1)) (lv' := [(5, .int (x5 + 1)), (4, .int 1), (3, .int z_1), (6, .int t0), (0, .ref (g.2.2.2 72)), (2, .int x2)]) hx dX11_walk_110 5 rfl rfl (by decide) rfl ?_
    refine kf_goto hx 18 dX11_walk_113 (by decide) ?_
    refine kf_sub [4, 5, 2, 1, 0] rfl ?_
    exact hK18 _ _ _ h
  · replace h := h.2 c
    refine kf_goto hx 110 dX11_walk_92 (by decide) ?_
    refine kf_iinc (w := (x5 + 1)) (lv' := [(5, .int (x5 + 1)), (6, .int t0), (0, .ref (g.2.2.2 72)), (2, .int x2), (3, .int x3), (4, .int x4)]) hx dX11_walk_110 5 rfl rfl (by decide) rfl ?_
    refine kf_goto hx 18 dX11_walk_113 (by decide) ?_
    refine kf_sub [2, 3, 4, 5, 0] rfl ?_
    exact hK18 _ _ _ h
def wj_X11_walk_84 (I : HI) (J : HJ) (x2 : Int32) (x3 : Int32) (x4 : Int32) (x5 : Int32) (E7 : Int32 → Prop) (K7 : Int32 × Int32 → Prop) (E18 : Int32 → Int32 → Prop) (K18 : Int32 × Int32 × Int32 → Prop) (Post : Int32 → Prop) : Prop :=
  wj_X11_walk_85 I J x2 x3 x4 x5 0 E7 K7 E18 K18 Post
set_option maxHeartbeats 4000000 in
set_option maxRecDepth 20000 in
theorem wk_X11_walk_84 (g : kf_G) (hg : kf_g g) {x : kf_X} (hx : kf_ok g x RX11 cX11_walk 7 1 21) (I : HI) (J : HJ) (x2 : Int32) (x3 : Int32) (x4 : Int32) (x5 : Int32) (E7 : Int32 → Prop) (K7 : Int32 × Int32 → Prop) (E18 : Int32 → Int32 → Prop) (K18 : Int32 × Int32 × Int32 → Prop) (hE7 : ∀ (y3 : Int32), E7 y3 → kf_M g x 7 119 [(3, .int y3)] [] I J) (hK7 : ∀ (y3 : Int32) (y4 : Int32), K7 (y3, y4) → kf_M g x 7 7 [(0, .ref (g.2.2.2 72)), (2, .int x2), (3, .int y3), (4, .int y4)] [] I J) (hE18 : ∀ (y3 : Int32) (y4 : Int32), E18 y3 y4 → kf_M g x 7 116 [(0, .ref (g.2.2.2 72)), (2, .int x2), (3, .int y3), (4, .int y4)] [] I J) (hK18 : ∀ (y3 : Int32) (y4 : Int32) (y5 : Int32), K18 (y3, y4, y5) → kf_M g x 7 18 [(0, .ref (g.2.2.2 72)), (2, .int x2), (3, .int y3), (4, .int y4), (5, .int y5)] [] I J) (Post : Int32 → Prop) (hret : ∀ (pc : Nat) (lv : List (Nat × Value)) (v : Int32), decode cX11_walk pc = .ok (.ireturn, 1) → Post v → kf_M g x 7 pc lv [.int v] I J) (h : wj_X11_walk_84 I J x2 x3 x4 x5 E7 K7 E18 K18 Post) : kf_M g x 7 84 [(0, .ref (g.2.2.2 72)), (2, .int x2), (3, .int x3), (4, .int x4), (5, .int x5)] [] I J := by
  unfold wj_X11_walk_84 at h
  refine kf_iconst (v := 0) hx dX11_walk_84 (by decide) ?_
  exact wk_X11_walk_85 g hg hx I J x2 x3 x4 x5 0 _ _ _ _ hE7 hK7 hE18 hK18 _ hret h
def wb_X11_walk_18 (I : HI) (J : HJ) (x2 : Int32) (E7 : Int32 → Prop) (K7 : Int32 × Int32 → Prop) (Post : Int32 → Prop) (E18 : Int32 → Int32 → Prop) (K18 : (Int32 × Int32 × Int32) → Prop) (s : Int32 × Int32 × Int32) : Prop :=
  match s with
  | (x3, x4, x5) => ((I 72 21) ≤ x5 → (E18 x3 x4)) ∧ (¬ (I 72 21) ≤ x5 → ((¬ ((x2 >>> (x5 &&& 31)) &&& 1) = 1 → (wj_X11_walk_84 I J x2 x3 x4 x5 E7 K7 E18 K18 Post)) ∧ (((x2 >>> (x5 &&& 31)) &&& 1) = 1 → (vp_in x5 10 ∧ ((¬ ((x3 >>> ((I 80 (Int32.toNatClampNeg x5)) &&& 31)) &&& 1) = 1 → (wj_X11_walk_84 I J x2 x3 x4 x5 E7 K7 E18 K18 Post)) ∧ (((x3 >>> ((I 80 (Int32.toNatClampNeg x5)) &&& 31)) &&& 1) = 1 → (vp_in x5 10 ∧ (w_X11_isStubborn (I 80 (Int32.toNatClampNeg x5)) I J (fun (r_2 : Bool) => ((r_2 = true → (wj_X11_walk_84 I J x2 x3 x4 x5 E7 K7 E18 K18 Post)) ∧ (r_2 = false → (vp_in x5 10 ∧ ((¬ ((x3 >>> ((I 79 (Int32.toNatClampNeg x5)) &&& 31)) &&& 1) = 0 → (wj_X11_walk_84 I J x2 x3 x4 x5 E7 K7 E18 K18 Post)) ∧ (((x3 >>> ((I 79 (Int32.toNatClampNeg x5)) &&& 31)) &&& 1) = 0 → (wj_X11_walk_85 I J x2 x3 x4 x5 1 E7 K7 E18 K18 Post)))))))))))))))
set_option maxHeartbeats 4000000 in
set_option maxRecDepth 20000 in
theorem ws_X11_walk_18 (g : kf_G) (hg : kf_g g) {x : kf_X} (hx : kf_ok g x RX11 cX11_walk 7 1 21) (I : HI) (J : HJ) (x2 : Int32) (E7 : Int32 → Prop) (K7 : Int32 × Int32 → Prop) (hE7 : ∀ (y3 : Int32), E7 y3 → kf_M g x 7 119 [(3, .int y3)] [] I J) (hK7 : ∀ (y3 : Int32) (y4 : Int32), K7 (y3, y4) → kf_M g x 7 7 [(0, .ref (g.2.2.2 72)), (2, .int x2), (3, .int y3), (4, .int y4)] [] I J) (Post : Int32 → Prop) (hret : ∀ (pc : Nat) (lv : List (Nat × Value)) (v : Int32), decode cX11_walk pc = .ok (.ireturn, 1) → Post v → kf_M g x 7 pc lv [.int v] I J) (E18 : Int32 → Int32 → Prop) (hE18 : ∀ (y3 : Int32) (y4 : Int32), E18 y3 y4 → kf_M g x 7 116 [(0, .ref (g.2.2.2 72)), (2, .int x2), (3, .int y3), (4, .int y4)] [] I J) (K18 : (Int32 × Int32 × Int32) → Prop) (hK18 : ∀ (y3 : Int32) (y4 : Int32) (y5 : Int32), K18 (y3, y4, y5) → kf_M g x 7 18 [(0, .ref (g.2.2.2 72)), (2, .int x2), (3, .int y3), (4, .int y4), (5, .int y5)] [] I J) (x3 : Int32) (x4 : Int32) (x5 : Int32) (h : wb_X11_walk_18 I J x2 E7 K7 Post E18 K18 (x3, x4, x5)) : kf_M g x 7 18 [(0, .ref (g.2.2.2 72)), (2, .int x2), (3, .int x3), (4, .int x4), (5, .int x5)] [] I J := by
  unfold wb_X11_walk_18 at h
  refine kf_iload hx dX11_walk_18 4 rfl ?_
  refine kf_aload_n hx dX11_walk_20 rfl 0 rfl ?_
  refine kf_getI hx sl_72_21 fl_RX11_290 dX11_walk_21 ?_
  refine kf_icmp_ge hx 116 dX11_walk_24 (by decide) (fun c => ?_) (fun c => ?_)
  · replace h := h.1 c
    refine kf_sub [0, 1, 2, 3] rfl ?_
    exact hE18 _ _ h
  · replace h := h.2 c
    refine kf_iload_n hx dX11_walk_27 rfl 1 rfl ?_
    refine kf_iload hx dX11_walk_28 4 rfl ?_
    refine kf_ishr hx dX11_walk_30 ?_
    refine kf_iconst (v := 1) hx dX11_walk_31 (by decide) ?_
    refine kf_iand hx dX11_walk_32 ?_
    refine kf_iconst (v := 1) hx dX11_walk_33 (by decide) ?_
    refine kf_icmp_ne hx 84 dX11_walk_34 (by decide) (fun c => ?_) (fun c => ?_)
    · replace h := h.1 c
      exact wk_X11_walk_84 g hg hx I J x2 x3 x4 x5 _ _ _ _ hE7 hK7 hE18 hK18 _ hret h
    · replace h := h.2 c
      refine kf_iload_n hx dX11_walk_37 rfl 2 rfl ?_
      refine kf_aload_n hx dX11_walk_38 rfl 0 rfl ?_
      refine kf_getR (n := 80) hx sl_72_27 fl_RX11_44 dX11_walk_39 ?_
      refine kf_iload hx dX11_walk_42 4 rfl ?_
      refine kf_iald hx ar_80 h.1 dX11_walk_44 ?_
      replace h := h.2
      refine kf_ishr hx dX11_walk_45 ?_
      refine kf_iconst (v := 1) hx dX11_walk_46 (by decide) ?_
      refine kf_iand hx dX11_walk_47 ?_
      refine kf_iconst (v := 1) hx dX11_walk_48 (by decide) ?_
      refine kf_icmp_ne hx 84 dX11_walk_49 (by decide) (fun c => ?_) (fun c => ?_)
      · replace h := h.1 c
        exact wk_X11_walk_84 g hg hx I J x2 x3 x4 x5 _ _ _ _ hE7 hK7 hE18 hK18 _ hret h
      · replace h := h.2 c
        refine kf_aload_n hx dX11_walk_52 rfl 0 rfl ?_
        refine kf_aload_n hx dX11_walk_53 rfl 0 rfl ?_
        refine kf_getR (n := 80) hx sl_72_27 fl_RX11_44 dX11_walk_54 ?_
        refine kf_iload hx dX11_walk_57 4 rfl ?_
        refine kf_iald hx ar_80 h.1 dX11_walk_59 ?_
        replace h := h.2
        refine kf_callVbP (st := []) hx (m_X11_isStubborn g hg (I 80 (Int32.toNatClampNeg x5)) I J _ h) lk_RX11_308 km_X11_isStubborn ob_72 rfl (by decide) rfl (Nat.le_of_ble_eq_true rfl) dX11_walk_60 (fun r_2 h => ?_)
        refine kf_ifB_ne hx 84 dX11_walk_63 (by decide) (fun c => ?_) (fun c => ?_)
        · replace h := h.1 c
          exact wk_X11_walk_84 g hg hx I J x2 x3 x4 x5 _ _ _ _ hE7 hK7 hE18 hK18 _ hret h
        · replace h := h.2 c
          refine kf_iload_n hx dX11_walk_66 rfl 2 rfl ?_
          refine kf_aload_n hx dX11_walk_67 rfl 0 rfl ?_
          refine kf_getR (n := 79) hx sl_72_26 fl_RX11_41 dX11_walk_68 ?_
          refine kf_iload hx dX11_walk_71 4 rfl ?_
          refine kf_iald hx ar_79 h.1 dX11_walk_73 ?_
          replace h := h.2
          refine kf_ishr hx dX11_walk_74 ?_
          refine kf_iconst (v := 1) hx dX11_walk_75 (by decide) ?_
          refine kf_iand hx dX11_walk_76 ?_
          refine kf_if_ne hx 84 dX11_walk_77 (by decide) (fun c => ?_) (fun c => ?_)
          · replace h := h.1 c
            exact wk_X11_walk_84 g hg hx I J x2 x3 x4 x5 _ _ _ _ hE7 hK7 hE18 hK18 _ hret h
          · replace h := h.2 c
            refine kf_iconst (v := 1) hx dX11_walk_80 (by decide) ?_
            refine kf_goto hx 85 dX11_walk_81 (by decide) ?_
            exact wk_X11_walk_85 g hg hx I J x2 x3 x4 x5 1 _ _ _ _ hE7 hK7 hE18 hK18 _ hret h
theorem wl_X11_walk_18 (g : kf_G) (hg : kf_g g) {x : kf_X} (hx : kf_ok g x RX11 cX11_walk 7 1 21) (I : HI) (J : HJ) (x2 : Int32) (E7 : Int32 → Prop) (K7 : Int32 × Int32 → Prop) (hE7 : ∀ (y3 : Int32), E7 y3 → kf_M g x 7 119 [(3, .int y3)] [] I J) (hK7 : ∀ (y3 : Int32) (y4 : Int32), K7 (y3, y4) → kf_M g x 7 7 [(0, .ref (g.2.2.2 72)), (2, .int x2), (3, .int y3), (4, .int y4)] [] I J) (Post : Int32 → Prop) (hret : ∀ (pc : Nat) (lv : List (Nat × Value)) (v : Int32), decode cX11_walk pc = .ok (.ireturn, 1) → Post v → kf_M g x 7 pc lv [.int v] I J) (E18 : Int32 → Int32 → Prop) (hE18 : ∀ (y3 : Int32) (y4 : Int32), E18 y3 y4 → kf_M g x 7 116 [(0, .ref (g.2.2.2 72)), (2, .int x2), (3, .int y3), (4, .int y4)] [] I J) : ∀ (n : Nat) (x3 : Int32) (x4 : Int32) (x5 : Int32), lp (wb_X11_walk_18 I J x2 E7 K7 Post E18) n (x3, x4, x5) → kf_M g x 7 18 [(0, .ref (g.2.2.2 72)), (2, .int x2), (3, .int x3), (4, .int x4), (5, .int x5)] [] I J := by
  intro n
  induction n with
  | zero => intro x3 x4 x5 h; exact h.elim
  | succ n ih => intro x3 x4 x5 h; exact ws_X11_walk_18 g hg hx I J x2 E7 K7 hE7 hK7 Post hret E18 hE18 (lp (wb_X11_walk_18 I J x2 E7 K7 Post E18) n) ih x3 x4 x5 h
def wb_X11_walk_7 (I : HI) (J : HJ) (x2 : Int32) (Post : Int32 → Prop) (E7 : Int32 → Prop) (K7 : (Int32 × Int32) → Prop) (s : Int32 × Int32) : Prop :=
  match s with
  | (x3, x4) => (x4 = 0 → (E7 x3)) ∧ (¬ x4 = 0 → (∃ n, lp (wb_X11_walk_18 I J x2 E7 K7 Post (fun (x3_3 : Int32) (x4_4 : Int32) => K7 (x3_3, x4_4))) n (x3, 0, 0)))
set_option maxHeartbeats 4000000 in
set_option maxRecDepth 20000 in
theorem ws_X11_walk_7 (g : kf_G) (hg : kf_g g) {x : kf_X} (hx : kf_ok g x RX11 cX11_walk 7 1 21) (I : HI) (J : HJ) (x2 : Int32) (Post : Int32 → Prop) (hret : ∀ (pc : Nat) (lv : List (Nat × Value)) (v : Int32), decode cX11_walk pc = .ok (.ireturn, 1) → Post v → kf_M g x 7 pc lv [.int v] I J) (E7 : Int32 → Prop) (hE7 : ∀ (y3 : Int32), E7 y3 → kf_M g x 7 119 [(3, .int y3)] [] I J) (K7 : (Int32 × Int32) → Prop) (hK7 : ∀ (y3 : Int32) (y4 : Int32), K7 (y3, y4) → kf_M g x 7 7 [(0, .ref (g.2.2.2 72)), (2, .int x2), (3, .int y3), (4, .int y4)] [] I J) (x3 : Int32) (x4 : Int32) (h : wb_X11_walk_7 I J x2 Post E7 K7 (x3, x4)) : kf_M g x 7 7 [(0, .ref (g.2.2.2 72)), (2, .int x2), (3, .int x3), (4, .int x4)] [] I J := by
  unfold wb_X11_walk_7 at h
  refine kf_iload hx dX11_walk_7 3 rfl ?_
  refine kf_if_eq hx 119 dX11_walk_9 (by decide) (fun c => ?_) (fun c => ?_)
  · replace h := h.1 c
    refine kf_sub [2] rfl ?_
    exact hE7 _ h
  · replace h := h.2 c
    refine kf_iconst (v := 0) hx dX11_walk_12 (by decide) ?_
    refine kf_istore (lv' := [(4, .int 0), (0, .ref (g.2.2.2 72)), (2, .int x2), (3, .int x3)]) hx dX11_walk_13 (by decide) rfl ?_
    refine kf_iconst (v := 0) hx dX11_walk_15 (by decide) ?_
    refine kf_istore (lv' := [(5, .int 0), (4, .int 0), (0, .ref (g.2.2.2 72)), (2, .int x2), (3, .int x3)]) hx dX11_walk_16 (by decide) rfl ?_
    obtain ⟨n, h⟩ := h
    refine kf_sub [2, 3, 4, 1, 0] rfl ?_
    refine wl_X11_walk_18 g hg hx I J x2 _ _ hE7 hK7 _ hret _ (fun x3_3 x4_4 h => ?_) n _ _ _ h
    refine kf_goto hx 7 dX11_walk_116 (by decide) ?_
    exact hK7 _ _ h
theorem wl_X11_walk_7 (g : kf_G) (hg : kf_g g) {x : kf_X} (hx : kf_ok g x RX11 cX11_walk 7 1 21) (I : HI) (J : HJ) (x2 : Int32) (Post : Int32 → Prop) (hret : ∀ (pc : Nat) (lv : List (Nat × Value)) (v : Int32), decode cX11_walk pc = .ok (.ireturn, 1) → Post v → kf_M g x 7 pc lv [.int v] I J) (E7 : Int32 → Prop) (hE7 : ∀ (y3 : Int32), E7 y3 → kf_M g x 7 119 [(3, .int y3)] [] I J) : ∀ (n : Nat) (x3 : Int32) (x4 : Int32), lp (wb_X11_walk_7 I J x2 Post E7) n (x3, x4) → kf_M g x 7 7 [(0, .ref (g.2.2.2 72)), (2, .int x2), (3, .int x3), (4, .int x4)] [] I J := by
  intro n
  induction n with
  | zero => intro x3 x4 h; exact h.elim
  | succ n ih => intro x3 x4 h; exact ws_X11_walk_7 g hg hx I J x2 Post hret E7 hE7 (lp (wb_X11_walk_7 I J x2 Post E7) n) ih x3 x4 h
def w_X11_walk (x1 : Int32) (x2 : Int32) (I : HI) (J : HJ) (Post : Int32 → Prop) : Prop :=
  ∃ n, lp (wb_X11_walk_7 I J x2 Post (fun (x3_5 : Int32) => Post x3_5)) n ((1 <<< (x1 &&& 31)), 1)
set_option maxHeartbeats 4000000 in
set_option maxRecDepth 20000 in
theorem we_X11_walk (g : kf_G) (hg : kf_g g) {x : kf_X} (hx : kf_ok g x RX11 cX11_walk 7 1 21) (x1 : Int32) (x2 : Int32) (I : HI) (J : HJ) (Post : Int32 → Prop) (hret : ∀ (pc : Nat) (lv : List (Nat × Value)) (v : Int32), decode cX11_walk pc = .ok (.ireturn, 1) → Post v → kf_M g x 7 pc lv [.int v] I J) (h : w_X11_walk x1 x2 I J Post) : kf_M g x 7 0 [(0, .ref (g.2.2.2 72)), (1, .int x1), (2, .int x2)] [] I J := by
  unfold w_X11_walk at h
  refine kf_iconst (v := 1) hx dX11_walk_0 (by decide) ?_
  refine kf_iload_n hx dX11_walk_1 rfl 1 rfl ?_
  refine kf_ishl hx dX11_walk_2 ?_
  refine kf_istore_n (lv' := [(3, .int (1 <<< (x1 &&& 31))), (0, .ref (g.2.2.2 72)), (1, .int x1), (2, .int x2)]) hx dX11_walk_3 rfl (by decide) rfl ?_
  refine kf_iconst (v := 1) hx dX11_walk_4 (by decide) ?_
  refine kf_istore (lv' := [(4, .int 1), (3, .int (1 <<< (x1 &&& 31))), (0, .ref (g.2.2.2 72)), (1, .int x1), (2, .int x2)]) hx dX11_walk_5 (by decide) rfl ?_
  obtain ⟨n, h⟩ := h
  refine kf_sub [2, 4, 1, 0] rfl ?_
  refine wl_X11_walk_7 g hg hx I J x2 _ hret _ (fun x3_5 h => ?_) n _ _ h
  refine kf_iload_n hx dX11_walk_119 rfl 0 rfl ?_
  exact hret _ _ x3_5  dX11_walk_120 h
set_option maxHeartbeats 4000000 in
set_option maxRecDepth 20000 in
theorem m_X11_walk (g : kf_G) (hg : kf_g g) (x1 : Int32) (x2 : Int32) (I : HI) (J : HJ) (Post : Int32 → Prop) (h : w_X11_walk x1 x2 I J Post) : kf_Mi g yX11_walk (kf_W yX11_walk cX11_walk 7 (Option.some Jvm.ClassFile.FieldType.int)) 1 21 [.ref (g.2.2.2 72), .int x1, .int x2] I J (fun v I' J' => Post v ∧ I' = I ∧ J' = J) :=
  kf_enti hg (by decide) (Nat.le_of_ble_eq_true rfl) rfl (fun x hx hr => we_X11_walk g hg hx x1 x2 I J Post (fun pc lv v hd hP => hr pc lv v I J hd ⟨hP, rfl, rfl⟩) h)
theorem dX11_backWalk_0 : decode cX11_backWalk 0 = .ok (.aload_n 0, 1) := by decide +kernel
theorem dX11_backWalk_1 : decode cX11_backWalk 1 = .ok (.iconst 0, 1) := by decide +kernel
theorem dX11_backWalk_2 : decode cX11_backWalk 2 = .ok (.putfield 106, 3) := by decide +kernel
theorem dX11_backWalk_5 : decode cX11_backWalk 5 = .ok (.aload_n 0, 1) := by decide +kernel
theorem dX11_backWalk_6 : decode cX11_backWalk 6 = .ok (.iconst 0, 1) := by decide +kernel
theorem dX11_backWalk_7 : decode cX11_backWalk 7 = .ok (.putfield 109, 3) := by decide +kernel
theorem dX11_backWalk_10 : decode cX11_backWalk 10 = .ok (.aload_n 0, 1) := by decide +kernel
theorem dX11_backWalk_11 : decode cX11_backWalk 11 = .ok (.iload_n 1, 1) := by decide +kernel
theorem dX11_backWalk_12 : decode cX11_backWalk 12 = .ok (.invokevirtual 296, 3) := by decide +kernel
theorem dX11_backWalk_15 : decode cX11_backWalk 15 = .ok (.ifCond .eq 20, 3) := by decide +kernel
theorem dX11_backWalk_18 : decode cX11_backWalk 18 = .ok (.aload_n 0, 1) := by decide +kernel
theorem dX11_backWalk_19 : decode cX11_backWalk 19 = .ok (.iload_n 2, 1) := by decide +kernel
theorem dX11_backWalk_20 : decode cX11_backWalk 20 = .ok (.invokevirtual 301, 3) := by decide +kernel
theorem dX11_backWalk_23 : decode cX11_backWalk 23 = .ok (.ifCond .eq 12, 3) := by decide +kernel
theorem dX11_backWalk_26 : decode cX11_backWalk 26 = .ok (.aload_n 0, 1) := by decide +kernel
theorem dX11_backWalk_27 : decode cX11_backWalk 27 = .ok (.iload_n 1, 1) := by decide +kernel
theorem dX11_backWalk_28 : decode cX11_backWalk 28 = .ok (.iload_n 2, 1) := by decide +kernel
theorem dX11_backWalk_29 : decode cX11_backWalk 29 = .ok (.invokevirtual 320, 3) := by decide +kernel
theorem dX11_backWalk_32 : decode cX11_backWalk 32 = .ok (.goto 8, 3) := by decide +kernel
theorem dX11_backWalk_35 : decode cX11_backWalk 35 = .ok (.aload_n 0, 1) := by decide +kernel
theorem dX11_backWalk_36 : decode cX11_backWalk 36 = .ok (.iconst 2, 1) := by decide +kernel
theorem dX11_backWalk_37 : decode cX11_backWalk 37 = .ok (.invokevirtual 272, 3) := by decide +kernel
theorem dX11_backWalk_40 : decode cX11_backWalk 40 = .ok (.ireturn, 1) := by decide +kernel
def wj_X11_backWalk_35 (I : HI) (J : HJ)  (Post : Int32 → HI → Prop) : Prop :=
  w_X11_refusedBy 2 I J (fun (r_4 : Int32) (I_5 : HI) => (Post r_4 I_5))
set_option maxHeartbeats 4000000 in
set_option maxRecDepth 20000 in
theorem wk_X11_backWalk_35 (g : kf_G) (hg : kf_g g) {x : kf_X} (hx : kf_ok g x RX11 cX11_backWalk 3 2 47) (I : HI) (J : HJ)  (Post : Int32 → HI → Prop) (hret : ∀ (pc : Nat) (lv : List (Nat × Value)) (v : Int32) (Iy : HI), decode cX11_backWalk pc = .ok (.ireturn, 1) → Post v Iy → kf_M g x 3 pc lv [.int v] Iy J) (h : wj_X11_backWalk_35 I J  Post) : kf_M g x 3 35 [(0, .ref (g.2.2.2 72))] [] I J := by
  unfold wj_X11_backWalk_35 at h
  refine kf_aload_n hx dX11_backWalk_35 rfl 0 rfl ?_
  refine kf_iconst (v := 2) hx dX11_backWalk_36 (by decide) ?_
  refine kf_callViI (st := []) hx (m_X11_refusedBy g hg 2 I J _ h) lk_RX11_272 km_X11_refusedBy ob_72 rfl (by decide) rfl (Nat.le_of_ble_eq_true rfl) dX11_backWalk_37 (fun r_4 I_5 h => ?_)
  exact hret _ _ r_4 _ dX11_backWalk_40 h
def w_X11_backWalk (x1 : Int32) (x2 : Int32) (I : HI) (J : HJ) (Post : Int32 → HI → Prop) : Prop :=
  ∀ I_1 : HI, I_1 = hI I 72 1 0 → (∀ I_2 : HI, I_2 = hI I_1 72 0 0 → (w_X11_isOne x1 I_2 J (fun (r_3 : Bool) => ((r_3 = false → (wj_X11_backWalk_35 I_2 J Post)) ∧ (r_3 = true → (w_X11_isLot x2 I_2 J (fun (r_6 : Bool) => ((r_6 = false → (wj_X11_backWalk_35 I_2 J Post)) ∧ (r_6 = true → (w_X11_walk x1 x2 I_2 J (fun (r_7 : Int32) => (Post r_7 I_2))))))))))))
set_option maxHeartbeats 4000000 in
set_option maxRecDepth 20000 in
theorem we_X11_backWalk (g : kf_G) (hg : kf_g g) {x : kf_X} (hx : kf_ok g x RX11 cX11_backWalk 3 2 47) (x1 : Int32) (x2 : Int32) (I : HI) (J : HJ) (Post : Int32 → HI → Prop) (hret : ∀ (pc : Nat) (lv : List (Nat × Value)) (v : Int32) (Iy : HI), decode cX11_backWalk pc = .ok (.ireturn, 1) → Post v Iy → kf_M g x 3 pc lv [.int v] Iy J) (h : w_X11_backWalk x1 x2 I J Post) : kf_M g x 3 0 [(0, .ref (g.2.2.2 72)), (1, .int x1), (2, .int x2)] [] I J := by
  unfold w_X11_backWalk at h
  refine kf_aload_n hx dX11_backWalk_0 rfl 0 rfl ?_
  refine kf_iconst (v := 0) hx dX11_backWalk_1 (by decide) ?_
  refine kf_putI hx sl_72_1 fl_RX11_106 fp_11_1 dX11_backWalk_2 ?_
  refine kf_nmI (fun I_1 eI_1 => ?_)
  replace h := h I_1 eI_1
  refine kf_aload_n hx dX11_backWalk_5 rfl 0 rfl ?_
  refine kf_iconst (v := 0) hx dX11_backWalk_6 (by decide) ?_
  refine kf_putI hx sl_72_0 fl_RX11_109 fp_11_0 dX11_backWalk_7 ?_
  refine kf_nmI (fun I_2 eI_2 => ?_)
  replace h := h I_2 eI_2
  refine kf_aload_n hx dX11_backWalk_10 rfl 0 rfl ?_
  refine kf_iload_n hx dX11_backWalk_11 rfl 1 rfl ?_
  refine kf_callVbP (st := []) hx (m_X11_isOne g hg x1 I_2 J _ h) lk_RX11_296 km_X11_isOne ob_72 rfl (by decide) rfl (Nat.le_of_ble_eq_true rfl) dX11_backWalk_12 (fun r_3 h => ?_)
  refine kf_ifB_eq hx 35 dX11_backWalk_15 (by decide) (fun c => ?_) (fun c => ?_)
  · replace h := h.1 c
    refine kf_sub [0] rfl ?_
    exact wk_X11_backWalk_35 g hg hx I_2 J  _ hret h
  · replace h := h.2 c
    refine kf_aload_n hx dX11_backWalk_18 rfl 0 rfl ?_
    refine kf_iload_n hx dX11_backWalk_19 rfl 2 rfl ?_
    refine kf_callVbP (st := []) hx (m_X11_isLot g hg x2 I_2 J _ h) lk_RX11_301 km_X11_isLot ob_72 rfl (by decide) rfl (Nat.le_of_ble_eq_true rfl) dX11_backWalk_20 (fun r_6 h => ?_)
    refine kf_ifB_eq hx 35 dX11_backWalk_23 (by decide) (fun c => ?_) (fun c => ?_)
    · replace h := h.1 c
      refine kf_sub [0] rfl ?_
      exact wk_X11_backWalk_35 g hg hx I_2 J  _ hret h
    · replace h := h.2 c
      refine kf_aload_n hx dX11_backWalk_26 rfl 0 rfl ?_
      refine kf_iload_n hx dX11_backWalk_27 rfl 1 rfl ?_
      refine kf_iload_n hx dX11_backWalk_28 rfl 2 rfl ?_
      refine kf_callViP (st := []) hx (m_X11_walk g hg x1 x2 I_2 J _ h) lk_RX11_320 km_X11_walk ob_72 rfl (by decide) rfl (Nat.le_of_ble_eq_true rfl) dX11_backWalk_29 (fun r_7 h => ?_)
      refine kf_goto hx 40 dX11_backWalk_32 (by decide) ?_
      exact hret _ _ r_7 _ dX11_backWalk_40 h
set_option maxHeartbeats 4000000 in
set_option maxRecDepth 20000 in
theorem m_X11_backWalk (g : kf_G) (hg : kf_g g) (x1 : Int32) (x2 : Int32) (I : HI) (J : HJ) (Post : Int32 → HI → Prop) (h : w_X11_backWalk x1 x2 I J Post) : kf_Mi g yX11_backWalk (kf_W yX11_backWalk cX11_backWalk 3 (Option.some Jvm.ClassFile.FieldType.int)) 2 47 [.ref (g.2.2.2 72), .int x1, .int x2] I J (fun v I' J' => Post v I' ∧ J' = J) :=
  kf_enti hg (by decide) (Nat.le_of_ble_eq_true rfl) rfl (fun x hx hr => we_X11_backWalk g hg hx x1 x2 I J Post (fun pc lv v I' hd hP => hr pc lv v I' J hd ⟨hP, rfl⟩) h)
theorem dX11_whole_0 : decode cX11_whole 0 = .ok (.lconst 1, 1) := by decide +kernel
theorem dX11_whole_1 : decode cX11_whole 1 = .ok (.lstore_n 1, 1) := by decide +kernel
theorem dX11_whole_2 : decode cX11_whole 2 = .ok (.iconst 0, 1) := by decide +kernel
theorem dX11_whole_3 : decode cX11_whole 3 = .ok (.istore_n 3, 1) := by decide +kernel
theorem dX11_whole_4 : decode cX11_whole 4 = .ok (.iload_n 3, 1) := by decide +kernel
theorem dX11_whole_5 : decode cX11_whole 5 = .ok (.aload_n 0, 1) := by decide +kernel
theorem dX11_whole_6 : decode cX11_whole 6 = .ok (.getfield 290, 3) := by decide +kernel
theorem dX11_whole_9 : decode cX11_whole 9 = .ok (.if_icmp .ge 15, 3) := by decide +kernel
theorem dX11_whole_12 : decode cX11_whole 12 = .ok (.lload_n 1, 1) := by decide +kernel
theorem dX11_whole_13 : decode cX11_whole 13 = .ok (.ldc2_w 323, 3) := by decide +kernel
theorem dX11_whole_16 : decode cX11_whole 16 = .ok (.lmul, 1) := by decide +kernel
theorem dX11_whole_17 : decode cX11_whole 17 = .ok (.lstore_n 1, 1) := by decide +kernel
theorem dX11_whole_18 : decode cX11_whole 18 = .ok (.iinc 3 1, 3) := by decide +kernel
theorem dX11_whole_21 : decode cX11_whole 21 = .ok (.goto (-17), 3) := by decide +kernel
theorem dX11_whole_24 : decode cX11_whole 24 = .ok (.lload_n 1, 1) := by decide +kernel
theorem dX11_whole_25 : decode cX11_whole 25 = .ok (.lreturn, 1) := by decide +kernel
def wb_X11_whole_4 (I : HI) (J : HJ) (Post : Int64 → Prop) (E4 : Int64 → Prop) (K4 : (Int64 × Int32) → Prop) (s : Int64 × Int32) : Prop :=
  match s with
  | (x1, x3) => ((I 72 21) ≤ x3 → (E4 x1)) ∧ (¬ (I 72 21) ≤ x3 → (K4 ((x1 * 16), (x3 + 1))))
set_option maxHeartbeats 4000000 in
set_option maxRecDepth 20000 in
theorem ws_X11_whole_4 (g : kf_G) (hg : kf_g g) {x : kf_X} (hx : kf_ok g x RX11 cX11_whole 4 0 0) (I : HI) (J : HJ) (Post : Int64 → Prop) (hret : ∀ (pc : Nat) (lv : List (Nat × Value)) (v : Int64), decode cX11_whole pc = .ok (.lreturn, 1) → Post v → kf_M g x 4 pc lv [.long v] I J) (E4 : Int64 → Prop) (hE4 : ∀ (y1 : Int64), E4 y1 → kf_M g x 4 24 [(1, .long y1)] [] I J) (K4 : (Int64 × Int32) → Prop) (hK4 : ∀ (y1 : Int64) (y3 : Int32), K4 (y1, y3) → kf_M g x 4 4 [(0, .ref (g.2.2.2 72)), (1, .long y1), (3, .int y3)] [] I J) (x1 : Int64) (x3 : Int32) (h : wb_X11_whole_4 I J Post E4 K4 (x1, x3)) : kf_M g x 4 4 [(0, .ref (g.2.2.2 72)), (1, .long x1), (3, .int x3)] [] I J := by
  unfold wb_X11_whole_4 at h
  refine kf_iload_n hx dX11_whole_4 rfl 2 rfl ?_
  refine kf_aload_n hx dX11_whole_5 rfl 0 rfl ?_
  refine kf_getI hx sl_72_21 fl_RX11_290 dX11_whole_6 ?_
  refine kf_icmp_ge hx 24 dX11_whole_9 (by decide) (fun c => ?_) (fun c => ?_)
  · replace h := h.1 c
    refine kf_sub [1] rfl ?_
    exact hE4 _ h
  · replace h := h.2 c
    refine kf_lload_n hx dX11_whole_12 rfl 1 rfl ?_
    refine kf_ldc2 hx ko_RX11_323 dX11_whole_13 ?_
    refine kf_lmul hx dX11_whole_16 ?_
    refine kf_lstore_n (lv' := [(1, .long (x1 * 16)), (0, .ref (g.2.2.2 72)), (3, .int x3)]) hx dX11_whole_17 rfl (by decide) rfl ?_
    refine kf_iinc (w := (x3 + 1)) (lv' := [(3, .int (x3 + 1)), (1, .long (x1 * 16)), (0, .ref (g.2.2.2 72))]) hx dX11_whole_18 2 rfl rfl (by decide) rfl ?_
    refine kf_goto hx 4 dX11_whole_21 (by decide) ?_
    refine kf_sub [2, 1, 0] rfl ?_
    exact hK4 _ _ h
theorem wl_X11_whole_4 (g : kf_G) (hg : kf_g g) {x : kf_X} (hx : kf_ok g x RX11 cX11_whole 4 0 0) (I : HI) (J : HJ) (Post : Int64 → Prop) (hret : ∀ (pc : Nat) (lv : List (Nat × Value)) (v : Int64), decode cX11_whole pc = .ok (.lreturn, 1) → Post v → kf_M g x 4 pc lv [.long v] I J) (E4 : Int64 → Prop) (hE4 : ∀ (y1 : Int64), E4 y1 → kf_M g x 4 24 [(1, .long y1)] [] I J) : ∀ (n : Nat) (x1 : Int64) (x3 : Int32), lp (wb_X11_whole_4 I J Post E4) n (x1, x3) → kf_M g x 4 4 [(0, .ref (g.2.2.2 72)), (1, .long x1), (3, .int x3)] [] I J := by
  intro n
  induction n with
  | zero => intro x1 x3 h; exact h.elim
  | succ n ih => intro x1 x3 h; exact ws_X11_whole_4 g hg hx I J Post hret E4 hE4 (lp (wb_X11_whole_4 I J Post E4) n) ih x1 x3 h
def w_X11_whole  (I : HI) (J : HJ) (Post : Int64 → Prop) : Prop :=
  ∃ n, lp (wb_X11_whole_4 I J Post (fun (x1_1 : Int64) => Post x1_1)) n (1, 0)
set_option maxHeartbeats 4000000 in
set_option maxRecDepth 20000 in
theorem we_X11_whole (g : kf_G) (hg : kf_g g) {x : kf_X} (hx : kf_ok g x RX11 cX11_whole 4 0 0)  (I : HI) (J : HJ) (Post : Int64 → Prop) (hret : ∀ (pc : Nat) (lv : List (Nat × Value)) (v : Int64), decode cX11_whole pc = .ok (.lreturn, 1) → Post v → kf_M g x 4 pc lv [.long v] I J) (h : w_X11_whole  I J Post) : kf_M g x 4 0 [(0, .ref (g.2.2.2 72))] [] I J := by
  unfold w_X11_whole at h
  refine kf_lconst (v := 1) hx dX11_whole_0 (by decide) ?_
  refine kf_lstore_n (lv' := [(1, .long 1), (0, .ref (g.2.2.2 72))]) hx dX11_whole_1 rfl (by decide) rfl ?_
  refine kf_iconst (v := 0) hx dX11_whole_2 (by decide) ?_
  refine kf_istore_n (lv' := [(3, .int 0), (1, .long 1), (0, .ref (g.2.2.2 72))]) hx dX11_whole_3 rfl (by decide) rfl ?_
  obtain ⟨n, h⟩ := h
  refine kf_sub [2, 1, 0] rfl ?_
  refine wl_X11_whole_4 g hg hx I J  _ hret _ (fun x1_1 h => ?_) n _ _ h
  refine kf_lload_n hx dX11_whole_24 rfl 0 rfl ?_
  exact hret _ _ x1_1  dX11_whole_25 h
set_option maxHeartbeats 4000000 in
set_option maxRecDepth 20000 in
theorem m_X11_whole (g : kf_G) (hg : kf_g g)  (I : HI) (J : HJ) (Post : Int64 → Prop) (h : w_X11_whole  I J Post) : kf_Ml g yX11_whole (kf_W yX11_whole cX11_whole 4 (Option.some Jvm.ClassFile.FieldType.long)) 0 0 [.ref (g.2.2.2 72)] I J (fun v I' J' => Post v ∧ I' = I ∧ J' = J) :=
  kf_entl hg (by decide) (Nat.le_of_ble_eq_true rfl) rfl (fun x hx hr => we_X11_whole g hg hx  I J Post (fun pc lv v hd hP => hr pc lv v I J hd ⟨hP, rfl, rfl⟩) h)
theorem dX11_spreadOf_0 : decode cX11_spreadOf 0 = .ok (.lconst 0, 1) := by decide +kernel
theorem dX11_spreadOf_1 : decode cX11_spreadOf 1 = .ok (.lstore_n 3, 1) := by decide +kernel
theorem dX11_spreadOf_2 : decode cX11_spreadOf 2 = .ok (.iconst 0, 1) := by decide +kernel
theorem dX11_spreadOf_3 : decode cX11_spreadOf 3 = .ok (.istore 5, 2) := by decide +kernel
theorem dX11_spreadOf_5 : decode cX11_spreadOf 5 = .ok (.iload 5, 2) := by decide +kernel
theorem dX11_spreadOf_7 : decode cX11_spreadOf 7 = .ok (.iconst 1, 1) := by decide +kernel
theorem dX11_spreadOf_8 : decode cX11_spreadOf 8 = .ok (.aload_n 0, 1) := by decide +kernel
theorem dX11_spreadOf_9 : decode cX11_spreadOf 9 = .ok (.getfield 290, 3) := by decide +kernel
theorem dX11_spreadOf_12 : decode cX11_spreadOf 12 = .ok (.ishl, 1) := by decide +kernel
theorem dX11_spreadOf_13 : decode cX11_spreadOf 13 = .ok (.if_icmp .ge 45, 3) := by decide +kernel
theorem dX11_spreadOf_16 : decode cX11_spreadOf 16 = .ok (.aload_n 0, 1) := by decide +kernel
theorem dX11_spreadOf_17 : decode cX11_spreadOf 17 = .ok (.iload 5, 2) := by decide +kernel
theorem dX11_spreadOf_19 : decode cX11_spreadOf 19 = .ok (.invokevirtual 304, 3) := by decide +kernel
theorem dX11_spreadOf_22 : decode cX11_spreadOf 22 = .ok (.lstore 6, 2) := by decide +kernel
theorem dX11_spreadOf_24 : decode cX11_spreadOf 24 = .ok (.lload 6, 2) := by decide +kernel
theorem dX11_spreadOf_26 : decode cX11_spreadOf 26 = .ok (.lconst 0, 1) := by decide +kernel
theorem dX11_spreadOf_27 : decode cX11_spreadOf 27 = .ok (.lcmp, 1) := by decide +kernel
theorem dX11_spreadOf_28 : decode cX11_spreadOf 28 = .ok (.ifCond .le 24, 3) := by decide +kernel
theorem dX11_spreadOf_31 : decode cX11_spreadOf 31 = .ok (.lload_n 3, 1) := by decide +kernel
theorem dX11_spreadOf_32 : decode cX11_spreadOf 32 = .ok (.lload 6, 2) := by decide +kernel
theorem dX11_spreadOf_34 : decode cX11_spreadOf 34 = .ok (.aload_n 0, 1) := by decide +kernel
theorem dX11_spreadOf_35 : decode cX11_spreadOf 35 = .ok (.iload_n 1, 1) := by decide +kernel
theorem dX11_spreadOf_36 : decode cX11_spreadOf 36 = .ok (.iload 5, 2) := by decide +kernel
theorem dX11_spreadOf_38 : decode cX11_spreadOf 38 = .ok (.iload_n 2, 1) := by decide +kernel
theorem dX11_spreadOf_39 : decode cX11_spreadOf 39 = .ok (.iconst (-1), 1) := by decide +kernel
theorem dX11_spreadOf_40 : decode cX11_spreadOf 40 = .ok (.ixor, 1) := by decide +kernel
theorem dX11_spreadOf_41 : decode cX11_spreadOf 41 = .ok (.iand, 1) := by decide +kernel
theorem dX11_spreadOf_42 : decode cX11_spreadOf 42 = .ok (.invokevirtual 317, 3) := by decide +kernel
theorem dX11_spreadOf_45 : decode cX11_spreadOf 45 = .ok (.invokestatic 325, 3) := by decide +kernel
theorem dX11_spreadOf_48 : decode cX11_spreadOf 48 = .ok (.i2l, 1) := by decide +kernel
theorem dX11_spreadOf_49 : decode cX11_spreadOf 49 = .ok (.lmul, 1) := by decide +kernel
theorem dX11_spreadOf_50 : decode cX11_spreadOf 50 = .ok (.ladd, 1) := by decide +kernel
theorem dX11_spreadOf_51 : decode cX11_spreadOf 51 = .ok (.lstore_n 3, 1) := by decide +kernel
theorem dX11_spreadOf_52 : decode cX11_spreadOf 52 = .ok (.iinc 5 1, 3) := by decide +kernel
theorem dX11_spreadOf_55 : decode cX11_spreadOf 55 = .ok (.goto (-50), 3) := by decide +kernel
theorem dX11_spreadOf_58 : decode cX11_spreadOf 58 = .ok (.lload_n 3, 1) := by decide +kernel
theorem dX11_spreadOf_59 : decode cX11_spreadOf 59 = .ok (.lreturn, 1) := by decide +kernel
def wb_X11_spreadOf_5 (I : HI) (J : HJ) (x1 : Int32) (x2 : Int32) (Post : Int64 → Prop) (E5 : Int64 → Prop) (K5 : (Int64 × Int32) → Prop) (s : Int64 × Int32) : Prop :=
  match s with
  | (x3, x5) => ((1 <<< ((I 72 21) &&& 31)) ≤ x5 → (E5 x3)) ∧ (¬ (1 <<< ((I 72 21) &&& 31)) ≤ x5 → (w_X11_weightOf x5 I J (fun (r_1 : Int64) => ((r_1 ≤ 0 → (K5 (x3, (x5 + 1)))) ∧ (¬ r_1 ≤ 0 → (w_X11_reach x1 (x5 &&& (x2 ^^^ (-1))) I J (fun (r_2 : Int32) => (w_J6_bitCount_0f7a4 r_2 (fun (r_3 : Int32) => (K5 ((x3 + (r_1 * (Int32.toInt64 r_3))), (x5 + 1))))))))))))
set_option maxHeartbeats 4000000 in
set_option maxRecDepth 20000 in
theorem ws_X11_spreadOf_5 (g : kf_G) (hg : kf_g g) {x : kf_X} (hx : kf_ok g x RX11 cX11_spreadOf 8 2 48) (I : HI) (J : HJ) (x1 : Int32) (x2 : Int32) (Post : Int64 → Prop) (hret : ∀ (pc : Nat) (lv : List (Nat × Value)) (v : Int64), decode cX11_spreadOf pc = .ok (.lreturn, 1) → Post v → kf_M g x 8 pc lv [.long v] I J) (E5 : Int64 → Prop) (hE5 : ∀ (y3 : Int64), E5 y3 → kf_M g x 8 58 [(3, .long y3)] [] I J) (K5 : (Int64 × Int32) → Prop) (hK5 : ∀ (y3 : Int64) (y5 : Int32), K5 (y3, y5) → kf_M g x 8 5 [(0, .ref (g.2.2.2 72)), (1, .int x1), (2, .int x2), (3, .long y3), (5, .int y5)] [] I J) (x3 : Int64) (x5 : Int32) (h : wb_X11_spreadOf_5 I J x1 x2 Post E5 K5 (x3, x5)) : kf_M g x 8 5 [(0, .ref (g.2.2.2 72)), (1, .int x1), (2, .int x2), (3, .long x3), (5, .int x5)] [] I J := by
  unfold wb_X11_spreadOf_5 at h
  refine kf_iload hx dX11_spreadOf_5 4 rfl ?_
  refine kf_iconst (v := 1) hx dX11_spreadOf_7 (by decide) ?_
  refine kf_aload_n hx dX11_spreadOf_8 rfl 0 rfl ?_
  refine kf_getI hx sl_72_21 fl_RX11_290 dX11_spreadOf_9 ?_
  refine kf_ishl hx dX11_spreadOf_12 ?_
  refine kf_icmp_ge hx 58 dX11_spreadOf_13 (by decide) (fun c => ?_) (fun c => ?_)
  · replace h := h.1 c
    refine kf_sub [3] rfl ?_
    exact hE5 _ h
  · replace h := h.2 c
    refine kf_aload_n hx dX11_spreadOf_16 rfl 0 rfl ?_
    refine kf_iload hx dX11_spreadOf_17 4 rfl ?_
    refine kf_callVlP (st := []) hx (m_X11_weightOf g hg x5 I J _ h) lk_RX11_304 km_X11_weightOf ob_72 rfl (by decide) rfl (Nat.le_of_ble_eq_true rfl) dX11_spreadOf_19 (fun r_1 h => ?_)
    refine kf_lstore (lv' := [(6, .long r_1), (0, .ref (g.2.2.2 72)), (1, .int x1), (2, .int x2), (3, .long x3), (5, .int x5)]) hx dX11_spreadOf_22 (by decide) rfl ?_
    refine kf_lload hx dX11_spreadOf_24 0 rfl ?_
    refine kf_lconst (v := 0) hx dX11_spreadOf_26 (by decide) ?_
    refine kf_l_le hx 52 dX11_spreadOf_27 dX11_spreadOf_28 (by decide) (fun c => ?_) (fun c => ?_)
    · replace h := h.1 c
      refine kf_iinc (w := (x5 + 1)) (lv' := [(5, .int (x5 + 1)), (6, .long r_1), (0, .ref (g.2.2.2 72)), (1, .int x1), (2, .int x2), (3, .long x3)]) hx dX11_spreadOf_52 5 rfl rfl (by decide) rfl ?_
      refine kf_goto hx 5 dX11_spreadOf_55 (by decide) ?_
      refine kf_sub [2, 3, 4, 5, 0] rfl ?_
      exact hK5 _ _ h
    · replace h := h.2 c
      refine kf_lload_n hx dX11_spreadOf_31 rfl 4 rfl ?_
      refine kf_lload hx dX11_spreadOf_32 0 rfl ?_
      refine kf_aload_n hx dX11_spreadOf_34 rfl 1 rfl ?_
      refine kf_iload_n hx dX11_spreadOf_35 rfl 2 rfl ?_
      refine kf_iload hx dX11_spreadOf_36 5 rfl ?_
      refine kf_iload_n hx dX11_spreadOf_38 rfl 3 rfl ?_
      refine kf_iconst (v := (-1)) hx dX11_spreadOf_39 (by decide) ?_
      refine kf_ixor hx dX11_spreadOf_40 ?_
      refine kf_iand hx dX11_spreadOf_41 ?_
      refine kf_callViP (st := [.long r_1, .long x3]) hx (m_X11_reach g hg x1 (x5 &&& (x2 ^^^ (-1))) I J _ h) lk_RX11_317 km_X11_reach ob_72 rfl (by decide) rfl (Nat.le_of_ble_eq_true rfl) dX11_spreadOf_42 (fun r_2 h => ?_)
      refine kf_callSiP (st := [.long r_1, .long x3]) hx (m_J6_bitCount_0f7a4 g hg r_2 I J _ h) lk_RX11_325 km_J6_bitCount_0f7a4 rfl (by decide) rfl (Nat.le_of_ble_eq_true rfl) dX11_spreadOf_45 (fun r_3 h => ?_)
      refine kf_i2l hx dX11_spreadOf_48 ?_
      refine kf_lmul hx dX11_spreadOf_49 ?_
      refine kf_ladd hx dX11_spreadOf_50 ?_
      refine kf_lstore_n (lv' := [(3, .long (x3 + (r_1 * (Int32.toInt64 r_3)))), (6, .long r_1), (0, .ref (g.2.2.2 72)), (1, .int x1), (2, .int x2), (5, .int x5)]) hx dX11_spreadOf_51 rfl (by decide) rfl ?_
      refine kf_iinc (w := (x5 + 1)) (lv' := [(5, .int (x5 + 1)), (3, .long (x3 + (r_1 * (Int32.toInt64 r_3)))), (6, .long r_1), (0, .ref (g.2.2.2 72)), (1, .int x1), (2, .int x2)]) hx dX11_spreadOf_52 5 rfl rfl (by decide) rfl ?_
      refine kf_goto hx 5 dX11_spreadOf_55 (by decide) ?_
      refine kf_sub [3, 4, 5, 1, 0] rfl ?_
      exact hK5 _ _ h
theorem wl_X11_spreadOf_5 (g : kf_G) (hg : kf_g g) {x : kf_X} (hx : kf_ok g x RX11 cX11_spreadOf 8 2 48) (I : HI) (J : HJ) (x1 : Int32) (x2 : Int32) (Post : Int64 → Prop) (hret : ∀ (pc : Nat) (lv : List (Nat × Value)) (v : Int64), decode cX11_spreadOf pc = .ok (.lreturn, 1) → Post v → kf_M g x 8 pc lv [.long v] I J) (E5 : Int64 → Prop) (hE5 : ∀ (y3 : Int64), E5 y3 → kf_M g x 8 58 [(3, .long y3)] [] I J) : ∀ (n : Nat) (x3 : Int64) (x5 : Int32), lp (wb_X11_spreadOf_5 I J x1 x2 Post E5) n (x3, x5) → kf_M g x 8 5 [(0, .ref (g.2.2.2 72)), (1, .int x1), (2, .int x2), (3, .long x3), (5, .int x5)] [] I J := by
  intro n
  induction n with
  | zero => intro x3 x5 h; exact h.elim
  | succ n ih => intro x3 x5 h; exact ws_X11_spreadOf_5 g hg hx I J x1 x2 Post hret E5 hE5 (lp (wb_X11_spreadOf_5 I J x1 x2 Post E5) n) ih x3 x5 h
def w_X11_spreadOf (x1 : Int32) (x2 : Int32) (I : HI) (J : HJ) (Post : Int64 → Prop) : Prop :=
  ∃ n, lp (wb_X11_spreadOf_5 I J x1 x2 Post (fun (x3_4 : Int64) => Post x3_4)) n (0, 0)
set_option maxHeartbeats 4000000 in
set_option maxRecDepth 20000 in
theorem we_X11_spreadOf (g : kf_G) (hg : kf_g g) {x : kf_X} (hx : kf_ok g x RX11 cX11_spreadOf 8 2 48) (x1 : Int32) (x2 : Int32) (I : HI) (J : HJ) (Post : Int64 → Prop) (hret : ∀ (pc : Nat) (lv : List (Nat × Value)) (v : Int64), decode cX11_spreadOf pc = .ok (.lreturn, 1) → Post v → kf_M g x 8 pc lv [.long v] I J) (h : w_X11_spreadOf x1 x2 I J Post) : kf_M g x 8 0 [(0, .ref (g.2.2.2 72)), (1, .int x1), (2, .int x2)] [] I J := by
  unfold w_X11_spreadOf at h
  refine kf_lconst (v := 0) hx dX11_spreadOf_0 (by decide) ?_
  refine kf_lstore_n (lv' := [(3, .long 0), (0, .ref (g.2.2.2 72)), (1, .int x1), (2, .int x2)]) hx dX11_spreadOf_1 rfl (by decide) rfl ?_
  refine kf_iconst (v := 0) hx dX11_spreadOf_2 (by decide) ?_
  refine kf_istore (lv' := [(5, .int 0), (3, .long 0), (0, .ref (g.2.2.2 72)), (1, .int x1), (2, .int x2)]) hx dX11_spreadOf_3 (by decide) rfl ?_
  obtain ⟨n, h⟩ := h
  refine kf_sub [2, 3, 4, 1, 0] rfl ?_
  refine wl_X11_spreadOf_5 g hg hx I J x1 x2 _ hret _ (fun x3_4 h => ?_) n _ _ h
  refine kf_lload_n hx dX11_spreadOf_58 rfl 0 rfl ?_
  exact hret _ _ x3_4  dX11_spreadOf_59 h
set_option maxHeartbeats 4000000 in
set_option maxRecDepth 20000 in
theorem m_X11_spreadOf (g : kf_G) (hg : kf_g g) (x1 : Int32) (x2 : Int32) (I : HI) (J : HJ) (Post : Int64 → Prop) (h : w_X11_spreadOf x1 x2 I J Post) : kf_Ml g yX11_spreadOf (kf_W yX11_spreadOf cX11_spreadOf 8 (Option.some Jvm.ClassFile.FieldType.long)) 2 48 [.ref (g.2.2.2 72), .int x1, .int x2] I J (fun v I' J' => Post v ∧ I' = I ∧ J' = J) :=
  kf_entl hg (by decide) (Nat.le_of_ble_eq_true rfl) rfl (fun x hx hr => we_X11_spreadOf g hg hx x1 x2 I J Post (fun pc lv v hd hP => hr pc lv v I J hd ⟨hP, rfl, rfl⟩) h)
theorem dX11_spread_0 : decode cX11_spread 0 = .ok (.aload_n 0, 1) := by decide +kernel
theorem dX11_spread_1 : decode cX11_spread 1 = .ok (.iconst 0, 1) := by decide +kernel
theorem dX11_spread_2 : decode cX11_spread 2 = .ok (.putfield 106, 3) := by decide +kernel
theorem dX11_spread_5 : decode cX11_spread 5 = .ok (.aload_n 0, 1) := by decide +kernel
theorem dX11_spread_6 : decode cX11_spread 6 = .ok (.iconst 0, 1) := by decide +kernel
theorem dX11_spread_7 : decode cX11_spread 7 = .ok (.putfield 109, 3) := by decide +kernel
theorem dX11_spread_10 : decode cX11_spread 10 = .ok (.aload_n 0, 1) := by decide +kernel
theorem dX11_spread_11 : decode cX11_spread 11 = .ok (.iload_n 1, 1) := by decide +kernel
theorem dX11_spread_12 : decode cX11_spread 12 = .ok (.invokevirtual 314, 3) := by decide +kernel
theorem dX11_spread_15 : decode cX11_spread 15 = .ok (.ifCond .eq 11, 3) := by decide +kernel
theorem dX11_spread_18 : decode cX11_spread 18 = .ok (.aload_n 0, 1) := by decide +kernel
theorem dX11_spread_19 : decode cX11_spread 19 = .ok (.iload_n 2, 1) := by decide +kernel
theorem dX11_spread_20 : decode cX11_spread 20 = .ok (.invokevirtual 301, 3) := by decide +kernel
theorem dX11_spread_23 : decode cX11_spread 23 = .ok (.ifCond .ne 9, 3) := by decide +kernel
theorem dX11_spread_26 : decode cX11_spread 26 = .ok (.aload_n 0, 1) := by decide +kernel
theorem dX11_spread_27 : decode cX11_spread 27 = .ok (.iconst 2, 1) := by decide +kernel
theorem dX11_spread_28 : decode cX11_spread 28 = .ok (.invokevirtual 121, 3) := by decide +kernel
theorem dX11_spread_31 : decode cX11_spread 31 = .ok (.ireturn, 1) := by decide +kernel
theorem dX11_spread_32 : decode cX11_spread 32 = .ok (.aload_n 0, 1) := by decide +kernel
theorem dX11_spread_33 : decode cX11_spread 33 = .ok (.aload_n 0, 1) := by decide +kernel
theorem dX11_spread_34 : decode cX11_spread 34 = .ok (.iload_n 1, 1) := by decide +kernel
theorem dX11_spread_35 : decode cX11_spread 35 = .ok (.iload_n 2, 1) := by decide +kernel
theorem dX11_spread_36 : decode cX11_spread 36 = .ok (.invokevirtual 330, 3) := by decide +kernel
theorem dX11_spread_39 : decode cX11_spread 39 = .ok (.aload_n 0, 1) := by decide +kernel
theorem dX11_spread_40 : decode cX11_spread 40 = .ok (.invokevirtual 334, 3) := by decide +kernel
theorem dX11_spread_43 : decode cX11_spread 43 = .ok (.invokevirtual 338, 3) := by decide +kernel
theorem dX11_spread_46 : decode cX11_spread 46 = .ok (.iconst 1, 1) := by decide +kernel
theorem dX11_spread_47 : decode cX11_spread 47 = .ok (.ireturn, 1) := by decide +kernel
def wj_X11_spread_26 (I : HI) (J : HJ)  (Post : Bool → HI → HJ → Prop) : Prop :=
  w_X11_no 2 I J (fun (r_4 : Bool) (I_5 : HI) => (Post r_4 I_5 J))
set_option maxHeartbeats 4000000 in
set_option maxRecDepth 20000 in
theorem wk_X11_spread_26 (g : kf_G) (hg : kf_g g) {x : kf_X} (hx : kf_ok g x RX11 cX11_spread 3 3 75) (I : HI) (J : HJ)  (Post : Bool → HI → HJ → Prop) (hret : ∀ (pc : Nat) (lv : List (Nat × Value)) (v : Bool) (Iy : HI) (Jy : HJ), decode cX11_spread pc = .ok (.ireturn, 1) → Post v Iy Jy → kf_M g x 3 pc lv [.int (kb v)] Iy Jy) (h : wj_X11_spread_26 I J  Post) : kf_M g x 3 26 [(0, .ref (g.2.2.2 72))] [] I J := by
  unfold wj_X11_spread_26 at h
  refine kf_aload_n hx dX11_spread_26 rfl 0 rfl ?_
  refine kf_iconst (v := 2) hx dX11_spread_27 (by decide) ?_
  refine kf_callVbI (st := []) hx (m_X11_no g hg 2 I J _ h) lk_RX11_121 km_X11_no ob_72 rfl (by decide) rfl (Nat.le_of_ble_eq_true rfl) dX11_spread_28 (fun r_4 I_5 h => ?_)
  exact hret _ _ r_4 _ _ dX11_spread_31 h
def w_X11_spread (x1 : Int32) (x2 : Int32) (I : HI) (J : HJ) (Post : Bool → HI → HJ → Prop) : Prop :=
  ∀ I_1 : HI, I_1 = hI I 72 1 0 → (∀ I_2 : HI, I_2 = hI I_1 72 0 0 → (w_X11_areSeeds x1 I_2 J (fun (r_3 : Bool) => ((r_3 = false → (wj_X11_spread_26 I_2 J Post)) ∧ (r_3 = true → (w_X11_isLot x2 I_2 J (fun (r_6 : Bool) => ((r_6 = true → (w_X11_spreadOf x1 x2 I_2 J (fun (r_7 : Int64) => (w_X11_whole  I_2 J (fun (r_8 : Int64) => (w_X11_fraction r_7 r_8 I_2 J (fun (J_9 : HJ) => (Post true I_2 J_9)))))))) ∧ (r_6 = false → (wj_X11_spread_26 I_2 J Post))))))))))
set_option maxHeartbeats 4000000 in
set_option maxRecDepth 20000 in
theorem we_X11_spread (g : kf_G) (hg : kf_g g) {x : kf_X} (hx : kf_ok g x RX11 cX11_spread 3 3 75) (x1 : Int32) (x2 : Int32) (I : HI) (J : HJ) (Post : Bool → HI → HJ → Prop) (hret : ∀ (pc : Nat) (lv : List (Nat × Value)) (v : Bool) (Iy : HI) (Jy : HJ), decode cX11_spread pc = .ok (.ireturn, 1) → Post v Iy Jy → kf_M g x 3 pc lv [.int (kb v)] Iy Jy) (h : w_X11_spread x1 x2 I J Post) : kf_M g x 3 0 [(0, .ref (g.2.2.2 72)), (1, .int x1), (2, .int x2)] [] I J := by
  unfold w_X11_spread at h
  refine kf_aload_n hx dX11_spread_0 rfl 0 rfl ?_
  refine kf_iconst (v := 0) hx dX11_spread_1 (by decide) ?_
  refine kf_putI hx sl_72_1 fl_RX11_106 fp_11_1 dX11_spread_2 ?_
  refine kf_nmI (fun I_1 eI_1 => ?_)
  replace h := h I_1 eI_1
  refine kf_aload_n hx dX11_spread_5 rfl 0 rfl ?_
  refine kf_iconst (v := 0) hx dX11_spread_6 (by decide) ?_
  refine kf_putI hx sl_72_0 fl_RX11_109 fp_11_0 dX11_spread_7 ?_
  refine kf_nmI (fun I_2 eI_2 => ?_)
  replace h := h I_2 eI_2
  refine kf_aload_n hx dX11_spread_10 rfl 0 rfl ?_
  refine kf_iload_n hx dX11_spread_11 rfl 1 rfl ?_
  refine kf_callVbP (st := []) hx (m_X11_areSeeds g hg x1 I_2 J _ h) lk_RX11_314 km_X11_areSeeds ob_72 rfl (by decide) rfl (Nat.le_of_ble_eq_true rfl) dX11_spread_12 (fun r_3 h => ?_)
  refine kf_ifB_eq hx 26 dX11_spread_15 (by decide) (fun c => ?_) (fun c => ?_)
  · replace h := h.1 c
    refine kf_sub [0] rfl ?_
    exact wk_X11_spread_26 g hg hx I_2 J  _ hret h
  · replace h := h.2 c
    refine kf_aload_n hx dX11_spread_18 rfl 0 rfl ?_
    refine kf_iload_n hx dX11_spread_19 rfl 2 rfl ?_
    refine kf_callVbP (st := []) hx (m_X11_isLot g hg x2 I_2 J _ h) lk_RX11_301 km_X11_isLot ob_72 rfl (by decide) rfl (Nat.le_of_ble_eq_true rfl) dX11_spread_20 (fun r_6 h => ?_)
    refine kf_ifB_ne hx 32 dX11_spread_23 (by decide) (fun c => ?_) (fun c => ?_)
    · replace h := h.1 c
      refine kf_aload_n hx dX11_spread_32 rfl 0 rfl ?_
      refine kf_aload_n hx dX11_spread_33 rfl 0 rfl ?_
      refine kf_iload_n hx dX11_spread_34 rfl 1 rfl ?_
      refine kf_iload_n hx dX11_spread_35 rfl 2 rfl ?_
      refine kf_callVlP (st := [.ref (g.2.2.2 72)]) hx (m_X11_spreadOf g hg x1 x2 I_2 J _ h) lk_RX11_330 km_X11_spreadOf ob_72 rfl (by decide) rfl (Nat.le_of_ble_eq_true rfl) dX11_spread_36 (fun r_7 h => ?_)
      refine kf_aload_n hx dX11_spread_39 rfl 0 rfl ?_
      refine kf_callVlP (st := [.long r_7, .ref (g.2.2.2 72)]) hx (m_X11_whole g hg  I_2 J _ h) lk_RX11_334 km_X11_whole ob_72 rfl (by decide) rfl (Nat.le_of_ble_eq_true rfl) dX11_spread_40 (fun r_8 h => ?_)
      refine kf_callVvJ (st := []) hx (m_X11_fraction g hg r_7 r_8 I_2 J _ h) lk_RX11_338 km_X11_fraction ob_72 rfl (by decide) rfl (Nat.le_of_ble_eq_true rfl) dX11_spread_43 (fun J_9 h => ?_)
      refine kf_iconst (v := 1) hx dX11_spread_46 (by decide) ?_
      exact hret _ _ true _ _ dX11_spread_47 h
    · replace h := h.2 c
      refine kf_sub [0] rfl ?_
      exact wk_X11_spread_26 g hg hx I_2 J  _ hret h
set_option maxHeartbeats 4000000 in
set_option maxRecDepth 20000 in
theorem m_X11_spread (g : kf_G) (hg : kf_g g) (x1 : Int32) (x2 : Int32) (I : HI) (J : HJ) (Post : Bool → HI → HJ → Prop) (h : w_X11_spread x1 x2 I J Post) : kf_Mb g yX11_spread (kf_W yX11_spread cX11_spread 3 (Option.some Jvm.ClassFile.FieldType.boolean)) 3 75 [.ref (g.2.2.2 72), .int x1, .int x2] I J Post :=
  kf_entb hg (by decide) (Nat.le_of_ble_eq_true rfl) rfl (fun x hx hr => we_X11_spread g hg hx x1 x2 I J Post (fun pc lv v I' J' hd hP => hr pc lv v I' J' hd hP) h)
theorem dX11_adds_0 : decode cX11_adds 0 = .ok (.aload_n 0, 1) := by decide +kernel
theorem dX11_adds_1 : decode cX11_adds 1 = .ok (.iconst 0, 1) := by decide +kernel
theorem dX11_adds_2 : decode cX11_adds 2 = .ok (.putfield 106, 3) := by decide +kernel
theorem dX11_adds_5 : decode cX11_adds 5 = .ok (.aload_n 0, 1) := by decide +kernel
theorem dX11_adds_6 : decode cX11_adds 6 = .ok (.iconst 0, 1) := by decide +kernel
theorem dX11_adds_7 : decode cX11_adds 7 = .ok (.putfield 109, 3) := by decide +kernel
theorem dX11_adds_10 : decode cX11_adds 10 = .ok (.aload_n 0, 1) := by decide +kernel
theorem dX11_adds_11 : decode cX11_adds 11 = .ok (.iload_n 1, 1) := by decide +kernel
theorem dX11_adds_12 : decode cX11_adds 12 = .ok (.invokevirtual 314, 3) := by decide +kernel
theorem dX11_adds_15 : decode cX11_adds 15 = .ok (.ifCond .eq 11, 3) := by decide +kernel
theorem dX11_adds_18 : decode cX11_adds 18 = .ok (.aload_n 0, 1) := by decide +kernel
theorem dX11_adds_19 : decode cX11_adds 19 = .ok (.iload_n 2, 1) := by decide +kernel
theorem dX11_adds_20 : decode cX11_adds 20 = .ok (.invokevirtual 296, 3) := by decide +kernel
theorem dX11_adds_23 : decode cX11_adds 23 = .ok (.ifCond .ne 9, 3) := by decide +kernel
theorem dX11_adds_26 : decode cX11_adds 26 = .ok (.aload_n 0, 1) := by decide +kernel
theorem dX11_adds_27 : decode cX11_adds 27 = .ok (.iconst 2, 1) := by decide +kernel
theorem dX11_adds_28 : decode cX11_adds 28 = .ok (.invokevirtual 121, 3) := by decide +kernel
theorem dX11_adds_31 : decode cX11_adds 31 = .ok (.ireturn, 1) := by decide +kernel
theorem dX11_adds_32 : decode cX11_adds 32 = .ok (.aload_n 0, 1) := by decide +kernel
theorem dX11_adds_33 : decode cX11_adds 33 = .ok (.aload_n 0, 1) := by decide +kernel
theorem dX11_adds_34 : decode cX11_adds 34 = .ok (.iload_n 1, 1) := by decide +kernel
theorem dX11_adds_35 : decode cX11_adds 35 = .ok (.iconst 1, 1) := by decide +kernel
theorem dX11_adds_36 : decode cX11_adds 36 = .ok (.iload_n 2, 1) := by decide +kernel
theorem dX11_adds_37 : decode cX11_adds 37 = .ok (.ishl, 1) := by decide +kernel
theorem dX11_adds_38 : decode cX11_adds 38 = .ok (.ior, 1) := by decide +kernel
theorem dX11_adds_39 : decode cX11_adds 39 = .ok (.iconst 0, 1) := by decide +kernel
theorem dX11_adds_40 : decode cX11_adds 40 = .ok (.invokevirtual 330, 3) := by decide +kernel
theorem dX11_adds_43 : decode cX11_adds 43 = .ok (.aload_n 0, 1) := by decide +kernel
theorem dX11_adds_44 : decode cX11_adds 44 = .ok (.iload_n 1, 1) := by decide +kernel
theorem dX11_adds_45 : decode cX11_adds 45 = .ok (.iconst 0, 1) := by decide +kernel
theorem dX11_adds_46 : decode cX11_adds 46 = .ok (.invokevirtual 330, 3) := by decide +kernel
theorem dX11_adds_49 : decode cX11_adds 49 = .ok (.lsub, 1) := by decide +kernel
theorem dX11_adds_50 : decode cX11_adds 50 = .ok (.aload_n 0, 1) := by decide +kernel
theorem dX11_adds_51 : decode cX11_adds 51 = .ok (.invokevirtual 334, 3) := by decide +kernel
theorem dX11_adds_54 : decode cX11_adds 54 = .ok (.invokevirtual 338, 3) := by decide +kernel
theorem dX11_adds_57 : decode cX11_adds 57 = .ok (.iconst 1, 1) := by decide +kernel
theorem dX11_adds_58 : decode cX11_adds 58 = .ok (.ireturn, 1) := by decide +kernel
def wj_X11_adds_26 (I : HI) (J : HJ)  (Post : Bool → HI → HJ → Prop) : Prop :=
  w_X11_no 2 I J (fun (r_4 : Bool) (I_5 : HI) => (Post r_4 I_5 J))
set_option maxHeartbeats 4000000 in
set_option maxRecDepth 20000 in
theorem wk_X11_adds_26 (g : kf_G) (hg : kf_g g) {x : kf_X} (hx : kf_ok g x RX11 cX11_adds 3 3 75) (I : HI) (J : HJ)  (Post : Bool → HI → HJ → Prop) (hret : ∀ (pc : Nat) (lv : List (Nat × Value)) (v : Bool) (Iy : HI) (Jy : HJ), decode cX11_adds pc = .ok (.ireturn, 1) → Post v Iy Jy → kf_M g x 3 pc lv [.int (kb v)] Iy Jy) (h : wj_X11_adds_26 I J  Post) : kf_M g x 3 26 [(0, .ref (g.2.2.2 72))] [] I J := by
  unfold wj_X11_adds_26 at h
  refine kf_aload_n hx dX11_adds_26 rfl 0 rfl ?_
  refine kf_iconst (v := 2) hx dX11_adds_27 (by decide) ?_
  refine kf_callVbI (st := []) hx (m_X11_no g hg 2 I J _ h) lk_RX11_121 km_X11_no ob_72 rfl (by decide) rfl (Nat.le_of_ble_eq_true rfl) dX11_adds_28 (fun r_4 I_5 h => ?_)
  exact hret _ _ r_4 _ _ dX11_adds_31 h
def w_X11_adds (x1 : Int32) (x2 : Int32) (I : HI) (J : HJ) (Post : Bool → HI → HJ → Prop) : Prop :=
  ∀ I_1 : HI, I_1 = hI I 72 1 0 → (∀ I_2 : HI, I_2 = hI I_1 72 0 0 → (w_X11_areSeeds x1 I_2 J (fun (r_3 : Bool) => ((r_3 = false → (wj_X11_adds_26 I_2 J Post)) ∧ (r_3 = true → (w_X11_isOne x2 I_2 J (fun (r_6 : Bool) => ((r_6 = true → (w_X11_spreadOf (x1 ||| (1 <<< (x2 &&& 31))) 0 I_2 J (fun (r_7 : Int64) => (w_X11_spreadOf x1 0 I_2 J (fun (r_8 : Int64) => (w_X11_whole  I_2 J (fun (r_9 : Int64) => (w_X11_fraction (r_7 - r_8) r_9 I_2 J (fun (J_10 : HJ) => (Post true I_2 J_10)))))))))) ∧ (r_6 = false → (wj_X11_adds_26 I_2 J Post))))))))))
set_option maxHeartbeats 4000000 in
set_option maxRecDepth 20000 in
theorem we_X11_adds (g : kf_G) (hg : kf_g g) {x : kf_X} (hx : kf_ok g x RX11 cX11_adds 3 3 75) (x1 : Int32) (x2 : Int32) (I : HI) (J : HJ) (Post : Bool → HI → HJ → Prop) (hret : ∀ (pc : Nat) (lv : List (Nat × Value)) (v : Bool) (Iy : HI) (Jy : HJ), decode cX11_adds pc = .ok (.ireturn, 1) → Post v Iy Jy → kf_M g x 3 pc lv [.int (kb v)] Iy Jy) (h : w_X11_adds x1 x2 I J Post) : kf_M g x 3 0 [(0, .ref (g.2.2.2 72)), (1, .int x1), (2, .int x2)] [] I J := by
  unfold w_X11_adds at h
  refine kf_aload_n hx dX11_adds_0 rfl 0 rfl ?_
  refine kf_iconst (v := 0) hx dX11_adds_1 (by decide) ?_
  refine kf_putI hx sl_72_1 fl_RX11_106 fp_11_1 dX11_adds_2 ?_
  refine kf_nmI (fun I_1 eI_1 => ?_)
  replace h := h I_1 eI_1
  refine kf_aload_n hx dX11_adds_5 rfl 0 rfl ?_
  refine kf_iconst (v := 0) hx dX11_adds_6 (by decide) ?_
  refine kf_putI hx sl_72_0 fl_RX11_109 fp_11_0 dX11_adds_7 ?_
  refine kf_nmI (fun I_2 eI_2 => ?_)
  replace h := h I_2 eI_2
  refine kf_aload_n hx dX11_adds_10 rfl 0 rfl ?_
  refine kf_iload_n hx dX11_adds_11 rfl 1 rfl ?_
  refine kf_callVbP (st := []) hx (m_X11_areSeeds g hg x1 I_2 J _ h) lk_RX11_314 km_X11_areSeeds ob_72 rfl (by decide) rfl (Nat.le_of_ble_eq_true rfl) dX11_adds_12 (fun r_3 h => ?_)
  refine kf_ifB_eq hx 26 dX11_adds_15 (by decide) (fun c => ?_) (fun c => ?_)
  · replace h := h.1 c
    refine kf_sub [0] rfl ?_
    exact wk_X11_adds_26 g hg hx I_2 J  _ hret h
  · replace h := h.2 c
    refine kf_aload_n hx dX11_adds_18 rfl 0 rfl ?_
    refine kf_iload_n hx dX11_adds_19 rfl 2 rfl ?_
    refine kf_callVbP (st := []) hx (m_X11_isOne g hg x2 I_2 J _ h) lk_RX11_296 km_X11_isOne ob_72 rfl (by decide) rfl (Nat.le_of_ble_eq_true rfl) dX11_adds_20 (fun r_6 h => ?_)
    refine kf_ifB_ne hx 32 dX11_adds_23 (by decide) (fun c => ?_) (fun c => ?_)
    · replace h := h.1 c
      refine kf_aload_n hx dX11_adds_32 rfl 0 rfl ?_
      refine kf_aload_n hx dX11_adds_33 rfl 0 rfl ?_
      refine kf_iload_n hx dX11_adds_34 rfl 1 rfl ?_
      refine kf_iconst (v := 1) hx dX11_adds_35 (by decide) ?_
      refine kf_iload_n hx dX11_adds_36 rfl 2 rfl ?_
      refine kf_ishl hx dX11_adds_37 ?_
      refine kf_ior hx dX11_adds_38 ?_
      refine kf_iconst (v := 0) hx dX11_adds_39 (by decide) ?_
      refine kf_callVlP (st := [.ref (g.2.2.2 72)]) hx (m_X11_spreadOf g hg (x1 ||| (1 <<< (x2 &&& 31))) 0 I_2 J _ h) lk_RX11_330 km_X11_spreadOf ob_72 rfl (by decide) rfl (Nat.le_of_ble_eq_true rfl) dX11_adds_40 (fun r_7 h => ?_)
      refine kf_aload_n hx dX11_adds_43 rfl 0 rfl ?_
      refine kf_iload_n hx dX11_adds_44 rfl 1 rfl ?_
      refine kf_iconst (v := 0) hx dX11_adds_45 (by decide) ?_
      refine kf_callVlP (st := [.long r_7, .ref (g.2.2.2 72)]) hx (m_X11_spreadOf g hg x1 0 I_2 J _ h) lk_RX11_330 km_X11_spreadOf ob_72 rfl (by decide) rfl (Nat.le_of_ble_eq_true rfl) dX11_adds_46 (fun r_8 h => ?_)
      refine kf_lsub hx dX11_adds_49 ?_
      refine kf_aload_n hx dX11_adds_50 rfl 0 rfl ?_
      refine kf_callVlP (st := [.long (r_7 - r_8), .ref (g.2.2.2 72)]) hx (m_X11_whole g hg  I_2 J _ h) lk_RX11_334 km_X11_whole ob_72 rfl (by decide) rfl (Nat.le_of_ble_eq_true rfl) dX11_adds_51 (fun r_9 h => ?_)
      refine kf_callVvJ (st := []) hx (m_X11_fraction g hg (r_7 - r_8) r_9 I_2 J _ h) lk_RX11_338 km_X11_fraction ob_72 rfl (by decide) rfl (Nat.le_of_ble_eq_true rfl) dX11_adds_54 (fun J_10 h => ?_)
      refine kf_iconst (v := 1) hx dX11_adds_57 (by decide) ?_
      exact hret _ _ true _ _ dX11_adds_58 h
    · replace h := h.2 c
      refine kf_sub [0] rfl ?_
      exact wk_X11_adds_26 g hg hx I_2 J  _ hret h
set_option maxHeartbeats 4000000 in
set_option maxRecDepth 20000 in
theorem m_X11_adds (g : kf_G) (hg : kf_g g) (x1 : Int32) (x2 : Int32) (I : HI) (J : HJ) (Post : Bool → HI → HJ → Prop) (h : w_X11_adds x1 x2 I J Post) : kf_Mb g yX11_adds (kf_W yX11_adds cX11_adds 3 (Option.some Jvm.ClassFile.FieldType.boolean)) 3 75 [.ref (g.2.2.2 72), .int x1, .int x2] I J Post :=
  kf_entb hg (by decide) (Nat.le_of_ble_eq_true rfl) rfl (fun x hx hr => we_X11_adds g hg hx x1 x2 I J Post (fun pc lv v I' J' hd hP => hr pc lv v I' J' hd hP) h)
theorem dX11_mayBe_0 : decode cX11_mayBe 0 = .ok (.iload_n 1, 1) := by decide +kernel
theorem dX11_mayBe_1 : decode cX11_mayBe 1 = .ok (.invokestatic 325, 3) := by decide +kernel
theorem dX11_mayBe_4 : decode cX11_mayBe 4 = .ok (.iload_n 2, 1) := by decide +kernel
theorem dX11_mayBe_5 : decode cX11_mayBe 5 = .ok (.if_icmp .le 5, 3) := by decide +kernel
theorem dX11_mayBe_8 : decode cX11_mayBe 8 = .ok (.iconst 0, 1) := by decide +kernel
theorem dX11_mayBe_9 : decode cX11_mayBe 9 = .ok (.ireturn, 1) := by decide +kernel
theorem dX11_mayBe_10 : decode cX11_mayBe 10 = .ok (.iconst 0, 1) := by decide +kernel
theorem dX11_mayBe_11 : decode cX11_mayBe 11 = .ok (.istore 4, 2) := by decide +kernel
theorem dX11_mayBe_13 : decode cX11_mayBe 13 = .ok (.iconst 0, 1) := by decide +kernel
theorem dX11_mayBe_14 : decode cX11_mayBe 14 = .ok (.istore 5, 2) := by decide +kernel
theorem dX11_mayBe_16 : decode cX11_mayBe 16 = .ok (.iload 5, 2) := by decide +kernel
theorem dX11_mayBe_18 : decode cX11_mayBe 18 = .ok (.aload_n 0, 1) := by decide +kernel
theorem dX11_mayBe_19 : decode cX11_mayBe 19 = .ok (.getfield 287, 3) := by decide +kernel
theorem dX11_mayBe_22 : decode cX11_mayBe 22 = .ok (.if_icmp .ge 34, 3) := by decide +kernel
theorem dX11_mayBe_25 : decode cX11_mayBe 25 = .ok (.iload 4, 2) := by decide +kernel
theorem dX11_mayBe_27 : decode cX11_mayBe 27 = .ok (.iload_n 1, 1) := by decide +kernel
theorem dX11_mayBe_28 : decode cX11_mayBe 28 = .ok (.iload 5, 2) := by decide +kernel
theorem dX11_mayBe_30 : decode cX11_mayBe 30 = .ok (.ishr, 1) := by decide +kernel
theorem dX11_mayBe_31 : decode cX11_mayBe 31 = .ok (.iconst 1, 1) := by decide +kernel
theorem dX11_mayBe_32 : decode cX11_mayBe 32 = .ok (.iand, 1) := by decide +kernel
theorem dX11_mayBe_33 : decode cX11_mayBe 33 = .ok (.iconst 1, 1) := by decide +kernel
theorem dX11_mayBe_34 : decode cX11_mayBe 34 = .ok (.if_icmp .ne 12, 3) := by decide +kernel
theorem dX11_mayBe_37 : decode cX11_mayBe 37 = .ok (.aload_n 0, 1) := by decide +kernel
theorem dX11_mayBe_38 : decode cX11_mayBe 38 = .ok (.iload 5, 2) := by decide +kernel
theorem dX11_mayBe_40 : decode cX11_mayBe 40 = .ok (.invokevirtual 342, 3) := by decide +kernel
theorem dX11_mayBe_43 : decode cX11_mayBe 43 = .ok (.goto 4, 3) := by decide +kernel
theorem dX11_mayBe_46 : decode cX11_mayBe 46 = .ok (.iconst 0, 1) := by decide +kernel
theorem dX11_mayBe_47 : decode cX11_mayBe 47 = .ok (.iadd, 1) := by decide +kernel
theorem dX11_mayBe_48 : decode cX11_mayBe 48 = .ok (.istore 4, 2) := by decide +kernel
theorem dX11_mayBe_50 : decode cX11_mayBe 50 = .ok (.iinc 5 1, 3) := by decide +kernel
theorem dX11_mayBe_53 : decode cX11_mayBe 53 = .ok (.goto (-37), 3) := by decide +kernel
theorem dX11_mayBe_56 : decode cX11_mayBe 56 = .ok (.iload 4, 2) := by decide +kernel
theorem dX11_mayBe_58 : decode cX11_mayBe 58 = .ok (.iload_n 3, 1) := by decide +kernel
theorem dX11_mayBe_59 : decode cX11_mayBe 59 = .ok (.if_icmp .le 5, 3) := by decide +kernel
theorem dX11_mayBe_62 : decode cX11_mayBe 62 = .ok (.iconst 0, 1) := by decide +kernel
theorem dX11_mayBe_63 : decode cX11_mayBe 63 = .ok (.ireturn, 1) := by decide +kernel
theorem dX11_mayBe_64 : decode cX11_mayBe 64 = .ok (.iconst 0, 1) := by decide +kernel
theorem dX11_mayBe_65 : decode cX11_mayBe 65 = .ok (.istore 5, 2) := by decide +kernel
theorem dX11_mayBe_67 : decode cX11_mayBe 67 = .ok (.iload 5, 2) := by decide +kernel
theorem dX11_mayBe_69 : decode cX11_mayBe 69 = .ok (.iconst 4, 1) := by decide +kernel
theorem dX11_mayBe_70 : decode cX11_mayBe 70 = .ok (.if_icmp .ge 75, 3) := by decide +kernel
theorem dX11_mayBe_73 : decode cX11_mayBe 73 = .ok (.iconst 0, 1) := by decide +kernel
theorem dX11_mayBe_74 : decode cX11_mayBe 74 = .ok (.istore 6, 2) := by decide +kernel
theorem dX11_mayBe_76 : decode cX11_mayBe 76 = .ok (.iconst 0, 1) := by decide +kernel
theorem dX11_mayBe_77 : decode cX11_mayBe 77 = .ok (.istore 7, 2) := by decide +kernel
theorem dX11_mayBe_79 : decode cX11_mayBe 79 = .ok (.iload 7, 2) := by decide +kernel
theorem dX11_mayBe_81 : decode cX11_mayBe 81 = .ok (.aload_n 0, 1) := by decide +kernel
theorem dX11_mayBe_82 : decode cX11_mayBe 82 = .ok (.getfield 287, 3) := by decide +kernel
theorem dX11_mayBe_85 : decode cX11_mayBe 85 = .ok (.if_icmp .ge 40, 3) := by decide +kernel
theorem dX11_mayBe_88 : decode cX11_mayBe 88 = .ok (.iload 6, 2) := by decide +kernel
theorem dX11_mayBe_90 : decode cX11_mayBe 90 = .ok (.iload_n 1, 1) := by decide +kernel
theorem dX11_mayBe_91 : decode cX11_mayBe 91 = .ok (.iload 7, 2) := by decide +kernel
theorem dX11_mayBe_93 : decode cX11_mayBe 93 = .ok (.ishr, 1) := by decide +kernel
theorem dX11_mayBe_94 : decode cX11_mayBe 94 = .ok (.iconst 1, 1) := by decide +kernel
theorem dX11_mayBe_95 : decode cX11_mayBe 95 = .ok (.iand, 1) := by decide +kernel
theorem dX11_mayBe_96 : decode cX11_mayBe 96 = .ok (.iconst 1, 1) := by decide +kernel
theorem dX11_mayBe_97 : decode cX11_mayBe 97 = .ok (.if_icmp .ne 18, 3) := by decide +kernel
theorem dX11_mayBe_100 : decode cX11_mayBe 100 = .ok (.aload_n 0, 1) := by decide +kernel
theorem dX11_mayBe_101 : decode cX11_mayBe 101 = .ok (.iload 7, 2) := by decide +kernel
theorem dX11_mayBe_103 : decode cX11_mayBe 103 = .ok (.invokevirtual 345, 3) := by decide +kernel
theorem dX11_mayBe_106 : decode cX11_mayBe 106 = .ok (.iload 5, 2) := by decide +kernel
theorem dX11_mayBe_108 : decode cX11_mayBe 108 = .ok (.if_icmp .ne 7, 3) := by decide +kernel
theorem dX11_mayBe_111 : decode cX11_mayBe 111 = .ok (.iconst 1, 1) := by decide +kernel
theorem dX11_mayBe_112 : decode cX11_mayBe 112 = .ok (.goto 4, 3) := by decide +kernel
theorem dX11_mayBe_115 : decode cX11_mayBe 115 = .ok (.iconst 0, 1) := by decide +kernel
theorem dX11_mayBe_116 : decode cX11_mayBe 116 = .ok (.iadd, 1) := by decide +kernel
theorem dX11_mayBe_117 : decode cX11_mayBe 117 = .ok (.istore 6, 2) := by decide +kernel
theorem dX11_mayBe_119 : decode cX11_mayBe 119 = .ok (.iinc 7 1, 3) := by decide +kernel
theorem dX11_mayBe_122 : decode cX11_mayBe 122 = .ok (.goto (-43), 3) := by decide +kernel
theorem dX11_mayBe_125 : decode cX11_mayBe 125 = .ok (.iload 6, 2) := by decide +kernel
theorem dX11_mayBe_127 : decode cX11_mayBe 127 = .ok (.aload_n 0, 1) := by decide +kernel
theorem dX11_mayBe_128 : decode cX11_mayBe 128 = .ok (.getfield 65, 3) := by decide +kernel
theorem dX11_mayBe_131 : decode cX11_mayBe 131 = .ok (.iload 5, 2) := by decide +kernel
theorem dX11_mayBe_133 : decode cX11_mayBe 133 = .ok (.iaload, 1) := by decide +kernel
theorem dX11_mayBe_134 : decode cX11_mayBe 134 = .ok (.if_icmp .le 5, 3) := by decide +kernel
theorem dX11_mayBe_137 : decode cX11_mayBe 137 = .ok (.iconst 0, 1) := by decide +kernel
theorem dX11_mayBe_138 : decode cX11_mayBe 138 = .ok (.ireturn, 1) := by decide +kernel
theorem dX11_mayBe_139 : decode cX11_mayBe 139 = .ok (.iinc 5 1, 3) := by decide +kernel
theorem dX11_mayBe_142 : decode cX11_mayBe 142 = .ok (.goto (-75), 3) := by decide +kernel
theorem dX11_mayBe_145 : decode cX11_mayBe 145 = .ok (.iconst 1, 1) := by decide +kernel
theorem dX11_mayBe_146 : decode cX11_mayBe 146 = .ok (.ireturn, 1) := by decide +kernel
def wb_X11_mayBe_16 (I : HI) (J : HJ) (x1 : Int32) (x3 : Int32) (Post : Bool → Prop) (E16 : Int32 → Prop) (K16 : (Int32 × Int32) → Prop) (s : Int32 × Int32) : Prop :=
  match s with
  | (x4, x5) => ((I 72 20) ≤ x5 → (E16 x4)) ∧ (¬ (I 72 20) ≤ x5 → ((¬ ((x1 >>> (x5 &&& 31)) &&& 1) = 1 → (K16 ((x4 + 0), (x5 + 1)))) ∧ (((x1 >>> (x5 &&& 31)) &&& 1) = 1 → (w_X11_costs x5 I J (fun (r_2 : Int32) => (K16 ((x4 + r_2), (x5 + 1))))))))
set_option maxHeartbeats 4000000 in
set_option maxRecDepth 20000 in
theorem ws_X11_mayBe_16 (g : kf_G) (hg : kf_g g) {x : kf_X} (hx : kf_ok g x RX11 cX11_mayBe 8 1 21) (I : HI) (J : HJ) (x1 : Int32) (x3 : Int32) (Post : Bool → Prop) (hret : ∀ (pc : Nat) (lv : List (Nat × Value)) (v : Bool), decode cX11_mayBe pc = .ok (.ireturn, 1) → Post v → kf_M g x 8 pc lv [.int (kb v)] I J) (E16 : Int32 → Prop) (hE16 : ∀ (y4 : Int32), E16 y4 → kf_M g x 8 56 [(0, .ref (g.2.2.2 72)), (1, .int x1), (3, .int x3), (4, .int y4)] [] I J) (K16 : (Int32 × Int32) → Prop) (hK16 : ∀ (y4 : Int32) (y5 : Int32), K16 (y4, y5) → kf_M g x 8 16 [(0, .ref (g.2.2.2 72)), (1, .int x1), (3, .int x3), (4, .int y4), (5, .int y5)] [] I J) (x4 : Int32) (x5 : Int32) (h : wb_X11_mayBe_16 I J x1 x3 Post E16 K16 (x4, x5)) : kf_M g x 8 16 [(0, .ref (g.2.2.2 72)), (1, .int x1), (3, .int x3), (4, .int x4), (5, .int x5)] [] I J := by
  unfold wb_X11_mayBe_16 at h
  refine kf_iload hx dX11_mayBe_16 4 rfl ?_
  refine kf_aload_n hx dX11_mayBe_18 rfl 0 rfl ?_
  refine kf_getI hx sl_72_20 fl_RX11_287 dX11_mayBe_19 ?_
  refine kf_icmp_ge hx 56 dX11_mayBe_22 (by decide) (fun c => ?_) (fun c => ?_)
  · replace h := h.1 c
    refine kf_sub [0, 1, 2, 3] rfl ?_
    exact hE16 _ h
  · replace h := h.2 c
    refine kf_iload hx dX11_mayBe_25 3 rfl ?_
    refine kf_iload_n hx dX11_mayBe_27 rfl 1 rfl ?_
    refine kf_iload hx dX11_mayBe_28 4 rfl ?_
    refine kf_ishr hx dX11_mayBe_30 ?_
    refine kf_iconst (v := 1) hx dX11_mayBe_31 (by decide) ?_
    refine kf_iand hx dX11_mayBe_32 ?_
    refine kf_iconst (v := 1) hx dX11_mayBe_33 (by decide) ?_
    refine kf_icmp_ne hx 46 dX11_mayBe_34 (by decide) (fun c => ?_) (fun c => ?_)
    · replace h := h.1 c
      refine kf_iconst (v := 0) hx dX11_mayBe_46 (by decide) ?_
      refine kf_iadd hx dX11_mayBe_47 ?_
      refine kf_istore (lv' := [(4, .int (x4 + 0)), (0, .ref (g.2.2.2 72)), (1, .int x1), (3, .int x3), (5, .int x5)]) hx dX11_mayBe_48 (by decide) rfl ?_
      refine kf_iinc (w := (x5 + 1)) (lv' := [(5, .int (x5 + 1)), (4, .int (x4 + 0)), (0, .ref (g.2.2.2 72)), (1, .int x1), (3, .int x3)]) hx dX11_mayBe_50 4 rfl rfl (by decide) rfl ?_
      refine kf_goto hx 16 dX11_mayBe_53 (by decide) ?_
      refine kf_sub [2, 3, 4, 1, 0] rfl ?_
      exact hK16 _ _ h
    · replace h := h.2 c
      refine kf_aload_n hx dX11_mayBe_37 rfl 0 rfl ?_
      refine kf_iload hx dX11_mayBe_38 4 rfl ?_
      refine kf_callViP (st := [.int x4]) hx (m_X11_costs g hg x5 I J _ h) lk_RX11_342 km_X11_costs ob_72 rfl (by decide) rfl (Nat.le_of_ble_eq_true rfl) dX11_mayBe_40 (fun r_2 h => ?_)
      refine kf_goto hx 47 dX11_mayBe_43 (by decide) ?_
      refine kf_iadd hx dX11_mayBe_47 ?_
      refine kf_istore (lv' := [(4, .int (x4 + r_2)), (0, .ref (g.2.2.2 72)), (1, .int x1), (3, .int x3), (5, .int x5)]) hx dX11_mayBe_48 (by decide) rfl ?_
      refine kf_iinc (w := (x5 + 1)) (lv' := [(5, .int (x5 + 1)), (4, .int (x4 + r_2)), (0, .ref (g.2.2.2 72)), (1, .int x1), (3, .int x3)]) hx dX11_mayBe_50 4 rfl rfl (by decide) rfl ?_
      refine kf_goto hx 16 dX11_mayBe_53 (by decide) ?_
      refine kf_sub [2, 3, 4, 1, 0] rfl ?_
      exact hK16 _ _ h
theorem wl_X11_mayBe_16 (g : kf_G) (hg : kf_g g) {x : kf_X} (hx : kf_ok g x RX11 cX11_mayBe 8 1 21) (I : HI) (J : HJ) (x1 : Int32) (x3 : Int32) (Post : Bool → Prop) (hret : ∀ (pc : Nat) (lv : List (Nat × Value)) (v : Bool), decode cX11_mayBe pc = .ok (.ireturn, 1) → Post v → kf_M g x 8 pc lv [.int (kb v)] I J) (E16 : Int32 → Prop) (hE16 : ∀ (y4 : Int32), E16 y4 → kf_M g x 8 56 [(0, .ref (g.2.2.2 72)), (1, .int x1), (3, .int x3), (4, .int y4)] [] I J) : ∀ (n : Nat) (x4 : Int32) (x5 : Int32), lp (wb_X11_mayBe_16 I J x1 x3 Post E16) n (x4, x5) → kf_M g x 8 16 [(0, .ref (g.2.2.2 72)), (1, .int x1), (3, .int x3), (4, .int x4), (5, .int x5)] [] I J := by
  intro n
  induction n with
  | zero => intro x4 x5 h; exact h.elim
  | succ n ih => intro x4 x5 h; exact ws_X11_mayBe_16 g hg hx I J x1 x3 Post hret E16 hE16 (lp (wb_X11_mayBe_16 I J x1 x3 Post E16) n) ih x4 x5 h
def wb_X11_mayBe_79 (I : HI) (J : HJ) (x1 : Int32) (x5 : Int32) (E67 : Prop) (K67 : Int32 → Prop) (Post : Bool → Prop) (E79 : Int32 → Prop) (K79 : (Int32 × Int32) → Prop) (s : Int32 × Int32) : Prop :=
  match s with
  | (x6, x7) => ((I 72 20) ≤ x7 → (E79 x6)) ∧ (¬ (I 72 20) ≤ x7 → ((¬ ((x1 >>> (x7 &&& 31)) &&& 1) = 1 → (K79 ((x6 + 0), (x7 + 1)))) ∧ (((x1 >>> (x7 &&& 31)) &&& 1) = 1 → (w_X11_valley x7 I J (fun (r_4 : Int32) => ((¬ r_4 = x5 → (K79 ((x6 + 0), (x7 + 1)))) ∧ (r_4 = x5 → (K79 ((x6 + 1), (x7 + 1))))))))))
set_option maxHeartbeats 4000000 in
set_option maxRecDepth 20000 in
theorem ws_X11_mayBe_79 (g : kf_G) (hg : kf_g g) {x : kf_X} (hx : kf_ok g x RX11 cX11_mayBe 8 1 21) (I : HI) (J : HJ) (x1 : Int32) (x5 : Int32) (E67 : Prop) (K67 : Int32 → Prop) (hE67 : E67 → kf_M g x 8 145 [] [] I J) (hK67 : ∀ (y5 : Int32), K67 y5 → kf_M g x 8 67 [(0, .ref (g.2.2.2 72)), (1, .int x1), (5, .int y5)] [] I J) (Post : Bool → Prop) (hret : ∀ (pc : Nat) (lv : List (Nat × Value)) (v : Bool), decode cX11_mayBe pc = .ok (.ireturn, 1) → Post v → kf_M g x 8 pc lv [.int (kb v)] I J) (E79 : Int32 → Prop) (hE79 : ∀ (y6 : Int32), E79 y6 → kf_M g x 8 125 [(0, .ref (g.2.2.2 72)), (1, .int x1), (5, .int x5), (6, .int y6)] [] I J) (K79 : (Int32 × Int32) → Prop) (hK79 : ∀ (y6 : Int32) (y7 : Int32), K79 (y6, y7) → kf_M g x 8 79 [(0, .ref (g.2.2.2 72)), (1, .int x1), (5, .int x5), (6, .int y6), (7, .int y7)] [] I J) (x6 : Int32) (x7 : Int32) (h : wb_X11_mayBe_79 I J x1 x5 E67 K67 Post E79 K79 (x6, x7)) : kf_M g x 8 79 [(0, .ref (g.2.2.2 72)), (1, .int x1), (5, .int x5), (6, .int x6), (7, .int x7)] [] I J := by
  unfold wb_X11_mayBe_79 at h
  refine kf_iload hx dX11_mayBe_79 4 rfl ?_
  refine kf_aload_n hx dX11_mayBe_81 rfl 0 rfl ?_
  refine kf_getI hx sl_72_20 fl_RX11_287 dX11_mayBe_82 ?_
  refine kf_icmp_ge hx 125 dX11_mayBe_85 (by decide) (fun c => ?_) (fun c => ?_)
  · replace h := h.1 c
    refine kf_sub [0, 1, 2, 3] rfl ?_
    exact hE79 _ h
  · replace h := h.2 c
    refine kf_iload hx dX11_mayBe_88 3 rfl ?_
    refine kf_iload_n hx dX11_mayBe_90 rfl 1 rfl ?_
    refine kf_iload hx dX11_mayBe_91 4 rfl ?_
    refine kf_ishr hx dX11_mayBe_93 ?_
    refine kf_iconst (v := 1) hx dX11_mayBe_94 (by decide) ?_
    refine kf_iand hx dX11_mayBe_95 ?_
    refine kf_iconst (v := 1) hx dX11_mayBe_96 (by decide) ?_
    refine kf_icmp_ne hx 115 dX11_mayBe_97 (by decide) (fun c => ?_) (fun c => ?_)
    · replace h := h.1 c
      refine kf_iconst (v := 0) hx dX11_mayBe_115 (by decide) ?_
      refine kf_iadd hx dX11_mayBe_116 ?_
      refine kf_istore (lv' := [(6, .int (x6 + 0)), (0, .ref (g.2.2.2 72)), (1, .int x1), (5, .int x5), (7, .int x7)]) hx dX11_mayBe_117 (by decide) rfl ?_
      refine kf_iinc (w := (x7 + 1)) (lv' := [(7, .int (x7 + 1)), (6, .int (x6 + 0)), (0, .ref (g.2.2.2 72)), (1, .int x1), (5, .int x5)]) hx dX11_mayBe_119 4 rfl rfl (by decide) rfl ?_
      refine kf_goto hx 79 dX11_mayBe_122 (by decide) ?_
      refine kf_sub [2, 3, 4, 1, 0] rfl ?_
      exact hK79 _ _ h
    · replace h := h.2 c
      refine kf_aload_n hx dX11_mayBe_100 rfl 0 rfl ?_
      refine kf_iload hx dX11_mayBe_101 4 rfl ?_
      refine kf_callViP (st := [.int x6]) hx (m_X11_valley g hg x7 I J _ h) lk_RX11_345 km_X11_valley ob_72 rfl (by decide) rfl (Nat.le_of_ble_eq_true rfl) dX11_mayBe_103 (fun r_4 h => ?_)
      refine kf_iload hx dX11_mayBe_106 2 rfl ?_
      refine kf_icmp_ne hx 115 dX11_mayBe_108 (by decide) (fun c => ?_) (fun c => ?_)
      · replace h := h.1 c
        refine kf_iconst (v := 0) hx dX11_mayBe_115 (by decide) ?_
        refine kf_iadd hx dX11_mayBe_116 ?_
        refine kf_istore (lv' := [(6, .int (x6 + 0)), (0, .ref (g.2.2.2 72)), (1, .int x1), (5, .int x5), (7, .int x7)]) hx dX11_mayBe_117 (by decide) rfl ?_
        refine kf_iinc (w := (x7 + 1)) (lv' := [(7, .int (x7 + 1)), (6, .int (x6 + 0)), (0, .ref (g.2.2.2 72)), (1, .int x1), (5, .int x5)]) hx dX11_mayBe_119 4 rfl rfl (by decide) rfl ?_
        refine kf_goto hx 79 dX11_mayBe_122 (by decide) ?_
        refine kf_sub [2, 3, 4, 1, 0] rfl ?_
        exact hK79 _ _ h
      · replace h := h.2 c
        refine kf_iconst (v := 1) hx dX11_mayBe_111 (by decide) ?_
        refine kf_goto hx 116 dX11_mayBe_112 (by decide) ?_
        refine kf_iadd hx dX11_mayBe_116 ?_
        refine kf_istore (lv' := [(6, .int (x6 + 1)), (0, .ref (g.2.2.2 72)), (1, .int x1), (5, .int x5), (7, .int x7)]) hx dX11_mayBe_117 (by decide) rfl ?_
        refine kf_iinc (w := (x7 + 1)) (lv' := [(7, .int (x7 + 1)), (6, .int (x6 + 1)), (0, .ref (g.2.2.2 72)), (1, .int x1), (5, .int x5)]) hx dX11_mayBe_119 4 rfl rfl (by decide) rfl ?_
        refine kf_goto hx 79 dX11_mayBe_122 (by decide) ?_
        refine kf_sub [2, 3, 4, 1, 0] rfl ?_
        exact hK79 _ _ h
theorem wl_X11_mayBe_79 (g : kf_G) (hg : kf_g g) {x : kf_X} (hx : kf_ok g x RX11 cX11_mayBe 8 1 21) (I : HI) (J : HJ) (x1 : Int32) (x5 : Int32) (E67 : Prop) (K67 : Int32 → Prop) (hE67 : E67 → kf_M g x 8 145 [] [] I J) (hK67 : ∀ (y5 : Int32), K67 y5 → kf_M g x 8 67 [(0, .ref (g.2.2.2 72)), (1, .int x1), (5, .int y5)] [] I J) (Post : Bool → Prop) (hret : ∀ (pc : Nat) (lv : List (Nat × Value)) (v : Bool), decode cX11_mayBe pc = .ok (.ireturn, 1) → Post v → kf_M g x 8 pc lv [.int (kb v)] I J) (E79 : Int32 → Prop) (hE79 : ∀ (y6 : Int32), E79 y6 → kf_M g x 8 125 [(0, .ref (g.2.2.2 72)), (1, .int x1), (5, .int x5), (6, .int y6)] [] I J) : ∀ (n : Nat) (x6 : Int32) (x7 : Int32), lp (wb_X11_mayBe_79 I J x1 x5 E67 K67 Post E79) n (x6, x7) → kf_M g x 8 79 [(0, .ref (g.2.2.2 72)), (1, .int x1), (5, .int x5), (6, .int x6), (7, .int x7)] [] I J := by
  intro n
  induction n with
  | zero => intro x6 x7 h; exact h.elim
  | succ n ih => intro x6 x7 h; exact ws_X11_mayBe_79 g hg hx I J x1 x5 E67 K67 hE67 hK67 Post hret E79 hE79 (lp (wb_X11_mayBe_79 I J x1 x5 E67 K67 Post E79) n) ih x6 x7 h
def wb_X11_mayBe_67 (I : HI) (J : HJ) (x1 : Int32) (Post : Bool → Prop) (E67 : Prop) (K67 : Int32 → Prop) (x5 : Int32) : Prop :=
  (4 ≤ x5 → E67) ∧ (¬ 4 ≤ x5 → (∃ n, lp (wb_X11_mayBe_79 I J x1 x5 E67 K67 Post (fun (x6_5 : Int32) => vp_in x5 4 ∧ ((x6_5 ≤ (I 87 (Int32.toNatClampNeg x5)) → (K67 (x5 + 1))) ∧ (¬ x6_5 ≤ (I 87 (Int32.toNatClampNeg x5)) → (Post false))))) n (0, 0)))
set_option maxHeartbeats 4000000 in
set_option maxRecDepth 20000 in
theorem ws_X11_mayBe_67 (g : kf_G) (hg : kf_g g) {x : kf_X} (hx : kf_ok g x RX11 cX11_mayBe 8 1 21) (I : HI) (J : HJ) (x1 : Int32) (Post : Bool → Prop) (hret : ∀ (pc : Nat) (lv : List (Nat × Value)) (v : Bool), decode cX11_mayBe pc = .ok (.ireturn, 1) → Post v → kf_M g x 8 pc lv [.int (kb v)] I J) (E67 : Prop) (hE67 : E67 → kf_M g x 8 145 [] [] I J) (K67 : Int32 → Prop) (hK67 : ∀ (y5 : Int32), K67 y5 → kf_M g x 8 67 [(0, .ref (g.2.2.2 72)), (1, .int x1), (5, .int y5)] [] I J) (x5 : Int32) (h : wb_X11_mayBe_67 I J x1 Post E67 K67 x5) : kf_M g x 8 67 [(0, .ref (g.2.2.2 72)), (1, .int x1), (5, .int x5)] [] I J := by
  unfold wb_X11_mayBe_67 at h
  refine kf_iload hx dX11_mayBe_67 2 rfl ?_
  refine kf_iconst (v := 4) hx dX11_mayBe_69 (by decide) ?_
  refine kf_icmp_ge hx 145 dX11_mayBe_70 (by decide) (fun c => ?_) (fun c => ?_)
  · replace h := h.1 c
    refine kf_sub [] rfl ?_
    exact hE67  h
  · replace h := h.2 c
    refine kf_iconst (v := 0) hx dX11_mayBe_73 (by decide) ?_
    refine kf_istore (lv' := [(6, .int 0), (0, .ref (g.2.2.2 72)), (1, .int x1), (5, .int x5)]) hx dX11_mayBe_74 (by decide) rfl ?_
    refine kf_iconst (v := 0) hx dX11_mayBe_76 (by decide) ?_
    refine kf_istore (lv' := [(7, .int 0), (6, .int 0), (0, .ref (g.2.2.2 72)), (1, .int x1), (5, .int x5)]) hx dX11_mayBe_77 (by decide) rfl ?_
    obtain ⟨n, h⟩ := h
    refine kf_sub [2, 3, 4, 1, 0] rfl ?_
    refine wl_X11_mayBe_79 g hg hx I J x1 x5 _ _ hE67 hK67 _ hret _ (fun x6_5 h => ?_) n _ _ h
    refine kf_iload hx dX11_mayBe_125 3 rfl ?_
    refine kf_aload_n hx dX11_mayBe_127 rfl 0 rfl ?_
    refine kf_getR (n := 87) hx sl_72_34 fl_RX11_65 dX11_mayBe_128 ?_
    refine kf_iload hx dX11_mayBe_131 2 rfl ?_
    refine kf_iald hx ar_87 h.1 dX11_mayBe_133 ?_
    replace h := h.2
    refine kf_icmp_le hx 139 dX11_mayBe_134 (by decide) (fun c => ?_) (fun c => ?_)
    · replace h := h.1 c
      refine kf_iinc (w := (x5 + 1)) (lv' := [(5, .int (x5 + 1)), (0, .ref (g.2.2.2 72)), (1, .int x1), (6, .int x6_5)]) hx dX11_mayBe_139 2 rfl rfl (by decide) rfl ?_
      refine kf_goto hx 67 dX11_mayBe_142 (by decide) ?_
      refine kf_sub [1, 2, 0] rfl ?_
      exact hK67 _ h
    · replace h := h.2 c
      refine kf_iconst (v := 0) hx dX11_mayBe_137 (by decide) ?_
      exact hret _ _ false  dX11_mayBe_138 h
theorem wl_X11_mayBe_67 (g : kf_G) (hg : kf_g g) {x : kf_X} (hx : kf_ok g x RX11 cX11_mayBe 8 1 21) (I : HI) (J : HJ) (x1 : Int32) (Post : Bool → Prop) (hret : ∀ (pc : Nat) (lv : List (Nat × Value)) (v : Bool), decode cX11_mayBe pc = .ok (.ireturn, 1) → Post v → kf_M g x 8 pc lv [.int (kb v)] I J) (E67 : Prop) (hE67 : E67 → kf_M g x 8 145 [] [] I J) : ∀ (n : Nat) (x5 : Int32), lp (wb_X11_mayBe_67 I J x1 Post E67) n x5 → kf_M g x 8 67 [(0, .ref (g.2.2.2 72)), (1, .int x1), (5, .int x5)] [] I J := by
  intro n
  induction n with
  | zero => intro x5 h; exact h.elim
  | succ n ih => intro x5 h; exact ws_X11_mayBe_67 g hg hx I J x1 Post hret E67 hE67 (lp (wb_X11_mayBe_67 I J x1 Post E67) n) ih x5 h
def w_X11_mayBe (x1 : Int32) (x2 : Int32) (x3 : Int32) (I : HI) (J : HJ) (Post : Bool → Prop) : Prop :=
  w_J6_bitCount_0f7a4 x1 (fun (r_1 : Int32) => ((r_1 ≤ x2 → (∃ n, lp (wb_X11_mayBe_16 I J x1 x3 Post (fun (x4_3 : Int32) => (x4_3 ≤ x3 → (∃ n, lp (wb_X11_mayBe_67 I J x1 Post (Post true)) n 0)) ∧ (¬ x4_3 ≤ x3 → (Post false)))) n (0, 0))) ∧ (¬ r_1 ≤ x2 → (Post false))))
set_option maxHeartbeats 4000000 in
set_option maxRecDepth 20000 in
theorem we_X11_mayBe (g : kf_G) (hg : kf_g g) {x : kf_X} (hx : kf_ok g x RX11 cX11_mayBe 8 1 21) (x1 : Int32) (x2 : Int32) (x3 : Int32) (I : HI) (J : HJ) (Post : Bool → Prop) (hret : ∀ (pc : Nat) (lv : List (Nat × Value)) (v : Bool), decode cX11_mayBe pc = .ok (.ireturn, 1) → Post v → kf_M g x 8 pc lv [.int (kb v)] I J) (h : w_X11_mayBe x1 x2 x3 I J Post) : kf_M g x 8 0 [(0, .ref (g.2.2.2 72)), (1, .int x1), (2, .int x2), (3, .int x3)] [] I J := by
  unfold w_X11_mayBe at h
  refine kf_iload_n hx dX11_mayBe_0 rfl 1 rfl ?_
  refine kf_callSiP (st := []) hx (m_J6_bitCount_0f7a4 g hg x1 I J _ h) lk_RX11_325 km_J6_bitCount_0f7a4 rfl (by decide) rfl (Nat.le_of_ble_eq_true rfl) dX11_mayBe_1 (fun r_1 h => ?_)
  refine kf_iload_n hx dX11_mayBe_4 rfl 2 rfl ?_
  refine kf_icmp_le hx 10 dX11_mayBe_5 (by decide) (fun c => ?_) (fun c => ?_)
  · replace h := h.1 c
    refine kf_iconst (v := 0) hx dX11_mayBe_10 (by decide) ?_
    refine kf_istore (lv' := [(4, .int 0), (0, .ref (g.2.2.2 72)), (1, .int x1), (2, .int x2), (3, .int x3)]) hx dX11_mayBe_11 (by decide) rfl ?_
    refine kf_iconst (v := 0) hx dX11_mayBe_13 (by decide) ?_
    refine kf_istore (lv' := [(5, .int 0), (4, .int 0), (0, .ref (g.2.2.2 72)), (1, .int x1), (2, .int x2), (3, .int x3)]) hx dX11_mayBe_14 (by decide) rfl ?_
    obtain ⟨n, h⟩ := h
    refine kf_sub [2, 3, 5, 1, 0] rfl ?_
    refine wl_X11_mayBe_16 g hg hx I J x1 x3 _ hret _ (fun x4_3 h => ?_) n _ _ h
    refine kf_iload hx dX11_mayBe_56 3 rfl ?_
    refine kf_iload_n hx dX11_mayBe_58 rfl 2 rfl ?_
    refine kf_icmp_le hx 64 dX11_mayBe_59 (by decide) (fun c => ?_) (fun c => ?_)
    · replace h := h.1 c
      refine kf_iconst (v := 0) hx dX11_mayBe_64 (by decide) ?_
      refine kf_istore (lv' := [(5, .int 0), (0, .ref (g.2.2.2 72)), (1, .int x1), (3, .int x3), (4, .int x4_3)]) hx dX11_mayBe_65 (by decide) rfl ?_
      obtain ⟨n, h⟩ := h
      refine kf_sub [1, 2, 0] rfl ?_
      refine wl_X11_mayBe_67 g hg hx I J x1 _ hret _ (fun h => ?_) n _ h
      refine kf_iconst (v := 1) hx dX11_mayBe_145 (by decide) ?_
      exact hret _ _ true  dX11_mayBe_146 h
    · replace h := h.2 c
      refine kf_iconst (v := 0) hx dX11_mayBe_62 (by decide) ?_
      exact hret _ _ false  dX11_mayBe_63 h
  · replace h := h.2 c
    refine kf_iconst (v := 0) hx dX11_mayBe_8 (by decide) ?_
    exact hret _ _ false  dX11_mayBe_9 h
set_option maxHeartbeats 4000000 in
set_option maxRecDepth 20000 in
theorem m_X11_mayBe (g : kf_G) (hg : kf_g g) (x1 : Int32) (x2 : Int32) (x3 : Int32) (I : HI) (J : HJ) (Post : Bool → Prop) (h : w_X11_mayBe x1 x2 x3 I J Post) : kf_Mb g yX11_mayBe (kf_W yX11_mayBe cX11_mayBe 8 (Option.some Jvm.ClassFile.FieldType.boolean)) 1 21 [.ref (g.2.2.2 72), .int x1, .int x2, .int x3] I J (fun v I' J' => Post v ∧ I' = I ∧ J' = J) :=
  kf_entb hg (by decide) (Nat.le_of_ble_eq_true rfl) rfl (fun x hx hr => we_X11_mayBe g hg hx x1 x2 x3 I J Post (fun pc lv v hd hP => hr pc lv v I J hd ⟨hP, rfl, rfl⟩) h)
theorem dX11_isAsked_0 : decode cX11_isAsked 0 = .ok (.iload_n 0, 1) := by decide +kernel
theorem dX11_isAsked_1 : decode cX11_isAsked 1 = .ok (.i2l, 1) := by decide +kernel
theorem dX11_isAsked_2 : decode cX11_isAsked 2 = .ok (.lconst 1, 1) := by decide +kernel
theorem dX11_isAsked_3 : decode cX11_isAsked 3 = .ok (.ldc2_w 299, 3) := by decide +kernel
theorem dX11_isAsked_6 : decode cX11_isAsked 6 = .ok (.invokestatic 228, 3) := by decide +kernel
theorem dX11_isAsked_9 : decode cX11_isAsked 9 = .ok (.ifCond .eq 19, 3) := by decide +kernel
theorem dX11_isAsked_12 : decode cX11_isAsked 12 = .ok (.iload_n 1, 1) := by decide +kernel
theorem dX11_isAsked_13 : decode cX11_isAsked 13 = .ok (.i2l, 1) := by decide +kernel
theorem dX11_isAsked_14 : decode cX11_isAsked 14 = .ok (.lconst 0, 1) := by decide +kernel
theorem dX11_isAsked_15 : decode cX11_isAsked 15 = .ok (.ldc2_w 348, 3) := by decide +kernel
theorem dX11_isAsked_18 : decode cX11_isAsked 18 = .ok (.invokestatic 228, 3) := by decide +kernel
theorem dX11_isAsked_21 : decode cX11_isAsked 21 = .ok (.ifCond .eq 7, 3) := by decide +kernel
theorem dX11_isAsked_24 : decode cX11_isAsked 24 = .ok (.iconst 1, 1) := by decide +kernel
theorem dX11_isAsked_25 : decode cX11_isAsked 25 = .ok (.goto 4, 3) := by decide +kernel
theorem dX11_isAsked_28 : decode cX11_isAsked 28 = .ok (.iconst 0, 1) := by decide +kernel
theorem dX11_isAsked_29 : decode cX11_isAsked 29 = .ok (.ireturn, 1) := by decide +kernel
def w_X11_isAsked (x0 : Int32) (x1 : Int32) (Post : Bool → Prop) : Prop :=
  w_X11_isIn (Int32.toInt64 x0) 1 4 (fun (r_1 : Bool) => ((r_1 = false → (Post false)) ∧ (r_1 = true → (w_X11_isIn (Int32.toInt64 x1) 0 999 (fun (r_2 : Bool) => ((r_2 = false → (Post false)) ∧ (r_2 = true → (Post true))))))))
set_option maxHeartbeats 4000000 in
set_option maxRecDepth 20000 in
theorem we_X11_isAsked (g : kf_G) (hg : kf_g g) {x : kf_X} (hx : kf_ok g x RX11 cX11_isAsked 2 1 25) (x0 : Int32) (x1 : Int32) (I : HI) (J : HJ) (Post : Bool → Prop) (hret : ∀ (pc : Nat) (lv : List (Nat × Value)) (v : Bool), decode cX11_isAsked pc = .ok (.ireturn, 1) → Post v → kf_M g x 2 pc lv [.int (kb v)] I J) (h : w_X11_isAsked x0 x1 Post) : kf_M g x 2 0 [(0, .int x0), (1, .int x1)] [] I J := by
  unfold w_X11_isAsked at h
  refine kf_iload_n hx dX11_isAsked_0 rfl 0 rfl ?_
  refine kf_i2l hx dX11_isAsked_1 ?_
  refine kf_lconst (v := 1) hx dX11_isAsked_2 (by decide) ?_
  refine kf_ldc2 hx ko_RX11_299 dX11_isAsked_3 ?_
  refine kf_callSbP (st := []) hx (m_X11_isIn g hg (Int32.toInt64 x0) 1 4 I J _ h) lk_RX11_228 km_X11_isIn rfl (by decide) rfl (Nat.le_of_ble_eq_true rfl) dX11_isAsked_6 (fun r_1 h => ?_)
  refine kf_ifB_eq hx 28 dX11_isAsked_9 (by decide) (fun c => ?_) (fun c => ?_)
  · replace h := h.1 c
    refine kf_iconst (v := 0) hx dX11_isAsked_28 (by decide) ?_
    exact hret _ _ false  dX11_isAsked_29 h
  · replace h := h.2 c
    refine kf_iload_n hx dX11_isAsked_12 rfl 1 rfl ?_
    refine kf_i2l hx dX11_isAsked_13 ?_
    refine kf_lconst (v := 0) hx dX11_isAsked_14 (by decide) ?_
    refine kf_ldc2 hx ko_RX11_348 dX11_isAsked_15 ?_
    refine kf_callSbP (st := []) hx (m_X11_isIn g hg (Int32.toInt64 x1) 0 999 I J _ h) lk_RX11_228 km_X11_isIn rfl (by decide) rfl (Nat.le_of_ble_eq_true rfl) dX11_isAsked_18 (fun r_2 h => ?_)
    refine kf_ifB_eq hx 28 dX11_isAsked_21 (by decide) (fun c => ?_) (fun c => ?_)
    · replace h := h.1 c
      refine kf_iconst (v := 0) hx dX11_isAsked_28 (by decide) ?_
      exact hret _ _ false  dX11_isAsked_29 h
    · replace h := h.2 c
      refine kf_iconst (v := 1) hx dX11_isAsked_24 (by decide) ?_
      refine kf_goto hx 29 dX11_isAsked_25 (by decide) ?_
      exact hret _ _ true  dX11_isAsked_29 h
set_option maxHeartbeats 4000000 in
set_option maxRecDepth 20000 in
theorem m_X11_isAsked (g : kf_G) (hg : kf_g g) (x0 : Int32) (x1 : Int32) (I : HI) (J : HJ) (Post : Bool → Prop) (h : w_X11_isAsked x0 x1 Post) : kf_Mb g yX11_isAsked (kf_W yX11_isAsked cX11_isAsked 2 (Option.some Jvm.ClassFile.FieldType.boolean)) 1 25 [.int x0, .int x1] I J (fun v I' J' => Post v ∧ I' = I ∧ J' = J) :=
  kf_entb hg (by decide) (Nat.le_of_ble_eq_true rfl) rfl (fun x hx hr => we_X11_isAsked g hg hx x0 x1 I J Post (fun pc lv v hd hP => hr pc lv v I J hd ⟨hP, rfl, rfl⟩) h)
theorem dX11_greedyOf_0 : decode cX11_greedyOf 0 = .ok (.iconst 0, 1) := by decide +kernel
theorem dX11_greedyOf_1 : decode cX11_greedyOf 1 = .ok (.istore_n 3, 1) := by decide +kernel
theorem dX11_greedyOf_2 : decode cX11_greedyOf 2 = .ok (.lconst 0, 1) := by decide +kernel
theorem dX11_greedyOf_3 : decode cX11_greedyOf 3 = .ok (.lstore 4, 2) := by decide +kernel
theorem dX11_greedyOf_5 : decode cX11_greedyOf 5 = .ok (.iconst 0, 1) := by decide +kernel
theorem dX11_greedyOf_6 : decode cX11_greedyOf 6 = .ok (.istore 6, 2) := by decide +kernel
theorem dX11_greedyOf_8 : decode cX11_greedyOf 8 = .ok (.iload 6, 2) := by decide +kernel
theorem dX11_greedyOf_10 : decode cX11_greedyOf 10 = .ok (.iload_n 1, 1) := by decide +kernel
theorem dX11_greedyOf_11 : decode cX11_greedyOf 11 = .ok (.if_icmp .ge 112, 3) := by decide +kernel
theorem dX11_greedyOf_14 : decode cX11_greedyOf 14 = .ok (.iconst (-1), 1) := by decide +kernel
theorem dX11_greedyOf_15 : decode cX11_greedyOf 15 = .ok (.istore 7, 2) := by decide +kernel
theorem dX11_greedyOf_17 : decode cX11_greedyOf 17 = .ok (.lload 4, 2) := by decide +kernel
theorem dX11_greedyOf_19 : decode cX11_greedyOf 19 = .ok (.lstore 8, 2) := by decide +kernel
theorem dX11_greedyOf_21 : decode cX11_greedyOf 21 = .ok (.iconst 0, 1) := by decide +kernel
theorem dX11_greedyOf_22 : decode cX11_greedyOf 22 = .ok (.istore 10, 2) := by decide +kernel
theorem dX11_greedyOf_24 : decode cX11_greedyOf 24 = .ok (.iload 10, 2) := by decide +kernel
theorem dX11_greedyOf_26 : decode cX11_greedyOf 26 = .ok (.aload_n 0, 1) := by decide +kernel
theorem dX11_greedyOf_27 : decode cX11_greedyOf 27 = .ok (.getfield 287, 3) := by decide +kernel
theorem dX11_greedyOf_30 : decode cX11_greedyOf 30 = .ok (.if_icmp .ge 69, 3) := by decide +kernel
theorem dX11_greedyOf_33 : decode cX11_greedyOf 33 = .ok (.iload_n 3, 1) := by decide +kernel
theorem dX11_greedyOf_34 : decode cX11_greedyOf 34 = .ok (.iload 10, 2) := by decide +kernel
theorem dX11_greedyOf_36 : decode cX11_greedyOf 36 = .ok (.ishr, 1) := by decide +kernel
theorem dX11_greedyOf_37 : decode cX11_greedyOf 37 = .ok (.iconst 1, 1) := by decide +kernel
theorem dX11_greedyOf_38 : decode cX11_greedyOf 38 = .ok (.iand, 1) := by decide +kernel
theorem dX11_greedyOf_39 : decode cX11_greedyOf 39 = .ok (.iconst 1, 1) := by decide +kernel
theorem dX11_greedyOf_40 : decode cX11_greedyOf 40 = .ok (.if_icmp .eq 53, 3) := by decide +kernel
theorem dX11_greedyOf_43 : decode cX11_greedyOf 43 = .ok (.aload_n 0, 1) := by decide +kernel
theorem dX11_greedyOf_44 : decode cX11_greedyOf 44 = .ok (.iload_n 3, 1) := by decide +kernel
theorem dX11_greedyOf_45 : decode cX11_greedyOf 45 = .ok (.iconst 1, 1) := by decide +kernel
theorem dX11_greedyOf_46 : decode cX11_greedyOf 46 = .ok (.iload 10, 2) := by decide +kernel
theorem dX11_greedyOf_48 : decode cX11_greedyOf 48 = .ok (.ishl, 1) := by decide +kernel
theorem dX11_greedyOf_49 : decode cX11_greedyOf 49 = .ok (.ior, 1) := by decide +kernel
theorem dX11_greedyOf_50 : decode cX11_greedyOf 50 = .ok (.iload_n 1, 1) := by decide +kernel
theorem dX11_greedyOf_51 : decode cX11_greedyOf 51 = .ok (.iload_n 2, 1) := by decide +kernel
theorem dX11_greedyOf_52 : decode cX11_greedyOf 52 = .ok (.invokevirtual 350, 3) := by decide +kernel
theorem dX11_greedyOf_55 : decode cX11_greedyOf 55 = .ok (.ifCond .ne 6, 3) := by decide +kernel
theorem dX11_greedyOf_58 : decode cX11_greedyOf 58 = .ok (.goto 35, 3) := by decide +kernel
theorem dX11_greedyOf_61 : decode cX11_greedyOf 61 = .ok (.aload_n 0, 1) := by decide +kernel
theorem dX11_greedyOf_62 : decode cX11_greedyOf 62 = .ok (.iload_n 3, 1) := by decide +kernel
theorem dX11_greedyOf_63 : decode cX11_greedyOf 63 = .ok (.iconst 1, 1) := by decide +kernel
theorem dX11_greedyOf_64 : decode cX11_greedyOf 64 = .ok (.iload 10, 2) := by decide +kernel
theorem dX11_greedyOf_66 : decode cX11_greedyOf 66 = .ok (.ishl, 1) := by decide +kernel
theorem dX11_greedyOf_67 : decode cX11_greedyOf 67 = .ok (.ior, 1) := by decide +kernel
theorem dX11_greedyOf_68 : decode cX11_greedyOf 68 = .ok (.iconst 0, 1) := by decide +kernel
theorem dX11_greedyOf_69 : decode cX11_greedyOf 69 = .ok (.invokevirtual 330, 3) := by decide +kernel
theorem dX11_greedyOf_72 : decode cX11_greedyOf 72 = .ok (.lstore 11, 2) := by decide +kernel
theorem dX11_greedyOf_74 : decode cX11_greedyOf 74 = .ok (.lload 11, 2) := by decide +kernel
theorem dX11_greedyOf_76 : decode cX11_greedyOf 76 = .ok (.lload 8, 2) := by decide +kernel
theorem dX11_greedyOf_78 : decode cX11_greedyOf 78 = .ok (.lcmp, 1) := by decide +kernel
theorem dX11_greedyOf_79 : decode cX11_greedyOf 79 = .ok (.ifCond .gt 6, 3) := by decide +kernel
theorem dX11_greedyOf_82 : decode cX11_greedyOf 82 = .ok (.goto 11, 3) := by decide +kernel
theorem dX11_greedyOf_85 : decode cX11_greedyOf 85 = .ok (.lload 11, 2) := by decide +kernel
theorem dX11_greedyOf_87 : decode cX11_greedyOf 87 = .ok (.lstore 8, 2) := by decide +kernel
theorem dX11_greedyOf_89 : decode cX11_greedyOf 89 = .ok (.iload 10, 2) := by decide +kernel
theorem dX11_greedyOf_91 : decode cX11_greedyOf 91 = .ok (.istore 7, 2) := by decide +kernel
theorem dX11_greedyOf_93 : decode cX11_greedyOf 93 = .ok (.iinc 10 1, 3) := by decide +kernel
theorem dX11_greedyOf_96 : decode cX11_greedyOf 96 = .ok (.goto (-72), 3) := by decide +kernel
theorem dX11_greedyOf_99 : decode cX11_greedyOf 99 = .ok (.iload 7, 2) := by decide +kernel
theorem dX11_greedyOf_101 : decode cX11_greedyOf 101 = .ok (.ifCond .ge 5, 3) := by decide +kernel
theorem dX11_greedyOf_104 : decode cX11_greedyOf 104 = .ok (.iload_n 3, 1) := by decide +kernel
theorem dX11_greedyOf_105 : decode cX11_greedyOf 105 = .ok (.ireturn, 1) := by decide +kernel
theorem dX11_greedyOf_106 : decode cX11_greedyOf 106 = .ok (.iload_n 3, 1) := by decide +kernel
theorem dX11_greedyOf_107 : decode cX11_greedyOf 107 = .ok (.iconst 1, 1) := by decide +kernel
theorem dX11_greedyOf_108 : decode cX11_greedyOf 108 = .ok (.iload 7, 2) := by decide +kernel
theorem dX11_greedyOf_110 : decode cX11_greedyOf 110 = .ok (.ishl, 1) := by decide +kernel
theorem dX11_greedyOf_111 : decode cX11_greedyOf 111 = .ok (.ior, 1) := by decide +kernel
theorem dX11_greedyOf_112 : decode cX11_greedyOf 112 = .ok (.istore_n 3, 1) := by decide +kernel
theorem dX11_greedyOf_113 : decode cX11_greedyOf 113 = .ok (.lload 8, 2) := by decide +kernel
theorem dX11_greedyOf_115 : decode cX11_greedyOf 115 = .ok (.lstore 4, 2) := by decide +kernel
theorem dX11_greedyOf_117 : decode cX11_greedyOf 117 = .ok (.iinc 6 1, 3) := by decide +kernel
theorem dX11_greedyOf_120 : decode cX11_greedyOf 120 = .ok (.goto (-112), 3) := by decide +kernel
theorem dX11_greedyOf_123 : decode cX11_greedyOf 123 = .ok (.iload_n 3, 1) := by decide +kernel
theorem dX11_greedyOf_124 : decode cX11_greedyOf 124 = .ok (.ireturn, 1) := by decide +kernel
def wb_X11_greedyOf_24 (I : HI) (J : HJ) (x1 : Int32) (x2 : Int32) (x3 : Int32) (x6 : Int32) (E8 : Int32 → Prop) (K8 : Int32 × Int64 × Int32 → Prop) (Post : Int32 → Prop) (E24 : Int32 → Int64 → Prop) (K24 : (Int32 × Int64 × Int32) → Prop) (s : Int32 × Int64 × Int32) : Prop :=
  match s with
  | (x7, x8, x10) => ((I 72 20) ≤ x10 → (E24 x7 x8)) ∧ (¬ (I 72 20) ≤ x10 → ((((x3 >>> (x10 &&& 31)) &&& 1) = 1 → (K24 (x7, x8, (x10 + 1)))) ∧ (¬ ((x3 >>> (x10 &&& 31)) &&& 1) = 1 → (w_X11_mayBe (x3 ||| (1 <<< (x10 &&& 31))) x1 x2 I J (fun (r_1 : Bool) => ((r_1 = true → (w_X11_spreadOf (x3 ||| (1 <<< (x10 &&& 31))) 0 I J (fun (r_2 : Int64) => ((x8 < r_2 → (K24 (x10, r_2, (x10 + 1)))) ∧ (¬ x8 < r_2 → (K24 (x7, x8, (x10 + 1)))))))) ∧ (r_1 = false → (K24 (x7, x8, (x10 + 1))))))))))
set_option maxHeartbeats 4000000 in
set_option maxRecDepth 20000 in
theorem ws_X11_greedyOf_24 (g : kf_G) (hg : kf_g g) {x : kf_X} (hx : kf_ok g x RX11 cX11_greedyOf 13 3 75) (I : HI) (J : HJ) (x1 : Int32) (x2 : Int32) (x3 : Int32) (x6 : Int32) (E8 : Int32 → Prop) (K8 : Int32 × Int64 × Int32 → Prop) (hE8 : ∀ (y3 : Int32), E8 y3 → kf_M g x 13 123 [(3, .int y3)] [] I J) (hK8 : ∀ (y3 : Int32) (y4 : Int64) (y6 : Int32), K8 (y3, y4, y6) → kf_M g x 13 8 [(0, .ref (g.2.2.2 72)), (1, .int x1), (2, .int x2), (3, .int y3), (4, .long y4), (6, .int y6)] [] I J) (Post : Int32 → Prop) (hret : ∀ (pc : Nat) (lv : List (Nat × Value)) (v : Int32), decode cX11_greedyOf pc = .ok (.ireturn, 1) → Post v → kf_M g x 13 pc lv [.int v] I J) (E24 : Int32 → Int64 → Prop) (hE24 : ∀ (y7 : Int32) (y8 : Int64), E24 y7 y8 → kf_M g x 13 99 [(0, .ref (g.2.2.2 72)), (1, .int x1), (2, .int x2), (3, .int x3), (6, .int x6), (7, .int y7), (8, .long y8)] [] I J) (K24 : (Int32 × Int64 × Int32) → Prop) (hK24 : ∀ (y7 : Int32) (y8 : Int64) (y10 : Int32), K24 (y7, y8, y10) → kf_M g x 13 24 [(0, .ref (g.2.2.2 72)), (1, .int x1), (2, .int x2), (3, .int x3), (6, .int x6), (7, .int y7), (8, .long y8), (10, .int y10)] [] I J) (x7 : Int32) (x8 : Int64) (x10 : Int32) (h : wb_X11_greedyOf_24 I J x1 x2 x3 x6 E8 K8 Post E24 K24 (x7, x8, x10)) : kf_M g x 13 24 [(0, .ref (g.2.2.2 72)), (1, .int x1), (2, .int x2), (3, .int x3), (6, .int x6), (7, .int x7), (8, .long x8), (10, .int x10)] [] I J := by
  unfold wb_X11_greedyOf_24 at h
  refine kf_iload hx dX11_greedyOf_24 7 rfl ?_
  refine kf_aload_n hx dX11_greedyOf_26 rfl 0 rfl ?_
  refine kf_getI hx sl_72_20 fl_RX11_287 dX11_greedyOf_27 ?_
  refine kf_icmp_ge hx 99 dX11_greedyOf_30 (by decide) (fun c => ?_) (fun c => ?_)
  · replace h := h.1 c
    refine kf_sub [0, 1, 2, 3, 4, 5, 6] rfl ?_
    exact hE24 _ _ h
  · replace h := h.2 c
    refine kf_iload_n hx dX11_greedyOf_33 rfl 3 rfl ?_
    refine kf_iload hx dX11_greedyOf_34 7 rfl ?_
    refine kf_ishr hx dX11_greedyOf_36 ?_
    refine kf_iconst (v := 1) hx dX11_greedyOf_37 (by decide) ?_
    refine kf_iand hx dX11_greedyOf_38 ?_
    refine kf_iconst (v := 1) hx dX11_greedyOf_39 (by decide) ?_
    refine kf_icmp_eq hx 93 dX11_greedyOf_40 (by decide) (fun c => ?_) (fun c => ?_)
    · replace h := h.1 c
      refine kf_iinc (w := (x10 + 1)) (lv' := [(10, .int (x10 + 1)), (0, .ref (g.2.2.2 72)), (1, .int x1), (2, .int x2), (3, .int x3), (6, .int x6), (7, .int x7), (8, .long x8)]) hx dX11_greedyOf_93 7 rfl rfl (by decide) rfl ?_
      refine kf_goto hx 24 dX11_greedyOf_96 (by decide) ?_
      refine kf_sub [1, 2, 3, 4, 5, 6, 7, 0] rfl ?_
      exact hK24 _ _ _ h
    · replace h := h.2 c
      refine kf_aload_n hx dX11_greedyOf_43 rfl 0 rfl ?_
      refine kf_iload_n hx dX11_greedyOf_44 rfl 3 rfl ?_
      refine kf_iconst (v := 1) hx dX11_greedyOf_45 (by decide) ?_
      refine kf_iload hx dX11_greedyOf_46 7 rfl ?_
      refine kf_ishl hx dX11_greedyOf_48 ?_
      refine kf_ior hx dX11_greedyOf_49 ?_
      refine kf_iload_n hx dX11_greedyOf_50 rfl 1 rfl ?_
      refine kf_iload_n hx dX11_greedyOf_51 rfl 2 rfl ?_
      refine kf_callVbP (st := []) hx (m_X11_mayBe g hg (x3 ||| (1 <<< (x10 &&& 31))) x1 x2 I J _ h) lk_RX11_350 km_X11_mayBe ob_72 rfl (by decide) rfl (Nat.le_of_ble_eq_true rfl) dX11_greedyOf_52 (fun r_1 h => ?_)
      refine kf_ifB_ne hx 61 dX11_greedyOf_55 (by decide) (fun c => ?_) (fun c => ?_)
      · replace h := h.1 c
        refine kf_aload_n hx dX11_greedyOf_61 rfl 0 rfl ?_
        refine kf_iload_n hx dX11_greedyOf_62 rfl 3 rfl ?_
        refine kf_iconst (v := 1) hx dX11_greedyOf_63 (by decide) ?_
        refine kf_iload hx dX11_greedyOf_64 7 rfl ?_
        refine kf_ishl hx dX11_greedyOf_66 ?_
        refine kf_ior hx dX11_greedyOf_67 ?_
        refine kf_iconst (v := 0) hx dX11_greedyOf_68 (by decide) ?_
        refine kf_callVlP (st := []) hx (m_X11_spreadOf g hg (x3 ||| (1 <<< (x10 &&& 31))) 0 I J _ h) lk_RX11_330 km_X11_spreadOf ob_72 rfl (by decide) rfl (Nat.le_of_ble_eq_true rfl) dX11_greedyOf_69 (fun r_2 h => ?_)
        refine kf_lstore (lv' := [(11, .long r_2), (0, .ref (g.2.2.2 72)), (1, .int x1), (2, .int x2), (3, .int x3), (6, .int x6), (7, .int x7), (8, .long x8), (10, .int x10)]) hx dX11_greedyOf_72 (by decide) rfl ?_
        refine kf_lload hx dX11_greedyOf_74 0 rfl ?_
        refine kf_lload hx dX11_greedyOf_76 7 rfl ?_
        refine kf_l_gt hx 85 dX11_greedyOf_78 dX11_greedyOf_79 (by decide) (fun c => ?_) (fun c => ?_)
        · replace h := h.1 c
          refine kf_lload hx dX11_greedyOf_85 0 rfl ?_
          refine kf_lstore (lv' := [(8, .long r_2), (11, .long r_2), (0, .ref (g.2.2.2 72)), (1, .int x1), (2, .int x2), (3, .int x3), (6, .int x6), (7, .int x7), (10, .int x10)]) hx dX11_greedyOf_87 (by decide) rfl ?_
          refine kf_iload hx dX11_greedyOf_89 8 rfl ?_
          refine kf_istore (lv' := [(7, .int x10), (8, .long r_2), (11, .long r_2), (0, .ref (g.2.2.2 72)), (1, .int x1), (2, .int x2), (3, .int x3), (6, .int x6), (10, .int x10)]) hx dX11_greedyOf_91 (by decide) rfl ?_
          refine kf_iinc (w := (x10 + 1)) (lv' := [(10, .int (x10 + 1)), (7, .int x10), (8, .long r_2), (11, .long r_2), (0, .ref (g.2.2.2 72)), (1, .int x1), (2, .int x2), (3, .int x3), (6, .int x6)]) hx dX11_greedyOf_93 8 rfl rfl (by decide) rfl ?_
          refine kf_goto hx 24 dX11_greedyOf_96 (by decide) ?_
          refine kf_sub [4, 5, 6, 7, 8, 1, 2, 0] rfl ?_
          exact hK24 _ _ _ h
        · replace h := h.2 c
          refine kf_goto hx 93 dX11_greedyOf_82 (by decide) ?_
          refine kf_iinc (w := (x10 + 1)) (lv' := [(10, .int (x10 + 1)), (11, .long r_2), (0, .ref (g.2.2.2 72)), (1, .int x1), (2, .int x2), (3, .int x3), (6, .int x6), (7, .int x7), (8, .long x8)]) hx dX11_greedyOf_93 8 rfl rfl (by decide) rfl ?_
          refine kf_goto hx 24 dX11_greedyOf_96 (by decide) ?_
          refine kf_sub [2, 3, 4, 5, 6, 7, 8, 0] rfl ?_
          exact hK24 _ _ _ h
      · replace h := h.2 c
        refine kf_goto hx 93 dX11_greedyOf_58 (by decide) ?_
        refine kf_iinc (w := (x10 + 1)) (lv' := [(10, .int (x10 + 1)), (0, .ref (g.2.2.2 72)), (1, .int x1), (2, .int x2), (3, .int x3), (6, .int x6), (7, .int x7), (8, .long x8)]) hx dX11_greedyOf_93 7 rfl rfl (by decide) rfl ?_
        refine kf_goto hx 24 dX11_greedyOf_96 (by decide) ?_
        refine kf_sub [1, 2, 3, 4, 5, 6, 7, 0] rfl ?_
        exact hK24 _ _ _ h
theorem wl_X11_greedyOf_24 (g : kf_G) (hg : kf_g g) {x : kf_X} (hx : kf_ok g x RX11 cX11_greedyOf 13 3 75) (I : HI) (J : HJ) (x1 : Int32) (x2 : Int32) (x3 : Int32) (x6 : Int32) (E8 : Int32 → Prop) (K8 : Int32 × Int64 × Int32 → Prop) (hE8 : ∀ (y3 : Int32), E8 y3 → kf_M g x 13 123 [(3, .int y3)] [] I J) (hK8 : ∀ (y3 : Int32) (y4 : Int64) (y6 : Int32), K8 (y3, y4, y6) → kf_M g x 13 8 [(0, .ref (g.2.2.2 72)), (1, .int x1), (2, .int x2), (3, .int y3), (4, .long y4), (6, .int y6)] [] I J) (Post : Int32 → Prop) (hret : ∀ (pc : Nat) (lv : List (Nat × Value)) (v : Int32), decode cX11_greedyOf pc = .ok (.ireturn, 1) → Post v → kf_M g x 13 pc lv [.int v] I J) (E24 : Int32 → Int64 → Prop) (hE24 : ∀ (y7 : Int32) (y8 : Int64), E24 y7 y8 → kf_M g x 13 99 [(0, .ref (g.2.2.2 72)), (1, .int x1), (2, .int x2), (3, .int x3), (6, .int x6), (7, .int y7), (8, .long y8)] [] I J) : ∀ (n : Nat) (x7 : Int32) (x8 : Int64) (x10 : Int32), lp (wb_X11_greedyOf_24 I J x1 x2 x3 x6 E8 K8 Post E24) n (x7, x8, x10) → kf_M g x 13 24 [(0, .ref (g.2.2.2 72)), (1, .int x1), (2, .int x2), (3, .int x3), (6, .int x6), (7, .int x7), (8, .long x8), (10, .int x10)] [] I J := by
  intro n
  induction n with
  | zero => intro x7 x8 x10 h; exact h.elim
  | succ n ih => intro x7 x8 x10 h; exact ws_X11_greedyOf_24 g hg hx I J x1 x2 x3 x6 E8 K8 hE8 hK8 Post hret E24 hE24 (lp (wb_X11_greedyOf_24 I J x1 x2 x3 x6 E8 K8 Post E24) n) ih x7 x8 x10 h
def wb_X11_greedyOf_8 (I : HI) (J : HJ) (x1 : Int32) (x2 : Int32) (Post : Int32 → Prop) (E8 : Int32 → Prop) (K8 : (Int32 × Int64 × Int32) → Prop) (s : Int32 × Int64 × Int32) : Prop :=
  match s with
  | (x3, x4, x6) => (x1 ≤ x6 → (E8 x3)) ∧ (¬ x1 ≤ x6 → (∃ n, lp (wb_X11_greedyOf_24 I J x1 x2 x3 x6 E8 K8 Post (fun (x7_3 : Int32) (x8_4 : Int64) => (0 ≤ x7_3 → (K8 ((x3 ||| (1 <<< (x7_3 &&& 31))), x8_4, (x6 + 1)))) ∧ (¬ 0 ≤ x7_3 → (Post x3)))) n ((-1), x4, 0)))
set_option maxHeartbeats 4000000 in
set_option maxRecDepth 20000 in
theorem ws_X11_greedyOf_8 (g : kf_G) (hg : kf_g g) {x : kf_X} (hx : kf_ok g x RX11 cX11_greedyOf 13 3 75) (I : HI) (J : HJ) (x1 : Int32) (x2 : Int32) (Post : Int32 → Prop) (hret : ∀ (pc : Nat) (lv : List (Nat × Value)) (v : Int32), decode cX11_greedyOf pc = .ok (.ireturn, 1) → Post v → kf_M g x 13 pc lv [.int v] I J) (E8 : Int32 → Prop) (hE8 : ∀ (y3 : Int32), E8 y3 → kf_M g x 13 123 [(3, .int y3)] [] I J) (K8 : (Int32 × Int64 × Int32) → Prop) (hK8 : ∀ (y3 : Int32) (y4 : Int64) (y6 : Int32), K8 (y3, y4, y6) → kf_M g x 13 8 [(0, .ref (g.2.2.2 72)), (1, .int x1), (2, .int x2), (3, .int y3), (4, .long y4), (6, .int y6)] [] I J) (x3 : Int32) (x4 : Int64) (x6 : Int32) (h : wb_X11_greedyOf_8 I J x1 x2 Post E8 K8 (x3, x4, x6)) : kf_M g x 13 8 [(0, .ref (g.2.2.2 72)), (1, .int x1), (2, .int x2), (3, .int x3), (4, .long x4), (6, .int x6)] [] I J := by
  unfold wb_X11_greedyOf_8 at h
  refine kf_iload hx dX11_greedyOf_8 5 rfl ?_
  refine kf_iload_n hx dX11_greedyOf_10 rfl 1 rfl ?_
  refine kf_icmp_ge hx 123 dX11_greedyOf_11 (by decide) (fun c => ?_) (fun c => ?_)
  · replace h := h.1 c
    refine kf_sub [3] rfl ?_
    exact hE8 _ h
  · replace h := h.2 c
    refine kf_iconst (v := (-1)) hx dX11_greedyOf_14 (by decide) ?_
    refine kf_istore (lv' := [(7, .int (-1)), (0, .ref (g.2.2.2 72)), (1, .int x1), (2, .int x2), (3, .int x3), (4, .long x4), (6, .int x6)]) hx dX11_greedyOf_15 (by decide) rfl ?_
    refine kf_lload hx dX11_greedyOf_17 5 rfl ?_
    refine kf_lstore (lv' := [(8, .long x4), (7, .int (-1)), (0, .ref (g.2.2.2 72)), (1, .int x1), (2, .int x2), (3, .int x3), (4, .long x4), (6, .int x6)]) hx dX11_greedyOf_19 (by decide) rfl ?_
    refine kf_iconst (v := 0) hx dX11_greedyOf_21 (by decide) ?_
    refine kf_istore (lv' := [(10, .int 0), (8, .long x4), (7, .int (-1)), (0, .ref (g.2.2.2 72)), (1, .int x1), (2, .int x2), (3, .int x3), (4, .long x4), (6, .int x6)]) hx dX11_greedyOf_22 (by decide) rfl ?_
    obtain ⟨n, h⟩ := h
    refine kf_sub [3, 4, 5, 6, 8, 2, 1, 0] rfl ?_
    refine wl_X11_greedyOf_24 g hg hx I J x1 x2 x3 x6 _ _ hE8 hK8 _ hret _ (fun x7_3 x8_4 h => ?_) n _ _ _ h
    refine kf_iload hx dX11_greedyOf_99 5 rfl ?_
    refine kf_if_ge hx 106 dX11_greedyOf_101 (by decide) (fun c => ?_) (fun c => ?_)
    · replace h := h.1 c
      refine kf_iload_n hx dX11_greedyOf_106 rfl 3 rfl ?_
      refine kf_iconst (v := 1) hx dX11_greedyOf_107 (by decide) ?_
      refine kf_iload hx dX11_greedyOf_108 5 rfl ?_
      refine kf_ishl hx dX11_greedyOf_110 ?_
      refine kf_ior hx dX11_greedyOf_111 ?_
      refine kf_istore_n (lv' := [(3, .int (x3 ||| (1 <<< (x7_3 &&& 31)))), (0, .ref (g.2.2.2 72)), (1, .int x1), (2, .int x2), (6, .int x6), (7, .int x7_3), (8, .long x8_4)]) hx dX11_greedyOf_112 rfl (by decide) rfl ?_
      refine kf_lload hx dX11_greedyOf_113 6 rfl ?_
      refine kf_lstore (lv' := [(4, .long x8_4), (3, .int (x3 ||| (1 <<< (x7_3 &&& 31)))), (0, .ref (g.2.2.2 72)), (1, .int x1), (2, .int x2), (6, .int x6), (7, .int x7_3), (8, .long x8_4)]) hx dX11_greedyOf_115 (by decide) rfl ?_
      refine kf_iinc (w := (x6 + 1)) (lv' := [(6, .int (x6 + 1)), (4, .long x8_4), (3, .int (x3 ||| (1 <<< (x7_3 &&& 31)))), (0, .ref (g.2.2.2 72)), (1, .int x1), (2, .int x2), (7, .int x7_3), (8, .long x8_4)]) hx dX11_greedyOf_117 5 rfl rfl (by decide) rfl ?_
      refine kf_goto hx 8 dX11_greedyOf_120 (by decide) ?_
      refine kf_sub [3, 4, 5, 2, 1, 0] rfl ?_
      exact hK8 _ _ _ h
    · replace h := h.2 c
      refine kf_iload_n hx dX11_greedyOf_104 rfl 3 rfl ?_
      exact hret _ _ x3  dX11_greedyOf_105 h
theorem wl_X11_greedyOf_8 (g : kf_G) (hg : kf_g g) {x : kf_X} (hx : kf_ok g x RX11 cX11_greedyOf 13 3 75) (I : HI) (J : HJ) (x1 : Int32) (x2 : Int32) (Post : Int32 → Prop) (hret : ∀ (pc : Nat) (lv : List (Nat × Value)) (v : Int32), decode cX11_greedyOf pc = .ok (.ireturn, 1) → Post v → kf_M g x 13 pc lv [.int v] I J) (E8 : Int32 → Prop) (hE8 : ∀ (y3 : Int32), E8 y3 → kf_M g x 13 123 [(3, .int y3)] [] I J) : ∀ (n : Nat) (x3 : Int32) (x4 : Int64) (x6 : Int32), lp (wb_X11_greedyOf_8 I J x1 x2 Post E8) n (x3, x4, x6) → kf_M g x 13 8 [(0, .ref (g.2.2.2 72)), (1, .int x1), (2, .int x2), (3, .int x3), (4, .long x4), (6, .int x6)] [] I J := by
  intro n
  induction n with
  | zero => intro x3 x4 x6 h; exact h.elim
  | succ n ih => intro x3 x4 x6 h; exact ws_X11_greedyOf_8 g hg hx I J x1 x2 Post hret E8 hE8 (lp (wb_X11_greedyOf_8 I J x1 x2 Post E8) n) ih x3 x4 x6 h
def w_X11_greedyOf (x1 : Int32) (x2 : Int32) (I : HI) (J : HJ) (Post : Int32 → Prop) : Prop :=
  ∃ n, lp (wb_X11_greedyOf_8 I J x1 x2 Post (fun (x3_5 : Int32) => Post x3_5)) n (0, 0, 0)
set_option maxHeartbeats 4000000 in
set_option maxRecDepth 20000 in
theorem we_X11_greedyOf (g : kf_G) (hg : kf_g g) {x : kf_X} (hx : kf_ok g x RX11 cX11_greedyOf 13 3 75) (x1 : Int32) (x2 : Int32) (I : HI) (J : HJ) (Post : Int32 → Prop) (hret : ∀ (pc : Nat) (lv : List (Nat × Value)) (v : Int32), decode cX11_greedyOf pc = .ok (.ireturn, 1) → Post v → kf_M g x 13 pc lv [.int v] I J) (h : w_X11_greedyOf x1 x2 I J Post) : kf_M g x 13 0 [(0, .ref (g.2.2.2 72)), (1, .int x1), (2, .int x2)] [] I J := by
  unfold w_X11_greedyOf at h
  refine kf_iconst (v := 0) hx dX11_greedyOf_0 (by decide) ?_
  refine kf_istore_n (lv' := [(3, .int 0), (0, .ref (g.2.2.2 72)), (1, .int x1), (2, .int x2)]) hx dX11_greedyOf_1 rfl (by decide) rfl ?_
  refine kf_lconst (v := 0) hx dX11_greedyOf_2 (by decide) ?_
  refine kf_lstore (lv' := [(4, .long 0), (3, .int 0), (0, .ref (g.2.2.2 72)), (1, .int x1), (2, .int x2)]) hx dX11_greedyOf_3 (by decide) rfl ?_
  refine kf_iconst (v := 0) hx dX11_greedyOf_5 (by decide) ?_
  refine kf_istore (lv' := [(6, .int 0), (4, .long 0), (3, .int 0), (0, .ref (g.2.2.2 72)), (1, .int x1), (2, .int x2)]) hx dX11_greedyOf_6 (by decide) rfl ?_
  obtain ⟨n, h⟩ := h
  refine kf_sub [3, 4, 5, 2, 1, 0] rfl ?_
  refine wl_X11_greedyOf_8 g hg hx I J x1 x2 _ hret _ (fun x3_5 h => ?_) n _ _ _ h
  refine kf_iload_n hx dX11_greedyOf_123 rfl 0 rfl ?_
  exact hret _ _ x3_5  dX11_greedyOf_124 h
set_option maxHeartbeats 4000000 in
set_option maxRecDepth 20000 in
theorem m_X11_greedyOf (g : kf_G) (hg : kf_g g) (x1 : Int32) (x2 : Int32) (I : HI) (J : HJ) (Post : Int32 → Prop) (h : w_X11_greedyOf x1 x2 I J Post) : kf_Mi g yX11_greedyOf (kf_W yX11_greedyOf cX11_greedyOf 13 (Option.some Jvm.ClassFile.FieldType.int)) 3 75 [.ref (g.2.2.2 72), .int x1, .int x2] I J (fun v I' J' => Post v ∧ I' = I ∧ J' = J) :=
  kf_enti hg (by decide) (Nat.le_of_ble_eq_true rfl) rfl (fun x hx hr => we_X11_greedyOf g hg hx x1 x2 I J Post (fun pc lv v hd hP => hr pc lv v I J hd ⟨hP, rfl, rfl⟩) h)
theorem dX11_greedy_0 : decode cX11_greedy 0 = .ok (.aload_n 0, 1) := by decide +kernel
theorem dX11_greedy_1 : decode cX11_greedy 1 = .ok (.iconst 0, 1) := by decide +kernel
theorem dX11_greedy_2 : decode cX11_greedy 2 = .ok (.putfield 106, 3) := by decide +kernel
theorem dX11_greedy_5 : decode cX11_greedy 5 = .ok (.aload_n 0, 1) := by decide +kernel
theorem dX11_greedy_6 : decode cX11_greedy 6 = .ok (.iconst 0, 1) := by decide +kernel
theorem dX11_greedy_7 : decode cX11_greedy 7 = .ok (.putfield 109, 3) := by decide +kernel
theorem dX11_greedy_10 : decode cX11_greedy 10 = .ok (.iload_n 1, 1) := by decide +kernel
theorem dX11_greedy_11 : decode cX11_greedy 11 = .ok (.iload_n 2, 1) := by decide +kernel
theorem dX11_greedy_12 : decode cX11_greedy 12 = .ok (.invokestatic 354, 3) := by decide +kernel
theorem dX11_greedy_15 : decode cX11_greedy 15 = .ok (.ifCond .ne 9, 3) := by decide +kernel
theorem dX11_greedy_18 : decode cX11_greedy 18 = .ok (.aload_n 0, 1) := by decide +kernel
theorem dX11_greedy_19 : decode cX11_greedy 19 = .ok (.iconst 5, 1) := by decide +kernel
theorem dX11_greedy_20 : decode cX11_greedy 20 = .ok (.invokevirtual 272, 3) := by decide +kernel
theorem dX11_greedy_23 : decode cX11_greedy 23 = .ok (.ireturn, 1) := by decide +kernel
theorem dX11_greedy_24 : decode cX11_greedy 24 = .ok (.aload_n 0, 1) := by decide +kernel
theorem dX11_greedy_25 : decode cX11_greedy 25 = .ok (.iload_n 1, 1) := by decide +kernel
theorem dX11_greedy_26 : decode cX11_greedy 26 = .ok (.iload_n 2, 1) := by decide +kernel
theorem dX11_greedy_27 : decode cX11_greedy 27 = .ok (.invokevirtual 357, 3) := by decide +kernel
theorem dX11_greedy_30 : decode cX11_greedy 30 = .ok (.istore_n 3, 1) := by decide +kernel
theorem dX11_greedy_31 : decode cX11_greedy 31 = .ok (.aload_n 0, 1) := by decide +kernel
theorem dX11_greedy_32 : decode cX11_greedy 32 = .ok (.aload_n 0, 1) := by decide +kernel
theorem dX11_greedy_33 : decode cX11_greedy 33 = .ok (.iload_n 3, 1) := by decide +kernel
theorem dX11_greedy_34 : decode cX11_greedy 34 = .ok (.iconst 0, 1) := by decide +kernel
theorem dX11_greedy_35 : decode cX11_greedy 35 = .ok (.invokevirtual 330, 3) := by decide +kernel
theorem dX11_greedy_38 : decode cX11_greedy 38 = .ok (.aload_n 0, 1) := by decide +kernel
theorem dX11_greedy_39 : decode cX11_greedy 39 = .ok (.invokevirtual 334, 3) := by decide +kernel
theorem dX11_greedy_42 : decode cX11_greedy 42 = .ok (.invokevirtual 338, 3) := by decide +kernel
theorem dX11_greedy_45 : decode cX11_greedy 45 = .ok (.iload_n 3, 1) := by decide +kernel
theorem dX11_greedy_46 : decode cX11_greedy 46 = .ok (.ireturn, 1) := by decide +kernel
def w_X11_greedy (x1 : Int32) (x2 : Int32) (I : HI) (J : HJ) (Post : Int32 → HI → HJ → Prop) : Prop :=
  ∀ I_1 : HI, I_1 = hI I 72 1 0 → (∀ I_2 : HI, I_2 = hI I_1 72 0 0 → (w_X11_isAsked x1 x2 (fun (r_3 : Bool) => ((r_3 = true → (w_X11_greedyOf x1 x2 I_2 J (fun (r_4 : Int32) => (w_X11_spreadOf r_4 0 I_2 J (fun (r_5 : Int64) => (w_X11_whole  I_2 J (fun (r_6 : Int64) => (w_X11_fraction r_5 r_6 I_2 J (fun (J_7 : HJ) => (Post r_4 I_2 J_7)))))))))) ∧ (r_3 = false → (w_X11_refusedBy 5 I_2 J (fun (r_8 : Int32) (I_9 : HI) => (Post r_8 I_9 J))))))))
set_option maxHeartbeats 4000000 in
set_option maxRecDepth 20000 in
theorem we_X11_greedy (g : kf_G) (hg : kf_g g) {x : kf_X} (hx : kf_ok g x RX11 cX11_greedy 4 4 107) (x1 : Int32) (x2 : Int32) (I : HI) (J : HJ) (Post : Int32 → HI → HJ → Prop) (hret : ∀ (pc : Nat) (lv : List (Nat × Value)) (v : Int32) (Iy : HI) (Jy : HJ), decode cX11_greedy pc = .ok (.ireturn, 1) → Post v Iy Jy → kf_M g x 4 pc lv [.int v] Iy Jy) (h : w_X11_greedy x1 x2 I J Post) : kf_M g x 4 0 [(0, .ref (g.2.2.2 72)), (1, .int x1), (2, .int x2)] [] I J := by
  unfold w_X11_greedy at h
  refine kf_aload_n hx dX11_greedy_0 rfl 0 rfl ?_
  refine kf_iconst (v := 0) hx dX11_greedy_1 (by decide) ?_
  refine kf_putI hx sl_72_1 fl_RX11_106 fp_11_1 dX11_greedy_2 ?_
  refine kf_nmI (fun I_1 eI_1 => ?_)
  replace h := h I_1 eI_1
  refine kf_aload_n hx dX11_greedy_5 rfl 0 rfl ?_
  refine kf_iconst (v := 0) hx dX11_greedy_6 (by decide) ?_
  refine kf_putI hx sl_72_0 fl_RX11_109 fp_11_0 dX11_greedy_7 ?_
  refine kf_nmI (fun I_2 eI_2 => ?_)
  replace h := h I_2 eI_2
  refine kf_iload_n hx dX11_greedy_10 rfl 1 rfl ?_
  refine kf_iload_n hx dX11_greedy_11 rfl 2 rfl ?_
  refine kf_callSbP (st := []) hx (m_X11_isAsked g hg x1 x2 I_2 J _ h) lk_RX11_354 km_X11_isAsked rfl (by decide) rfl (Nat.le_of_ble_eq_true rfl) dX11_greedy_12 (fun r_3 h => ?_)
  refine kf_ifB_ne hx 24 dX11_greedy_15 (by decide) (fun c => ?_) (fun c => ?_)
  · replace h := h.1 c
    refine kf_aload_n hx dX11_greedy_24 rfl 0 rfl ?_
    refine kf_iload_n hx dX11_greedy_25 rfl 1 rfl ?_
    refine kf_iload_n hx dX11_greedy_26 rfl 2 rfl ?_
    refine kf_callViP (st := []) hx (m_X11_greedyOf g hg x1 x2 I_2 J _ h) lk_RX11_357 km_X11_greedyOf ob_72 rfl (by decide) rfl (Nat.le_of_ble_eq_true rfl) dX11_greedy_27 (fun r_4 h => ?_)
    refine kf_istore_n (lv' := [(3, .int r_4), (0, .ref (g.2.2.2 72)), (1, .int x1), (2, .int x2)]) hx dX11_greedy_30 rfl (by decide) rfl ?_
    refine kf_aload_n hx dX11_greedy_31 rfl 1 rfl ?_
    refine kf_aload_n hx dX11_greedy_32 rfl 1 rfl ?_
    refine kf_iload_n hx dX11_greedy_33 rfl 0 rfl ?_
    refine kf_iconst (v := 0) hx dX11_greedy_34 (by decide) ?_
    refine kf_callVlP (st := [.ref (g.2.2.2 72)]) hx (m_X11_spreadOf g hg r_4 0 I_2 J _ h) lk_RX11_330 km_X11_spreadOf ob_72 rfl (by decide) rfl (Nat.le_of_ble_eq_true rfl) dX11_greedy_35 (fun r_5 h => ?_)
    refine kf_aload_n hx dX11_greedy_38 rfl 1 rfl ?_
    refine kf_callVlP (st := [.long r_5, .ref (g.2.2.2 72)]) hx (m_X11_whole g hg  I_2 J _ h) lk_RX11_334 km_X11_whole ob_72 rfl (by decide) rfl (Nat.le_of_ble_eq_true rfl) dX11_greedy_39 (fun r_6 h => ?_)
    refine kf_callVvJ (st := []) hx (m_X11_fraction g hg r_5 r_6 I_2 J _ h) lk_RX11_338 km_X11_fraction ob_72 rfl (by decide) rfl (Nat.le_of_ble_eq_true rfl) dX11_greedy_42 (fun J_7 h => ?_)
    refine kf_iload_n hx dX11_greedy_45 rfl 0 rfl ?_
    exact hret _ _ r_4 _ _ dX11_greedy_46 h
  · replace h := h.2 c
    refine kf_aload_n hx dX11_greedy_18 rfl 0 rfl ?_
    refine kf_iconst (v := 5) hx dX11_greedy_19 (by decide) ?_
    refine kf_callViI (st := []) hx (m_X11_refusedBy g hg 5 I_2 J _ h) lk_RX11_272 km_X11_refusedBy ob_72 rfl (by decide) rfl (Nat.le_of_ble_eq_true rfl) dX11_greedy_20 (fun r_8 I_9 h => ?_)
    exact hret _ _ r_8 _ _ dX11_greedy_23 h
set_option maxHeartbeats 4000000 in
set_option maxRecDepth 20000 in
theorem m_X11_greedy (g : kf_G) (hg : kf_g g) (x1 : Int32) (x2 : Int32) (I : HI) (J : HJ) (Post : Int32 → HI → HJ → Prop) (h : w_X11_greedy x1 x2 I J Post) : kf_Mi g yX11_greedy (kf_W yX11_greedy cX11_greedy 4 (Option.some Jvm.ClassFile.FieldType.int)) 4 107 [.ref (g.2.2.2 72), .int x1, .int x2] I J Post :=
  kf_enti hg (by decide) (Nat.le_of_ble_eq_true rfl) rfl (fun x hx hr => we_X11_greedy g hg hx x1 x2 I J Post (fun pc lv v I' J' hd hP => hr pc lv v I' J' hd hP) h)
theorem dX11_best_0 : decode cX11_best 0 = .ok (.aload_n 0, 1) := by decide +kernel
theorem dX11_best_1 : decode cX11_best 1 = .ok (.iconst 0, 1) := by decide +kernel
theorem dX11_best_2 : decode cX11_best 2 = .ok (.putfield 106, 3) := by decide +kernel
theorem dX11_best_5 : decode cX11_best 5 = .ok (.aload_n 0, 1) := by decide +kernel
theorem dX11_best_6 : decode cX11_best 6 = .ok (.iconst 0, 1) := by decide +kernel
theorem dX11_best_7 : decode cX11_best 7 = .ok (.putfield 109, 3) := by decide +kernel
theorem dX11_best_10 : decode cX11_best 10 = .ok (.iload_n 1, 1) := by decide +kernel
theorem dX11_best_11 : decode cX11_best 11 = .ok (.iload_n 2, 1) := by decide +kernel
theorem dX11_best_12 : decode cX11_best 12 = .ok (.invokestatic 354, 3) := by decide +kernel
theorem dX11_best_15 : decode cX11_best 15 = .ok (.ifCond .ne 9, 3) := by decide +kernel
theorem dX11_best_18 : decode cX11_best 18 = .ok (.aload_n 0, 1) := by decide +kernel
theorem dX11_best_19 : decode cX11_best 19 = .ok (.iconst 5, 1) := by decide +kernel
theorem dX11_best_20 : decode cX11_best 20 = .ok (.invokevirtual 272, 3) := by decide +kernel
theorem dX11_best_23 : decode cX11_best 23 = .ok (.ireturn, 1) := by decide +kernel
theorem dX11_best_24 : decode cX11_best 24 = .ok (.iconst 0, 1) := by decide +kernel
theorem dX11_best_25 : decode cX11_best 25 = .ok (.istore_n 3, 1) := by decide +kernel
theorem dX11_best_26 : decode cX11_best 26 = .ok (.lconst 0, 1) := by decide +kernel
theorem dX11_best_27 : decode cX11_best 27 = .ok (.lstore 4, 2) := by decide +kernel
theorem dX11_best_29 : decode cX11_best 29 = .ok (.iconst 1, 1) := by decide +kernel
theorem dX11_best_30 : decode cX11_best 30 = .ok (.istore 6, 2) := by decide +kernel
theorem dX11_best_32 : decode cX11_best 32 = .ok (.iload 6, 2) := by decide +kernel
theorem dX11_best_34 : decode cX11_best 34 = .ok (.iconst 1, 1) := by decide +kernel
theorem dX11_best_35 : decode cX11_best 35 = .ok (.aload_n 0, 1) := by decide +kernel
theorem dX11_best_36 : decode cX11_best 36 = .ok (.getfield 287, 3) := by decide +kernel
theorem dX11_best_39 : decode cX11_best 39 = .ok (.ishl, 1) := by decide +kernel
theorem dX11_best_40 : decode cX11_best 40 = .ok (.if_icmp .ge 70, 3) := by decide +kernel
theorem dX11_best_43 : decode cX11_best 43 = .ok (.aload_n 0, 1) := by decide +kernel
theorem dX11_best_44 : decode cX11_best 44 = .ok (.iload 6, 2) := by decide +kernel
theorem dX11_best_46 : decode cX11_best 46 = .ok (.iload_n 1, 1) := by decide +kernel
theorem dX11_best_47 : decode cX11_best 47 = .ok (.iload_n 2, 1) := by decide +kernel
theorem dX11_best_48 : decode cX11_best 48 = .ok (.invokevirtual 350, 3) := by decide +kernel
theorem dX11_best_51 : decode cX11_best 51 = .ok (.ifCond .ne 6, 3) := by decide +kernel
theorem dX11_best_54 : decode cX11_best 54 = .ok (.goto 50, 3) := by decide +kernel
theorem dX11_best_57 : decode cX11_best 57 = .ok (.aload_n 0, 1) := by decide +kernel
theorem dX11_best_58 : decode cX11_best 58 = .ok (.iload 6, 2) := by decide +kernel
theorem dX11_best_60 : decode cX11_best 60 = .ok (.iconst 0, 1) := by decide +kernel
theorem dX11_best_61 : decode cX11_best 61 = .ok (.invokevirtual 330, 3) := by decide +kernel
theorem dX11_best_64 : decode cX11_best 64 = .ok (.lstore 7, 2) := by decide +kernel
theorem dX11_best_66 : decode cX11_best 66 = .ok (.lload 7, 2) := by decide +kernel
theorem dX11_best_68 : decode cX11_best 68 = .ok (.lload 4, 2) := by decide +kernel
theorem dX11_best_70 : decode cX11_best 70 = .ok (.lcmp, 1) := by decide +kernel
theorem dX11_best_71 : decode cX11_best 71 = .ok (.ifCond .lt 33, 3) := by decide +kernel
theorem dX11_best_74 : decode cX11_best 74 = .ok (.lload 7, 2) := by decide +kernel
theorem dX11_best_76 : decode cX11_best 76 = .ok (.lload 4, 2) := by decide +kernel
theorem dX11_best_78 : decode cX11_best 78 = .ok (.lcmp, 1) := by decide +kernel
theorem dX11_best_79 : decode cX11_best 79 = .ok (.ifCond .ne 18, 3) := by decide +kernel
theorem dX11_best_82 : decode cX11_best 82 = .ok (.iload 6, 2) := by decide +kernel
theorem dX11_best_84 : decode cX11_best 84 = .ok (.invokestatic 325, 3) := by decide +kernel
theorem dX11_best_87 : decode cX11_best 87 = .ok (.iload_n 3, 1) := by decide +kernel
theorem dX11_best_88 : decode cX11_best 88 = .ok (.invokestatic 325, 3) := by decide +kernel
theorem dX11_best_91 : decode cX11_best 91 = .ok (.if_icmp .lt 6, 3) := by decide +kernel
theorem dX11_best_94 : decode cX11_best 94 = .ok (.goto 10, 3) := by decide +kernel
theorem dX11_best_97 : decode cX11_best 97 = .ok (.lload 7, 2) := by decide +kernel
theorem dX11_best_99 : decode cX11_best 99 = .ok (.lstore 4, 2) := by decide +kernel
theorem dX11_best_101 : decode cX11_best 101 = .ok (.iload 6, 2) := by decide +kernel
theorem dX11_best_103 : decode cX11_best 103 = .ok (.istore_n 3, 1) := by decide +kernel
theorem dX11_best_104 : decode cX11_best 104 = .ok (.iinc 6 1, 3) := by decide +kernel
theorem dX11_best_107 : decode cX11_best 107 = .ok (.goto (-75), 3) := by decide +kernel
theorem dX11_best_110 : decode cX11_best 110 = .ok (.aload_n 0, 1) := by decide +kernel
theorem dX11_best_111 : decode cX11_best 111 = .ok (.lload 4, 2) := by decide +kernel
theorem dX11_best_113 : decode cX11_best 113 = .ok (.aload_n 0, 1) := by decide +kernel
theorem dX11_best_114 : decode cX11_best 114 = .ok (.invokevirtual 334, 3) := by decide +kernel
theorem dX11_best_117 : decode cX11_best 117 = .ok (.invokevirtual 338, 3) := by decide +kernel
theorem dX11_best_120 : decode cX11_best 120 = .ok (.iload_n 3, 1) := by decide +kernel
theorem dX11_best_121 : decode cX11_best 121 = .ok (.ireturn, 1) := by decide +kernel
def wb_X11_best_32 (I : HI) (J : HJ) (x1 : Int32) (x2 : Int32) (Post : Int32 → HI → HJ → Prop) (E32 : Int32 → Int64 → Prop) (K32 : (Int32 × Int64 × Int32) → Prop) (s : Int32 × Int64 × Int32) : Prop :=
  match s with
  | (x3, x4, x6) => ((1 <<< ((I 72 20) &&& 31)) ≤ x6 → (E32 x3 x4)) ∧ (¬ (1 <<< ((I 72 20) &&& 31)) ≤ x6 → (w_X11_mayBe x6 x1 x2 I J (fun (r_4 : Bool) => ((r_4 = true → (w_X11_spreadOf x6 0 I J (fun (r_5 : Int64) => ((r_5 < x4 → (K32 (x3, x4, (x6 + 1)))) ∧ (¬ r_5 < x4 → ((¬ r_5 = x4 → (K32 (x6, r_5, (x6 + 1)))) ∧ (r_5 = x4 → (w_J6_bitCount_0f7a4 x6 (fun (r_6 : Int32) => (w_J6_bitCount_0f7a4 x3 (fun (r_7 : Int32) => ((r_6 < r_7 → (K32 (x6, r_5, (x6 + 1)))) ∧ (¬ r_6 < r_7 → (K32 (x3, x4, (x6 + 1)))))))))))))))) ∧ (r_4 = false → (K32 (x3, x4, (x6 + 1))))))))
set_option maxHeartbeats 4000000 in
set_option maxRecDepth 20000 in
theorem ws_X11_best_32 (g : kf_G) (hg : kf_g g) {x : kf_X} (hx : kf_ok g x RX11 cX11_best 9 3 75) (I : HI) (J : HJ) (x1 : Int32) (x2 : Int32) (Post : Int32 → HI → HJ → Prop) (hret : ∀ (pc : Nat) (lv : List (Nat × Value)) (v : Int32) (Iy : HI) (Jy : HJ), decode cX11_best pc = .ok (.ireturn, 1) → Post v Iy Jy → kf_M g x 9 pc lv [.int v] Iy Jy) (E32 : Int32 → Int64 → Prop) (hE32 : ∀ (y3 : Int32) (y4 : Int64), E32 y3 y4 → kf_M g x 9 110 [(0, .ref (g.2.2.2 72)), (3, .int y3), (4, .long y4)] [] I J) (K32 : (Int32 × Int64 × Int32) → Prop) (hK32 : ∀ (y3 : Int32) (y4 : Int64) (y6 : Int32), K32 (y3, y4, y6) → kf_M g x 9 32 [(0, .ref (g.2.2.2 72)), (1, .int x1), (2, .int x2), (3, .int y3), (4, .long y4), (6, .int y6)] [] I J) (x3 : Int32) (x4 : Int64) (x6 : Int32) (h : wb_X11_best_32 I J x1 x2 Post E32 K32 (x3, x4, x6)) : kf_M g x 9 32 [(0, .ref (g.2.2.2 72)), (1, .int x1), (2, .int x2), (3, .int x3), (4, .long x4), (6, .int x6)] [] I J := by
  unfold wb_X11_best_32 at h
  refine kf_iload hx dX11_best_32 5 rfl ?_
  refine kf_iconst (v := 1) hx dX11_best_34 (by decide) ?_
  refine kf_aload_n hx dX11_best_35 rfl 0 rfl ?_
  refine kf_getI hx sl_72_20 fl_RX11_287 dX11_best_36 ?_
  refine kf_ishl hx dX11_best_39 ?_
  refine kf_icmp_ge hx 110 dX11_best_40 (by decide) (fun c => ?_) (fun c => ?_)
  · replace h := h.1 c
    refine kf_sub [0, 3, 4] rfl ?_
    exact hE32 _ _ h
  · replace h := h.2 c
    refine kf_aload_n hx dX11_best_43 rfl 0 rfl ?_
    refine kf_iload hx dX11_best_44 5 rfl ?_
    refine kf_iload_n hx dX11_best_46 rfl 1 rfl ?_
    refine kf_iload_n hx dX11_best_47 rfl 2 rfl ?_
    refine kf_callVbP (st := []) hx (m_X11_mayBe g hg x6 x1 x2 I J _ h) lk_RX11_350 km_X11_mayBe ob_72 rfl (by decide) rfl (Nat.le_of_ble_eq_true rfl) dX11_best_48 (fun r_4 h => ?_)
    refine kf_ifB_ne hx 57 dX11_best_51 (by decide) (fun c => ?_) (fun c => ?_)
    · replace h := h.1 c
      refine kf_aload_n hx dX11_best_57 rfl 0 rfl ?_
      refine kf_iload hx dX11_best_58 5 rfl ?_
      refine kf_iconst (v := 0) hx dX11_best_60 (by decide) ?_
      refine kf_callVlP (st := []) hx (m_X11_spreadOf g hg x6 0 I J _ h) lk_RX11_330 km_X11_spreadOf ob_72 rfl (by decide) rfl (Nat.le_of_ble_eq_true rfl) dX11_best_61 (fun r_5 h => ?_)
      refine kf_lstore (lv' := [(7, .long r_5), (0, .ref (g.2.2.2 72)), (1, .int x1), (2, .int x2), (3, .int x3), (4, .long x4), (6, .int x6)]) hx dX11_best_64 (by decide) rfl ?_
      refine kf_lload hx dX11_best_66 0 rfl ?_
      refine kf_lload hx dX11_best_68 5 rfl ?_
      refine kf_l_lt hx 104 dX11_best_70 dX11_best_71 (by decide) (fun c => ?_) (fun c => ?_)
      · replace h := h.1 c
        refine kf_iinc (w := (x6 + 1)) (lv' := [(6, .int (x6 + 1)), (7, .long r_5), (0, .ref (g.2.2.2 72)), (1, .int x1), (2, .int x2), (3, .int x3), (4, .long x4)]) hx dX11_best_104 6 rfl rfl (by decide) rfl ?_
        refine kf_goto hx 32 dX11_best_107 (by decide) ?_
        refine kf_sub [2, 3, 4, 5, 6, 0] rfl ?_
        exact hK32 _ _ _ h
      · replace h := h.2 c
        refine kf_lload hx dX11_best_74 0 rfl ?_
        refine kf_lload hx dX11_best_76 5 rfl ?_
        refine kf_l_ne hx 97 dX11_best_78 dX11_best_79 (by decide) (fun c => ?_) (fun c => ?_)
        · replace h := h.1 c
          refine kf_lload hx dX11_best_97 0 rfl ?_
          refine kf_lstore (lv' := [(4, .long r_5), (7, .long r_5), (0, .ref (g.2.2.2 72)), (1, .int x1), (2, .int x2), (3, .int x3), (6, .int x6)]) hx dX11_best_99 (by decide) rfl ?_
          refine kf_iload hx dX11_best_101 6 rfl ?_
          refine kf_istore_n (lv' := [(3, .int x6), (4, .long r_5), (7, .long r_5), (0, .ref (g.2.2.2 72)), (1, .int x1), (2, .int x2), (6, .int x6)]) hx dX11_best_103 rfl (by decide) rfl ?_
          refine kf_iinc (w := (x6 + 1)) (lv' := [(6, .int (x6 + 1)), (3, .int x6), (4, .long r_5), (7, .long r_5), (0, .ref (g.2.2.2 72)), (1, .int x1), (2, .int x2)]) hx dX11_best_104 6 rfl rfl (by decide) rfl ?_
          refine kf_goto hx 32 dX11_best_107 (by decide) ?_
          refine kf_sub [4, 5, 6, 1, 2, 0] rfl ?_
          exact hK32 _ _ _ h
        · replace h := h.2 c
          refine kf_iload hx dX11_best_82 6 rfl ?_
          refine kf_callSiP (st := []) hx (m_J6_bitCount_0f7a4 g hg x6 I J _ h) lk_RX11_325 km_J6_bitCount_0f7a4 rfl (by decide) rfl (Nat.le_of_ble_eq_true rfl) dX11_best_84 (fun r_6 h => ?_)
          refine kf_iload_n hx dX11_best_87 rfl 4 rfl ?_
          refine kf_callSiP (st := [.int r_6]) hx (m_J6_bitCount_0f7a4 g hg x3 I J _ h) lk_RX11_325 km_J6_bitCount_0f7a4 rfl (by decide) rfl (Nat.le_of_ble_eq_true rfl) dX11_best_88 (fun r_7 h => ?_)
          refine kf_icmp_lt hx 97 dX11_best_91 (by decide) (fun c => ?_) (fun c => ?_)
          · replace h := h.1 c
            refine kf_lload hx dX11_best_97 0 rfl ?_
            refine kf_lstore (lv' := [(4, .long r_5), (7, .long r_5), (0, .ref (g.2.2.2 72)), (1, .int x1), (2, .int x2), (3, .int x3), (6, .int x6)]) hx dX11_best_99 (by decide) rfl ?_
            refine kf_iload hx dX11_best_101 6 rfl ?_
            refine kf_istore_n (lv' := [(3, .int x6), (4, .long r_5), (7, .long r_5), (0, .ref (g.2.2.2 72)), (1, .int x1), (2, .int x2), (6, .int x6)]) hx dX11_best_103 rfl (by decide) rfl ?_
            refine kf_iinc (w := (x6 + 1)) (lv' := [(6, .int (x6 + 1)), (3, .int x6), (4, .long r_5), (7, .long r_5), (0, .ref (g.2.2.2 72)), (1, .int x1), (2, .int x2)]) hx dX11_best_104 6 rfl rfl (by decide) rfl ?_
            refine kf_goto hx 32 dX11_best_107 (by decide) ?_
            refine kf_sub [4, 5, 6, 1, 2, 0] rfl ?_
            exact hK32 _ _ _ h
          · replace h := h.2 c
            refine kf_goto hx 104 dX11_best_94 (by decide) ?_
            refine kf_iinc (w := (x6 + 1)) (lv' := [(6, .int (x6 + 1)), (7, .long r_5), (0, .ref (g.2.2.2 72)), (1, .int x1), (2, .int x2), (3, .int x3), (4, .long x4)]) hx dX11_best_104 6 rfl rfl (by decide) rfl ?_
            refine kf_goto hx 32 dX11_best_107 (by decide) ?_
            refine kf_sub [2, 3, 4, 5, 6, 0] rfl ?_
            exact hK32 _ _ _ h
    · replace h := h.2 c
      refine kf_goto hx 104 dX11_best_54 (by decide) ?_
      refine kf_iinc (w := (x6 + 1)) (lv' := [(6, .int (x6 + 1)), (0, .ref (g.2.2.2 72)), (1, .int x1), (2, .int x2), (3, .int x3), (4, .long x4)]) hx dX11_best_104 5 rfl rfl (by decide) rfl ?_
      refine kf_goto hx 32 dX11_best_107 (by decide) ?_
      refine kf_sub [1, 2, 3, 4, 5, 0] rfl ?_
      exact hK32 _ _ _ h
theorem wl_X11_best_32 (g : kf_G) (hg : kf_g g) {x : kf_X} (hx : kf_ok g x RX11 cX11_best 9 3 75) (I : HI) (J : HJ) (x1 : Int32) (x2 : Int32) (Post : Int32 → HI → HJ → Prop) (hret : ∀ (pc : Nat) (lv : List (Nat × Value)) (v : Int32) (Iy : HI) (Jy : HJ), decode cX11_best pc = .ok (.ireturn, 1) → Post v Iy Jy → kf_M g x 9 pc lv [.int v] Iy Jy) (E32 : Int32 → Int64 → Prop) (hE32 : ∀ (y3 : Int32) (y4 : Int64), E32 y3 y4 → kf_M g x 9 110 [(0, .ref (g.2.2.2 72)), (3, .int y3), (4, .long y4)] [] I J) : ∀ (n : Nat) (x3 : Int32) (x4 : Int64) (x6 : Int32), lp (wb_X11_best_32 I J x1 x2 Post E32) n (x3, x4, x6) → kf_M g x 9 32 [(0, .ref (g.2.2.2 72)), (1, .int x1), (2, .int x2), (3, .int x3), (4, .long x4), (6, .int x6)] [] I J := by
  intro n
  induction n with
  | zero => intro x3 x4 x6 h; exact h.elim
  | succ n ih => intro x3 x4 x6 h; exact ws_X11_best_32 g hg hx I J x1 x2 Post hret E32 hE32 (lp (wb_X11_best_32 I J x1 x2 Post E32) n) ih x3 x4 x6 h
def w_X11_best (x1 : Int32) (x2 : Int32) (I : HI) (J : HJ) (Post : Int32 → HI → HJ → Prop) : Prop :=
  ∀ I_1 : HI, I_1 = hI I 72 1 0 → (∀ I_2 : HI, I_2 = hI I_1 72 0 0 → (w_X11_isAsked x1 x2 (fun (r_3 : Bool) => ((r_3 = true → (∃ n, lp (wb_X11_best_32 I_2 J x1 x2 Post (fun (x3_8 : Int32) (x4_9 : Int64) => w_X11_whole  I_2 J (fun (r_10 : Int64) => (w_X11_fraction x4_9 r_10 I_2 J (fun (J_11 : HJ) => (Post x3_8 I_2 J_11)))))) n (0, 0, 1))) ∧ (r_3 = false → (w_X11_refusedBy 5 I_2 J (fun (r_12 : Int32) (I_13 : HI) => (Post r_12 I_13 J))))))))
set_option maxHeartbeats 4000000 in
set_option maxRecDepth 20000 in
theorem we_X11_best (g : kf_G) (hg : kf_g g) {x : kf_X} (hx : kf_ok g x RX11 cX11_best 9 3 75) (x1 : Int32) (x2 : Int32) (I : HI) (J : HJ) (Post : Int32 → HI → HJ → Prop) (hret : ∀ (pc : Nat) (lv : List (Nat × Value)) (v : Int32) (Iy : HI) (Jy : HJ), decode cX11_best pc = .ok (.ireturn, 1) → Post v Iy Jy → kf_M g x 9 pc lv [.int v] Iy Jy) (h : w_X11_best x1 x2 I J Post) : kf_M g x 9 0 [(0, .ref (g.2.2.2 72)), (1, .int x1), (2, .int x2)] [] I J := by
  unfold w_X11_best at h
  refine kf_aload_n hx dX11_best_0 rfl 0 rfl ?_
  refine kf_iconst (v := 0) hx dX11_best_1 (by decide) ?_
  refine kf_putI hx sl_72_1 fl_RX11_106 fp_11_1 dX11_best_2 ?_
  refine kf_nmI (fun I_1 eI_1 => ?_)
  replace h := h I_1 eI_1
  refine kf_aload_n hx dX11_best_5 rfl 0 rfl ?_
  refine kf_iconst (v := 0) hx dX11_best_6 (by decide) ?_
  refine kf_putI hx sl_72_0 fl_RX11_109 fp_11_0 dX11_best_7 ?_
  refine kf_nmI (fun I_2 eI_2 => ?_)
  replace h := h I_2 eI_2
  refine kf_iload_n hx dX11_best_10 rfl 1 rfl ?_
  refine kf_iload_n hx dX11_best_11 rfl 2 rfl ?_
  refine kf_callSbP (st := []) hx (m_X11_isAsked g hg x1 x2 I_2 J _ h) lk_RX11_354 km_X11_isAsked rfl (by decide) rfl (Nat.le_of_ble_eq_true rfl) dX11_best_12 (fun r_3 h => ?_)
  refine kf_ifB_ne hx 24 dX11_best_15 (by decide) (fun c => ?_) (fun c => ?_)
  · replace h := h.1 c
    refine kf_iconst (v := 0) hx dX11_best_24 (by decide) ?_
    refine kf_istore_n (lv' := [(3, .int 0), (0, .ref (g.2.2.2 72)), (1, .int x1), (2, .int x2)]) hx dX11_best_25 rfl (by decide) rfl ?_
    refine kf_lconst (v := 0) hx dX11_best_26 (by decide) ?_
    refine kf_lstore (lv' := [(4, .long 0), (3, .int 0), (0, .ref (g.2.2.2 72)), (1, .int x1), (2, .int x2)]) hx dX11_best_27 (by decide) rfl ?_
    refine kf_iconst (v := 1) hx dX11_best_29 (by decide) ?_
    refine kf_istore (lv' := [(6, .int 1), (4, .long 0), (3, .int 0), (0, .ref (g.2.2.2 72)), (1, .int x1), (2, .int x2)]) hx dX11_best_30 (by decide) rfl ?_
    obtain ⟨n, h⟩ := h
    refine kf_sub [3, 4, 5, 2, 1, 0] rfl ?_
    refine wl_X11_best_32 g hg hx I_2 J x1 x2 _ hret _ (fun x3_8 x4_9 h => ?_) n _ _ _ h
    refine kf_aload_n hx dX11_best_110 rfl 0 rfl ?_
    refine kf_lload hx dX11_best_111 2 rfl ?_
    refine kf_aload_n hx dX11_best_113 rfl 0 rfl ?_
    refine kf_callVlP (st := [.long x4_9, .ref (g.2.2.2 72)]) hx (m_X11_whole g hg  I_2 J _ h) lk_RX11_334 km_X11_whole ob_72 rfl (by decide) rfl (Nat.le_of_ble_eq_true rfl) dX11_best_114 (fun r_10 h => ?_)
    refine kf_callVvJ (st := []) hx (m_X11_fraction g hg x4_9 r_10 I_2 J _ h) lk_RX11_338 km_X11_fraction ob_72 rfl (by decide) rfl (Nat.le_of_ble_eq_true rfl) dX11_best_117 (fun J_11 h => ?_)
    refine kf_iload_n hx dX11_best_120 rfl 1 rfl ?_
    exact hret _ _ x3_8 _ _ dX11_best_121 h
  · replace h := h.2 c
    refine kf_aload_n hx dX11_best_18 rfl 0 rfl ?_
    refine kf_iconst (v := 5) hx dX11_best_19 (by decide) ?_
    refine kf_callViI (st := []) hx (m_X11_refusedBy g hg 5 I_2 J _ h) lk_RX11_272 km_X11_refusedBy ob_72 rfl (by decide) rfl (Nat.le_of_ble_eq_true rfl) dX11_best_20 (fun r_12 I_13 h => ?_)
    exact hret _ _ r_12 _ _ dX11_best_23 h
set_option maxHeartbeats 4000000 in
set_option maxRecDepth 20000 in
theorem m_X11_best (g : kf_G) (hg : kf_g g) (x1 : Int32) (x2 : Int32) (I : HI) (J : HJ) (Post : Int32 → HI → HJ → Prop) (h : w_X11_best x1 x2 I J Post) : kf_Mi g yX11_best (kf_W yX11_best cX11_best 9 (Option.some Jvm.ClassFile.FieldType.int)) 3 75 [.ref (g.2.2.2 72), .int x1, .int x2] I J Post :=
  kf_enti hg (by decide) (Nat.le_of_ble_eq_true rfl) rfl (fun x hx hr => we_X11_best g hg hx x1 x2 I J Post (fun pc lv v I' J' hd hP => hr pc lv v I' J' hd hP) h)
theorem dX11_bound_0 : decode cX11_bound 0 = .ok (.aload_n 0, 1) := by decide +kernel
theorem dX11_bound_1 : decode cX11_bound 1 = .ok (.iconst 0, 1) := by decide +kernel
theorem dX11_bound_2 : decode cX11_bound 2 = .ok (.putfield 106, 3) := by decide +kernel
theorem dX11_bound_5 : decode cX11_bound 5 = .ok (.aload_n 0, 1) := by decide +kernel
theorem dX11_bound_6 : decode cX11_bound 6 = .ok (.iconst 0, 1) := by decide +kernel
theorem dX11_bound_7 : decode cX11_bound 7 = .ok (.putfield 109, 3) := by decide +kernel
theorem dX11_bound_10 : decode cX11_bound 10 = .ok (.iload_n 1, 1) := by decide +kernel
theorem dX11_bound_11 : decode cX11_bound 11 = .ok (.iload_n 2, 1) := by decide +kernel
theorem dX11_bound_12 : decode cX11_bound 12 = .ok (.invokestatic 354, 3) := by decide +kernel
theorem dX11_bound_15 : decode cX11_bound 15 = .ok (.ifCond .ne 9, 3) := by decide +kernel
theorem dX11_bound_18 : decode cX11_bound 18 = .ok (.aload_n 0, 1) := by decide +kernel
theorem dX11_bound_19 : decode cX11_bound 19 = .ok (.iconst 5, 1) := by decide +kernel
theorem dX11_bound_20 : decode cX11_bound 20 = .ok (.invokevirtual 121, 3) := by decide +kernel
theorem dX11_bound_23 : decode cX11_bound 23 = .ok (.ireturn, 1) := by decide +kernel
theorem dX11_bound_24 : decode cX11_bound 24 = .ok (.aload_n 0, 1) := by decide +kernel
theorem dX11_bound_25 : decode cX11_bound 25 = .ok (.iload_n 1, 1) := by decide +kernel
theorem dX11_bound_26 : decode cX11_bound 26 = .ok (.iload_n 2, 1) := by decide +kernel
theorem dX11_bound_27 : decode cX11_bound 27 = .ok (.invokevirtual 357, 3) := by decide +kernel
theorem dX11_bound_30 : decode cX11_bound 30 = .ok (.istore_n 3, 1) := by decide +kernel
theorem dX11_bound_31 : decode cX11_bound 31 = .ok (.aload_n 0, 1) := by decide +kernel
theorem dX11_bound_32 : decode cX11_bound 32 = .ok (.iload_n 3, 1) := by decide +kernel
theorem dX11_bound_33 : decode cX11_bound 33 = .ok (.iconst 0, 1) := by decide +kernel
theorem dX11_bound_34 : decode cX11_bound 34 = .ok (.invokevirtual 330, 3) := by decide +kernel
theorem dX11_bound_37 : decode cX11_bound 37 = .ok (.lstore 4, 2) := by decide +kernel
theorem dX11_bound_39 : decode cX11_bound 39 = .ok (.iconst 0, 1) := by decide +kernel
theorem dX11_bound_40 : decode cX11_bound 40 = .ok (.istore 6, 2) := by decide +kernel
theorem dX11_bound_42 : decode cX11_bound 42 = .ok (.iconst 0, 1) := by decide +kernel
theorem dX11_bound_43 : decode cX11_bound 43 = .ok (.istore 7, 2) := by decide +kernel
theorem dX11_bound_45 : decode cX11_bound 45 = .ok (.iload 7, 2) := by decide +kernel
theorem dX11_bound_47 : decode cX11_bound 47 = .ok (.aload_n 0, 1) := by decide +kernel
theorem dX11_bound_48 : decode cX11_bound 48 = .ok (.getfield 287, 3) := by decide +kernel
theorem dX11_bound_51 : decode cX11_bound 51 = .ok (.if_icmp .ge 96, 3) := by decide +kernel
theorem dX11_bound_54 : decode cX11_bound 54 = .ok (.iload_n 3, 1) := by decide +kernel
theorem dX11_bound_55 : decode cX11_bound 55 = .ok (.iload 7, 2) := by decide +kernel
theorem dX11_bound_57 : decode cX11_bound 57 = .ok (.ishr, 1) := by decide +kernel
theorem dX11_bound_58 : decode cX11_bound 58 = .ok (.iconst 1, 1) := by decide +kernel
theorem dX11_bound_59 : decode cX11_bound 59 = .ok (.iand, 1) := by decide +kernel
theorem dX11_bound_60 : decode cX11_bound 60 = .ok (.iconst 1, 1) := by decide +kernel
theorem dX11_bound_61 : decode cX11_bound 61 = .ok (.if_icmp .ne 6, 3) := by decide +kernel
theorem dX11_bound_64 : decode cX11_bound 64 = .ok (.goto 77, 3) := by decide +kernel
theorem dX11_bound_67 : decode cX11_bound 67 = .ok (.aload_n 0, 1) := by decide +kernel
theorem dX11_bound_68 : decode cX11_bound 68 = .ok (.iload_n 3, 1) := by decide +kernel
theorem dX11_bound_69 : decode cX11_bound 69 = .ok (.iconst 1, 1) := by decide +kernel
theorem dX11_bound_70 : decode cX11_bound 70 = .ok (.iload 7, 2) := by decide +kernel
theorem dX11_bound_72 : decode cX11_bound 72 = .ok (.ishl, 1) := by decide +kernel
theorem dX11_bound_73 : decode cX11_bound 73 = .ok (.ior, 1) := by decide +kernel
theorem dX11_bound_74 : decode cX11_bound 74 = .ok (.iconst 0, 1) := by decide +kernel
theorem dX11_bound_75 : decode cX11_bound 75 = .ok (.invokevirtual 330, 3) := by decide +kernel
theorem dX11_bound_78 : decode cX11_bound 78 = .ok (.lload 4, 2) := by decide +kernel
theorem dX11_bound_80 : decode cX11_bound 80 = .ok (.lsub, 1) := by decide +kernel
theorem dX11_bound_81 : decode cX11_bound 81 = .ok (.lstore 8, 2) := by decide +kernel
theorem dX11_bound_83 : decode cX11_bound 83 = .ok (.iload 6, 2) := by decide +kernel
theorem dX11_bound_85 : decode cX11_bound 85 = .ok (.istore 10, 2) := by decide +kernel
theorem dX11_bound_87 : decode cX11_bound 87 = .ok (.iload 10, 2) := by decide +kernel
theorem dX11_bound_89 : decode cX11_bound 89 = .ok (.ifCond .le 40, 3) := by decide +kernel
theorem dX11_bound_92 : decode cX11_bound 92 = .ok (.aload_n 0, 1) := by decide +kernel
theorem dX11_bound_93 : decode cX11_bound 93 = .ok (.getfield 93, 3) := by decide +kernel
theorem dX11_bound_96 : decode cX11_bound 96 = .ok (.iload 10, 2) := by decide +kernel
theorem dX11_bound_98 : decode cX11_bound 98 = .ok (.iconst 1, 1) := by decide +kernel
theorem dX11_bound_99 : decode cX11_bound 99 = .ok (.isub, 1) := by decide +kernel
theorem dX11_bound_100 : decode cX11_bound 100 = .ok (.laload, 1) := by decide +kernel
theorem dX11_bound_101 : decode cX11_bound 101 = .ok (.lload 8, 2) := by decide +kernel
theorem dX11_bound_103 : decode cX11_bound 103 = .ok (.lcmp, 1) := by decide +kernel
theorem dX11_bound_104 : decode cX11_bound 104 = .ok (.ifCond .ge 25, 3) := by decide +kernel
theorem dX11_bound_107 : decode cX11_bound 107 = .ok (.aload_n 0, 1) := by decide +kernel
theorem dX11_bound_108 : decode cX11_bound 108 = .ok (.getfield 93, 3) := by decide +kernel
theorem dX11_bound_111 : decode cX11_bound 111 = .ok (.iload 10, 2) := by decide +kernel
theorem dX11_bound_113 : decode cX11_bound 113 = .ok (.aload_n 0, 1) := by decide +kernel
theorem dX11_bound_114 : decode cX11_bound 114 = .ok (.getfield 93, 3) := by decide +kernel
theorem dX11_bound_117 : decode cX11_bound 117 = .ok (.iload 10, 2) := by decide +kernel
theorem dX11_bound_119 : decode cX11_bound 119 = .ok (.iconst 1, 1) := by decide +kernel
theorem dX11_bound_120 : decode cX11_bound 120 = .ok (.isub, 1) := by decide +kernel
theorem dX11_bound_121 : decode cX11_bound 121 = .ok (.laload, 1) := by decide +kernel
theorem dX11_bound_122 : decode cX11_bound 122 = .ok (.lastore, 1) := by decide +kernel
theorem dX11_bound_123 : decode cX11_bound 123 = .ok (.iinc 10 (-1), 3) := by decide +kernel
theorem dX11_bound_126 : decode cX11_bound 126 = .ok (.goto (-39), 3) := by decide +kernel
theorem dX11_bound_129 : decode cX11_bound 129 = .ok (.aload_n 0, 1) := by decide +kernel
theorem dX11_bound_130 : decode cX11_bound 130 = .ok (.getfield 93, 3) := by decide +kernel
theorem dX11_bound_133 : decode cX11_bound 133 = .ok (.iload 10, 2) := by decide +kernel
theorem dX11_bound_135 : decode cX11_bound 135 = .ok (.lload 8, 2) := by decide +kernel
theorem dX11_bound_137 : decode cX11_bound 137 = .ok (.lastore, 1) := by decide +kernel
theorem dX11_bound_138 : decode cX11_bound 138 = .ok (.iinc 6 1, 3) := by decide +kernel
theorem dX11_bound_141 : decode cX11_bound 141 = .ok (.iinc 7 1, 3) := by decide +kernel
theorem dX11_bound_144 : decode cX11_bound 144 = .ok (.goto (-99), 3) := by decide +kernel
theorem dX11_bound_147 : decode cX11_bound 147 = .ok (.iconst 0, 1) := by decide +kernel
theorem dX11_bound_148 : decode cX11_bound 148 = .ok (.istore 7, 2) := by decide +kernel
theorem dX11_bound_150 : decode cX11_bound 150 = .ok (.iload 7, 2) := by decide +kernel
theorem dX11_bound_152 : decode cX11_bound 152 = .ok (.iload_n 1, 1) := by decide +kernel
theorem dX11_bound_153 : decode cX11_bound 153 = .ok (.if_icmp .ge 28, 3) := by decide +kernel
theorem dX11_bound_156 : decode cX11_bound 156 = .ok (.iload 7, 2) := by decide +kernel
theorem dX11_bound_158 : decode cX11_bound 158 = .ok (.iload 6, 2) := by decide +kernel
theorem dX11_bound_160 : decode cX11_bound 160 = .ok (.if_icmp .ge 21, 3) := by decide +kernel
theorem dX11_bound_163 : decode cX11_bound 163 = .ok (.lload 4, 2) := by decide +kernel
theorem dX11_bound_165 : decode cX11_bound 165 = .ok (.aload_n 0, 1) := by decide +kernel
theorem dX11_bound_166 : decode cX11_bound 166 = .ok (.getfield 93, 3) := by decide +kernel
theorem dX11_bound_169 : decode cX11_bound 169 = .ok (.iload 7, 2) := by decide +kernel
theorem dX11_bound_171 : decode cX11_bound 171 = .ok (.laload, 1) := by decide +kernel
theorem dX11_bound_172 : decode cX11_bound 172 = .ok (.ladd, 1) := by decide +kernel
theorem dX11_bound_173 : decode cX11_bound 173 = .ok (.lstore 4, 2) := by decide +kernel
theorem dX11_bound_175 : decode cX11_bound 175 = .ok (.iinc 7 1, 3) := by decide +kernel
theorem dX11_bound_178 : decode cX11_bound 178 = .ok (.goto (-28), 3) := by decide +kernel
theorem dX11_bound_181 : decode cX11_bound 181 = .ok (.aload_n 0, 1) := by decide +kernel
theorem dX11_bound_182 : decode cX11_bound 182 = .ok (.lload 4, 2) := by decide +kernel
theorem dX11_bound_184 : decode cX11_bound 184 = .ok (.aload_n 0, 1) := by decide +kernel
theorem dX11_bound_185 : decode cX11_bound 185 = .ok (.invokevirtual 334, 3) := by decide +kernel
theorem dX11_bound_188 : decode cX11_bound 188 = .ok (.invokevirtual 338, 3) := by decide +kernel
theorem dX11_bound_191 : decode cX11_bound 191 = .ok (.iconst 1, 1) := by decide +kernel
theorem dX11_bound_192 : decode cX11_bound 192 = .ok (.ireturn, 1) := by decide +kernel
def wb_X11_bound_87 (I : HI) (x1 : Int32) (x3 : Int32) (x4 : Int64) (x6 : Int32) (x7 : Int32) (x8 : Int64) (E45 : Int32 → HJ → Prop) (K45 : Int32 × Int32 × HJ → Prop) (Post : Bool → HI → HJ → Prop) (E87 : Int32 → HJ → Prop) (K87 : (Int32 × HJ) → Prop) (s : Int32 × HJ) : Prop :=
  match s with
  | (x10, J) => (x10 ≤ 0 → (E87 x10 J)) ∧ (¬ x10 ≤ 0 → (vp_in (x10 - 1) 12 ∧ ((x8 ≤ (J 96 (Int32.toNatClampNeg (x10 - 1))) → (E87 x10 J)) ∧ (¬ x8 ≤ (J 96 (Int32.toNatClampNeg (x10 - 1))) → (vp_in (x10 - 1) 12 ∧ (vp_in x10 12 ∧ (∀ J_7 : HJ, J_7 = hJ J 96 (Int32.toNatClampNeg x10) (J 96 (Int32.toNatClampNeg (x10 - 1))) → (K87 ((x10 + (-1)), J_7)))))))))
set_option maxHeartbeats 4000000 in
set_option maxRecDepth 20000 in
theorem ws_X11_bound_87 (g : kf_G) (hg : kf_g g) {x : kf_X} (hx : kf_ok g x RX11 cX11_bound 11 4 107) (I : HI) (x1 : Int32) (x3 : Int32) (x4 : Int64) (x6 : Int32) (x7 : Int32) (x8 : Int64) (E45 : Int32 → HJ → Prop) (K45 : Int32 × Int32 × HJ → Prop) (hE45 : ∀ (y6 : Int32) (Jy : HJ), E45 y6 Jy → kf_M g x 11 147 [(0, .ref (g.2.2.2 72)), (1, .int x1), (4, .long x4), (6, .int y6)] [] I Jy) (hK45 : ∀ (y6 : Int32) (y7 : Int32) (Jy : HJ), K45 (y6, y7, Jy) → kf_M g x 11 45 [(0, .ref (g.2.2.2 72)), (1, .int x1), (3, .int x3), (4, .long x4), (6, .int y6), (7, .int y7)] [] I Jy) (Post : Bool → HI → HJ → Prop) (hret : ∀ (pc : Nat) (lv : List (Nat × Value)) (v : Bool) (Iy : HI) (Jy : HJ), decode cX11_bound pc = .ok (.ireturn, 1) → Post v Iy Jy → kf_M g x 11 pc lv [.int (kb v)] Iy Jy) (E87 : Int32 → HJ → Prop) (hE87 : ∀ (y10 : Int32) (Jy : HJ), E87 y10 Jy → kf_M g x 11 129 [(0, .ref (g.2.2.2 72)), (1, .int x1), (3, .int x3), (4, .long x4), (6, .int x6), (7, .int x7), (8, .long x8), (10, .int y10)] [] I Jy) (K87 : (Int32 × HJ) → Prop) (hK87 : ∀ (y10 : Int32) (Jy : HJ), K87 (y10, Jy) → kf_M g x 11 87 [(0, .ref (g.2.2.2 72)), (1, .int x1), (3, .int x3), (4, .long x4), (6, .int x6), (7, .int x7), (8, .long x8), (10, .int y10)] [] I Jy) (x10 : Int32) (J : HJ) (h : wb_X11_bound_87 I x1 x3 x4 x6 x7 x8 E45 K45 Post E87 K87 (x10, J)) : kf_M g x 11 87 [(0, .ref (g.2.2.2 72)), (1, .int x1), (3, .int x3), (4, .long x4), (6, .int x6), (7, .int x7), (8, .long x8), (10, .int x10)] [] I J := by
  unfold wb_X11_bound_87 at h
  refine kf_iload hx dX11_bound_87 7 rfl ?_
  refine kf_if_le hx 129 dX11_bound_89 (by decide) (fun c => ?_) (fun c => ?_)
  · replace h := h.1 c
    exact hE87 _ _ h
  · replace h := h.2 c
    refine kf_aload_n hx dX11_bound_92 rfl 0 rfl ?_
    refine kf_getR (n := 96) hx sl_72_46 fl_RX11_93 dX11_bound_93 ?_
    refine kf_iload hx dX11_bound_96 7 rfl ?_
    refine kf_iconst (v := 1) hx dX11_bound_98 (by decide) ?_
    refine kf_isub hx dX11_bound_99 ?_
    refine kf_lald hx ar_96 h.1 dX11_bound_100 ?_
    replace h := h.2
    refine kf_lload hx dX11_bound_101 6 rfl ?_
    refine kf_l_ge hx 129 dX11_bound_103 dX11_bound_104 (by decide) (fun c => ?_) (fun c => ?_)
    · replace h := h.1 c
      exact hE87 _ _ h
    · replace h := h.2 c
      refine kf_aload_n hx dX11_bound_107 rfl 0 rfl ?_
      refine kf_getR (n := 96) hx sl_72_46 fl_RX11_93 dX11_bound_108 ?_
      refine kf_iload hx dX11_bound_111 7 rfl ?_
      refine kf_aload_n hx dX11_bound_113 rfl 0 rfl ?_
      refine kf_getR (n := 96) hx sl_72_46 fl_RX11_93 dX11_bound_114 ?_
      refine kf_iload hx dX11_bound_117 7 rfl ?_
      refine kf_iconst (v := 1) hx dX11_bound_119 (by decide) ?_
      refine kf_isub hx dX11_bound_120 ?_
      refine kf_lald hx ar_96 h.1 dX11_bound_121 ?_
      replace h := h.2
      refine kf_last hx ar_96 h.1 dX11_bound_122 ?_
      replace h := h.2
      refine kf_nmJ (fun J_7 eJ_7 => ?_)
      replace h := h J_7 eJ_7
      refine kf_iinc (w := (x10 + (-1))) (lv' := [(10, .int (x10 + (-1))), (0, .ref (g.2.2.2 72)), (1, .int x1), (3, .int x3), (4, .long x4), (6, .int x6), (7, .int x7), (8, .long x8)]) hx dX11_bound_123 7 rfl rfl (by decide) rfl ?_
      refine kf_goto hx 87 dX11_bound_126 (by decide) ?_
      refine kf_sub [1, 2, 3, 4, 5, 6, 7, 0] rfl ?_
      exact hK87 _ _ h
theorem wl_X11_bound_87 (g : kf_G) (hg : kf_g g) {x : kf_X} (hx : kf_ok g x RX11 cX11_bound 11 4 107) (I : HI) (x1 : Int32) (x3 : Int32) (x4 : Int64) (x6 : Int32) (x7 : Int32) (x8 : Int64) (E45 : Int32 → HJ → Prop) (K45 : Int32 × Int32 × HJ → Prop) (hE45 : ∀ (y6 : Int32) (Jy : HJ), E45 y6 Jy → kf_M g x 11 147 [(0, .ref (g.2.2.2 72)), (1, .int x1), (4, .long x4), (6, .int y6)] [] I Jy) (hK45 : ∀ (y6 : Int32) (y7 : Int32) (Jy : HJ), K45 (y6, y7, Jy) → kf_M g x 11 45 [(0, .ref (g.2.2.2 72)), (1, .int x1), (3, .int x3), (4, .long x4), (6, .int y6), (7, .int y7)] [] I Jy) (Post : Bool → HI → HJ → Prop) (hret : ∀ (pc : Nat) (lv : List (Nat × Value)) (v : Bool) (Iy : HI) (Jy : HJ), decode cX11_bound pc = .ok (.ireturn, 1) → Post v Iy Jy → kf_M g x 11 pc lv [.int (kb v)] Iy Jy) (E87 : Int32 → HJ → Prop) (hE87 : ∀ (y10 : Int32) (Jy : HJ), E87 y10 Jy → kf_M g x 11 129 [(0, .ref (g.2.2.2 72)), (1, .int x1), (3, .int x3), (4, .long x4), (6, .int x6), (7, .int x7), (8, .long x8), (10, .int y10)] [] I Jy) : ∀ (n : Nat) (x10 : Int32) (J : HJ), lp (wb_X11_bound_87 I x1 x3 x4 x6 x7 x8 E45 K45 Post E87) n (x10, J) → kf_M g x 11 87 [(0, .ref (g.2.2.2 72)), (1, .int x1), (3, .int x3), (4, .long x4), (6, .int x6), (7, .int x7), (8, .long x8), (10, .int x10)] [] I J := by
  intro n
  induction n with
  | zero => intro x10 J h; exact h.elim
  | succ n ih => intro x10 J h; exact ws_X11_bound_87 g hg hx I x1 x3 x4 x6 x7 x8 E45 K45 hE45 hK45 Post hret E87 hE87 (lp (wb_X11_bound_87 I x1 x3 x4 x6 x7 x8 E45 K45 Post E87) n) ih x10 J h
def wb_X11_bound_45 (I : HI) (x1 : Int32) (x3 : Int32) (x4 : Int64) (Post : Bool → HI → HJ → Prop) (E45 : Int32 → HJ → Prop) (K45 : (Int32 × Int32 × HJ) → Prop) (s : Int32 × Int32 × HJ) : Prop :=
  match s with
  | (x6, x7, J) => ((I 72 20) ≤ x7 → (E45 x6 J)) ∧ (¬ (I 72 20) ≤ x7 → ((¬ ((x3 >>> (x7 &&& 31)) &&& 1) = 1 → (w_X11_spreadOf (x3 ||| (1 <<< (x7 &&& 31))) 0 I J (fun (r_6 : Int64) => (∃ n, lp (wb_X11_bound_87 I x1 x3 x4 x6 x7 (r_6 - x4) E45 K45 Post (fun (x10_8 : Int32) (J_9 : HJ) => vp_in x10_8 12 ∧ (∀ J_10 : HJ, J_10 = hJ J_9 96 (Int32.toNatClampNeg x10_8) (r_6 - x4) → (K45 ((x6 + 1), (x7 + 1), J_10))))) n (x6, J))))) ∧ (((x3 >>> (x7 &&& 31)) &&& 1) = 1 → (K45 (x6, (x7 + 1), J)))))
set_option maxHeartbeats 4000000 in
set_option maxRecDepth 20000 in
theorem ws_X11_bound_45 (g : kf_G) (hg : kf_g g) {x : kf_X} (hx : kf_ok g x RX11 cX11_bound 11 4 107) (I : HI) (x1 : Int32) (x3 : Int32) (x4 : Int64) (Post : Bool → HI → HJ → Prop) (hret : ∀ (pc : Nat) (lv : List (Nat × Value)) (v : Bool) (Iy : HI) (Jy : HJ), decode cX11_bound pc = .ok (.ireturn, 1) → Post v Iy Jy → kf_M g x 11 pc lv [.int (kb v)] Iy Jy) (E45 : Int32 → HJ → Prop) (hE45 : ∀ (y6 : Int32) (Jy : HJ), E45 y6 Jy → kf_M g x 11 147 [(0, .ref (g.2.2.2 72)), (1, .int x1), (4, .long x4), (6, .int y6)] [] I Jy) (K45 : (Int32 × Int32 × HJ) → Prop) (hK45 : ∀ (y6 : Int32) (y7 : Int32) (Jy : HJ), K45 (y6, y7, Jy) → kf_M g x 11 45 [(0, .ref (g.2.2.2 72)), (1, .int x1), (3, .int x3), (4, .long x4), (6, .int y6), (7, .int y7)] [] I Jy) (x6 : Int32) (x7 : Int32) (J : HJ) (h : wb_X11_bound_45 I x1 x3 x4 Post E45 K45 (x6, x7, J)) : kf_M g x 11 45 [(0, .ref (g.2.2.2 72)), (1, .int x1), (3, .int x3), (4, .long x4), (6, .int x6), (7, .int x7)] [] I J := by
  unfold wb_X11_bound_45 at h
  refine kf_iload hx dX11_bound_45 5 rfl ?_
  refine kf_aload_n hx dX11_bound_47 rfl 0 rfl ?_
  refine kf_getI hx sl_72_20 fl_RX11_287 dX11_bound_48 ?_
  refine kf_icmp_ge hx 147 dX11_bound_51 (by decide) (fun c => ?_) (fun c => ?_)
  · replace h := h.1 c
    refine kf_sub [0, 1, 3, 4] rfl ?_
    exact hE45 _ _ h
  · replace h := h.2 c
    refine kf_iload_n hx dX11_bound_54 rfl 2 rfl ?_
    refine kf_iload hx dX11_bound_55 5 rfl ?_
    refine kf_ishr hx dX11_bound_57 ?_
    refine kf_iconst (v := 1) hx dX11_bound_58 (by decide) ?_
    refine kf_iand hx dX11_bound_59 ?_
    refine kf_iconst (v := 1) hx dX11_bound_60 (by decide) ?_
    refine kf_icmp_ne hx 67 dX11_bound_61 (by decide) (fun c => ?_) (fun c => ?_)
    · replace h := h.1 c
      refine kf_aload_n hx dX11_bound_67 rfl 0 rfl ?_
      refine kf_iload_n hx dX11_bound_68 rfl 2 rfl ?_
      refine kf_iconst (v := 1) hx dX11_bound_69 (by decide) ?_
      refine kf_iload hx dX11_bound_70 5 rfl ?_
      refine kf_ishl hx dX11_bound_72 ?_
      refine kf_ior hx dX11_bound_73 ?_
      refine kf_iconst (v := 0) hx dX11_bound_74 (by decide) ?_
      refine kf_callVlP (st := []) hx (m_X11_spreadOf g hg (x3 ||| (1 <<< (x7 &&& 31))) 0 I J _ h) lk_RX11_330 km_X11_spreadOf ob_72 rfl (by decide) rfl (Nat.le_of_ble_eq_true rfl) dX11_bound_75 (fun r_6 h => ?_)
      refine kf_lload hx dX11_bound_78 3 rfl ?_
      refine kf_lsub hx dX11_bound_80 ?_
      refine kf_lstore (lv' := [(8, .long (r_6 - x4)), (0, .ref (g.2.2.2 72)), (1, .int x1), (3, .int x3), (4, .long x4), (6, .int x6), (7, .int x7)]) hx dX11_bound_81 (by decide) rfl ?_
      refine kf_iload hx dX11_bound_83 5 rfl ?_
      refine kf_istore (lv' := [(10, .int x6), (8, .long (r_6 - x4)), (0, .ref (g.2.2.2 72)), (1, .int x1), (3, .int x3), (4, .long x4), (6, .int x6), (7, .int x7)]) hx dX11_bound_85 (by decide) rfl ?_
      obtain ⟨n, h⟩ := h
      refine kf_sub [2, 3, 4, 5, 6, 7, 1, 0] rfl ?_
      refine wl_X11_bound_87 g hg hx I x1 x3 x4 x6 x7 (r_6 - x4) _ _ hE45 hK45 _ hret _ (fun x10_8 J_9 h => ?_) n _ _ h
      refine kf_aload_n hx dX11_bound_129 rfl 0 rfl ?_
      refine kf_getR (n := 96) hx sl_72_46 fl_RX11_93 dX11_bound_130 ?_
      refine kf_iload hx dX11_bound_133 7 rfl ?_
      refine kf_lload hx dX11_bound_135 6 rfl ?_
      refine kf_last hx ar_96 h.1 dX11_bound_137 ?_
      replace h := h.2
      refine kf_nmJ (fun J_10 eJ_10 => ?_)
      replace h := h J_10 eJ_10
      refine kf_iinc (w := (x6 + 1)) (lv' := [(6, .int (x6 + 1)), (0, .ref (g.2.2.2 72)), (1, .int x1), (3, .int x3), (4, .long x4), (7, .int x7), (8, .long (r_6 - x4)), (10, .int x10_8)]) hx dX11_bound_138 4 rfl rfl (by decide) rfl ?_
      refine kf_iinc (w := (x7 + 1)) (lv' := [(7, .int (x7 + 1)), (6, .int (x6 + 1)), (0, .ref (g.2.2.2 72)), (1, .int x1), (3, .int x3), (4, .long x4), (8, .long (r_6 - x4)), (10, .int x10_8)]) hx dX11_bound_141 5 rfl rfl (by decide) rfl ?_
      refine kf_goto hx 45 dX11_bound_144 (by decide) ?_
      refine kf_sub [2, 3, 4, 5, 1, 0] rfl ?_
      exact hK45 _ _ _ h
    · replace h := h.2 c
      refine kf_goto hx 141 dX11_bound_64 (by decide) ?_
      refine kf_iinc (w := (x7 + 1)) (lv' := [(7, .int (x7 + 1)), (0, .ref (g.2.2.2 72)), (1, .int x1), (3, .int x3), (4, .long x4), (6, .int x6)]) hx dX11_bound_141 5 rfl rfl (by decide) rfl ?_
      refine kf_goto hx 45 dX11_bound_144 (by decide) ?_
      refine kf_sub [1, 2, 3, 4, 5, 0] rfl ?_
      exact hK45 _ _ _ h
theorem wl_X11_bound_45 (g : kf_G) (hg : kf_g g) {x : kf_X} (hx : kf_ok g x RX11 cX11_bound 11 4 107) (I : HI) (x1 : Int32) (x3 : Int32) (x4 : Int64) (Post : Bool → HI → HJ → Prop) (hret : ∀ (pc : Nat) (lv : List (Nat × Value)) (v : Bool) (Iy : HI) (Jy : HJ), decode cX11_bound pc = .ok (.ireturn, 1) → Post v Iy Jy → kf_M g x 11 pc lv [.int (kb v)] Iy Jy) (E45 : Int32 → HJ → Prop) (hE45 : ∀ (y6 : Int32) (Jy : HJ), E45 y6 Jy → kf_M g x 11 147 [(0, .ref (g.2.2.2 72)), (1, .int x1), (4, .long x4), (6, .int y6)] [] I Jy) : ∀ (n : Nat) (x6 : Int32) (x7 : Int32) (J : HJ), lp (wb_X11_bound_45 I x1 x3 x4 Post E45) n (x6, x7, J) → kf_M g x 11 45 [(0, .ref (g.2.2.2 72)), (1, .int x1), (3, .int x3), (4, .long x4), (6, .int x6), (7, .int x7)] [] I J := by
  intro n
  induction n with
  | zero => intro x6 x7 J h; exact h.elim
  | succ n ih => intro x6 x7 J h; exact ws_X11_bound_45 g hg hx I x1 x3 x4 Post hret E45 hE45 (lp (wb_X11_bound_45 I x1 x3 x4 Post E45) n) ih x6 x7 J h
def wb_X11_bound_150 (I : HI) (J : HJ) (x1 : Int32) (x6 : Int32) (Post : Bool → HI → HJ → Prop) (E150 : Int64 → Prop) (K150 : (Int64 × Int32) → Prop) (s : Int64 × Int32) : Prop :=
  match s with
  | (x4, x7) => (x1 ≤ x7 → (E150 x4)) ∧ (¬ x1 ≤ x7 → ((x6 ≤ x7 → (E150 x4)) ∧ (¬ x6 ≤ x7 → (vp_in x7 12 ∧ (K150 ((x4 + (J 96 (Int32.toNatClampNeg x7))), (x7 + 1)))))))
set_option maxHeartbeats 4000000 in
set_option maxRecDepth 20000 in
theorem ws_X11_bound_150 (g : kf_G) (hg : kf_g g) {x : kf_X} (hx : kf_ok g x RX11 cX11_bound 11 4 107) (I : HI) (J : HJ) (x1 : Int32) (x6 : Int32) (Post : Bool → HI → HJ → Prop) (hret : ∀ (pc : Nat) (lv : List (Nat × Value)) (v : Bool) (Iy : HI) (Jy : HJ), decode cX11_bound pc = .ok (.ireturn, 1) → Post v Iy Jy → kf_M g x 11 pc lv [.int (kb v)] Iy Jy) (E150 : Int64 → Prop) (hE150 : ∀ (y4 : Int64), E150 y4 → kf_M g x 11 181 [(0, .ref (g.2.2.2 72)), (4, .long y4)] [] I J) (K150 : (Int64 × Int32) → Prop) (hK150 : ∀ (y4 : Int64) (y7 : Int32), K150 (y4, y7) → kf_M g x 11 150 [(0, .ref (g.2.2.2 72)), (1, .int x1), (4, .long y4), (6, .int x6), (7, .int y7)] [] I J) (x4 : Int64) (x7 : Int32) (h : wb_X11_bound_150 I J x1 x6 Post E150 K150 (x4, x7)) : kf_M g x 11 150 [(0, .ref (g.2.2.2 72)), (1, .int x1), (4, .long x4), (6, .int x6), (7, .int x7)] [] I J := by
  unfold wb_X11_bound_150 at h
  refine kf_iload hx dX11_bound_150 4 rfl ?_
  refine kf_iload_n hx dX11_bound_152 rfl 1 rfl ?_
  refine kf_icmp_ge hx 181 dX11_bound_153 (by decide) (fun c => ?_) (fun c => ?_)
  · replace h := h.1 c
    refine kf_sub [0, 2] rfl ?_
    exact hE150 _ h
  · replace h := h.2 c
    refine kf_iload hx dX11_bound_156 4 rfl ?_
    refine kf_iload hx dX11_bound_158 3 rfl ?_
    refine kf_icmp_ge hx 181 dX11_bound_160 (by decide) (fun c => ?_) (fun c => ?_)
    · replace h := h.1 c
      refine kf_sub [0, 2] rfl ?_
      exact hE150 _ h
    · replace h := h.2 c
      refine kf_lload hx dX11_bound_163 2 rfl ?_
      refine kf_aload_n hx dX11_bound_165 rfl 0 rfl ?_
      refine kf_getR (n := 96) hx sl_72_46 fl_RX11_93 dX11_bound_166 ?_
      refine kf_iload hx dX11_bound_169 4 rfl ?_
      refine kf_lald hx ar_96 h.1 dX11_bound_171 ?_
      replace h := h.2
      refine kf_ladd hx dX11_bound_172 ?_
      refine kf_lstore (lv' := [(4, .long (x4 + (J 96 (Int32.toNatClampNeg x7)))), (0, .ref (g.2.2.2 72)), (1, .int x1), (6, .int x6), (7, .int x7)]) hx dX11_bound_173 (by decide) rfl ?_
      refine kf_iinc (w := (x7 + 1)) (lv' := [(7, .int (x7 + 1)), (4, .long (x4 + (J 96 (Int32.toNatClampNeg x7)))), (0, .ref (g.2.2.2 72)), (1, .int x1), (6, .int x6)]) hx dX11_bound_175 4 rfl rfl (by decide) rfl ?_
      refine kf_goto hx 150 dX11_bound_178 (by decide) ?_
      refine kf_sub [2, 3, 1, 4, 0] rfl ?_
      exact hK150 _ _ h
theorem wl_X11_bound_150 (g : kf_G) (hg : kf_g g) {x : kf_X} (hx : kf_ok g x RX11 cX11_bound 11 4 107) (I : HI) (J : HJ) (x1 : Int32) (x6 : Int32) (Post : Bool → HI → HJ → Prop) (hret : ∀ (pc : Nat) (lv : List (Nat × Value)) (v : Bool) (Iy : HI) (Jy : HJ), decode cX11_bound pc = .ok (.ireturn, 1) → Post v Iy Jy → kf_M g x 11 pc lv [.int (kb v)] Iy Jy) (E150 : Int64 → Prop) (hE150 : ∀ (y4 : Int64), E150 y4 → kf_M g x 11 181 [(0, .ref (g.2.2.2 72)), (4, .long y4)] [] I J) : ∀ (n : Nat) (x4 : Int64) (x7 : Int32), lp (wb_X11_bound_150 I J x1 x6 Post E150) n (x4, x7) → kf_M g x 11 150 [(0, .ref (g.2.2.2 72)), (1, .int x1), (4, .long x4), (6, .int x6), (7, .int x7)] [] I J := by
  intro n
  induction n with
  | zero => intro x4 x7 h; exact h.elim
  | succ n ih => intro x4 x7 h; exact ws_X11_bound_150 g hg hx I J x1 x6 Post hret E150 hE150 (lp (wb_X11_bound_150 I J x1 x6 Post E150) n) ih x4 x7 h
def w_X11_bound (x1 : Int32) (x2 : Int32) (I : HI) (J : HJ) (Post : Bool → HI → HJ → Prop) : Prop :=
  ∀ I_1 : HI, I_1 = hI I 72 1 0 → (∀ I_2 : HI, I_2 = hI I_1 72 0 0 → (w_X11_isAsked x1 x2 (fun (r_3 : Bool) => ((r_3 = true → (w_X11_greedyOf x1 x2 I_2 J (fun (r_4 : Int32) => (w_X11_spreadOf r_4 0 I_2 J (fun (r_5 : Int64) => (∃ n, lp (wb_X11_bound_45 I_2 x1 r_4 r_5 Post (fun (x6_11 : Int32) (J_12 : HJ) => ∃ n, lp (wb_X11_bound_150 I_2 J_12 x1 x6_11 Post (fun (x4_13 : Int64) => w_X11_whole  I_2 J_12 (fun (r_14 : Int64) => (w_X11_fraction x4_13 r_14 I_2 J_12 (fun (J_15 : HJ) => (Post true I_2 J_15)))))) n (r_5, 0))) n (0, 0, J))))))) ∧ (r_3 = false → (w_X11_no 5 I_2 J (fun (r_16 : Bool) (I_17 : HI) => (Post r_16 I_17 J))))))))
set_option maxHeartbeats 4000000 in
set_option maxRecDepth 20000 in
theorem we_X11_bound (g : kf_G) (hg : kf_g g) {x : kf_X} (hx : kf_ok g x RX11 cX11_bound 11 4 107) (x1 : Int32) (x2 : Int32) (I : HI) (J : HJ) (Post : Bool → HI → HJ → Prop) (hret : ∀ (pc : Nat) (lv : List (Nat × Value)) (v : Bool) (Iy : HI) (Jy : HJ), decode cX11_bound pc = .ok (.ireturn, 1) → Post v Iy Jy → kf_M g x 11 pc lv [.int (kb v)] Iy Jy) (h : w_X11_bound x1 x2 I J Post) : kf_M g x 11 0 [(0, .ref (g.2.2.2 72)), (1, .int x1), (2, .int x2)] [] I J := by
  unfold w_X11_bound at h
  refine kf_aload_n hx dX11_bound_0 rfl 0 rfl ?_
  refine kf_iconst (v := 0) hx dX11_bound_1 (by decide) ?_
  refine kf_putI hx sl_72_1 fl_RX11_106 fp_11_1 dX11_bound_2 ?_
  refine kf_nmI (fun I_1 eI_1 => ?_)
  replace h := h I_1 eI_1
  refine kf_aload_n hx dX11_bound_5 rfl 0 rfl ?_
  refine kf_iconst (v := 0) hx dX11_bound_6 (by decide) ?_
  refine kf_putI hx sl_72_0 fl_RX11_109 fp_11_0 dX11_bound_7 ?_
  refine kf_nmI (fun I_2 eI_2 => ?_)
  replace h := h I_2 eI_2
  refine kf_iload_n hx dX11_bound_10 rfl 1 rfl ?_
  refine kf_iload_n hx dX11_bound_11 rfl 2 rfl ?_
  refine kf_callSbP (st := []) hx (m_X11_isAsked g hg x1 x2 I_2 J _ h) lk_RX11_354 km_X11_isAsked rfl (by decide) rfl (Nat.le_of_ble_eq_true rfl) dX11_bound_12 (fun r_3 h => ?_)
  refine kf_ifB_ne hx 24 dX11_bound_15 (by decide) (fun c => ?_) (fun c => ?_)
  · replace h := h.1 c
    refine kf_aload_n hx dX11_bound_24 rfl 0 rfl ?_
    refine kf_iload_n hx dX11_bound_25 rfl 1 rfl ?_
    refine kf_iload_n hx dX11_bound_26 rfl 2 rfl ?_
    refine kf_callViP (st := []) hx (m_X11_greedyOf g hg x1 x2 I_2 J _ h) lk_RX11_357 km_X11_greedyOf ob_72 rfl (by decide) rfl (Nat.le_of_ble_eq_true rfl) dX11_bound_27 (fun r_4 h => ?_)
    refine kf_istore_n (lv' := [(3, .int r_4), (0, .ref (g.2.2.2 72)), (1, .int x1), (2, .int x2)]) hx dX11_bound_30 rfl (by decide) rfl ?_
    refine kf_aload_n hx dX11_bound_31 rfl 1 rfl ?_
    refine kf_iload_n hx dX11_bound_32 rfl 0 rfl ?_
    refine kf_iconst (v := 0) hx dX11_bound_33 (by decide) ?_
    refine kf_callVlP (st := []) hx (m_X11_spreadOf g hg r_4 0 I_2 J _ h) lk_RX11_330 km_X11_spreadOf ob_72 rfl (by decide) rfl (Nat.le_of_ble_eq_true rfl) dX11_bound_34 (fun r_5 h => ?_)
    refine kf_lstore (lv' := [(4, .long r_5), (3, .int r_4), (0, .ref (g.2.2.2 72)), (1, .int x1), (2, .int x2)]) hx dX11_bound_37 (by decide) rfl ?_
    refine kf_iconst (v := 0) hx dX11_bound_39 (by decide) ?_
    refine kf_istore (lv' := [(6, .int 0), (4, .long r_5), (3, .int r_4), (0, .ref (g.2.2.2 72)), (1, .int x1), (2, .int x2)]) hx dX11_bound_40 (by decide) rfl ?_
    refine kf_iconst (v := 0) hx dX11_bound_42 (by decide) ?_
    refine kf_istore (lv' := [(7, .int 0), (6, .int 0), (4, .long r_5), (3, .int r_4), (0, .ref (g.2.2.2 72)), (1, .int x1), (2, .int x2)]) hx dX11_bound_43 (by decide) rfl ?_
    obtain ⟨n, h⟩ := h
    refine kf_sub [4, 5, 3, 2, 1, 0] rfl ?_
    refine wl_X11_bound_45 g hg hx I_2 x1 r_4 r_5 _ hret _ (fun x6_11 J_12 h => ?_) n _ _ _ h
    refine kf_iconst (v := 0) hx dX11_bound_147 (by decide) ?_
    refine kf_istore (lv' := [(7, .int 0), (0, .ref (g.2.2.2 72)), (1, .int x1), (4, .long r_5), (6, .int x6_11)]) hx dX11_bound_148 (by decide) rfl ?_
    obtain ⟨n, h⟩ := h
    refine kf_sub [1, 2, 3, 4, 0] rfl ?_
    refine wl_X11_bound_150 g hg hx I_2 J_12 x1 x6_11 _ hret _ (fun x4_13 h => ?_) n _ _ h
    refine kf_aload_n hx dX11_bound_181 rfl 0 rfl ?_
    refine kf_lload hx dX11_bound_182 1 rfl ?_
    refine kf_aload_n hx dX11_bound_184 rfl 0 rfl ?_
    refine kf_callVlP (st := [.long x4_13, .ref (g.2.2.2 72)]) hx (m_X11_whole g hg  I_2 J_12 _ h) lk_RX11_334 km_X11_whole ob_72 rfl (by decide) rfl (Nat.le_of_ble_eq_true rfl) dX11_bound_185 (fun r_14 h => ?_)
    refine kf_callVvJ (st := []) hx (m_X11_fraction g hg x4_13 r_14 I_2 J_12 _ h) lk_RX11_338 km_X11_fraction ob_72 rfl (by decide) rfl (Nat.le_of_ble_eq_true rfl) dX11_bound_188 (fun J_15 h => ?_)
    refine kf_iconst (v := 1) hx dX11_bound_191 (by decide) ?_
    exact hret _ _ true _ _ dX11_bound_192 h
  · replace h := h.2 c
    refine kf_aload_n hx dX11_bound_18 rfl 0 rfl ?_
    refine kf_iconst (v := 5) hx dX11_bound_19 (by decide) ?_
    refine kf_callVbI (st := []) hx (m_X11_no g hg 5 I_2 J _ h) lk_RX11_121 km_X11_no ob_72 rfl (by decide) rfl (Nat.le_of_ble_eq_true rfl) dX11_bound_20 (fun r_16 I_17 h => ?_)
    exact hret _ _ r_16 _ _ dX11_bound_23 h
set_option maxHeartbeats 4000000 in
set_option maxRecDepth 20000 in
theorem m_X11_bound (g : kf_G) (hg : kf_g g) (x1 : Int32) (x2 : Int32) (I : HI) (J : HJ) (Post : Bool → HI → HJ → Prop) (h : w_X11_bound x1 x2 I J Post) : kf_Mb g yX11_bound (kf_W yX11_bound cX11_bound 11 (Option.some Jvm.ClassFile.FieldType.boolean)) 4 107 [.ref (g.2.2.2 72), .int x1, .int x2] I J Post :=
  kf_entb hg (by decide) (Nat.le_of_ble_eq_true rfl) rfl (fun x hx hr => we_X11_bound g hg hx x1 x2 I J Post (fun pc lv v I' J' hd hP => hr pc lv v I' J' hd hP) h)
theorem dX11_seenOf_0 : decode cX11_seenOf 0 = .ok (.iconst 0, 1) := by decide +kernel
theorem dX11_seenOf_1 : decode cX11_seenOf 1 = .ok (.istore_n 2, 1) := by decide +kernel
theorem dX11_seenOf_2 : decode cX11_seenOf 2 = .ok (.iload_n 2, 1) := by decide +kernel
theorem dX11_seenOf_3 : decode cX11_seenOf 3 = .ok (.ldc 96, 2) := by decide +kernel
theorem dX11_seenOf_5 : decode cX11_seenOf 5 = .ok (.if_icmp .ge 16, 3) := by decide +kernel
theorem dX11_seenOf_8 : decode cX11_seenOf 8 = .ok (.aload_n 0, 1) := by decide +kernel
theorem dX11_seenOf_9 : decode cX11_seenOf 9 = .ok (.getfield 97, 3) := by decide +kernel
theorem dX11_seenOf_12 : decode cX11_seenOf 12 = .ok (.iload_n 2, 1) := by decide +kernel
theorem dX11_seenOf_13 : decode cX11_seenOf 13 = .ok (.lconst 0, 1) := by decide +kernel
theorem dX11_seenOf_14 : decode cX11_seenOf 14 = .ok (.lastore, 1) := by decide +kernel
theorem dX11_seenOf_15 : decode cX11_seenOf 15 = .ok (.iinc 2 1, 3) := by decide +kernel
theorem dX11_seenOf_18 : decode cX11_seenOf 18 = .ok (.goto (-16), 3) := by decide +kernel
theorem dX11_seenOf_21 : decode cX11_seenOf 21 = .ok (.iconst 0, 1) := by decide +kernel
theorem dX11_seenOf_22 : decode cX11_seenOf 22 = .ok (.istore_n 2, 1) := by decide +kernel
theorem dX11_seenOf_23 : decode cX11_seenOf 23 = .ok (.iload_n 2, 1) := by decide +kernel
theorem dX11_seenOf_24 : decode cX11_seenOf 24 = .ok (.iconst 1, 1) := by decide +kernel
theorem dX11_seenOf_25 : decode cX11_seenOf 25 = .ok (.aload_n 0, 1) := by decide +kernel
theorem dX11_seenOf_26 : decode cX11_seenOf 26 = .ok (.getfield 290, 3) := by decide +kernel
theorem dX11_seenOf_29 : decode cX11_seenOf 29 = .ok (.ishl, 1) := by decide +kernel
theorem dX11_seenOf_30 : decode cX11_seenOf 30 = .ok (.if_icmp .ge 87, 3) := by decide +kernel
theorem dX11_seenOf_33 : decode cX11_seenOf 33 = .ok (.aload_n 0, 1) := by decide +kernel
theorem dX11_seenOf_34 : decode cX11_seenOf 34 = .ok (.iload_n 2, 1) := by decide +kernel
theorem dX11_seenOf_35 : decode cX11_seenOf 35 = .ok (.invokevirtual 304, 3) := by decide +kernel
theorem dX11_seenOf_38 : decode cX11_seenOf 38 = .ok (.lstore_n 3, 1) := by decide +kernel
theorem dX11_seenOf_39 : decode cX11_seenOf 39 = .ok (.lload_n 3, 1) := by decide +kernel
theorem dX11_seenOf_40 : decode cX11_seenOf 40 = .ok (.lconst 0, 1) := by decide +kernel
theorem dX11_seenOf_41 : decode cX11_seenOf 41 = .ok (.lcmp, 1) := by decide +kernel
theorem dX11_seenOf_42 : decode cX11_seenOf 42 = .ok (.ifCond .ne 6, 3) := by decide +kernel
theorem dX11_seenOf_45 : decode cX11_seenOf 45 = .ok (.goto 66, 3) := by decide +kernel
theorem dX11_seenOf_48 : decode cX11_seenOf 48 = .ok (.aload_n 0, 1) := by decide +kernel
theorem dX11_seenOf_49 : decode cX11_seenOf 49 = .ok (.iconst 1, 1) := by decide +kernel
theorem dX11_seenOf_50 : decode cX11_seenOf 50 = .ok (.iload_n 1, 1) := by decide +kernel
theorem dX11_seenOf_51 : decode cX11_seenOf 51 = .ok (.ishl, 1) := by decide +kernel
theorem dX11_seenOf_52 : decode cX11_seenOf 52 = .ok (.iload_n 2, 1) := by decide +kernel
theorem dX11_seenOf_53 : decode cX11_seenOf 53 = .ok (.invokevirtual 317, 3) := by decide +kernel
theorem dX11_seenOf_56 : decode cX11_seenOf 56 = .ok (.istore 5, 2) := by decide +kernel
theorem dX11_seenOf_58 : decode cX11_seenOf 58 = .ok (.iconst 0, 1) := by decide +kernel
theorem dX11_seenOf_59 : decode cX11_seenOf 59 = .ok (.istore 6, 2) := by decide +kernel
theorem dX11_seenOf_61 : decode cX11_seenOf 61 = .ok (.iload 6, 2) := by decide +kernel
theorem dX11_seenOf_63 : decode cX11_seenOf 63 = .ok (.aload_n 0, 1) := by decide +kernel
theorem dX11_seenOf_64 : decode cX11_seenOf 64 = .ok (.getfield 287, 3) := by decide +kernel
theorem dX11_seenOf_67 : decode cX11_seenOf 67 = .ok (.if_icmp .ge 44, 3) := by decide +kernel
theorem dX11_seenOf_70 : decode cX11_seenOf 70 = .ok (.aload_n 0, 1) := by decide +kernel
theorem dX11_seenOf_71 : decode cX11_seenOf 71 = .ok (.getfield 97, 3) := by decide +kernel
theorem dX11_seenOf_74 : decode cX11_seenOf 74 = .ok (.bipush 12, 2) := by decide +kernel
theorem dX11_seenOf_76 : decode cX11_seenOf 76 = .ok (.iload 5, 2) := by decide +kernel
theorem dX11_seenOf_78 : decode cX11_seenOf 78 = .ok (.imul, 1) := by decide +kernel
theorem dX11_seenOf_79 : decode cX11_seenOf 79 = .ok (.iload 6, 2) := by decide +kernel
theorem dX11_seenOf_81 : decode cX11_seenOf 81 = .ok (.iadd, 1) := by decide +kernel
theorem dX11_seenOf_82 : decode cX11_seenOf 82 = .ok (.dup2, 1) := by decide +kernel
theorem dX11_seenOf_83 : decode cX11_seenOf 83 = .ok (.laload, 1) := by decide +kernel
theorem dX11_seenOf_84 : decode cX11_seenOf 84 = .ok (.lload_n 3, 1) := by decide +kernel
theorem dX11_seenOf_85 : decode cX11_seenOf 85 = .ok (.aload_n 0, 1) := by decide +kernel
theorem dX11_seenOf_86 : decode cX11_seenOf 86 = .ok (.iconst 1, 1) := by decide +kernel
theorem dX11_seenOf_87 : decode cX11_seenOf 87 = .ok (.iload_n 1, 1) := by decide +kernel
theorem dX11_seenOf_88 : decode cX11_seenOf 88 = .ok (.ishl, 1) := by decide +kernel
theorem dX11_seenOf_89 : decode cX11_seenOf 89 = .ok (.iconst 1, 1) := by decide +kernel
theorem dX11_seenOf_90 : decode cX11_seenOf 90 = .ok (.iload 6, 2) := by decide +kernel
theorem dX11_seenOf_92 : decode cX11_seenOf 92 = .ok (.ishl, 1) := by decide +kernel
theorem dX11_seenOf_93 : decode cX11_seenOf 93 = .ok (.ior, 1) := by decide +kernel
theorem dX11_seenOf_94 : decode cX11_seenOf 94 = .ok (.iload_n 2, 1) := by decide +kernel
theorem dX11_seenOf_95 : decode cX11_seenOf 95 = .ok (.invokevirtual 317, 3) := by decide +kernel
theorem dX11_seenOf_98 : decode cX11_seenOf 98 = .ok (.invokestatic 325, 3) := by decide +kernel
theorem dX11_seenOf_101 : decode cX11_seenOf 101 = .ok (.i2l, 1) := by decide +kernel
theorem dX11_seenOf_102 : decode cX11_seenOf 102 = .ok (.lmul, 1) := by decide +kernel
theorem dX11_seenOf_103 : decode cX11_seenOf 103 = .ok (.ladd, 1) := by decide +kernel
theorem dX11_seenOf_104 : decode cX11_seenOf 104 = .ok (.lastore, 1) := by decide +kernel
theorem dX11_seenOf_105 : decode cX11_seenOf 105 = .ok (.iinc 6 1, 3) := by decide +kernel
theorem dX11_seenOf_108 : decode cX11_seenOf 108 = .ok (.goto (-47), 3) := by decide +kernel
theorem dX11_seenOf_111 : decode cX11_seenOf 111 = .ok (.iinc 2 1, 3) := by decide +kernel
theorem dX11_seenOf_114 : decode cX11_seenOf 114 = .ok (.goto (-91), 3) := by decide +kernel
theorem dX11_seenOf_117 : decode cX11_seenOf 117 = .ok (.lconst 0, 1) := by decide +kernel
theorem dX11_seenOf_118 : decode cX11_seenOf 118 = .ok (.lstore_n 2, 1) := by decide +kernel
theorem dX11_seenOf_119 : decode cX11_seenOf 119 = .ok (.iconst 0, 1) := by decide +kernel
theorem dX11_seenOf_120 : decode cX11_seenOf 120 = .ok (.istore 4, 2) := by decide +kernel
theorem dX11_seenOf_122 : decode cX11_seenOf 122 = .ok (.iload 4, 2) := by decide +kernel
theorem dX11_seenOf_124 : decode cX11_seenOf 124 = .ok (.sipush 4096, 3) := by decide +kernel
theorem dX11_seenOf_127 : decode cX11_seenOf 127 = .ok (.if_icmp .ge 55, 3) := by decide +kernel
theorem dX11_seenOf_130 : decode cX11_seenOf 130 = .ok (.lconst 0, 1) := by decide +kernel
theorem dX11_seenOf_131 : decode cX11_seenOf 131 = .ok (.lstore 5, 2) := by decide +kernel
theorem dX11_seenOf_133 : decode cX11_seenOf 133 = .ok (.iconst 0, 1) := by decide +kernel
theorem dX11_seenOf_134 : decode cX11_seenOf 134 = .ok (.istore 7, 2) := by decide +kernel
theorem dX11_seenOf_136 : decode cX11_seenOf 136 = .ok (.iload 7, 2) := by decide +kernel
theorem dX11_seenOf_138 : decode cX11_seenOf 138 = .ok (.aload_n 0, 1) := by decide +kernel
theorem dX11_seenOf_139 : decode cX11_seenOf 139 = .ok (.getfield 287, 3) := by decide +kernel
theorem dX11_seenOf_142 : decode cX11_seenOf 142 = .ok (.if_icmp .ge 29, 3) := by decide +kernel
theorem dX11_seenOf_145 : decode cX11_seenOf 145 = .ok (.lload 5, 2) := by decide +kernel
theorem dX11_seenOf_147 : decode cX11_seenOf 147 = .ok (.aload_n 0, 1) := by decide +kernel
theorem dX11_seenOf_148 : decode cX11_seenOf 148 = .ok (.getfield 97, 3) := by decide +kernel
theorem dX11_seenOf_151 : decode cX11_seenOf 151 = .ok (.bipush 12, 2) := by decide +kernel
theorem dX11_seenOf_153 : decode cX11_seenOf 153 = .ok (.iload 4, 2) := by decide +kernel
theorem dX11_seenOf_155 : decode cX11_seenOf 155 = .ok (.imul, 1) := by decide +kernel
theorem dX11_seenOf_156 : decode cX11_seenOf 156 = .ok (.iload 7, 2) := by decide +kernel
theorem dX11_seenOf_158 : decode cX11_seenOf 158 = .ok (.iadd, 1) := by decide +kernel
theorem dX11_seenOf_159 : decode cX11_seenOf 159 = .ok (.laload, 1) := by decide +kernel
theorem dX11_seenOf_160 : decode cX11_seenOf 160 = .ok (.invokestatic 360, 3) := by decide +kernel
theorem dX11_seenOf_163 : decode cX11_seenOf 163 = .ok (.lstore 5, 2) := by decide +kernel
theorem dX11_seenOf_165 : decode cX11_seenOf 165 = .ok (.iinc 7 1, 3) := by decide +kernel
theorem dX11_seenOf_168 : decode cX11_seenOf 168 = .ok (.goto (-32), 3) := by decide +kernel
theorem dX11_seenOf_171 : decode cX11_seenOf 171 = .ok (.lload_n 2, 1) := by decide +kernel
theorem dX11_seenOf_172 : decode cX11_seenOf 172 = .ok (.lload 5, 2) := by decide +kernel
theorem dX11_seenOf_174 : decode cX11_seenOf 174 = .ok (.ladd, 1) := by decide +kernel
theorem dX11_seenOf_175 : decode cX11_seenOf 175 = .ok (.lstore_n 2, 1) := by decide +kernel
theorem dX11_seenOf_176 : decode cX11_seenOf 176 = .ok (.iinc 4 1, 3) := by decide +kernel
theorem dX11_seenOf_179 : decode cX11_seenOf 179 = .ok (.goto (-57), 3) := by decide +kernel
theorem dX11_seenOf_182 : decode cX11_seenOf 182 = .ok (.lload_n 2, 1) := by decide +kernel
theorem dX11_seenOf_183 : decode cX11_seenOf 183 = .ok (.lreturn, 1) := by decide +kernel
def wb_X11_seenOf_2 (I : HI) (x1 : Int32) (Post : Int64 → HJ → Prop) (E2 : HJ → Prop) (K2 : (Int32 × HJ) → Prop) (s : Int32 × HJ) : Prop :=
  match s with
  | (x2, J) => (49152 ≤ x2 → (E2 J)) ∧ (¬ 49152 ≤ x2 → (vp_in x2 49152 ∧ (∀ J_1 : HJ, J_1 = hJ J 97 (Int32.toNatClampNeg x2) 0 → (K2 ((x2 + 1), J_1)))))
set_option maxHeartbeats 4000000 in
set_option maxRecDepth 20000 in
theorem ws_X11_seenOf_2 (g : kf_G) (hg : kf_g g) {x : kf_X} (hx : kf_ok g x RX11 cX11_seenOf 8 2 48) (I : HI) (x1 : Int32) (Post : Int64 → HJ → Prop) (hret : ∀ (pc : Nat) (lv : List (Nat × Value)) (v : Int64) (Jy : HJ), decode cX11_seenOf pc = .ok (.lreturn, 1) → Post v Jy → kf_M g x 8 pc lv [.long v] I Jy) (E2 : HJ → Prop) (hE2 : ∀ (Jy : HJ), E2 Jy → kf_M g x 8 21 [(0, .ref (g.2.2.2 72)), (1, .int x1)] [] I Jy) (K2 : (Int32 × HJ) → Prop) (hK2 : ∀ (y2 : Int32) (Jy : HJ), K2 (y2, Jy) → kf_M g x 8 2 [(0, .ref (g.2.2.2 72)), (1, .int x1), (2, .int y2)] [] I Jy) (x2 : Int32) (J : HJ) (h : wb_X11_seenOf_2 I x1 Post E2 K2 (x2, J)) : kf_M g x 8 2 [(0, .ref (g.2.2.2 72)), (1, .int x1), (2, .int x2)] [] I J := by
  unfold wb_X11_seenOf_2 at h
  refine kf_iload_n hx dX11_seenOf_2 rfl 2 rfl ?_
  refine kf_ldc hx ko_RX11_96 dX11_seenOf_3 ?_
  refine kf_icmp_ge hx 21 dX11_seenOf_5 (by decide) (fun c => ?_) (fun c => ?_)
  · replace h := h.1 c
    refine kf_sub [0, 1] rfl ?_
    exact hE2 _ h
  · replace h := h.2 c
    refine kf_aload_n hx dX11_seenOf_8 rfl 0 rfl ?_
    refine kf_getR (n := 97) hx sl_72_47 fl_RX11_97 dX11_seenOf_9 ?_
    refine kf_iload_n hx dX11_seenOf_12 rfl 2 rfl ?_
    refine kf_lconst (v := 0) hx dX11_seenOf_13 (by decide) ?_
    refine kf_last hx ar_97 h.1 dX11_seenOf_14 ?_
    replace h := h.2
    refine kf_nmJ (fun J_1 eJ_1 => ?_)
    replace h := h J_1 eJ_1
    refine kf_iinc (w := (x2 + 1)) (lv' := [(2, .int (x2 + 1)), (0, .ref (g.2.2.2 72)), (1, .int x1)]) hx dX11_seenOf_15 2 rfl rfl (by decide) rfl ?_
    refine kf_goto hx 2 dX11_seenOf_18 (by decide) ?_
    refine kf_sub [1, 2, 0] rfl ?_
    exact hK2 _ _ h
theorem wl_X11_seenOf_2 (g : kf_G) (hg : kf_g g) {x : kf_X} (hx : kf_ok g x RX11 cX11_seenOf 8 2 48) (I : HI) (x1 : Int32) (Post : Int64 → HJ → Prop) (hret : ∀ (pc : Nat) (lv : List (Nat × Value)) (v : Int64) (Jy : HJ), decode cX11_seenOf pc = .ok (.lreturn, 1) → Post v Jy → kf_M g x 8 pc lv [.long v] I Jy) (E2 : HJ → Prop) (hE2 : ∀ (Jy : HJ), E2 Jy → kf_M g x 8 21 [(0, .ref (g.2.2.2 72)), (1, .int x1)] [] I Jy) : ∀ (n : Nat) (x2 : Int32) (J : HJ), lp (wb_X11_seenOf_2 I x1 Post E2) n (x2, J) → kf_M g x 8 2 [(0, .ref (g.2.2.2 72)), (1, .int x1), (2, .int x2)] [] I J := by
  intro n
  induction n with
  | zero => intro x2 J h; exact h.elim
  | succ n ih => intro x2 J h; exact ws_X11_seenOf_2 g hg hx I x1 Post hret E2 hE2 (lp (wb_X11_seenOf_2 I x1 Post E2) n) ih x2 J h
def wb_X11_seenOf_61 (I : HI) (x1 : Int32) (x2 : Int32) (x3 : Int64) (x5 : Int32) (E23 : HJ → Prop) (K23 : Int32 × HJ → Prop) (Post : Int64 → HJ → Prop) (E61 : HJ → Prop) (K61 : (Int32 × HJ) → Prop) (s : Int32 × HJ) : Prop :=
  match s with
  | (x6, J) => ((I 72 20) ≤ x6 → (E61 J)) ∧ (¬ (I 72 20) ≤ x6 → (vp_in ((12 * x5) + x6) 49152 ∧ (w_X11_reach ((1 <<< (x1 &&& 31)) ||| (1 <<< (x6 &&& 31))) x2 I J (fun (r_5 : Int32) => (w_J6_bitCount_0f7a4 r_5 (fun (r_6 : Int32) => (vp_in ((12 * x5) + x6) 49152 ∧ (∀ J_7 : HJ, J_7 = hJ J 97 (Int32.toNatClampNeg ((12 * x5) + x6)) ((J 97 (Int32.toNatClampNeg ((12 * x5) + x6))) + (x3 * (Int32.toInt64 r_6))) → (K61 ((x6 + 1), J_7))))))))))
set_option maxHeartbeats 4000000 in
set_option maxRecDepth 20000 in
theorem ws_X11_seenOf_61 (g : kf_G) (hg : kf_g g) {x : kf_X} (hx : kf_ok g x RX11 cX11_seenOf 8 2 48) (I : HI) (x1 : Int32) (x2 : Int32) (x3 : Int64) (x5 : Int32) (E23 : HJ → Prop) (K23 : Int32 × HJ → Prop) (hE23 : ∀ (Jy : HJ), E23 Jy → kf_M g x 8 117 [(0, .ref (g.2.2.2 72))] [] I Jy) (hK23 : ∀ (y2 : Int32) (Jy : HJ), K23 (y2, Jy) → kf_M g x 8 23 [(0, .ref (g.2.2.2 72)), (1, .int x1), (2, .int y2)] [] I Jy) (Post : Int64 → HJ → Prop) (hret : ∀ (pc : Nat) (lv : List (Nat × Value)) (v : Int64) (Jy : HJ), decode cX11_seenOf pc = .ok (.lreturn, 1) → Post v Jy → kf_M g x 8 pc lv [.long v] I Jy) (E61 : HJ → Prop) (hE61 : ∀ (Jy : HJ), E61 Jy → kf_M g x 8 111 [(0, .ref (g.2.2.2 72)), (1, .int x1), (2, .int x2)] [] I Jy) (K61 : (Int32 × HJ) → Prop) (hK61 : ∀ (y6 : Int32) (Jy : HJ), K61 (y6, Jy) → kf_M g x 8 61 [(0, .ref (g.2.2.2 72)), (1, .int x1), (2, .int x2), (3, .long x3), (5, .int x5), (6, .int y6)] [] I Jy) (x6 : Int32) (J : HJ) (h : wb_X11_seenOf_61 I x1 x2 x3 x5 E23 K23 Post E61 K61 (x6, J)) : kf_M g x 8 61 [(0, .ref (g.2.2.2 72)), (1, .int x1), (2, .int x2), (3, .long x3), (5, .int x5), (6, .int x6)] [] I J := by
  unfold wb_X11_seenOf_61 at h
  refine kf_iload hx dX11_seenOf_61 5 rfl ?_
  refine kf_aload_n hx dX11_seenOf_63 rfl 0 rfl ?_
  refine kf_getI hx sl_72_20 fl_RX11_287 dX11_seenOf_64 ?_
  refine kf_icmp_ge hx 111 dX11_seenOf_67 (by decide) (fun c => ?_) (fun c => ?_)
  · replace h := h.1 c
    refine kf_sub [0, 1, 2] rfl ?_
    exact hE61 _ h
  · replace h := h.2 c
    refine kf_aload_n hx dX11_seenOf_70 rfl 0 rfl ?_
    refine kf_getR (n := 97) hx sl_72_47 fl_RX11_97 dX11_seenOf_71 ?_
    refine kf_bipush (v := 12) hx dX11_seenOf_74 (by decide) ?_
    refine kf_iload hx dX11_seenOf_76 4 rfl ?_
    refine kf_imul hx dX11_seenOf_78 ?_
    refine kf_iload hx dX11_seenOf_79 5 rfl ?_
    refine kf_iadd hx dX11_seenOf_81 ?_
    refine kf_dup2 hx dX11_seenOf_82 rfl rfl ?_
    refine kf_lald hx ar_97 h.1 dX11_seenOf_83 ?_
    replace h := h.2
    refine kf_lload_n hx dX11_seenOf_84 rfl 3 rfl ?_
    refine kf_aload_n hx dX11_seenOf_85 rfl 0 rfl ?_
    refine kf_iconst (v := 1) hx dX11_seenOf_86 (by decide) ?_
    refine kf_iload_n hx dX11_seenOf_87 rfl 1 rfl ?_
    refine kf_ishl hx dX11_seenOf_88 ?_
    refine kf_iconst (v := 1) hx dX11_seenOf_89 (by decide) ?_
    refine kf_iload hx dX11_seenOf_90 5 rfl ?_
    refine kf_ishl hx dX11_seenOf_92 ?_
    refine kf_ior hx dX11_seenOf_93 ?_
    refine kf_iload_n hx dX11_seenOf_94 rfl 2 rfl ?_
    refine kf_callViP (st := [.long x3, .long (J 97 (Int32.toNatClampNeg ((12 * x5) + x6))), .int ((12 * x5) + x6), .ref (g.2.2.2 97)]) hx (m_X11_reach g hg ((1 <<< (x1 &&& 31)) ||| (1 <<< (x6 &&& 31))) x2 I J _ h) lk_RX11_317 km_X11_reach ob_72 rfl (by decide) rfl (Nat.le_of_ble_eq_true rfl) dX11_seenOf_95 (fun r_5 h => ?_)
    refine kf_callSiP (st := [.long x3, .long (J 97 (Int32.toNatClampNeg ((12 * x5) + x6))), .int ((12 * x5) + x6), .ref (g.2.2.2 97)]) hx (m_J6_bitCount_0f7a4 g hg r_5 I J _ h) lk_RX11_325 km_J6_bitCount_0f7a4 rfl (by decide) rfl (Nat.le_of_ble_eq_true rfl) dX11_seenOf_98 (fun r_6 h => ?_)
    refine kf_i2l hx dX11_seenOf_101 ?_
    refine kf_lmul hx dX11_seenOf_102 ?_
    refine kf_ladd hx dX11_seenOf_103 ?_
    refine kf_last hx ar_97 h.1 dX11_seenOf_104 ?_
    replace h := h.2
    refine kf_nmJ (fun J_7 eJ_7 => ?_)
    replace h := h J_7 eJ_7
    refine kf_iinc (w := (x6 + 1)) (lv' := [(6, .int (x6 + 1)), (0, .ref (g.2.2.2 72)), (1, .int x1), (2, .int x2), (3, .long x3), (5, .int x5)]) hx dX11_seenOf_105 5 rfl rfl (by decide) rfl ?_
    refine kf_goto hx 61 dX11_seenOf_108 (by decide) ?_
    refine kf_sub [1, 2, 3, 4, 5, 0] rfl ?_
    exact hK61 _ _ h
theorem wl_X11_seenOf_61 (g : kf_G) (hg : kf_g g) {x : kf_X} (hx : kf_ok g x RX11 cX11_seenOf 8 2 48) (I : HI) (x1 : Int32) (x2 : Int32) (x3 : Int64) (x5 : Int32) (E23 : HJ → Prop) (K23 : Int32 × HJ → Prop) (hE23 : ∀ (Jy : HJ), E23 Jy → kf_M g x 8 117 [(0, .ref (g.2.2.2 72))] [] I Jy) (hK23 : ∀ (y2 : Int32) (Jy : HJ), K23 (y2, Jy) → kf_M g x 8 23 [(0, .ref (g.2.2.2 72)), (1, .int x1), (2, .int y2)] [] I Jy) (Post : Int64 → HJ → Prop) (hret : ∀ (pc : Nat) (lv : List (Nat × Value)) (v : Int64) (Jy : HJ), decode cX11_seenOf pc = .ok (.lreturn, 1) → Post v Jy → kf_M g x 8 pc lv [.long v] I Jy) (E61 : HJ → Prop) (hE61 : ∀ (Jy : HJ), E61 Jy → kf_M g x 8 111 [(0, .ref (g.2.2.2 72)), (1, .int x1), (2, .int x2)] [] I Jy) : ∀ (n : Nat) (x6 : Int32) (J : HJ), lp (wb_X11_seenOf_61 I x1 x2 x3 x5 E23 K23 Post E61) n (x6, J) → kf_M g x 8 61 [(0, .ref (g.2.2.2 72)), (1, .int x1), (2, .int x2), (3, .long x3), (5, .int x5), (6, .int x6)] [] I J := by
  intro n
  induction n with
  | zero => intro x6 J h; exact h.elim
  | succ n ih => intro x6 J h; exact ws_X11_seenOf_61 g hg hx I x1 x2 x3 x5 E23 K23 hE23 hK23 Post hret E61 hE61 (lp (wb_X11_seenOf_61 I x1 x2 x3 x5 E23 K23 Post E61) n) ih x6 J h
def wb_X11_seenOf_23 (I : HI) (x1 : Int32) (Post : Int64 → HJ → Prop) (E23 : HJ → Prop) (K23 : (Int32 × HJ) → Prop) (s : Int32 × HJ) : Prop :=
  match s with
  | (x2, J) => ((1 <<< ((I 72 21) &&& 31)) ≤ x2 → (E23 J)) ∧ (¬ (1 <<< ((I 72 21) &&& 31)) ≤ x2 → (w_X11_weightOf x2 I J (fun (r_3 : Int64) => ((¬ r_3 = 0 → (w_X11_reach (1 <<< (x1 &&& 31)) x2 I J (fun (r_4 : Int32) => (∃ n, lp (wb_X11_seenOf_61 I x1 x2 r_3 r_4 E23 K23 Post (fun (J_8 : HJ) => K23 ((x2 + 1), J_8))) n (0, J))))) ∧ (r_3 = 0 → (K23 ((x2 + 1), J)))))))
set_option maxHeartbeats 4000000 in
set_option maxRecDepth 20000 in
theorem ws_X11_seenOf_23 (g : kf_G) (hg : kf_g g) {x : kf_X} (hx : kf_ok g x RX11 cX11_seenOf 8 2 48) (I : HI) (x1 : Int32) (Post : Int64 → HJ → Prop) (hret : ∀ (pc : Nat) (lv : List (Nat × Value)) (v : Int64) (Jy : HJ), decode cX11_seenOf pc = .ok (.lreturn, 1) → Post v Jy → kf_M g x 8 pc lv [.long v] I Jy) (E23 : HJ → Prop) (hE23 : ∀ (Jy : HJ), E23 Jy → kf_M g x 8 117 [(0, .ref (g.2.2.2 72))] [] I Jy) (K23 : (Int32 × HJ) → Prop) (hK23 : ∀ (y2 : Int32) (Jy : HJ), K23 (y2, Jy) → kf_M g x 8 23 [(0, .ref (g.2.2.2 72)), (1, .int x1), (2, .int y2)] [] I Jy) (x2 : Int32) (J : HJ) (h : wb_X11_seenOf_23 I x1 Post E23 K23 (x2, J)) : kf_M g x 8 23 [(0, .ref (g.2.2.2 72)), (1, .int x1), (2, .int x2)] [] I J := by
  unfold wb_X11_seenOf_23 at h
  refine kf_iload_n hx dX11_seenOf_23 rfl 2 rfl ?_
  refine kf_iconst (v := 1) hx dX11_seenOf_24 (by decide) ?_
  refine kf_aload_n hx dX11_seenOf_25 rfl 0 rfl ?_
  refine kf_getI hx sl_72_21 fl_RX11_290 dX11_seenOf_26 ?_
  refine kf_ishl hx dX11_seenOf_29 ?_
  refine kf_icmp_ge hx 117 dX11_seenOf_30 (by decide) (fun c => ?_) (fun c => ?_)
  · replace h := h.1 c
    refine kf_sub [0] rfl ?_
    exact hE23 _ h
  · replace h := h.2 c
    refine kf_aload_n hx dX11_seenOf_33 rfl 0 rfl ?_
    refine kf_iload_n hx dX11_seenOf_34 rfl 2 rfl ?_
    refine kf_callVlP (st := []) hx (m_X11_weightOf g hg x2 I J _ h) lk_RX11_304 km_X11_weightOf ob_72 rfl (by decide) rfl (Nat.le_of_ble_eq_true rfl) dX11_seenOf_35 (fun r_3 h => ?_)
    refine kf_lstore_n (lv' := [(3, .long r_3), (0, .ref (g.2.2.2 72)), (1, .int x1), (2, .int x2)]) hx dX11_seenOf_38 rfl (by decide) rfl ?_
    refine kf_lload_n hx dX11_seenOf_39 rfl 0 rfl ?_
    refine kf_lconst (v := 0) hx dX11_seenOf_40 (by decide) ?_
    refine kf_l_ne hx 48 dX11_seenOf_41 dX11_seenOf_42 (by decide) (fun c => ?_) (fun c => ?_)
    · replace h := h.1 c
      refine kf_aload_n hx dX11_seenOf_48 rfl 1 rfl ?_
      refine kf_iconst (v := 1) hx dX11_seenOf_49 (by decide) ?_
      refine kf_iload_n hx dX11_seenOf_50 rfl 2 rfl ?_
      refine kf_ishl hx dX11_seenOf_51 ?_
      refine kf_iload_n hx dX11_seenOf_52 rfl 3 rfl ?_
      refine kf_callViP (st := []) hx (m_X11_reach g hg (1 <<< (x1 &&& 31)) x2 I J _ h) lk_RX11_317 km_X11_reach ob_72 rfl (by decide) rfl (Nat.le_of_ble_eq_true rfl) dX11_seenOf_53 (fun r_4 h => ?_)
      refine kf_istore (lv' := [(5, .int r_4), (3, .long r_3), (0, .ref (g.2.2.2 72)), (1, .int x1), (2, .int x2)]) hx dX11_seenOf_56 (by decide) rfl ?_
      refine kf_iconst (v := 0) hx dX11_seenOf_58 (by decide) ?_
      refine kf_istore (lv' := [(6, .int 0), (5, .int r_4), (3, .long r_3), (0, .ref (g.2.2.2 72)), (1, .int x1), (2, .int x2)]) hx dX11_seenOf_59 (by decide) rfl ?_
      obtain ⟨n, h⟩ := h
      refine kf_sub [3, 4, 5, 2, 1, 0] rfl ?_
      refine wl_X11_seenOf_61 g hg hx I x1 x2 r_3 r_4 _ _ hE23 hK23 _ hret _ (fun J_8 h => ?_) n _ _ h
      refine kf_iinc (w := (x2 + 1)) (lv' := [(2, .int (x2 + 1)), (0, .ref (g.2.2.2 72)), (1, .int x1)]) hx dX11_seenOf_111 2 rfl rfl (by decide) rfl ?_
      refine kf_goto hx 23 dX11_seenOf_114 (by decide) ?_
      refine kf_sub [1, 2, 0] rfl ?_
      exact hK23 _ _ h
    · replace h := h.2 c
      refine kf_goto hx 111 dX11_seenOf_45 (by decide) ?_
      refine kf_iinc (w := (x2 + 1)) (lv' := [(2, .int (x2 + 1)), (3, .long r_3), (0, .ref (g.2.2.2 72)), (1, .int x1)]) hx dX11_seenOf_111 3 rfl rfl (by decide) rfl ?_
      refine kf_goto hx 23 dX11_seenOf_114 (by decide) ?_
      refine kf_sub [2, 3, 0] rfl ?_
      exact hK23 _ _ h
theorem wl_X11_seenOf_23 (g : kf_G) (hg : kf_g g) {x : kf_X} (hx : kf_ok g x RX11 cX11_seenOf 8 2 48) (I : HI) (x1 : Int32) (Post : Int64 → HJ → Prop) (hret : ∀ (pc : Nat) (lv : List (Nat × Value)) (v : Int64) (Jy : HJ), decode cX11_seenOf pc = .ok (.lreturn, 1) → Post v Jy → kf_M g x 8 pc lv [.long v] I Jy) (E23 : HJ → Prop) (hE23 : ∀ (Jy : HJ), E23 Jy → kf_M g x 8 117 [(0, .ref (g.2.2.2 72))] [] I Jy) : ∀ (n : Nat) (x2 : Int32) (J : HJ), lp (wb_X11_seenOf_23 I x1 Post E23) n (x2, J) → kf_M g x 8 23 [(0, .ref (g.2.2.2 72)), (1, .int x1), (2, .int x2)] [] I J := by
  intro n
  induction n with
  | zero => intro x2 J h; exact h.elim
  | succ n ih => intro x2 J h; exact ws_X11_seenOf_23 g hg hx I x1 Post hret E23 hE23 (lp (wb_X11_seenOf_23 I x1 Post E23) n) ih x2 J h
def wb_X11_seenOf_136 (I : HI) (J : HJ) (x2 : Int64) (x4 : Int32) (E122 : Int64 → Prop) (K122 : Int64 × Int32 → Prop) (Post : Int64 → HJ → Prop) (E136 : Int64 → Prop) (K136 : (Int64 × Int32) → Prop) (s : Int64 × Int32) : Prop :=
  match s with
  | (x5, x7) => ((I 72 20) ≤ x7 → (E136 x5)) ∧ (¬ (I 72 20) ≤ x7 → (vp_in ((12 * x4) + x7) 49152 ∧ (∀ z_10 : Int64, z_10 = (if (J 97 (Int32.toNatClampNeg ((12 * x4) + x7))) < x5 then x5 else (J 97 (Int32.toNatClampNeg ((12 * x4) + x7)))) → (K136 (z_10, (x7 + 1))))))
set_option maxHeartbeats 4000000 in
set_option maxRecDepth 20000 in
theorem ws_X11_seenOf_136 (g : kf_G) (hg : kf_g g) {x : kf_X} (hx : kf_ok g x RX11 cX11_seenOf 8 2 48) (I : HI) (J : HJ) (x2 : Int64) (x4 : Int32) (E122 : Int64 → Prop) (K122 : Int64 × Int32 → Prop) (hE122 : ∀ (y2 : Int64), E122 y2 → kf_M g x 8 182 [(2, .long y2)] [] I J) (hK122 : ∀ (y2 : Int64) (y4 : Int32), K122 (y2, y4) → kf_M g x 8 122 [(0, .ref (g.2.2.2 72)), (2, .long y2), (4, .int y4)] [] I J) (Post : Int64 → HJ → Prop) (hret : ∀ (pc : Nat) (lv : List (Nat × Value)) (v : Int64) (Jy : HJ), decode cX11_seenOf pc = .ok (.lreturn, 1) → Post v Jy → kf_M g x 8 pc lv [.long v] I Jy) (E136 : Int64 → Prop) (hE136 : ∀ (y5 : Int64), E136 y5 → kf_M g x 8 171 [(0, .ref (g.2.2.2 72)), (2, .long x2), (4, .int x4), (5, .long y5)] [] I J) (K136 : (Int64 × Int32) → Prop) (hK136 : ∀ (y5 : Int64) (y7 : Int32), K136 (y5, y7) → kf_M g x 8 136 [(0, .ref (g.2.2.2 72)), (2, .long x2), (4, .int x4), (5, .long y5), (7, .int y7)] [] I J) (x5 : Int64) (x7 : Int32) (h : wb_X11_seenOf_136 I J x2 x4 E122 K122 Post E136 K136 (x5, x7)) : kf_M g x 8 136 [(0, .ref (g.2.2.2 72)), (2, .long x2), (4, .int x4), (5, .long x5), (7, .int x7)] [] I J := by
  unfold wb_X11_seenOf_136 at h
  refine kf_iload hx dX11_seenOf_136 4 rfl ?_
  refine kf_aload_n hx dX11_seenOf_138 rfl 0 rfl ?_
  refine kf_getI hx sl_72_20 fl_RX11_287 dX11_seenOf_139 ?_
  refine kf_icmp_ge hx 171 dX11_seenOf_142 (by decide) (fun c => ?_) (fun c => ?_)
  · replace h := h.1 c
    refine kf_sub [0, 1, 2, 3] rfl ?_
    exact hE136 _ h
  · replace h := h.2 c
    refine kf_lload hx dX11_seenOf_145 3 rfl ?_
    refine kf_aload_n hx dX11_seenOf_147 rfl 0 rfl ?_
    refine kf_getR (n := 97) hx sl_72_47 fl_RX11_97 dX11_seenOf_148 ?_
    refine kf_bipush (v := 12) hx dX11_seenOf_151 (by decide) ?_
    refine kf_iload hx dX11_seenOf_153 2 rfl ?_
    refine kf_imul hx dX11_seenOf_155 ?_
    refine kf_iload hx dX11_seenOf_156 4 rfl ?_
    refine kf_iadd hx dX11_seenOf_158 ?_
    refine kf_lald hx ar_97 h.1 dX11_seenOf_159 ?_
    replace h := h.2
    refine kf_mmaxJ (st := []) hx lm_RX11_360 lm_mmaxJ (by decide) (Nat.le_of_ble_eq_true rfl) dX11_seenOf_160 ?_
    refine kf_topl (fun z_10 ez_10 => ?_)
    replace h := h z_10 ez_10
    refine kf_lstore (lv' := [(5, .long z_10), (0, .ref (g.2.2.2 72)), (2, .long x2), (4, .int x4), (7, .int x7)]) hx dX11_seenOf_163 (by decide) rfl ?_
    refine kf_iinc (w := (x7 + 1)) (lv' := [(7, .int (x7 + 1)), (5, .long z_10), (0, .ref (g.2.2.2 72)), (2, .long x2), (4, .int x4)]) hx dX11_seenOf_165 4 rfl rfl (by decide) rfl ?_
    refine kf_goto hx 136 dX11_seenOf_168 (by decide) ?_
    refine kf_sub [2, 3, 4, 1, 0] rfl ?_
    exact hK136 _ _ h
theorem wl_X11_seenOf_136 (g : kf_G) (hg : kf_g g) {x : kf_X} (hx : kf_ok g x RX11 cX11_seenOf 8 2 48) (I : HI) (J : HJ) (x2 : Int64) (x4 : Int32) (E122 : Int64 → Prop) (K122 : Int64 × Int32 → Prop) (hE122 : ∀ (y2 : Int64), E122 y2 → kf_M g x 8 182 [(2, .long y2)] [] I J) (hK122 : ∀ (y2 : Int64) (y4 : Int32), K122 (y2, y4) → kf_M g x 8 122 [(0, .ref (g.2.2.2 72)), (2, .long y2), (4, .int y4)] [] I J) (Post : Int64 → HJ → Prop) (hret : ∀ (pc : Nat) (lv : List (Nat × Value)) (v : Int64) (Jy : HJ), decode cX11_seenOf pc = .ok (.lreturn, 1) → Post v Jy → kf_M g x 8 pc lv [.long v] I Jy) (E136 : Int64 → Prop) (hE136 : ∀ (y5 : Int64), E136 y5 → kf_M g x 8 171 [(0, .ref (g.2.2.2 72)), (2, .long x2), (4, .int x4), (5, .long y5)] [] I J) : ∀ (n : Nat) (x5 : Int64) (x7 : Int32), lp (wb_X11_seenOf_136 I J x2 x4 E122 K122 Post E136) n (x5, x7) → kf_M g x 8 136 [(0, .ref (g.2.2.2 72)), (2, .long x2), (4, .int x4), (5, .long x5), (7, .int x7)] [] I J := by
  intro n
  induction n with
  | zero => intro x5 x7 h; exact h.elim
  | succ n ih => intro x5 x7 h; exact ws_X11_seenOf_136 g hg hx I J x2 x4 E122 K122 hE122 hK122 Post hret E136 hE136 (lp (wb_X11_seenOf_136 I J x2 x4 E122 K122 Post E136) n) ih x5 x7 h
def wb_X11_seenOf_122 (I : HI) (J : HJ) (Post : Int64 → HJ → Prop) (E122 : Int64 → Prop) (K122 : (Int64 × Int32) → Prop) (s : Int64 × Int32) : Prop :=
  match s with
  | (x2, x4) => (4096 ≤ x4 → (E122 x2)) ∧ (¬ 4096 ≤ x4 → (∃ n, lp (wb_X11_seenOf_136 I J x2 x4 E122 K122 Post (fun (x5_11 : Int64) => K122 ((x2 + x5_11), (x4 + 1)))) n (0, 0)))
set_option maxHeartbeats 4000000 in
set_option maxRecDepth 20000 in
theorem ws_X11_seenOf_122 (g : kf_G) (hg : kf_g g) {x : kf_X} (hx : kf_ok g x RX11 cX11_seenOf 8 2 48) (I : HI) (J : HJ) (Post : Int64 → HJ → Prop) (hret : ∀ (pc : Nat) (lv : List (Nat × Value)) (v : Int64) (Jy : HJ), decode cX11_seenOf pc = .ok (.lreturn, 1) → Post v Jy → kf_M g x 8 pc lv [.long v] I Jy) (E122 : Int64 → Prop) (hE122 : ∀ (y2 : Int64), E122 y2 → kf_M g x 8 182 [(2, .long y2)] [] I J) (K122 : (Int64 × Int32) → Prop) (hK122 : ∀ (y2 : Int64) (y4 : Int32), K122 (y2, y4) → kf_M g x 8 122 [(0, .ref (g.2.2.2 72)), (2, .long y2), (4, .int y4)] [] I J) (x2 : Int64) (x4 : Int32) (h : wb_X11_seenOf_122 I J Post E122 K122 (x2, x4)) : kf_M g x 8 122 [(0, .ref (g.2.2.2 72)), (2, .long x2), (4, .int x4)] [] I J := by
  unfold wb_X11_seenOf_122 at h
  refine kf_iload hx dX11_seenOf_122 2 rfl ?_
  refine kf_sipush (v := 4096) hx dX11_seenOf_124 (by decide) ?_
  refine kf_icmp_ge hx 182 dX11_seenOf_127 (by decide) (fun c => ?_) (fun c => ?_)
  · replace h := h.1 c
    refine kf_sub [1] rfl ?_
    exact hE122 _ h
  · replace h := h.2 c
    refine kf_lconst (v := 0) hx dX11_seenOf_130 (by decide) ?_
    refine kf_lstore (lv' := [(5, .long 0), (0, .ref (g.2.2.2 72)), (2, .long x2), (4, .int x4)]) hx dX11_seenOf_131 (by decide) rfl ?_
    refine kf_iconst (v := 0) hx dX11_seenOf_133 (by decide) ?_
    refine kf_istore (lv' := [(7, .int 0), (5, .long 0), (0, .ref (g.2.2.2 72)), (2, .long x2), (4, .int x4)]) hx dX11_seenOf_134 (by decide) rfl ?_
    obtain ⟨n, h⟩ := h
    refine kf_sub [2, 3, 4, 1, 0] rfl ?_
    refine wl_X11_seenOf_136 g hg hx I J x2 x4 _ _ hE122 hK122 _ hret _ (fun x5_11 h => ?_) n _ _ h
    refine kf_lload_n hx dX11_seenOf_171 rfl 1 rfl ?_
    refine kf_lload hx dX11_seenOf_172 3 rfl ?_
    refine kf_ladd hx dX11_seenOf_174 ?_
    refine kf_lstore_n (lv' := [(2, .long (x2 + x5_11)), (0, .ref (g.2.2.2 72)), (4, .int x4), (5, .long x5_11)]) hx dX11_seenOf_175 rfl (by decide) rfl ?_
    refine kf_iinc (w := (x4 + 1)) (lv' := [(4, .int (x4 + 1)), (2, .long (x2 + x5_11)), (0, .ref (g.2.2.2 72)), (5, .long x5_11)]) hx dX11_seenOf_176 2 rfl rfl (by decide) rfl ?_
    refine kf_goto hx 122 dX11_seenOf_179 (by decide) ?_
    refine kf_sub [2, 1, 0] rfl ?_
    exact hK122 _ _ h
theorem wl_X11_seenOf_122 (g : kf_G) (hg : kf_g g) {x : kf_X} (hx : kf_ok g x RX11 cX11_seenOf 8 2 48) (I : HI) (J : HJ) (Post : Int64 → HJ → Prop) (hret : ∀ (pc : Nat) (lv : List (Nat × Value)) (v : Int64) (Jy : HJ), decode cX11_seenOf pc = .ok (.lreturn, 1) → Post v Jy → kf_M g x 8 pc lv [.long v] I Jy) (E122 : Int64 → Prop) (hE122 : ∀ (y2 : Int64), E122 y2 → kf_M g x 8 182 [(2, .long y2)] [] I J) : ∀ (n : Nat) (x2 : Int64) (x4 : Int32), lp (wb_X11_seenOf_122 I J Post E122) n (x2, x4) → kf_M g x 8 122 [(0, .ref (g.2.2.2 72)), (2, .long x2), (4, .int x4)] [] I J := by
  intro n
  induction n with
  | zero => intro x2 x4 h; exact h.elim
  | succ n ih => intro x2 x4 h; exact ws_X11_seenOf_122 g hg hx I J Post hret E122 hE122 (lp (wb_X11_seenOf_122 I J Post E122) n) ih x2 x4 h
def w_X11_seenOf (x1 : Int32) (I : HI) (J : HJ) (Post : Int64 → HJ → Prop) : Prop :=
  ∃ n, lp (wb_X11_seenOf_2 I x1 Post (fun (J_2 : HJ) => ∃ n, lp (wb_X11_seenOf_23 I x1 Post (fun (J_9 : HJ) => ∃ n, lp (wb_X11_seenOf_122 I J_9 Post (fun (x2_12 : Int64) => Post x2_12 J_9)) n (0, 0))) n (0, J_2))) n (0, J)
set_option maxHeartbeats 4000000 in
set_option maxRecDepth 20000 in
theorem we_X11_seenOf (g : kf_G) (hg : kf_g g) {x : kf_X} (hx : kf_ok g x RX11 cX11_seenOf 8 2 48) (x1 : Int32) (I : HI) (J : HJ) (Post : Int64 → HJ → Prop) (hret : ∀ (pc : Nat) (lv : List (Nat × Value)) (v : Int64) (Jy : HJ), decode cX11_seenOf pc = .ok (.lreturn, 1) → Post v Jy → kf_M g x 8 pc lv [.long v] I Jy) (h : w_X11_seenOf x1 I J Post) : kf_M g x 8 0 [(0, .ref (g.2.2.2 72)), (1, .int x1)] [] I J := by
  unfold w_X11_seenOf at h
  refine kf_iconst (v := 0) hx dX11_seenOf_0 (by decide) ?_
  refine kf_istore_n (lv' := [(2, .int 0), (0, .ref (g.2.2.2 72)), (1, .int x1)]) hx dX11_seenOf_1 rfl (by decide) rfl ?_
  obtain ⟨n, h⟩ := h
  refine kf_sub [1, 2, 0] rfl ?_
  refine wl_X11_seenOf_2 g hg hx I x1 _ hret _ (fun J_2 h => ?_) n _ _ h
  refine kf_iconst (v := 0) hx dX11_seenOf_21 (by decide) ?_
  refine kf_istore_n (lv' := [(2, .int 0), (0, .ref (g.2.2.2 72)), (1, .int x1)]) hx dX11_seenOf_22 rfl (by decide) rfl ?_
  obtain ⟨n, h⟩ := h
  refine kf_sub [1, 2, 0] rfl ?_
  refine wl_X11_seenOf_23 g hg hx I x1 _ hret _ (fun J_9 h => ?_) n _ _ h
  refine kf_lconst (v := 0) hx dX11_seenOf_117 (by decide) ?_
  refine kf_lstore_n (lv' := [(2, .long 0), (0, .ref (g.2.2.2 72))]) hx dX11_seenOf_118 rfl (by decide) rfl ?_
  refine kf_iconst (v := 0) hx dX11_seenOf_119 (by decide) ?_
  refine kf_istore (lv' := [(4, .int 0), (2, .long 0), (0, .ref (g.2.2.2 72))]) hx dX11_seenOf_120 (by decide) rfl ?_
  obtain ⟨n, h⟩ := h
  refine kf_sub [2, 1, 0] rfl ?_
  refine wl_X11_seenOf_122 g hg hx I J_9  _ hret _ (fun x2_12 h => ?_) n _ _ h
  refine kf_lload_n hx dX11_seenOf_182 rfl 0 rfl ?_
  exact hret _ _ x2_12 _ dX11_seenOf_183 h
set_option maxHeartbeats 4000000 in
set_option maxRecDepth 20000 in
theorem m_X11_seenOf (g : kf_G) (hg : kf_g g) (x1 : Int32) (I : HI) (J : HJ) (Post : Int64 → HJ → Prop) (h : w_X11_seenOf x1 I J Post) : kf_Ml g yX11_seenOf (kf_W yX11_seenOf cX11_seenOf 8 (Option.some Jvm.ClassFile.FieldType.long)) 2 48 [.ref (g.2.2.2 72), .int x1] I J (fun v I' J' => Post v J' ∧ I' = I) :=
  kf_entl hg (by decide) (Nat.le_of_ble_eq_true rfl) rfl (fun x hx hr => we_X11_seenOf g hg hx x1 I J Post (fun pc lv v J' hd hP => hr pc lv v I J' hd ⟨hP, rfl⟩) h)
