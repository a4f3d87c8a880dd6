theorem dJ6_bitCount_0f7a4_0 : decode cJ6_bitCount_0f7a4 0 = .ok (.iload_n 0, 1) := by decide +kernel
theorem dJ6_bitCount_0f7a4_1 : decode cJ6_bitCount_0f7a4 1 = .ok (.iload_n 0, 1) := by decide +kernel
theorem dJ6_bitCount_0f7a4_2 : decode cJ6_bitCount_0f7a4 2 = .ok (.iconst 1, 1) := by decide +kernel
theorem dJ6_bitCount_0f7a4_3 : decode cJ6_bitCount_0f7a4 3 = .ok (.iushr, 1) := by decide +kernel
theorem dJ6_bitCount_0f7a4_4 : decode cJ6_bitCount_0f7a4 4 = .ok (.ldc_w 265, 3) := by decide +kernel
theorem dJ6_bitCount_0f7a4_7 : decode cJ6_bitCount_0f7a4 7 = .ok (.iand, 1) := by decide +kernel
theorem dJ6_bitCount_0f7a4_8 : decode cJ6_bitCount_0f7a4 8 = .ok (.isub, 1) := by decide +kernel
theorem dJ6_bitCount_0f7a4_9 : decode cJ6_bitCount_0f7a4 9 = .ok (.istore_n 0, 1) := by decide +kernel
theorem dJ6_bitCount_0f7a4_10 : decode cJ6_bitCount_0f7a4 10 = .ok (.iload_n 0, 1) := by decide +kernel
theorem dJ6_bitCount_0f7a4_11 : decode cJ6_bitCount_0f7a4 11 = .ok (.ldc_w 266, 3) := by decide +kernel
theorem dJ6_bitCount_0f7a4_14 : decode cJ6_bitCount_0f7a4 14 = .ok (.iand, 1) := by decide +kernel
theorem dJ6_bitCount_0f7a4_15 : decode cJ6_bitCount_0f7a4 15 = .ok (.iload_n 0, 1) := by decide +kernel
theorem dJ6_bitCount_0f7a4_16 : decode cJ6_bitCount_0f7a4 16 = .ok (.iconst 2, 1) := by decide +kernel
theorem dJ6_bitCount_0f7a4_17 : decode cJ6_bitCount_0f7a4 17 = .ok (.iushr, 1) := by decide +kernel
theorem dJ6_bitCount_0f7a4_18 : decode cJ6_bitCount_0f7a4 18 = .ok (.ldc_w 266, 3) := by decide +kernel
theorem dJ6_bitCount_0f7a4_21 : decode cJ6_bitCount_0f7a4 21 = .ok (.iand, 1) := by decide +kernel
theorem dJ6_bitCount_0f7a4_22 : decode cJ6_bitCount_0f7a4 22 = .ok (.iadd, 1) := by decide +kernel
theorem dJ6_bitCount_0f7a4_23 : decode cJ6_bitCount_0f7a4 23 = .ok (.istore_n 0, 1) := by decide +kernel
theorem dJ6_bitCount_0f7a4_24 : decode cJ6_bitCount_0f7a4 24 = .ok (.iload_n 0, 1) := by decide +kernel
theorem dJ6_bitCount_0f7a4_25 : decode cJ6_bitCount_0f7a4 25 = .ok (.iload_n 0, 1) := by decide +kernel
theorem dJ6_bitCount_0f7a4_26 : decode cJ6_bitCount_0f7a4 26 = .ok (.iconst 4, 1) := by decide +kernel
theorem dJ6_bitCount_0f7a4_27 : decode cJ6_bitCount_0f7a4 27 = .ok (.iushr, 1) := by decide +kernel
theorem dJ6_bitCount_0f7a4_28 : decode cJ6_bitCount_0f7a4 28 = .ok (.iadd, 1) := by decide +kernel
theorem dJ6_bitCount_0f7a4_29 : decode cJ6_bitCount_0f7a4 29 = .ok (.ldc_w 267, 3) := by decide +kernel
theorem dJ6_bitCount_0f7a4_32 : decode cJ6_bitCount_0f7a4 32 = .ok (.iand, 1) := by decide +kernel
theorem dJ6_bitCount_0f7a4_33 : decode cJ6_bitCount_0f7a4 33 = .ok (.istore_n 0, 1) := by decide +kernel
theorem dJ6_bitCount_0f7a4_34 : decode cJ6_bitCount_0f7a4 34 = .ok (.iload_n 0, 1) := by decide +kernel
theorem dJ6_bitCount_0f7a4_35 : decode cJ6_bitCount_0f7a4 35 = .ok (.iload_n 0, 1) := by decide +kernel
theorem dJ6_bitCount_0f7a4_36 : decode cJ6_bitCount_0f7a4 36 = .ok (.bipush 8, 2) := by decide +kernel
theorem dJ6_bitCount_0f7a4_38 : decode cJ6_bitCount_0f7a4 38 = .ok (.iushr, 1) := by decide +kernel
theorem dJ6_bitCount_0f7a4_39 : decode cJ6_bitCount_0f7a4 39 = .ok (.iadd, 1) := by decide +kernel
theorem dJ6_bitCount_0f7a4_40 : decode cJ6_bitCount_0f7a4 40 = .ok (.istore_n 0, 1) := by decide +kernel
theorem dJ6_bitCount_0f7a4_41 : decode cJ6_bitCount_0f7a4 41 = .ok (.iload_n 0, 1) := by decide +kernel
theorem dJ6_bitCount_0f7a4_42 : decode cJ6_bitCount_0f7a4 42 = .ok (.iload_n 0, 1) := by decide +kernel
theorem dJ6_bitCount_0f7a4_43 : decode cJ6_bitCount_0f7a4 43 = .ok (.bipush 16, 2) := by decide +kernel
theorem dJ6_bitCount_0f7a4_45 : decode cJ6_bitCount_0f7a4 45 = .ok (.iushr, 1) := by decide +kernel
theorem dJ6_bitCount_0f7a4_46 : decode cJ6_bitCount_0f7a4 46 = .ok (.iadd, 1) := by decide +kernel
theorem dJ6_bitCount_0f7a4_47 : decode cJ6_bitCount_0f7a4 47 = .ok (.istore_n 0, 1) := by decide +kernel
theorem dJ6_bitCount_0f7a4_48 : decode cJ6_bitCount_0f7a4 48 = .ok (.iload_n 0, 1) := by decide +kernel
theorem dJ6_bitCount_0f7a4_49 : decode cJ6_bitCount_0f7a4 49 = .ok (.bipush 63, 2) := by decide +kernel
theorem dJ6_bitCount_0f7a4_51 : decode cJ6_bitCount_0f7a4 51 = .ok (.iand, 1) := by decide +kernel
theorem dJ6_bitCount_0f7a4_52 : decode cJ6_bitCount_0f7a4 52 = .ok (.ireturn, 1) := by decide +kernel
def w_J6_bitCount_0f7a4 (x0 : Int32) (Post : Int32 → Prop) : Prop :=
  ∀ z_1 : Int32, z_1 = (x0 - ((UInt32.toInt32 (Int32.toUInt32 x0 >>> (Int32.toUInt32 1 &&& Int32.toUInt32 31))) &&& 1431655765)) → (∀ z_2 : Int32, z_2 = ((z_1 &&& 858993459) + ((UInt32.toInt32 (Int32.toUInt32 z_1 >>> (Int32.toUInt32 2 &&& Int32.toUInt32 31))) &&& 858993459)) → (∀ z_3 : Int32, z_3 = ((z_2 + (UInt32.toInt32 (Int32.toUInt32 z_2 >>> (Int32.toUInt32 4 &&& Int32.toUInt32 31)))) &&& 252645135) → (∀ z_4 : Int32, z_4 = (z_3 + (UInt32.toInt32 (Int32.toUInt32 z_3 >>> (Int32.toUInt32 8 &&& Int32.toUInt32 31)))) → (∀ z_5 : Int32, z_5 = (z_4 + (UInt32.toInt32 (Int32.toUInt32 z_4 >>> (Int32.toUInt32 16 &&& Int32.toUInt32 31)))) → (Post (z_5 &&& 63))))))
set_option maxHeartbeats 4000000 in
set_option maxRecDepth 20000 in
theorem we_J6_bitCount_0f7a4 (g : kf_G) (hg : kf_g g) {x : kf_X} (hx : kf_ok g x RJ6 cJ6_bitCount_0f7a4 1 0 0) (x0 : Int32) (I : HI) (J : HJ) (Post : Int32 → Prop) (hret : ∀ (pc : Nat) (lv : List (Nat × Value)) (v : Int32), decode cJ6_bitCount_0f7a4 pc = .ok (.ireturn, 1) → Post v → kf_M g x 1 pc lv [.int v] I J) (h : w_J6_bitCount_0f7a4 x0 Post) : kf_M g x 1 0 [(0, .int x0)] [] I J := by
  unfold w_J6_bitCount_0f7a4 at h
  refine kf_iload_n hx dJ6_bitCount_0f7a4_0 rfl 0 rfl ?_
  refine kf_iload_n hx dJ6_bitCount_0f7a4_1 rfl 0 rfl ?_
  refine kf_iconst (v := 1) hx dJ6_bitCount_0f7a4_2 (by decide) ?_
  refine kf_iushr hx dJ6_bitCount_0f7a4_3 ?_
  refine kf_ldcw hx ko_RJ6_265 dJ6_bitCount_0f7a4_4 ?_
  refine kf_iand hx dJ6_bitCount_0f7a4_7 ?_
  refine kf_isub hx dJ6_bitCount_0f7a4_8 ?_
  refine kf_topi (fun z_1 ez_1 => ?_)
  replace h := h z_1 ez_1
  refine kf_istore_n (lv' := [(0, .int z_1)]) hx dJ6_bitCount_0f7a4_9 rfl (by decide) rfl ?_
  refine kf_iload_n hx dJ6_bitCount_0f7a4_10 rfl 0 rfl ?_
  refine kf_ldcw hx ko_RJ6_266 dJ6_bitCount_0f7a4_11 ?_
  refine kf_iand hx dJ6_bitCount_0f7a4_14 ?_
  refine kf_iload_n hx dJ6_bitCount_0f7a4_15 rfl 0 rfl ?_
  refine kf_iconst (v := 2) hx dJ6_bitCount_0f7a4_16 (by decide) ?_
  refine kf_iushr hx dJ6_bitCount_0f7a4_17 ?_
  refine kf_ldcw hx ko_RJ6_266 dJ6_bitCount_0f7a4_18 ?_
  refine kf_iand hx dJ6_bitCount_0f7a4_21 ?_
  refine kf_iadd hx dJ6_bitCount_0f7a4_22 ?_
  refine kf_topi (fun z_2 ez_2 => ?_)
  replace h := h z_2 ez_2
  refine kf_istore_n (lv' := [(0, .int z_2)]) hx dJ6_bitCount_0f7a4_23 rfl (by decide) rfl ?_
  refine kf_iload_n hx dJ6_bitCount_0f7a4_24 rfl 0 rfl ?_
  refine kf_iload_n hx dJ6_bitCount_0f7a4_25 rfl 0 rfl ?_
  refine kf_iconst (v := 4) hx dJ6_bitCount_0f7a4_26 (by decide) ?_
  refine kf_iushr hx dJ6_bitCount_0f7a4_27 ?_
  refine kf_iadd hx dJ6_bitCount_0f7a4_28 ?_
  refine kf_ldcw hx ko_RJ6_267 dJ6_bitCount_0f7a4_29 ?_
  refine kf_iand hx dJ6_bitCount_0f7a4_32 ?_
  refine kf_topi (fun z_3 ez_3 => ?_)
  replace h := h z_3 ez_3
  refine kf_istore_n (lv' := [(0, .int z_3)]) hx dJ6_bitCount_0f7a4_33 rfl (by decide) rfl ?_
  refine kf_iload_n hx dJ6_bitCount_0f7a4_34 rfl 0 rfl ?_
  refine kf_iload_n hx dJ6_bitCount_0f7a4_35 rfl 0 rfl ?_
  refine kf_bipush (v := 8) hx dJ6_bitCount_0f7a4_36 (by decide) ?_
  refine kf_iushr hx dJ6_bitCount_0f7a4_38 ?_
  refine kf_iadd hx dJ6_bitCount_0f7a4_39 ?_
  refine kf_topi (fun z_4 ez_4 => ?_)
  replace h := h z_4 ez_4
  refine kf_istore_n (lv' := [(0, .int z_4)]) hx dJ6_bitCount_0f7a4_40 rfl (by decide) rfl ?_
  refine kf_iload_n hx dJ6_bitCount_0f7a4_41 rfl 0 rfl ?_
  refine kf_iload_n hx dJ6_bitCount_0f7a4_42 rfl 0 rfl ?_
  refine kf_bipush (v := 16) hx dJ6_bitCount_0f7a4_43 (by decide) ?_
  refine kf_iushr hx dJ6_bitCount_0f7a4_45 ?_
  refine kf_iadd hx dJ6_bitCount_0f7a4_46 ?_
  refine kf_topi (fun z_5 ez_5 => ?_)
  replace h := h z_5 ez_5
  refine kf_istore_n (lv' := [(0, .int z_5)]) hx dJ6_bitCount_0f7a4_47 rfl (by decide) rfl ?_
  refine kf_iload_n hx dJ6_bitCount_0f7a4_48 rfl 0 rfl ?_
  refine kf_bipush (v := 63) hx dJ6_bitCount_0f7a4_49 (by decide) ?_
  refine kf_iand hx dJ6_bitCount_0f7a4_51 ?_
  exact hret _ _ (z_5 &&& 63)  dJ6_bitCount_0f7a4_52 h
set_option maxHeartbeats 4000000 in
set_option maxRecDepth 20000 in
theorem m_J6_bitCount_0f7a4 (g : kf_G) (hg : kf_g g) (x0 : Int32) (I : HI) (J : HJ) (Post : Int32 → Prop) (h : w_J6_bitCount_0f7a4 x0 Post) : kf_Mi g yJ6_bitCount_0f7a4 (kf_W yJ6_bitCount_0f7a4 cJ6_bitCount_0f7a4 1 (Option.some Jvm.ClassFile.FieldType.int)) 0 0 [.int x0] I J (fun v I' J' => Post v ∧ I' = I ∧ J' = J) :=
  kf_enti hg (by decide) (Nat.le_of_ble_eq_true rfl) rfl (fun x hx hr => we_J6_bitCount_0f7a4 g hg hx x0 I J Post (fun pc lv v hd hP => hr pc lv v I J hd ⟨hP, rfl, rfl⟩) h)
theorem dX10_has_0 : decode cX10_has 0 = .ok (.iload_n 0, 1) := by decide +kernel
theorem dX10_has_1 : decode cX10_has 1 = .ok (.iload_n 1, 1) := by decide +kernel
theorem dX10_has_2 : decode cX10_has 2 = .ok (.ishr, 1) := by decide +kernel
theorem dX10_has_3 : decode cX10_has 3 = .ok (.iconst 1, 1) := by decide +kernel
theorem dX10_has_4 : decode cX10_has 4 = .ok (.iand, 1) := by decide +kernel
theorem dX10_has_5 : decode cX10_has 5 = .ok (.ifCond .eq 7, 3) := by decide +kernel
theorem dX10_has_8 : decode cX10_has 8 = .ok (.iconst 1, 1) := by decide +kernel
theorem dX10_has_9 : decode cX10_has 9 = .ok (.goto 4, 3) := by decide +kernel
theorem dX10_has_12 : decode cX10_has 12 = .ok (.iconst 0, 1) := by decide +kernel
theorem dX10_has_13 : decode cX10_has 13 = .ok (.ireturn, 1) := by decide +kernel
def w_X10_has (x0 : Int32) (x1 : Int32) (Post : Bool → Prop) : Prop :=
  (((x0 >>> (x1 &&& 31)) &&& 1) = 0 → (Post false)) ∧ (¬ ((x0 >>> (x1 &&& 31)) &&& 1) = 0 → (Post true))
set_option maxHeartbeats 4000000 in
set_option maxRecDepth 20000 in
theorem we_X10_has (g : kf_G) (hg : kf_g g) {x : kf_X} (hx : kf_ok g x RX10 cX10_has 2 0 0) (x0 : Int32) (x1 : Int32) (I : HI) (J : HJ) (Post : Bool → Prop) (hret : ∀ (pc : Nat) (lv : List (Nat × Value)) (v : Bool), decode cX10_has pc = .ok (.ireturn, 1) → Post v → kf_M g x 2 pc lv [.int (kb v)] I J) (h : w_X10_has x0 x1 Post) : kf_M g x 2 0 [(0, .int x0), (1, .int x1)] [] I J := by
  unfold w_X10_has at h
  refine kf_iload_n hx dX10_has_0 rfl 0 rfl ?_
  refine kf_iload_n hx dX10_has_1 rfl 1 rfl ?_
  refine kf_ishr hx dX10_has_2 ?_
  refine kf_iconst (v := 1) hx dX10_has_3 (by decide) ?_
  refine kf_iand hx dX10_has_4 ?_
  refine kf_if_eq hx 12 dX10_has_5 (by decide) (fun c => ?_) (fun c => ?_)
  · replace h := h.1 c
    refine kf_iconst (v := 0) hx dX10_has_12 (by decide) ?_
    exact hret _ _ false  dX10_has_13 h
  · replace h := h.2 c
    refine kf_iconst (v := 1) hx dX10_has_8 (by decide) ?_
    refine kf_goto hx 13 dX10_has_9 (by decide) ?_
    exact hret _ _ true  dX10_has_13 h
set_option maxHeartbeats 4000000 in
set_option maxRecDepth 20000 in
theorem m_X10_has (g : kf_G) (hg : kf_g g) (x0 : Int32) (x1 : Int32) (I : HI) (J : HJ) (Post : Bool → Prop) (h : w_X10_has x0 x1 Post) : kf_Mb g yX10_has (kf_W yX10_has cX10_has 2 (Option.some Jvm.ClassFile.FieldType.boolean)) 0 0 [.int x0, .int x1] I J (fun v I' J' => Post v ∧ I' = I ∧ J' = J) :=
  kf_entb hg (by decide) (Nat.le_of_ble_eq_true rfl) rfl (fun x hx hr => we_X10_has g hg hx x0 x1 I J Post (fun pc lv v hd hP => hr pc lv v I J hd ⟨hP, rfl, rfl⟩) h)
theorem dX0_valleysLet_0 : decode cX0_valleysLet 0 = .ok (.iconst 0, 1) := by decide +kernel
theorem dX0_valleysLet_1 : decode cX0_valleysLet 1 = .ok (.istore_n 2, 1) := by decide +kernel
theorem dX0_valleysLet_2 : decode cX0_valleysLet 2 = .ok (.iload_n 2, 1) := by decide +kernel
theorem dX0_valleysLet_3 : decode cX0_valleysLet 3 = .ok (.iconst 4, 1) := by decide +kernel
theorem dX0_valleysLet_4 : decode cX0_valleysLet 4 = .ok (.if_icmp .ge 73, 3) := by decide +kernel
theorem dX0_valleysLet_7 : decode cX0_valleysLet 7 = .ok (.iconst 0, 1) := by decide +kernel
theorem dX0_valleysLet_8 : decode cX0_valleysLet 8 = .ok (.istore_n 3, 1) := by decide +kernel
theorem dX0_valleysLet_9 : decode cX0_valleysLet 9 = .ok (.iconst 0, 1) := by decide +kernel
theorem dX0_valleysLet_10 : decode cX0_valleysLet 10 = .ok (.istore 4, 2) := by decide +kernel
theorem dX0_valleysLet_12 : decode cX0_valleysLet 12 = .ok (.iload 4, 2) := by decide +kernel
theorem dX0_valleysLet_14 : decode cX0_valleysLet 14 = .ok (.aload_n 0, 1) := by decide +kernel
theorem dX0_valleysLet_15 : decode cX0_valleysLet 15 = .ok (.getfield 15, 3) := by decide +kernel
theorem dX0_valleysLet_18 : decode cX0_valleysLet 18 = .ok (.getfield 31, 3) := by decide +kernel
theorem dX0_valleysLet_21 : decode cX0_valleysLet 21 = .ok (.if_icmp .ge 35, 3) := by decide +kernel
theorem dX0_valleysLet_24 : decode cX0_valleysLet 24 = .ok (.iload_n 1, 1) := by decide +kernel
theorem dX0_valleysLet_25 : decode cX0_valleysLet 25 = .ok (.iload 4, 2) := by decide +kernel
theorem dX0_valleysLet_27 : decode cX0_valleysLet 27 = .ok (.invokestatic 56, 3) := by decide +kernel
theorem dX0_valleysLet_30 : decode cX0_valleysLet 30 = .ok (.ifCond .eq 20, 3) := by decide +kernel
theorem dX0_valleysLet_33 : decode cX0_valleysLet 33 = .ok (.aload_n 0, 1) := by decide +kernel
theorem dX0_valleysLet_34 : decode cX0_valleysLet 34 = .ok (.getfield 15, 3) := by decide +kernel
theorem dX0_valleysLet_37 : decode cX0_valleysLet 37 = .ok (.getfield 67, 3) := by decide +kernel
theorem dX0_valleysLet_40 : decode cX0_valleysLet 40 = .ok (.iload 4, 2) := by decide +kernel
theorem dX0_valleysLet_42 : decode cX0_valleysLet 42 = .ok (.iaload, 1) := by decide +kernel
theorem dX0_valleysLet_43 : decode cX0_valleysLet 43 = .ok (.iload_n 2, 1) := by decide +kernel
theorem dX0_valleysLet_44 : decode cX0_valleysLet 44 = .ok (.if_icmp .ne 6, 3) := by decide +kernel
theorem dX0_valleysLet_47 : decode cX0_valleysLet 47 = .ok (.iinc 3 1, 3) := by decide +kernel
theorem dX0_valleysLet_50 : decode cX0_valleysLet 50 = .ok (.iinc 4 1, 3) := by decide +kernel
theorem dX0_valleysLet_53 : decode cX0_valleysLet 53 = .ok (.goto (-41), 3) := by decide +kernel
theorem dX0_valleysLet_56 : decode cX0_valleysLet 56 = .ok (.iload_n 3, 1) := by decide +kernel
theorem dX0_valleysLet_57 : decode cX0_valleysLet 57 = .ok (.aload_n 0, 1) := by decide +kernel
theorem dX0_valleysLet_58 : decode cX0_valleysLet 58 = .ok (.getfield 15, 3) := by decide +kernel
theorem dX0_valleysLet_61 : decode cX0_valleysLet 61 = .ok (.getfield 70, 3) := by decide +kernel
theorem dX0_valleysLet_64 : decode cX0_valleysLet 64 = .ok (.iload_n 2, 1) := by decide +kernel
theorem dX0_valleysLet_65 : decode cX0_valleysLet 65 = .ok (.iaload, 1) := by decide +kernel
theorem dX0_valleysLet_66 : decode cX0_valleysLet 66 = .ok (.if_icmp .le 5, 3) := by decide +kernel
theorem dX0_valleysLet_69 : decode cX0_valleysLet 69 = .ok (.iconst 0, 1) := by decide +kernel
theorem dX0_valleysLet_70 : decode cX0_valleysLet 70 = .ok (.ireturn, 1) := by decide +kernel
theorem dX0_valleysLet_71 : decode cX0_valleysLet 71 = .ok (.iinc 2 1, 3) := by decide +kernel
theorem dX0_valleysLet_74 : decode cX0_valleysLet 74 = .ok (.goto (-72), 3) := by decide +kernel
theorem dX0_valleysLet_77 : decode cX0_valleysLet 77 = .ok (.iconst 1, 1) := by decide +kernel
theorem dX0_valleysLet_78 : decode cX0_valleysLet 78 = .ok (.ireturn, 1) := by decide +kernel
def wb_X0_valleysLet_12 (I : HI) (J : HJ) (x1 : Int32) (x2 : Int32) (E2 : Prop) (K2 : Int32 → Prop) (Post : Bool → Prop) (E12 : Int32 → Prop) (K12 : (Int32 × Int32) → Prop) (s : Int32 × Int32) : Prop :=
  match s with
  | (x3, x4) => ((I 12 11) ≤ x4 → (E12 x3)) ∧ (¬ (I 12 11) ≤ x4 → (w_X10_has x1 x4 (fun (r_1 : Bool) => ((r_1 = false → (K12 (x3, (x4 + 1)))) ∧ (r_1 = true → (vp_in x4 12 ∧ ((¬ (I 13 (Int32.toNatClampNeg x4)) = x2 → (K12 (x3, (x4 + 1)))) ∧ ((I 13 (Int32.toNatClampNeg x4)) = x2 → (K12 ((x3 + 1), (x4 + 1)))))))))))
set_option maxHeartbeats 4000000 in
set_option maxRecDepth 20000 in
theorem ws_X0_valleysLet_12 (g : kf_G) (hg : kf_g g) {x : kf_X} (hx : kf_ok g x RX0 cX0_valleysLet 5 1 21) (I : HI) (J : HJ) (x1 : Int32) (x2 : Int32) (E2 : Prop) (K2 : Int32 → Prop) (hE2 : E2 → kf_M g x 5 77 [] [] I J) (hK2 : ∀ (y2 : Int32), K2 y2 → kf_M g x 5 2 [(0, .ref (g.2.2.2 41)), (1, .int x1), (2, .int y2)] [] I J) (Post : Bool → Prop) (hret : ∀ (pc : Nat) (lv : List (Nat × Value)) (v : Bool), decode cX0_valleysLet pc = .ok (.ireturn, 1) → Post v → kf_M g x 5 pc lv [.int (kb v)] I J) (E12 : Int32 → Prop) (hE12 : ∀ (y3 : Int32), E12 y3 → kf_M g x 5 56 [(0, .ref (g.2.2.2 41)), (1, .int x1), (2, .int x2), (3, .int y3)] [] I J) (K12 : (Int32 × Int32) → Prop) (hK12 : ∀ (y3 : Int32) (y4 : Int32), K12 (y3, y4) → kf_M g x 5 12 [(0, .ref (g.2.2.2 41)), (1, .int x1), (2, .int x2), (3, .int y3), (4, .int y4)] [] I J) (x3 : Int32) (x4 : Int32) (h : wb_X0_valleysLet_12 I J x1 x2 E2 K2 Post E12 K12 (x3, x4)) : kf_M g x 5 12 [(0, .ref (g.2.2.2 41)), (1, .int x1), (2, .int x2), (3, .int x3), (4, .int x4)] [] I J := by
  unfold wb_X0_valleysLet_12 at h
  refine kf_iload hx dX0_valleysLet_12 4 rfl ?_
  refine kf_aload_n hx dX0_valleysLet_14 rfl 0 rfl ?_
  refine kf_getR (n := 12) hx sl_41_0 fl_RX0_15 dX0_valleysLet_15 ?_
  refine kf_getI hx sl_12_11 fl_RX0_31 dX0_valleysLet_18 ?_
  refine kf_icmp_ge hx 56 dX0_valleysLet_21 (by decide) (fun c => ?_) (fun c => ?_)
  · replace h := h.1 c
    refine kf_sub [0, 1, 2, 3] rfl ?_
    exact hE12 _ h
  · replace h := h.2 c
    refine kf_iload_n hx dX0_valleysLet_24 rfl 1 rfl ?_
    refine kf_iload hx dX0_valleysLet_25 4 rfl ?_
    refine kf_callSbP (st := []) hx (m_X10_has g hg x1 x4 I J _ h) lk_RX0_56 km_X10_has rfl (by decide) rfl (Nat.le_of_ble_eq_true rfl) dX0_valleysLet_27 (fun r_1 h => ?_)
    refine kf_ifB_eq hx 50 dX0_valleysLet_30 (by decide) (fun c => ?_) (fun c => ?_)
    · replace h := h.1 c
      refine kf_iinc (w := (x4 + 1)) (lv' := [(4, .int (x4 + 1)), (0, .ref (g.2.2.2 41)), (1, .int x1), (2, .int x2), (3, .int x3)]) hx dX0_valleysLet_50 4 rfl rfl (by decide) rfl ?_
      refine kf_goto hx 12 dX0_valleysLet_53 (by decide) ?_
      refine kf_sub [1, 2, 3, 4, 0] rfl ?_
      exact hK12 _ _ h
    · replace h := h.2 c
      refine kf_aload_n hx dX0_valleysLet_33 rfl 0 rfl ?_
      refine kf_getR (n := 12) hx sl_41_0 fl_RX0_15 dX0_valleysLet_34 ?_
      refine kf_getR (n := 13) hx sl_12_0 fl_RX0_67 dX0_valleysLet_37 ?_
      refine kf_iload hx dX0_valleysLet_40 4 rfl ?_
      refine kf_iald hx ar_13 h.1 dX0_valleysLet_42 ?_
      replace h := h.2
      refine kf_iload_n hx dX0_valleysLet_43 rfl 2 rfl ?_
      refine kf_icmp_ne hx 50 dX0_valleysLet_44 (by decide) (fun c => ?_) (fun c => ?_)
      · replace h := h.1 c
        refine kf_iinc (w := (x4 + 1)) (lv' := [(4, .int (x4 + 1)), (0, .ref (g.2.2.2 41)), (1, .int x1), (2, .int x2), (3, .int x3)]) hx dX0_valleysLet_50 4 rfl rfl (by decide) rfl ?_
        refine kf_goto hx 12 dX0_valleysLet_53 (by decide) ?_
        refine kf_sub [1, 2, 3, 4, 0] rfl ?_
        exact hK12 _ _ h
      · replace h := h.2 c
        refine kf_iinc (w := (x3 + 1)) (lv' := [(3, .int (x3 + 1)), (0, .ref (g.2.2.2 41)), (1, .int x1), (2, .int x2), (4, .int x4)]) hx dX0_valleysLet_47 3 rfl rfl (by decide) rfl ?_
        refine kf_iinc (w := (x4 + 1)) (lv' := [(4, .int (x4 + 1)), (3, .int (x3 + 1)), (0, .ref (g.2.2.2 41)), (1, .int x1), (2, .int x2)]) hx dX0_valleysLet_50 4 rfl rfl (by decide) rfl ?_
        refine kf_goto hx 12 dX0_valleysLet_53 (by decide) ?_
        refine kf_sub [2, 3, 4, 1, 0] rfl ?_
        exact hK12 _ _ h
theorem wl_X0_valleysLet_12 (g : kf_G) (hg : kf_g g) {x : kf_X} (hx : kf_ok g x RX0 cX0_valleysLet 5 1 21) (I : HI) (J : HJ) (x1 : Int32) (x2 : Int32) (E2 : Prop) (K2 : Int32 → Prop) (hE2 : E2 → kf_M g x 5 77 [] [] I J) (hK2 : ∀ (y2 : Int32), K2 y2 → kf_M g x 5 2 [(0, .ref (g.2.2.2 41)), (1, .int x1), (2, .int y2)] [] I J) (Post : Bool → Prop) (hret : ∀ (pc : Nat) (lv : List (Nat × Value)) (v : Bool), decode cX0_valleysLet pc = .ok (.ireturn, 1) → Post v → kf_M g x 5 pc lv [.int (kb v)] I J) (E12 : Int32 → Prop) (hE12 : ∀ (y3 : Int32), E12 y3 → kf_M g x 5 56 [(0, .ref (g.2.2.2 41)), (1, .int x1), (2, .int x2), (3, .int y3)] [] I J) : ∀ (n : Nat) (x3 : Int32) (x4 : Int32), lp (wb_X0_valleysLet_12 I J x1 x2 E2 K2 Post E12) n (x3, x4) → kf_M g x 5 12 [(0, .ref (g.2.2.2 41)), (1, .int x1), (2, .int x2), (3, .int x3), (4, .int x4)] [] I J := by
  intro n
  induction n with
  | zero => intro x3 x4 h; exact h.elim
  | succ n ih => intro x3 x4 h; exact ws_X0_valleysLet_12 g hg hx I J x1 x2 E2 K2 hE2 hK2 Post hret E12 hE12 (lp (wb_X0_valleysLet_12 I J x1 x2 E2 K2 Post E12) n) ih x3 x4 h
def wb_X0_valleysLet_2 (I : HI) (J : HJ) (x1 : Int32) (Post : Bool → Prop) (E2 : Prop) (K2 : Int32 → Prop) (x2 : Int32) : Prop :=
  (4 ≤ x2 → E2) ∧ (¬ 4 ≤ x2 → (∃ n, lp (wb_X0_valleysLet_12 I J x1 x2 E2 K2 Post (fun (x3_2 : Int32) => vp_in x2 4 ∧ ((x3_2 ≤ (I 23 (Int32.toNatClampNeg x2)) → (K2 (x2 + 1))) ∧ (¬ x3_2 ≤ (I 23 (Int32.toNatClampNeg x2)) → (Post false))))) n (0, 0)))
set_option maxHeartbeats 4000000 in
set_option maxRecDepth 20000 in
theorem ws_X0_valleysLet_2 (g : kf_G) (hg : kf_g g) {x : kf_X} (hx : kf_ok g x RX0 cX0_valleysLet 5 1 21) (I : HI) (J : HJ) (x1 : Int32) (Post : Bool → Prop) (hret : ∀ (pc : Nat) (lv : List (Nat × Value)) (v : Bool), decode cX0_valleysLet pc = .ok (.ireturn, 1) → Post v → kf_M g x 5 pc lv [.int (kb v)] I J) (E2 : Prop) (hE2 : E2 → kf_M g x 5 77 [] [] I J) (K2 : Int32 → Prop) (hK2 : ∀ (y2 : Int32), K2 y2 → kf_M g x 5 2 [(0, .ref (g.2.2.2 41)), (1, .int x1), (2, .int y2)] [] I J) (x2 : Int32) (h : wb_X0_valleysLet_2 I J x1 Post E2 K2 x2) : kf_M g x 5 2 [(0, .ref (g.2.2.2 41)), (1, .int x1), (2, .int x2)] [] I J := by
  unfold wb_X0_valleysLet_2 at h
  refine kf_iload_n hx dX0_valleysLet_2 rfl 2 rfl ?_
  refine kf_iconst (v := 4) hx dX0_valleysLet_3 (by decide) ?_
  refine kf_icmp_ge hx 77 dX0_valleysLet_4 (by decide) (fun c => ?_) (fun c => ?_)
  · replace h := h.1 c
    refine kf_sub [] rfl ?_
    exact hE2  h
  · replace h := h.2 c
    refine kf_iconst (v := 0) hx dX0_valleysLet_7 (by decide) ?_
    refine kf_istore_n (lv' := [(3, .int 0), (0, .ref (g.2.2.2 41)), (1, .int x1), (2, .int x2)]) hx dX0_valleysLet_8 rfl (by decide) rfl ?_
    refine kf_iconst (v := 0) hx dX0_valleysLet_9 (by decide) ?_
    refine kf_istore (lv' := [(4, .int 0), (3, .int 0), (0, .ref (g.2.2.2 41)), (1, .int x1), (2, .int x2)]) hx dX0_valleysLet_10 (by decide) rfl ?_
    obtain ⟨n, h⟩ := h
    refine kf_sub [2, 3, 4, 1, 0] rfl ?_
    refine wl_X0_valleysLet_12 g hg hx I J x1 x2 _ _ hE2 hK2 _ hret _ (fun x3_2 h => ?_) n _ _ h
    refine kf_iload_n hx dX0_valleysLet_56 rfl 3 rfl ?_
    refine kf_aload_n hx dX0_valleysLet_57 rfl 0 rfl ?_
    refine kf_getR (n := 12) hx sl_41_0 fl_RX0_15 dX0_valleysLet_58 ?_
    refine kf_getR (n := 23) hx sl_12_10 fl_RX0_70 dX0_valleysLet_61 ?_
    refine kf_iload_n hx dX0_valleysLet_64 rfl 2 rfl ?_
    refine kf_iald hx ar_23 h.1 dX0_valleysLet_65 ?_
    replace h := h.2
    refine kf_icmp_le hx 71 dX0_valleysLet_66 (by decide) (fun c => ?_) (fun c => ?_)
    · replace h := h.1 c
      refine kf_iinc (w := (x2 + 1)) (lv' := [(2, .int (x2 + 1)), (0, .ref (g.2.2.2 41)), (1, .int x1), (3, .int x3_2)]) hx dX0_valleysLet_71 2 rfl rfl (by decide) rfl ?_
      refine kf_goto hx 2 dX0_valleysLet_74 (by decide) ?_
      refine kf_sub [1, 2, 0] rfl ?_
      exact hK2 _ h
    · replace h := h.2 c
      refine kf_iconst (v := 0) hx dX0_valleysLet_69 (by decide) ?_
      exact hret _ _ false  dX0_valleysLet_70 h
theorem wl_X0_valleysLet_2 (g : kf_G) (hg : kf_g g) {x : kf_X} (hx : kf_ok g x RX0 cX0_valleysLet 5 1 21) (I : HI) (J : HJ) (x1 : Int32) (Post : Bool → Prop) (hret : ∀ (pc : Nat) (lv : List (Nat × Value)) (v : Bool), decode cX0_valleysLet pc = .ok (.ireturn, 1) → Post v → kf_M g x 5 pc lv [.int (kb v)] I J) (E2 : Prop) (hE2 : E2 → kf_M g x 5 77 [] [] I J) : ∀ (n : Nat) (x2 : Int32), lp (wb_X0_valleysLet_2 I J x1 Post E2) n x2 → kf_M g x 5 2 [(0, .ref (g.2.2.2 41)), (1, .int x1), (2, .int x2)] [] I J := by
  intro n
  induction n with
  | zero => intro x2 h; exact h.elim
  | succ n ih => intro x2 h; exact ws_X0_valleysLet_2 g hg hx I J x1 Post hret E2 hE2 (lp (wb_X0_valleysLet_2 I J x1 Post E2) n) ih x2 h
def w_X0_valleysLet (x1 : Int32) (I : HI) (J : HJ) (Post : Bool → Prop) : Prop :=
  ∃ n, lp (wb_X0_valleysLet_2 I J x1 Post (Post true)) n 0
set_option maxHeartbeats 4000000 in
set_option maxRecDepth 20000 in
theorem we_X0_valleysLet (g : kf_G) (hg : kf_g g) {x : kf_X} (hx : kf_ok g x RX0 cX0_valleysLet 5 1 21) (x1 : Int32) (I : HI) (J : HJ) (Post : Bool → Prop) (hret : ∀ (pc : Nat) (lv : List (Nat × Value)) (v : Bool), decode cX0_valleysLet pc = .ok (.ireturn, 1) → Post v → kf_M g x 5 pc lv [.int (kb v)] I J) (h : w_X0_valleysLet x1 I J Post) : kf_M g x 5 0 [(0, .ref (g.2.2.2 41)), (1, .int x1)] [] I J := by
  unfold w_X0_valleysLet at h
  refine kf_iconst (v := 0) hx dX0_valleysLet_0 (by decide) ?_
  refine kf_istore_n (lv' := [(2, .int 0), (0, .ref (g.2.2.2 41)), (1, .int x1)]) hx dX0_valleysLet_1 rfl (by decide) rfl ?_
  obtain ⟨n, h⟩ := h
  refine kf_sub [1, 2, 0] rfl ?_
  refine wl_X0_valleysLet_2 g hg hx I J x1 _ hret _ (fun h => ?_) n _ h
  refine kf_iconst (v := 1) hx dX0_valleysLet_77 (by decide) ?_
  exact hret _ _ true  dX0_valleysLet_78 h
set_option maxHeartbeats 4000000 in
set_option maxRecDepth 20000 in
theorem m_X0_valleysLet (g : kf_G) (hg : kf_g g) (x1 : Int32) (I : HI) (J : HJ) (Post : Bool → Prop) (h : w_X0_valleysLet x1 I J Post) : kf_Mb g yX0_valleysLet (kf_W yX0_valleysLet cX0_valleysLet 5 (Option.some Jvm.ClassFile.FieldType.boolean)) 1 21 [.ref (g.2.2.2 41), .int x1] I J (fun v I' J' => Post v ∧ I' = I ∧ J' = J) :=
  kf_entb hg (by decide) (Nat.le_of_ble_eq_true rfl) rfl (fun x hx hr => we_X0_valleysLet g hg hx x1 I J Post (fun pc lv v hd hP => hr pc lv v I J hd ⟨hP, rfl, rfl⟩) h)
theorem dX0_mayBeChosen_0 : decode cX0_mayBeChosen 0 = .ok (.iload_n 1, 1) := by decide +kernel
theorem dX0_mayBeChosen_1 : decode cX0_mayBeChosen 1 = .ok (.invokestatic 50, 3) := by decide +kernel
theorem dX0_mayBeChosen_4 : decode cX0_mayBeChosen 4 = .ok (.iload_n 2, 1) := by decide +kernel
theorem dX0_mayBeChosen_5 : decode cX0_mayBeChosen 5 = .ok (.if_icmp .le 5, 3) := by decide +kernel
theorem dX0_mayBeChosen_8 : decode cX0_mayBeChosen 8 = .ok (.iconst 0, 1) := by decide +kernel
theorem dX0_mayBeChosen_9 : decode cX0_mayBeChosen 9 = .ok (.ireturn, 1) := by decide +kernel
theorem dX0_mayBeChosen_10 : decode cX0_mayBeChosen 10 = .ok (.iconst 0, 1) := by decide +kernel
theorem dX0_mayBeChosen_11 : decode cX0_mayBeChosen 11 = .ok (.istore 4, 2) := by decide +kernel
theorem dX0_mayBeChosen_13 : decode cX0_mayBeChosen 13 = .ok (.iconst 0, 1) := by decide +kernel
theorem dX0_mayBeChosen_14 : decode cX0_mayBeChosen 14 = .ok (.istore 5, 2) := by decide +kernel
theorem dX0_mayBeChosen_16 : decode cX0_mayBeChosen 16 = .ok (.iload 5, 2) := by decide +kernel
theorem dX0_mayBeChosen_18 : decode cX0_mayBeChosen 18 = .ok (.aload_n 0, 1) := by decide +kernel
theorem dX0_mayBeChosen_19 : decode cX0_mayBeChosen 19 = .ok (.getfield 15, 3) := by decide +kernel
theorem dX0_mayBeChosen_22 : decode cX0_mayBeChosen 22 = .ok (.getfield 31, 3) := by decide +kernel
theorem dX0_mayBeChosen_25 : decode cX0_mayBeChosen 25 = .ok (.if_icmp .ge 33, 3) := by decide +kernel
theorem dX0_mayBeChosen_28 : decode cX0_mayBeChosen 28 = .ok (.iload_n 1, 1) := by decide +kernel
theorem dX0_mayBeChosen_29 : decode cX0_mayBeChosen 29 = .ok (.iload 5, 2) := by decide +kernel
theorem dX0_mayBeChosen_31 : decode cX0_mayBeChosen 31 = .ok (.invokestatic 56, 3) := by decide +kernel
theorem dX0_mayBeChosen_34 : decode cX0_mayBeChosen 34 = .ok (.ifCond .eq 18, 3) := by decide +kernel
theorem dX0_mayBeChosen_37 : decode cX0_mayBeChosen 37 = .ok (.iload 4, 2) := by decide +kernel
theorem dX0_mayBeChosen_39 : decode cX0_mayBeChosen 39 = .ok (.aload_n 0, 1) := by decide +kernel
theorem dX0_mayBeChosen_40 : decode cX0_mayBeChosen 40 = .ok (.getfield 15, 3) := by decide +kernel
theorem dX0_mayBeChosen_43 : decode cX0_mayBeChosen 43 = .ok (.getfield 59, 3) := by decide +kernel
theorem dX0_mayBeChosen_46 : decode cX0_mayBeChosen 46 = .ok (.iload 5, 2) := by decide +kernel
theorem dX0_mayBeChosen_48 : decode cX0_mayBeChosen 48 = .ok (.iaload, 1) := by decide +kernel
theorem dX0_mayBeChosen_49 : decode cX0_mayBeChosen 49 = .ok (.iadd, 1) := by decide +kernel
theorem dX0_mayBeChosen_50 : decode cX0_mayBeChosen 50 = .ok (.istore 4, 2) := by decide +kernel
theorem dX0_mayBeChosen_52 : decode cX0_mayBeChosen 52 = .ok (.iinc 5 1, 3) := by decide +kernel
theorem dX0_mayBeChosen_55 : decode cX0_mayBeChosen 55 = .ok (.goto (-39), 3) := by decide +kernel
theorem dX0_mayBeChosen_58 : decode cX0_mayBeChosen 58 = .ok (.iload 4, 2) := by decide +kernel
theorem dX0_mayBeChosen_60 : decode cX0_mayBeChosen 60 = .ok (.iload_n 3, 1) := by decide +kernel
theorem dX0_mayBeChosen_61 : decode cX0_mayBeChosen 61 = .ok (.if_icmp .gt 15, 3) := by decide +kernel
theorem dX0_mayBeChosen_64 : decode cX0_mayBeChosen 64 = .ok (.aload_n 0, 1) := by decide +kernel
theorem dX0_mayBeChosen_65 : decode cX0_mayBeChosen 65 = .ok (.iload_n 1, 1) := by decide +kernel
theorem dX0_mayBeChosen_66 : decode cX0_mayBeChosen 66 = .ok (.invokevirtual 63, 3) := by decide +kernel
theorem dX0_mayBeChosen_69 : decode cX0_mayBeChosen 69 = .ok (.ifCond .eq 7, 3) := by decide +kernel
theorem dX0_mayBeChosen_72 : decode cX0_mayBeChosen 72 = .ok (.iconst 1, 1) := by decide +kernel
theorem dX0_mayBeChosen_73 : decode cX0_mayBeChosen 73 = .ok (.goto 4, 3) := by decide +kernel
theorem dX0_mayBeChosen_76 : decode cX0_mayBeChosen 76 = .ok (.iconst 0, 1) := by decide +kernel
theorem dX0_mayBeChosen_77 : decode cX0_mayBeChosen 77 = .ok (.ireturn, 1) := by decide +kernel
def wb_X0_mayBeChosen_16 (I : HI) (J : HJ) (x1 : Int32) (x3 : Int32) (Post : Bool → Prop) (E16 : Int32 → Prop) (K16 : (Int32 × Int32) → Prop) (s : Int32 × Int32) : Prop :=
  match s with
  | (x4, x5) => ((I 12 11) ≤ x5 → (E16 x4)) ∧ (¬ (I 12 11) ≤ x5 → (w_X10_has x1 x5 (fun (r_2 : Bool) => ((r_2 = false → (K16 (x4, (x5 + 1)))) ∧ (r_2 = true → (vp_in x5 12 ∧ (K16 ((x4 + (I 16 (Int32.toNatClampNeg x5))), (x5 + 1)))))))))
set_option maxHeartbeats 4000000 in
set_option maxRecDepth 20000 in
theorem ws_X0_mayBeChosen_16 (g : kf_G) (hg : kf_g g) {x : kf_X} (hx : kf_ok g x RX0 cX0_mayBeChosen 6 2 45) (I : HI) (J : HJ) (x1 : Int32) (x3 : Int32) (Post : Bool → Prop) (hret : ∀ (pc : Nat) (lv : List (Nat × Value)) (v : Bool), decode cX0_mayBeChosen pc = .ok (.ireturn, 1) → Post v → kf_M g x 6 pc lv [.int (kb v)] I J) (E16 : Int32 → Prop) (hE16 : ∀ (y4 : Int32), E16 y4 → kf_M g x 6 58 [(0, .ref (g.2.2.2 41)), (1, .int x1), (3, .int x3), (4, .int y4)] [] I J) (K16 : (Int32 × Int32) → Prop) (hK16 : ∀ (y4 : Int32) (y5 : Int32), K16 (y4, y5) → kf_M g x 6 16 [(0, .ref (g.2.2.2 41)), (1, .int x1), (3, .int x3), (4, .int y4), (5, .int y5)] [] I J) (x4 : Int32) (x5 : Int32) (h : wb_X0_mayBeChosen_16 I J x1 x3 Post E16 K16 (x4, x5)) : kf_M g x 6 16 [(0, .ref (g.2.2.2 41)), (1, .int x1), (3, .int x3), (4, .int x4), (5, .int x5)] [] I J := by
  unfold wb_X0_mayBeChosen_16 at h
  refine kf_iload hx dX0_mayBeChosen_16 4 rfl ?_
  refine kf_aload_n hx dX0_mayBeChosen_18 rfl 0 rfl ?_
  refine kf_getR (n := 12) hx sl_41_0 fl_RX0_15 dX0_mayBeChosen_19 ?_
  refine kf_getI hx sl_12_11 fl_RX0_31 dX0_mayBeChosen_22 ?_
  refine kf_icmp_ge hx 58 dX0_mayBeChosen_25 (by decide) (fun c => ?_) (fun c => ?_)
  · replace h := h.1 c
    refine kf_sub [0, 1, 2, 3] rfl ?_
    exact hE16 _ h
  · replace h := h.2 c
    refine kf_iload_n hx dX0_mayBeChosen_28 rfl 1 rfl ?_
    refine kf_iload hx dX0_mayBeChosen_29 4 rfl ?_
    refine kf_callSbP (st := []) hx (m_X10_has g hg x1 x5 I J _ h) lk_RX0_56 km_X10_has rfl (by decide) rfl (Nat.le_of_ble_eq_true rfl) dX0_mayBeChosen_31 (fun r_2 h => ?_)
    refine kf_ifB_eq hx 52 dX0_mayBeChosen_34 (by decide) (fun c => ?_) (fun c => ?_)
    · replace h := h.1 c
      refine kf_iinc (w := (x5 + 1)) (lv' := [(5, .int (x5 + 1)), (0, .ref (g.2.2.2 41)), (1, .int x1), (3, .int x3), (4, .int x4)]) hx dX0_mayBeChosen_52 4 rfl rfl (by decide) rfl ?_
      refine kf_goto hx 16 dX0_mayBeChosen_55 (by decide) ?_
      refine kf_sub [1, 2, 3, 4, 0] rfl ?_
      exact hK16 _ _ h
    · replace h := h.2 c
      refine kf_iload hx dX0_mayBeChosen_37 3 rfl ?_
      refine kf_aload_n hx dX0_mayBeChosen_39 rfl 0 rfl ?_
      refine kf_getR (n := 12) hx sl_41_0 fl_RX0_15 dX0_mayBeChosen_40 ?_
      refine kf_getR (n := 16) hx sl_12_3 fl_RX0_59 dX0_mayBeChosen_43 ?_
      refine kf_iload hx dX0_mayBeChosen_46 4 rfl ?_
      refine kf_iald hx ar_16 h.1 dX0_mayBeChosen_48 ?_
      replace h := h.2
      refine kf_iadd hx dX0_mayBeChosen_49 ?_
      refine kf_istore (lv' := [(4, .int (x4 + (I 16 (Int32.toNatClampNeg x5)))), (0, .ref (g.2.2.2 41)), (1, .int x1), (3, .int x3), (5, .int x5)]) hx dX0_mayBeChosen_50 (by decide) rfl ?_
      refine kf_iinc (w := (x5 + 1)) (lv' := [(5, .int (x5 + 1)), (4, .int (x4 + (I 16 (Int32.toNatClampNeg x5)))), (0, .ref (g.2.2.2 41)), (1, .int x1), (3, .int x3)]) hx dX0_mayBeChosen_52 4 rfl rfl (by decide) rfl ?_
      refine kf_goto hx 16 dX0_mayBeChosen_55 (by decide) ?_
      refine kf_sub [2, 3, 4, 1, 0] rfl ?_
      exact hK16 _ _ h
theorem wl_X0_mayBeChosen_16 (g : kf_G) (hg : kf_g g) {x : kf_X} (hx : kf_ok g x RX0 cX0_mayBeChosen 6 2 45) (I : HI) (J : HJ) (x1 : Int32) (x3 : Int32) (Post : Bool → Prop) (hret : ∀ (pc : Nat) (lv : List (Nat × Value)) (v : Bool), decode cX0_mayBeChosen pc = .ok (.ireturn, 1) → Post v → kf_M g x 6 pc lv [.int (kb v)] I J) (E16 : Int32 → Prop) (hE16 : ∀ (y4 : Int32), E16 y4 → kf_M g x 6 58 [(0, .ref (g.2.2.2 41)), (1, .int x1), (3, .int x3), (4, .int y4)] [] I J) : ∀ (n : Nat) (x4 : Int32) (x5 : Int32), lp (wb_X0_mayBeChosen_16 I J x1 x3 Post E16) n (x4, x5) → kf_M g x 6 16 [(0, .ref (g.2.2.2 41)), (1, .int x1), (3, .int x3), (4, .int x4), (5, .int x5)] [] I J := by
  intro n
  induction n with
  | zero => intro x4 x5 h; exact h.elim
  | succ n ih => intro x4 x5 h; exact ws_X0_mayBeChosen_16 g hg hx I J x1 x3 Post hret E16 hE16 (lp (wb_X0_mayBeChosen_16 I J x1 x3 Post E16) n) ih x4 x5 h
def w_X0_mayBeChosen (x1 : Int32) (x2 : Int32) (x3 : Int32) (I : HI) (J : HJ) (Post : Bool → Prop) : Prop :=
  w_J6_bitCount_0f7a4 x1 (fun (r_1 : Int32) => ((r_1 ≤ x2 → (∃ n, lp (wb_X0_mayBeChosen_16 I J x1 x3 Post (fun (x4_3 : Int32) => (x3 < x4_3 → (Post false)) ∧ (¬ x3 < x4_3 → (w_X0_valleysLet x1 I J (fun (r_4 : Bool) => ((r_4 = false → (Post false)) ∧ (r_4 = true → (Post true)))))))) n (0, 0))) ∧ (¬ r_1 ≤ x2 → (Post false))))
set_option maxHeartbeats 4000000 in
set_option maxRecDepth 20000 in
theorem we_X0_mayBeChosen (g : kf_G) (hg : kf_g g) {x : kf_X} (hx : kf_ok g x RX0 cX0_mayBeChosen 6 2 45) (x1 : Int32) (x2 : Int32) (x3 : Int32) (I : HI) (J : HJ) (Post : Bool → Prop) (hret : ∀ (pc : Nat) (lv : List (Nat × Value)) (v : Bool), decode cX0_mayBeChosen pc = .ok (.ireturn, 1) → Post v → kf_M g x 6 pc lv [.int (kb v)] I J) (h : w_X0_mayBeChosen x1 x2 x3 I J Post) : kf_M g x 6 0 [(0, .ref (g.2.2.2 41)), (1, .int x1), (2, .int x2), (3, .int x3)] [] I J := by
  unfold w_X0_mayBeChosen at h
  refine kf_iload_n hx dX0_mayBeChosen_0 rfl 1 rfl ?_
  refine kf_callSiP (st := []) hx (m_J6_bitCount_0f7a4 g hg x1 I J _ h) lk_RX0_50 km_J6_bitCount_0f7a4 rfl (by decide) rfl (Nat.le_of_ble_eq_true rfl) dX0_mayBeChosen_1 (fun r_1 h => ?_)
  refine kf_iload_n hx dX0_mayBeChosen_4 rfl 2 rfl ?_
  refine kf_icmp_le hx 10 dX0_mayBeChosen_5 (by decide) (fun c => ?_) (fun c => ?_)
  · replace h := h.1 c
    refine kf_iconst (v := 0) hx dX0_mayBeChosen_10 (by decide) ?_
    refine kf_istore (lv' := [(4, .int 0), (0, .ref (g.2.2.2 41)), (1, .int x1), (2, .int x2), (3, .int x3)]) hx dX0_mayBeChosen_11 (by decide) rfl ?_
    refine kf_iconst (v := 0) hx dX0_mayBeChosen_13 (by decide) ?_
    refine kf_istore (lv' := [(5, .int 0), (4, .int 0), (0, .ref (g.2.2.2 41)), (1, .int x1), (2, .int x2), (3, .int x3)]) hx dX0_mayBeChosen_14 (by decide) rfl ?_
    obtain ⟨n, h⟩ := h
    refine kf_sub [2, 3, 5, 1, 0] rfl ?_
    refine wl_X0_mayBeChosen_16 g hg hx I J x1 x3 _ hret _ (fun x4_3 h => ?_) n _ _ h
    refine kf_iload hx dX0_mayBeChosen_58 3 rfl ?_
    refine kf_iload_n hx dX0_mayBeChosen_60 rfl 2 rfl ?_
    refine kf_icmp_gt hx 76 dX0_mayBeChosen_61 (by decide) (fun c => ?_) (fun c => ?_)
    · replace h := h.1 c
      refine kf_iconst (v := 0) hx dX0_mayBeChosen_76 (by decide) ?_
      exact hret _ _ false  dX0_mayBeChosen_77 h
    · replace h := h.2 c
      refine kf_aload_n hx dX0_mayBeChosen_64 rfl 0 rfl ?_
      refine kf_iload_n hx dX0_mayBeChosen_65 rfl 1 rfl ?_
      refine kf_callVbP (st := []) hx (m_X0_valleysLet g hg x1 I J _ h) lk_RX0_63 km_X0_valleysLet ob_41 rfl (by decide) rfl (Nat.le_of_ble_eq_true rfl) dX0_mayBeChosen_66 (fun r_4 h => ?_)
      refine kf_ifB_eq hx 76 dX0_mayBeChosen_69 (by decide) (fun c => ?_) (fun c => ?_)
      · replace h := h.1 c
        refine kf_iconst (v := 0) hx dX0_mayBeChosen_76 (by decide) ?_
        exact hret _ _ false  dX0_mayBeChosen_77 h
      · replace h := h.2 c
        refine kf_iconst (v := 1) hx dX0_mayBeChosen_72 (by decide) ?_
        refine kf_goto hx 77 dX0_mayBeChosen_73 (by decide) ?_
        exact hret _ _ true  dX0_mayBeChosen_77 h
  · replace h := h.2 c
    refine kf_iconst (v := 0) hx dX0_mayBeChosen_8 (by decide) ?_
    exact hret _ _ false  dX0_mayBeChosen_9 h
set_option maxHeartbeats 4000000 in
set_option maxRecDepth 20000 in
theorem m_X0_mayBeChosen (g : kf_G) (hg : kf_g g) (x1 : Int32) (x2 : Int32) (x3 : Int32) (I : HI) (J : HJ) (Post : Bool → Prop) (h : w_X0_mayBeChosen x1 x2 x3 I J Post) : kf_Mb g yX0_mayBeChosen (kf_W yX0_mayBeChosen cX0_mayBeChosen 6 (Option.some Jvm.ClassFile.FieldType.boolean)) 2 45 [.ref (g.2.2.2 41), .int x1, .int x2, .int x3] I J (fun v I' J' => Post v ∧ I' = I ∧ J' = J) :=
  kf_entb hg (by decide) (Nat.le_of_ble_eq_true rfl) rfl (fun x hx hr => we_X0_mayBeChosen g hg hx x1 x2 x3 I J Post (fun pc lv v hd hP => hr pc lv v I J hd ⟨hP, rfl, rfl⟩) h)
theorem dX4_tiesFrom_0 : decode cX4_tiesFrom 0 = .ok (.iconst 0, 1) := by decide +kernel
theorem dX4_tiesFrom_1 : decode cX4_tiesFrom 1 = .ok (.istore_n 2, 1) := by decide +kernel
theorem dX4_tiesFrom_2 : decode cX4_tiesFrom 2 = .ok (.iconst 0, 1) := by decide +kernel
theorem dX4_tiesFrom_3 : decode cX4_tiesFrom 3 = .ok (.istore_n 3, 1) := by decide +kernel
theorem dX4_tiesFrom_4 : decode cX4_tiesFrom 4 = .ok (.iload_n 3, 1) := by decide +kernel
theorem dX4_tiesFrom_5 : decode cX4_tiesFrom 5 = .ok (.aload_n 0, 1) := by decide +kernel
theorem dX4_tiesFrom_6 : decode cX4_tiesFrom 6 = .ok (.getfield 45, 3) := by decide +kernel
theorem dX4_tiesFrom_9 : decode cX4_tiesFrom 9 = .ok (.if_icmp .ge 26, 3) := by decide +kernel
theorem dX4_tiesFrom_12 : decode cX4_tiesFrom 12 = .ok (.iload_n 1, 1) := by decide +kernel
theorem dX4_tiesFrom_13 : decode cX4_tiesFrom 13 = .ok (.iload_n 3, 1) := by decide +kernel
theorem dX4_tiesFrom_14 : decode cX4_tiesFrom 14 = .ok (.invokestatic 72, 3) := by decide +kernel
theorem dX4_tiesFrom_17 : decode cX4_tiesFrom 17 = .ok (.ifCond .eq 12, 3) := by decide +kernel
theorem dX4_tiesFrom_20 : decode cX4_tiesFrom 20 = .ok (.iload_n 2, 1) := by decide +kernel
theorem dX4_tiesFrom_21 : decode cX4_tiesFrom 21 = .ok (.aload_n 0, 1) := by decide +kernel
theorem dX4_tiesFrom_22 : decode cX4_tiesFrom 22 = .ok (.getfield 27, 3) := by decide +kernel
theorem dX4_tiesFrom_25 : decode cX4_tiesFrom 25 = .ok (.iload_n 3, 1) := by decide +kernel
theorem dX4_tiesFrom_26 : decode cX4_tiesFrom 26 = .ok (.iaload, 1) := by decide +kernel
theorem dX4_tiesFrom_27 : decode cX4_tiesFrom 27 = .ok (.ior, 1) := by decide +kernel
theorem dX4_tiesFrom_28 : decode cX4_tiesFrom 28 = .ok (.istore_n 2, 1) := by decide +kernel
theorem dX4_tiesFrom_29 : decode cX4_tiesFrom 29 = .ok (.iinc 3 1, 3) := by decide +kernel
theorem dX4_tiesFrom_32 : decode cX4_tiesFrom 32 = .ok (.goto (-28), 3) := by decide +kernel
theorem dX4_tiesFrom_35 : decode cX4_tiesFrom 35 = .ok (.iload_n 2, 1) := by decide +kernel
theorem dX4_tiesFrom_36 : decode cX4_tiesFrom 36 = .ok (.ireturn, 1) := by decide +kernel
def wb_X4_tiesFrom_4 (I : HI) (J : HJ) (x1 : Int32) (Post : Int32 → Prop) (E4 : Int32 → Prop) (K4 : (Int32 × Int32) → Prop) (s : Int32 × Int32) : Prop :=
  match s with
  | (x2, x3) => ((I 12 11) ≤ x3 → (E4 x2)) ∧ (¬ (I 12 11) ≤ x3 → (w_X10_has x1 x3 (fun (r_1 : Bool) => ((r_1 = false → (K4 (x2, (x3 + 1)))) ∧ (r_1 = true → (vp_in x3 12 ∧ (∀ z_2 : Int32, z_2 = (x2 ||| (I 18 (Int32.toNatClampNeg x3))) → (K4 (z_2, (x3 + 1))))))))))
set_option maxHeartbeats 4000000 in
set_option maxRecDepth 20000 in
theorem ws_X4_tiesFrom_4 (g : kf_G) (hg : kf_g g) {x : kf_X} (hx : kf_ok g x RX4 cX4_tiesFrom 4 1 21) (I : HI) (J : HJ) (x1 : Int32) (Post : Int32 → Prop) (hret : ∀ (pc : Nat) (lv : List (Nat × Value)) (v : Int32), decode cX4_tiesFrom pc = .ok (.ireturn, 1) → Post v → kf_M g x 4 pc lv [.int v] I J) (E4 : Int32 → Prop) (hE4 : ∀ (y2 : Int32), E4 y2 → kf_M g x 4 35 [(2, .int y2)] [] I J) (K4 : (Int32 × Int32) → Prop) (hK4 : ∀ (y2 : Int32) (y3 : Int32), K4 (y2, y3) → kf_M g x 4 4 [(0, .ref (g.2.2.2 12)), (1, .int x1), (2, .int y2), (3, .int y3)] [] I J) (x2 : Int32) (x3 : Int32) (h : wb_X4_tiesFrom_4 I J x1 Post E4 K4 (x2, x3)) : kf_M g x 4 4 [(0, .ref (g.2.2.2 12)), (1, .int x1), (2, .int x2), (3, .int x3)] [] I J := by
  unfold wb_X4_tiesFrom_4 at h
  refine kf_iload_n hx dX4_tiesFrom_4 rfl 3 rfl ?_
  refine kf_aload_n hx dX4_tiesFrom_5 rfl 0 rfl ?_
  refine kf_getI hx sl_12_11 fl_RX4_45 dX4_tiesFrom_6 ?_
  refine kf_icmp_ge hx 35 dX4_tiesFrom_9 (by decide) (fun c => ?_) (fun c => ?_)
  · replace h := h.1 c
    refine kf_sub [2] rfl ?_
    exact hE4 _ h
  · replace h := h.2 c
    refine kf_iload_n hx dX4_tiesFrom_12 rfl 1 rfl ?_
    refine kf_iload_n hx dX4_tiesFrom_13 rfl 3 rfl ?_
    refine kf_callSbP (st := []) hx (m_X10_has g hg x1 x3 I J _ h) lk_RX4_72 km_X10_has rfl (by decide) rfl (Nat.le_of_ble_eq_true rfl) dX4_tiesFrom_14 (fun r_1 h => ?_)
    refine kf_ifB_eq hx 29 dX4_tiesFrom_17 (by decide) (fun c => ?_) (fun c => ?_)
    · replace h := h.1 c
      refine kf_iinc (w := (x3 + 1)) (lv' := [(3, .int (x3 + 1)), (0, .ref (g.2.2.2 12)), (1, .int x1), (2, .int x2)]) hx dX4_tiesFrom_29 3 rfl rfl (by decide) rfl ?_
      refine kf_goto hx 4 dX4_tiesFrom_32 (by decide) ?_
      refine kf_sub [1, 2, 3, 0] rfl ?_
      exact hK4 _ _ h
    · replace h := h.2 c
      refine kf_iload_n hx dX4_tiesFrom_20 rfl 2 rfl ?_
      refine kf_aload_n hx dX4_tiesFrom_21 rfl 0 rfl ?_
      refine kf_getR (n := 18) hx sl_12_5 fl_RX4_27 dX4_tiesFrom_22 ?_
      refine kf_iload_n hx dX4_tiesFrom_25 rfl 3 rfl ?_
      refine kf_iald hx ar_18 h.1 dX4_tiesFrom_26 ?_
      replace h := h.2
      refine kf_ior hx dX4_tiesFrom_27 ?_
      refine kf_topi (fun z_2 ez_2 => ?_)
      replace h := h z_2 ez_2
      refine kf_istore_n (lv' := [(2, .int z_2), (0, .ref (g.2.2.2 12)), (1, .int x1), (3, .int x3)]) hx dX4_tiesFrom_28 rfl (by decide) rfl ?_
      refine kf_iinc (w := (x3 + 1)) (lv' := [(3, .int (x3 + 1)), (2, .int z_2), (0, .ref (g.2.2.2 12)), (1, .int x1)]) hx dX4_tiesFrom_29 3 rfl rfl (by decide) rfl ?_
      refine kf_goto hx 4 dX4_tiesFrom_32 (by decide) ?_
      refine kf_sub [2, 3, 1, 0] rfl ?_
      exact hK4 _ _ h
theorem wl_X4_tiesFrom_4 (g : kf_G) (hg : kf_g g) {x : kf_X} (hx : kf_ok g x RX4 cX4_tiesFrom 4 1 21) (I : HI) (J : HJ) (x1 : Int32) (Post : Int32 → Prop) (hret : ∀ (pc : Nat) (lv : List (Nat × Value)) (v : Int32), decode cX4_tiesFrom pc = .ok (.ireturn, 1) → Post v → kf_M g x 4 pc lv [.int v] I J) (E4 : Int32 → Prop) (hE4 : ∀ (y2 : Int32), E4 y2 → kf_M g x 4 35 [(2, .int y2)] [] I J) : ∀ (n : Nat) (x2 : Int32) (x3 : Int32), lp (wb_X4_tiesFrom_4 I J x1 Post E4) n (x2, x3) → kf_M g x 4 4 [(0, .ref (g.2.2.2 12)), (1, .int x1), (2, .int x2), (3, .int x3)] [] I J := by
  intro n
  induction n with
  | zero => intro x2 x3 h; exact h.elim
  | succ n ih => intro x2 x3 h; exact ws_X4_tiesFrom_4 g hg hx I J x1 Post hret E4 hE4 (lp (wb_X4_tiesFrom_4 I J x1 Post E4) n) ih x2 x3 h
def w_X4_tiesFrom (x1 : Int32) (I : HI) (J : HJ) (Post : Int32 → Prop) : Prop :=
  ∃ n, lp (wb_X4_tiesFrom_4 I J x1 Post (fun (x2_3 : Int32) => Post x2_3)) n (0, 0)
set_option maxHeartbeats 4000000 in
set_option maxRecDepth 20000 in
theorem we_X4_tiesFrom (g : kf_G) (hg : kf_g g) {x : kf_X} (hx : kf_ok g x RX4 cX4_tiesFrom 4 1 21) (x1 : Int32) (I : HI) (J : HJ) (Post : Int32 → Prop) (hret : ∀ (pc : Nat) (lv : List (Nat × Value)) (v : Int32), decode cX4_tiesFrom pc = .ok (.ireturn, 1) → Post v → kf_M g x 4 pc lv [.int v] I J) (h : w_X4_tiesFrom x1 I J Post) : kf_M g x 4 0 [(0, .ref (g.2.2.2 12)), (1, .int x1)] [] I J := by
  unfold w_X4_tiesFrom at h
  refine kf_iconst (v := 0) hx dX4_tiesFrom_0 (by decide) ?_
  refine kf_istore_n (lv' := [(2, .int 0), (0, .ref (g.2.2.2 12)), (1, .int x1)]) hx dX4_tiesFrom_1 rfl (by decide) rfl ?_
  refine kf_iconst (v := 0) hx dX4_tiesFrom_2 (by decide) ?_
  refine kf_istore_n (lv' := [(3, .int 0), (2, .int 0), (0, .ref (g.2.2.2 12)), (1, .int x1)]) hx dX4_tiesFrom_3 rfl (by decide) rfl ?_
  obtain ⟨n, h⟩ := h
  refine kf_sub [2, 3, 1, 0] rfl ?_
  refine wl_X4_tiesFrom_4 g hg hx I J x1 _ hret _ (fun x2_3 h => ?_) n _ _ h
  refine kf_iload_n hx dX4_tiesFrom_35 rfl 0 rfl ?_
  exact hret _ _ x2_3  dX4_tiesFrom_36 h
set_option maxHeartbeats 4000000 in
set_option maxRecDepth 20000 in
theorem m_X4_tiesFrom (g : kf_G) (hg : kf_g g) (x1 : Int32) (I : HI) (J : HJ) (Post : Int32 → Prop) (h : w_X4_tiesFrom x1 I J Post) : kf_Mi g yX4_tiesFrom (kf_W yX4_tiesFrom cX4_tiesFrom 4 (Option.some Jvm.ClassFile.FieldType.int)) 1 21 [.ref (g.2.2.2 12), .int x1] I J (fun v I' J' => Post v ∧ I' = I ∧ J' = J) :=
  kf_enti hg (by decide) (Nat.le_of_ble_eq_true rfl) rfl (fun x hx hr => we_X4_tiesFrom g hg hx x1 I J Post (fun pc lv v hd hP => hr pc lv v I J hd ⟨hP, rfl, rfl⟩) h)
theorem dX2_whole_0 : decode cX2_whole 0 = .ok (.lconst 1, 1) := by decide +kernel
theorem dX2_whole_1 : decode cX2_whole 1 = .ok (.iconst 4, 1) := by decide +kernel
theorem dX2_whole_2 : decode cX2_whole 2 = .ok (.aload_n 0, 1) := by decide +kernel
theorem dX2_whole_3 : decode cX2_whole 3 = .ok (.getfield 15, 3) := by decide +kernel
theorem dX2_whole_6 : decode cX2_whole 6 = .ok (.getfield 19, 3) := by decide +kernel
theorem dX2_whole_9 : decode cX2_whole 9 = .ok (.imul, 1) := by decide +kernel
theorem dX2_whole_10 : decode cX2_whole 10 = .ok (.lshl, 1) := by decide +kernel
theorem dX2_whole_11 : decode cX2_whole 11 = .ok (.lreturn, 1) := by decide +kernel
def w_X2_whole  (I : HI) (J : HJ) (Post : Int64 → Prop) : Prop :=
  Post (1 <<< (Int32.toInt64 (4 * (I 12 12)) &&& 63))
set_option maxHeartbeats 4000000 in
set_option maxRecDepth 20000 in
theorem we_X2_whole (g : kf_G) (hg : kf_g g) {x : kf_X} (hx : kf_ok g x RX2 cX2_whole 1 0 0)  (I : HI) (J : HJ) (Post : Int64 → Prop) (hret : ∀ (pc : Nat) (lv : List (Nat × Value)) (v : Int64), decode cX2_whole pc = .ok (.lreturn, 1) → Post v → kf_M g x 1 pc lv [.long v] I J) (h : w_X2_whole  I J Post) : kf_M g x 1 0 [(0, .ref (g.2.2.2 39))] [] I J := by
  unfold w_X2_whole at h
  refine kf_lconst (v := 1) hx dX2_whole_0 (by decide) ?_
  refine kf_iconst (v := 4) hx dX2_whole_1 (by decide) ?_
  refine kf_aload_n hx dX2_whole_2 rfl 0 rfl ?_
  refine kf_getR (n := 12) hx sl_39_0 fl_RX2_15 dX2_whole_3 ?_
  refine kf_getI hx sl_12_12 fl_RX2_19 dX2_whole_6 ?_
  refine kf_imul hx dX2_whole_9 ?_
  refine kf_lshl hx dX2_whole_10 ?_
  exact hret _ _ (1 <<< (Int32.toInt64 (4 * (I 12 12)) &&& 63))  dX2_whole_11 h
set_option maxHeartbeats 4000000 in
set_option maxRecDepth 20000 in
theorem m_X2_whole (g : kf_G) (hg : kf_g g)  (I : HI) (J : HJ) (Post : Int64 → Prop) (h : w_X2_whole  I J Post) : kf_Ml g yX2_whole (kf_W yX2_whole cX2_whole 1 (Option.some Jvm.ClassFile.FieldType.long)) 0 0 [.ref (g.2.2.2 39)] I J (fun v I' J' => Post v ∧ I' = I ∧ J' = J) :=
  kf_entl hg (by decide) (Nat.le_of_ble_eq_true rfl) rfl (fun x hx hr => we_X2_whole g hg hx  I J Post (fun pc lv v hd hP => hr pc lv v I J hd ⟨hP, rfl, rfl⟩) h)
theorem dJ6_numberOfTrailingZeros_0f7a4_0 : decode cJ6_numberOfTrailingZeros_0f7a4 0 = .ok (.iload_n 0, 1) := by decide +kernel
theorem dJ6_numberOfTrailingZeros_0f7a4_1 : decode cJ6_numberOfTrailingZeros_0f7a4 1 = .ok (.iconst (-1), 1) := by decide +kernel
theorem dJ6_numberOfTrailingZeros_0f7a4_2 : decode cJ6_numberOfTrailingZeros_0f7a4 2 = .ok (.ixor, 1) := by decide +kernel
theorem dJ6_numberOfTrailingZeros_0f7a4_3 : decode cJ6_numberOfTrailingZeros_0f7a4 3 = .ok (.iload_n 0, 1) := by decide +kernel
theorem dJ6_numberOfTrailingZeros_0f7a4_4 : decode cJ6_numberOfTrailingZeros_0f7a4 4 = .ok (.iconst 1, 1) := by decide +kernel
theorem dJ6_numberOfTrailingZeros_0f7a4_5 : decode cJ6_numberOfTrailingZeros_0f7a4 5 = .ok (.isub, 1) := by decide +kernel
theorem dJ6_numberOfTrailingZeros_0f7a4_6 : decode cJ6_numberOfTrailingZeros_0f7a4 6 = .ok (.iand, 1) := by decide +kernel
theorem dJ6_numberOfTrailingZeros_0f7a4_7 : decode cJ6_numberOfTrailingZeros_0f7a4 7 = .ok (.istore_n 0, 1) := by decide +kernel
theorem dJ6_numberOfTrailingZeros_0f7a4_8 : decode cJ6_numberOfTrailingZeros_0f7a4 8 = .ok (.iload_n 0, 1) := by decide +kernel
theorem dJ6_numberOfTrailingZeros_0f7a4_9 : decode cJ6_numberOfTrailingZeros_0f7a4 9 = .ok (.ifCond .gt 8, 3) := by decide +kernel
theorem dJ6_numberOfTrailingZeros_0f7a4_12 : decode cJ6_numberOfTrailingZeros_0f7a4 12 = .ok (.iload_n 0, 1) := by decide +kernel
theorem dJ6_numberOfTrailingZeros_0f7a4_13 : decode cJ6_numberOfTrailingZeros_0f7a4 13 = .ok (.bipush 32, 2) := by decide +kernel
theorem dJ6_numberOfTrailingZeros_0f7a4_15 : decode cJ6_numberOfTrailingZeros_0f7a4 15 = .ok (.iand, 1) := by decide +kernel
theorem dJ6_numberOfTrailingZeros_0f7a4_16 : decode cJ6_numberOfTrailingZeros_0f7a4 16 = .ok (.ireturn, 1) := by decide +kernel
theorem dJ6_numberOfTrailingZeros_0f7a4_17 : decode cJ6_numberOfTrailingZeros_0f7a4 17 = .ok (.iconst 1, 1) := by decide +kernel
theorem dJ6_numberOfTrailingZeros_0f7a4_18 : decode cJ6_numberOfTrailingZeros_0f7a4 18 = .ok (.istore_n 1, 1) := by decide +kernel
theorem dJ6_numberOfTrailingZeros_0f7a4_19 : decode cJ6_numberOfTrailingZeros_0f7a4 19 = .ok (.iload_n 0, 1) := by decide +kernel
theorem dJ6_numberOfTrailingZeros_0f7a4_20 : decode cJ6_numberOfTrailingZeros_0f7a4 20 = .ok (.ldc_w 264, 3) := by decide +kernel
theorem dJ6_numberOfTrailingZeros_0f7a4_23 : decode cJ6_numberOfTrailingZeros_0f7a4 23 = .ok (.if_icmp .le 11, 3) := by decide +kernel
theorem dJ6_numberOfTrailingZeros_0f7a4_26 : decode cJ6_numberOfTrailingZeros_0f7a4 26 = .ok (.iinc 1 16, 3) := by decide +kernel
theorem dJ6_numberOfTrailingZeros_0f7a4_29 : decode cJ6_numberOfTrailingZeros_0f7a4 29 = .ok (.iload_n 0, 1) := by decide +kernel
theorem dJ6_numberOfTrailingZeros_0f7a4_30 : decode cJ6_numberOfTrailingZeros_0f7a4 30 = .ok (.bipush 16, 2) := by decide +kernel
theorem dJ6_numberOfTrailingZeros_0f7a4_32 : decode cJ6_numberOfTrailingZeros_0f7a4 32 = .ok (.iushr, 1) := by decide +kernel
theorem dJ6_numberOfTrailingZeros_0f7a4_33 : decode cJ6_numberOfTrailingZeros_0f7a4 33 = .ok (.istore_n 0, 1) := by decide +kernel
theorem dJ6_numberOfTrailingZeros_0f7a4_34 : decode cJ6_numberOfTrailingZeros_0f7a4 34 = .ok (.iload_n 0, 1) := by decide +kernel
theorem dJ6_numberOfTrailingZeros_0f7a4_35 : decode cJ6_numberOfTrailingZeros_0f7a4 35 = .ok (.sipush 256, 3) := by decide +kernel
theorem dJ6_numberOfTrailingZeros_0f7a4_38 : decode cJ6_numberOfTrailingZeros_0f7a4 38 = .ok (.if_icmp .le 11, 3) := by decide +kernel
theorem dJ6_numberOfTrailingZeros_0f7a4_41 : decode cJ6_numberOfTrailingZeros_0f7a4 41 = .ok (.iinc 1 8, 3) := by decide +kernel
theorem dJ6_numberOfTrailingZeros_0f7a4_44 : decode cJ6_numberOfTrailingZeros_0f7a4 44 = .ok (.iload_n 0, 1) := by decide +kernel
theorem dJ6_numberOfTrailingZeros_0f7a4_45 : decode cJ6_numberOfTrailingZeros_0f7a4 45 = .ok (.bipush 8, 2) := by decide +kernel
theorem dJ6_numberOfTrailingZeros_0f7a4_47 : decode cJ6_numberOfTrailingZeros_0f7a4 47 = .ok (.iushr, 1) := by decide +kernel
theorem dJ6_numberOfTrailingZeros_0f7a4_48 : decode cJ6_numberOfTrailingZeros_0f7a4 48 = .ok (.istore_n 0, 1) := by decide +kernel
theorem dJ6_numberOfTrailingZeros_0f7a4_49 : decode cJ6_numberOfTrailingZeros_0f7a4 49 = .ok (.iload_n 0, 1) := by decide +kernel
theorem dJ6_numberOfTrailingZeros_0f7a4_50 : decode cJ6_numberOfTrailingZeros_0f7a4 50 = .ok (.bipush 16, 2) := by decide +kernel
theorem dJ6_numberOfTrailingZeros_0f7a4_52 : decode cJ6_numberOfTrailingZeros_0f7a4 52 = .ok (.if_icmp .le 10, 3) := by decide +kernel
theorem dJ6_numberOfTrailingZeros_0f7a4_55 : decode cJ6_numberOfTrailingZeros_0f7a4 55 = .ok (.iinc 1 4, 3) := by decide +kernel
theorem dJ6_numberOfTrailingZeros_0f7a4_58 : decode cJ6_numberOfTrailingZeros_0f7a4 58 = .ok (.iload_n 0, 1) := by decide +kernel
theorem dJ6_numberOfTrailingZeros_0f7a4_59 : decode cJ6_numberOfTrailingZeros_0f7a4 59 = .ok (.iconst 4, 1) := by decide +kernel
theorem dJ6_numberOfTrailingZeros_0f7a4_60 : decode cJ6_numberOfTrailingZeros_0f7a4 60 = .ok (.iushr, 1) := by decide +kernel
theorem dJ6_numberOfTrailingZeros_0f7a4_61 : decode cJ6_numberOfTrailingZeros_0f7a4 61 = .ok (.istore_n 0, 1) := by decide +kernel
theorem dJ6_numberOfTrailingZeros_0f7a4_62 : decode cJ6_numberOfTrailingZeros_0f7a4 62 = .ok (.iload_n 0, 1) := by decide +kernel
theorem dJ6_numberOfTrailingZeros_0f7a4_63 : decode cJ6_numberOfTrailingZeros_0f7a4 63 = .ok (.iconst 4, 1) := by decide +kernel
theorem dJ6_numberOfTrailingZeros_0f7a4_64 : decode cJ6_numberOfTrailingZeros_0f7a4 64 = .ok (.if_icmp .le 10, 3) := by decide +kernel
theorem dJ6_numberOfTrailingZeros_0f7a4_67 : decode cJ6_numberOfTrailingZeros_0f7a4 67 = .ok (.iinc 1 2, 3) := by decide +kernel
theorem dJ6_numberOfTrailingZeros_0f7a4_70 : decode cJ6_numberOfTrailingZeros_0f7a4 70 = .ok (.iload_n 0, 1) := by decide +kernel
theorem dJ6_numberOfTrailingZeros_0f7a4_71 : decode cJ6_numberOfTrailingZeros_0f7a4 71 = .ok (.iconst 2, 1) := by decide +kernel
theorem dJ6_numberOfTrailingZeros_0f7a4_72 : decode cJ6_numberOfTrailingZeros_0f7a4 72 = .ok (.iushr, 1) := by decide +kernel
theorem dJ6_numberOfTrailingZeros_0f7a4_73 : decode cJ6_numberOfTrailingZeros_0f7a4 73 = .ok (.istore_n 0, 1) := by decide +kernel
theorem dJ6_numberOfTrailingZeros_0f7a4_74 : decode cJ6_numberOfTrailingZeros_0f7a4 74 = .ok (.iload_n 1, 1) := by decide +kernel
theorem dJ6_numberOfTrailingZeros_0f7a4_75 : decode cJ6_numberOfTrailingZeros_0f7a4 75 = .ok (.iload_n 0, 1) := by decide +kernel
theorem dJ6_numberOfTrailingZeros_0f7a4_76 : decode cJ6_numberOfTrailingZeros_0f7a4 76 = .ok (.iconst 1, 1) := by decide +kernel
theorem dJ6_numberOfTrailingZeros_0f7a4_77 : decode cJ6_numberOfTrailingZeros_0f7a4 77 = .ok (.iushr, 1) := by decide +kernel
theorem dJ6_numberOfTrailingZeros_0f7a4_78 : decode cJ6_numberOfTrailingZeros_0f7a4 78 = .ok (.iadd, 1) := by decide +kernel
theorem dJ6_numberOfTrailingZeros_0f7a4_79 : decode cJ6_numberOfTrailingZeros_0f7a4 79 = .ok (.ireturn, 1) := by decide +kernel
def wj_J6_numberOfTrailingZeros_0f7a4_62 (x0 : Int32) (x1 : Int32) (Post : Int32 → Prop) : Prop :=
  (x0 ≤ 4 → (Post (x1 + (UInt32.toInt32 (Int32.toUInt32 x0 >>> (Int32.toUInt32 1 &&& Int32.toUInt32 31)))))) ∧ (¬ x0 ≤ 4 → (∀ z_1 : Int32, z_1 = (UInt32.toInt32 (Int32.toUInt32 x0 >>> (Int32.toUInt32 2 &&& Int32.toUInt32 31))) → (Post ((x1 + 2) + (UInt32.toInt32 (Int32.toUInt32 z_1 >>> (Int32.toUInt32 1 &&& Int32.toUInt32 31)))))))
set_option maxHeartbeats 4000000 in
set_option maxRecDepth 20000 in
theorem wk_J6_numberOfTrailingZeros_0f7a4_62 (g : kf_G) (hg : kf_g g) {x : kf_X} (hx : kf_ok g x RJ6 cJ6_numberOfTrailingZeros_0f7a4 2 0 0) (I : HI) (J : HJ) (x0 : Int32) (x1 : Int32) (Post : Int32 → Prop) (hret : ∀ (pc : Nat) (lv : List (Nat × Value)) (v : Int32), decode cJ6_numberOfTrailingZeros_0f7a4 pc = .ok (.ireturn, 1) → Post v → kf_M g x 2 pc lv [.int v] I J) (h : wj_J6_numberOfTrailingZeros_0f7a4_62 x0 x1 Post) : kf_M g x 2 62 [(0, .int x0), (1, .int x1)] [] I J := by
  unfold wj_J6_numberOfTrailingZeros_0f7a4_62 at h
  refine kf_iload_n hx dJ6_numberOfTrailingZeros_0f7a4_62 rfl 0 rfl ?_
  refine kf_iconst (v := 4) hx dJ6_numberOfTrailingZeros_0f7a4_63 (by decide) ?_
  refine kf_icmp_le hx 74 dJ6_numberOfTrailingZeros_0f7a4_64 (by decide) (fun c => ?_) (fun c => ?_)
  · replace h := h.1 c
    refine kf_iload_n hx dJ6_numberOfTrailingZeros_0f7a4_74 rfl 1 rfl ?_
    refine kf_iload_n hx dJ6_numberOfTrailingZeros_0f7a4_75 rfl 0 rfl ?_
    refine kf_iconst (v := 1) hx dJ6_numberOfTrailingZeros_0f7a4_76 (by decide) ?_
    refine kf_iushr hx dJ6_numberOfTrailingZeros_0f7a4_77 ?_
    refine kf_iadd hx dJ6_numberOfTrailingZeros_0f7a4_78 ?_
    exact hret _ _ (x1 + (UInt32.toInt32 (Int32.toUInt32 x0 >>> (Int32.toUInt32 1 &&& Int32.toUInt32 31))))  dJ6_numberOfTrailingZeros_0f7a4_79 h
  · replace h := h.2 c
    refine kf_iinc (w := (x1 + 2)) (lv' := [(1, .int (x1 + 2)), (0, .int x0)]) hx dJ6_numberOfTrailingZeros_0f7a4_67 1 rfl rfl (by decide) rfl ?_
    refine kf_iload_n hx dJ6_numberOfTrailingZeros_0f7a4_70 rfl 1 rfl ?_
    refine kf_iconst (v := 2) hx dJ6_numberOfTrailingZeros_0f7a4_71 (by decide) ?_
    refine kf_iushr hx dJ6_numberOfTrailingZeros_0f7a4_72 ?_
    refine kf_topi (fun z_1 ez_1 => ?_)
    replace h := h z_1 ez_1
    refine kf_istore_n (lv' := [(0, .int z_1), (1, .int (x1 + 2))]) hx dJ6_numberOfTrailingZeros_0f7a4_73 rfl (by decide) rfl ?_
    refine kf_iload_n hx dJ6_numberOfTrailingZeros_0f7a4_74 rfl 1 rfl ?_
    refine kf_iload_n hx dJ6_numberOfTrailingZeros_0f7a4_75 rfl 0 rfl ?_
    refine kf_iconst (v := 1) hx dJ6_numberOfTrailingZeros_0f7a4_76 (by decide) ?_
    refine kf_iushr hx dJ6_numberOfTrailingZeros_0f7a4_77 ?_
    refine kf_iadd hx dJ6_numberOfTrailingZeros_0f7a4_78 ?_
    exact hret _ _ ((x1 + 2) + (UInt32.toInt32 (Int32.toUInt32 z_1 >>> (Int32.toUInt32 1 &&& Int32.toUInt32 31))))  dJ6_numberOfTrailingZeros_0f7a4_79 h
def wj_J6_numberOfTrailingZeros_0f7a4_49 (x0 : Int32) (x1 : Int32) (Post : Int32 → Prop) : Prop :=
  (x0 ≤ 16 → (wj_J6_numberOfTrailingZeros_0f7a4_62 x0 x1 Post)) ∧ (¬ x0 ≤ 16 → (∀ z_2 : Int32, z_2 = (UInt32.toInt32 (Int32.toUInt32 x0 >>> (Int32.toUInt32 4 &&& Int32.toUInt32 31))) → (wj_J6_numberOfTrailingZeros_0f7a4_62 z_2 (x1 + 4) Post)))
set_option maxHeartbeats 4000000 in
set_option maxRecDepth 20000 in
theorem wk_J6_numberOfTrailingZeros_0f7a4_49 (g : kf_G) (hg : kf_g g) {x : kf_X} (hx : kf_ok g x RJ6 cJ6_numberOfTrailingZeros_0f7a4 2 0 0) (I : HI) (J : HJ) (x0 : Int32) (x1 : Int32) (Post : Int32 → Prop) (hret : ∀ (pc : Nat) (lv : List (Nat × Value)) (v : Int32), decode cJ6_numberOfTrailingZeros_0f7a4 pc = .ok (.ireturn, 1) → Post v → kf_M g x 2 pc lv [.int v] I J) (h : wj_J6_numberOfTrailingZeros_0f7a4_49 x0 x1 Post) : kf_M g x 2 49 [(0, .int x0), (1, .int x1)] [] I J := by
  unfold wj_J6_numberOfTrailingZeros_0f7a4_49 at h
  refine kf_iload_n hx dJ6_numberOfTrailingZeros_0f7a4_49 rfl 0 rfl ?_
  refine kf_bipush (v := 16) hx dJ6_numberOfTrailingZeros_0f7a4_50 (by decide) ?_
  refine kf_icmp_le hx 62 dJ6_numberOfTrailingZeros_0f7a4_52 (by decide) (fun c => ?_) (fun c => ?_)
  · replace h := h.1 c
    exact wk_J6_numberOfTrailingZeros_0f7a4_62 g hg hx I J x0 x1 _ hret h
  · replace h := h.2 c
    refine kf_iinc (w := (x1 + 4)) (lv' := [(1, .int (x1 + 4)), (0, .int x0)]) hx dJ6_numberOfTrailingZeros_0f7a4_55 1 rfl rfl (by decide) rfl ?_
    refine kf_iload_n hx dJ6_numberOfTrailingZeros_0f7a4_58 rfl 1 rfl ?_
    refine kf_iconst (v := 4) hx dJ6_numberOfTrailingZeros_0f7a4_59 (by decide) ?_
    refine kf_iushr hx dJ6_numberOfTrailingZeros_0f7a4_60 ?_
    refine kf_topi (fun z_2 ez_2 => ?_)
    replace h := h z_2 ez_2
    refine kf_istore_n (lv' := [(0, .int z_2), (1, .int (x1 + 4))]) hx dJ6_numberOfTrailingZeros_0f7a4_61 rfl (by decide) rfl ?_
    exact wk_J6_numberOfTrailingZeros_0f7a4_62 g hg hx I J z_2 (x1 + 4) _ hret h
def wj_J6_numberOfTrailingZeros_0f7a4_34 (x0 : Int32) (x1 : Int32) (Post : Int32 → Prop) : Prop :=
  (x0 ≤ 256 → (wj_J6_numberOfTrailingZeros_0f7a4_49 x0 x1 Post)) ∧ (¬ x0 ≤ 256 → (∀ z_3 : Int32, z_3 = (UInt32.toInt32 (Int32.toUInt32 x0 >>> (Int32.toUInt32 8 &&& Int32.toUInt32 31))) → (wj_J6_numberOfTrailingZeros_0f7a4_49 z_3 (x1 + 8) Post)))
set_option maxHeartbeats 4000000 in
set_option maxRecDepth 20000 in
theorem wk_J6_numberOfTrailingZeros_0f7a4_34 (g : kf_G) (hg : kf_g g) {x : kf_X} (hx : kf_ok g x RJ6 cJ6_numberOfTrailingZeros_0f7a4 2 0 0) (I : HI) (J : HJ) (x0 : Int32) (x1 : Int32) (Post : Int32 → Prop) (hret : ∀ (pc : Nat) (lv : List (Nat × Value)) (v : Int32), decode cJ6_numberOfTrailingZeros_0f7a4 pc = .ok (.ireturn, 1) → Post v → kf_M g x 2 pc lv [.int v] I J) (h : wj_J6_numberOfTrailingZeros_0f7a4_34 x0 x1 Post) : kf_M g x 2 34 [(0, .int x0), (1, .int x1)] [] I J := by
  unfold wj_J6_numberOfTrailingZeros_0f7a4_34 at h
  refine kf_iload_n hx dJ6_numberOfTrailingZeros_0f7a4_34 rfl 0 rfl ?_
  refine kf_sipush (v := 256) hx dJ6_numberOfTrailingZeros_0f7a4_35 (by decide) ?_
  refine kf_icmp_le hx 49 dJ6_numberOfTrailingZeros_0f7a4_38 (by decide) (fun c => ?_) (fun c => ?_)
  · replace h := h.1 c
    exact wk_J6_numberOfTrailingZeros_0f7a4_49 g hg hx I J x0 x1 _ hret h
  · replace h := h.2 c
    refine kf_iinc (w := (x1 + 8)) (lv' := [(1, .int (x1 + 8)), (0, .int x0)]) hx dJ6_numberOfTrailingZeros_0f7a4_41 1 rfl rfl (by decide) rfl ?_
    refine kf_iload_n hx dJ6_numberOfTrailingZeros_0f7a4_44 rfl 1 rfl ?_
    refine kf_bipush (v := 8) hx dJ6_numberOfTrailingZeros_0f7a4_45 (by decide) ?_
    refine kf_iushr hx dJ6_numberOfTrailingZeros_0f7a4_47 ?_
    refine kf_topi (fun z_3 ez_3 => ?_)
    replace h := h z_3 ez_3
    refine kf_istore_n (lv' := [(0, .int z_3), (1, .int (x1 + 8))]) hx dJ6_numberOfTrailingZeros_0f7a4_48 rfl (by decide) rfl ?_
    exact wk_J6_numberOfTrailingZeros_0f7a4_49 g hg hx I J z_3 (x1 + 8) _ hret h
def w_J6_numberOfTrailingZeros_0f7a4 (x0 : Int32) (Post : Int32 → Prop) : Prop :=
  (0 < ((x0 ^^^ (-1)) &&& (x0 - 1)) → ((((x0 ^^^ (-1)) &&& (x0 - 1)) ≤ 65536 → (wj_J6_numberOfTrailingZeros_0f7a4_34 ((x0 ^^^ (-1)) &&& (x0 - 1)) 1 Post)) ∧ (¬ ((x0 ^^^ (-1)) &&& (x0 - 1)) ≤ 65536 → (∀ z_4 : Int32, z_4 = (UInt32.toInt32 (Int32.toUInt32 ((x0 ^^^ (-1)) &&& (x0 - 1)) >>> (Int32.toUInt32 16 &&& Int32.toUInt32 31))) → (wj_J6_numberOfTrailingZeros_0f7a4_34 z_4 (1 + 16) Post))))) ∧ (¬ 0 < ((x0 ^^^ (-1)) &&& (x0 - 1)) → (Post (((x0 ^^^ (-1)) &&& (x0 - 1)) &&& 32)))
set_option maxHeartbeats 4000000 in
set_option maxRecDepth 20000 in
theorem we_J6_numberOfTrailingZeros_0f7a4 (g : kf_G) (hg : kf_g g) {x : kf_X} (hx : kf_ok g x RJ6 cJ6_numberOfTrailingZeros_0f7a4 2 0 0) (x0 : Int32) (I : HI) (J : HJ) (Post : Int32 → Prop) (hret : ∀ (pc : Nat) (lv : List (Nat × Value)) (v : Int32), decode cJ6_numberOfTrailingZeros_0f7a4 pc = .ok (.ireturn, 1) → Post v → kf_M g x 2 pc lv [.int v] I J) (h : w_J6_numberOfTrailingZeros_0f7a4 x0 Post) : kf_M g x 2 0 [(0, .int x0)] [] I J := by
  unfold w_J6_numberOfTrailingZeros_0f7a4 at h
  refine kf_iload_n hx dJ6_numberOfTrailingZeros_0f7a4_0 rfl 0 rfl ?_
  refine kf_iconst (v := (-1)) hx dJ6_numberOfTrailingZeros_0f7a4_1 (by decide) ?_
  refine kf_ixor hx dJ6_numberOfTrailingZeros_0f7a4_2 ?_
  refine kf_iload_n hx dJ6_numberOfTrailingZeros_0f7a4_3 rfl 0 rfl ?_
  refine kf_iconst (v := 1) hx dJ6_numberOfTrailingZeros_0f7a4_4 (by decide) ?_
  refine kf_isub hx dJ6_numberOfTrailingZeros_0f7a4_5 ?_
  refine kf_iand hx dJ6_numberOfTrailingZeros_0f7a4_6 ?_
  refine kf_istore_n (lv' := [(0, .int ((x0 ^^^ (-1)) &&& (x0 - 1)))]) hx dJ6_numberOfTrailingZeros_0f7a4_7 rfl (by decide) rfl ?_
  refine kf_iload_n hx dJ6_numberOfTrailingZeros_0f7a4_8 rfl 0 rfl ?_
  refine kf_if_gt hx 17 dJ6_numberOfTrailingZeros_0f7a4_9 (by decide) (fun c => ?_) (fun c => ?_)
  · replace h := h.1 c
    refine kf_iconst (v := 1) hx dJ6_numberOfTrailingZeros_0f7a4_17 (by decide) ?_
    refine kf_istore_n (lv' := [(1, .int 1), (0, .int ((x0 ^^^ (-1)) &&& (x0 - 1)))]) hx dJ6_numberOfTrailingZeros_0f7a4_18 rfl (by decide) rfl ?_
    refine kf_iload_n hx dJ6_numberOfTrailingZeros_0f7a4_19 rfl 1 rfl ?_
    refine kf_ldcw hx ko_RJ6_264 dJ6_numberOfTrailingZeros_0f7a4_20 ?_
    refine kf_icmp_le hx 34 dJ6_numberOfTrailingZeros_0f7a4_23 (by decide) (fun c => ?_) (fun c => ?_)
    · replace h := h.1 c
      refine kf_sub [1, 0] rfl ?_
      exact wk_J6_numberOfTrailingZeros_0f7a4_34 g hg hx I J ((x0 ^^^ (-1)) &&& (x0 - 1)) 1 _ hret h
    · replace h := h.2 c
      refine kf_iinc (w := (1 + 16)) (lv' := [(1, .int (1 + 16)), (0, .int ((x0 ^^^ (-1)) &&& (x0 - 1)))]) hx dJ6_numberOfTrailingZeros_0f7a4_26 0 rfl rfl (by decide) rfl ?_
      refine kf_iload_n hx dJ6_numberOfTrailingZeros_0f7a4_29 rfl 1 rfl ?_
      refine kf_bipush (v := 16) hx dJ6_numberOfTrailingZeros_0f7a4_30 (by decide) ?_
      refine kf_iushr hx dJ6_numberOfTrailingZeros_0f7a4_32 ?_
      refine kf_topi (fun z_4 ez_4 => ?_)
      replace h := h z_4 ez_4
      refine kf_istore_n (lv' := [(0, .int z_4), (1, .int (1 + 16))]) hx dJ6_numberOfTrailingZeros_0f7a4_33 rfl (by decide) rfl ?_
      exact wk_J6_numberOfTrailingZeros_0f7a4_34 g hg hx I J z_4 (1 + 16) _ hret h
  · replace h := h.2 c
    refine kf_iload_n hx dJ6_numberOfTrailingZeros_0f7a4_12 rfl 0 rfl ?_
    refine kf_bipush (v := 32) hx dJ6_numberOfTrailingZeros_0f7a4_13 (by decide) ?_
    refine kf_iand hx dJ6_numberOfTrailingZeros_0f7a4_15 ?_
    exact hret _ _ (((x0 ^^^ (-1)) &&& (x0 - 1)) &&& 32)  dJ6_numberOfTrailingZeros_0f7a4_16 h
set_option maxHeartbeats 4000000 in
set_option maxRecDepth 20000 in
theorem m_J6_numberOfTrailingZeros_0f7a4 (g : kf_G) (hg : kf_g g) (x0 : Int32) (I : HI) (J : HJ) (Post : Int32 → Prop) (h : w_J6_numberOfTrailingZeros_0f7a4 x0 Post) : kf_Mi g yJ6_numberOfTrailingZeros_0f7a4 (kf_W yJ6_numberOfTrailingZeros_0f7a4 cJ6_numberOfTrailingZeros_0f7a4 2 (Option.some Jvm.ClassFile.FieldType.int)) 0 0 [.int x0] I J (fun v I' J' => Post v ∧ I' = I ∧ J' = J) :=
  kf_enti hg (by decide) (Nat.le_of_ble_eq_true rfl) rfl (fun x hx hr => we_J6_numberOfTrailingZeros_0f7a4 g hg hx x0 I J Post (fun pc lv v hd hP => hr pc lv v I J hd ⟨hP, rfl, rfl⟩) h)
theorem dX4_isTold_0 : decode cX4_isTold 0 = .ok (.aload_n 0, 1) := by decide +kernel
theorem dX4_isTold_1 : decode cX4_isTold 1 = .ok (.getfield 24, 3) := by decide +kernel
theorem dX4_isTold_4 : decode cX4_isTold 4 = .ok (.iload_n 1, 1) := by decide +kernel
theorem dX4_isTold_5 : decode cX4_isTold 5 = .ok (.iaload, 1) := by decide +kernel
theorem dX4_isTold_6 : decode cX4_isTold 6 = .ok (.iload_n 2, 1) := by decide +kernel
theorem dX4_isTold_7 : decode cX4_isTold 7 = .ok (.iand, 1) := by decide +kernel
theorem dX4_isTold_8 : decode cX4_isTold 8 = .ok (.invokestatic 76, 3) := by decide +kernel
theorem dX4_isTold_11 : decode cX4_isTold 11 = .ok (.aload_n 0, 1) := by decide +kernel
theorem dX4_isTold_12 : decode cX4_isTold 12 = .ok (.getfield 15, 3) := by decide +kernel
theorem dX4_isTold_15 : decode cX4_isTold 15 = .ok (.iload_n 1, 1) := by decide +kernel
theorem dX4_isTold_16 : decode cX4_isTold 16 = .ok (.iaload, 1) := by decide +kernel
theorem dX4_isTold_17 : decode cX4_isTold 17 = .ok (.if_icmp .lt 7, 3) := by decide +kernel
theorem dX4_isTold_20 : decode cX4_isTold 20 = .ok (.iconst 1, 1) := by decide +kernel
theorem dX4_isTold_21 : decode cX4_isTold 21 = .ok (.goto 4, 3) := by decide +kernel
theorem dX4_isTold_24 : decode cX4_isTold 24 = .ok (.iconst 0, 1) := by decide +kernel
theorem dX4_isTold_25 : decode cX4_isTold 25 = .ok (.ireturn, 1) := by decide +kernel
def w_X4_isTold (x1 : Int32) (x2 : Int32) (I : HI) (J : HJ) (Post : Bool → Prop) : Prop :=
  vp_in x1 12 ∧ (w_J6_bitCount_0f7a4 ((I 17 (Int32.toNatClampNeg x1)) &&& x2) (fun (r_1 : Int32) => (vp_in x1 12 ∧ ((r_1 < (I 14 (Int32.toNatClampNeg x1)) → (Post false)) ∧ (¬ r_1 < (I 14 (Int32.toNatClampNeg x1)) → (Post true))))))
set_option maxHeartbeats 4000000 in
set_option maxRecDepth 20000 in
theorem we_X4_isTold (g : kf_G) (hg : kf_g g) {x : kf_X} (hx : kf_ok g x RX4 cX4_isTold 3 1 20) (x1 : Int32) (x2 : Int32) (I : HI) (J : HJ) (Post : Bool → Prop) (hret : ∀ (pc : Nat) (lv : List (Nat × Value)) (v : Bool), decode cX4_isTold pc = .ok (.ireturn, 1) → Post v → kf_M g x 3 pc lv [.int (kb v)] I J) (h : w_X4_isTold x1 x2 I J Post) : kf_M g x 3 0 [(0, .ref (g.2.2.2 12)), (1, .int x1), (2, .int x2)] [] I J := by
  unfold w_X4_isTold at h
  refine kf_aload_n hx dX4_isTold_0 rfl 0 rfl ?_
  refine kf_getR (n := 17) hx sl_12_4 fl_RX4_24 dX4_isTold_1 ?_
  refine kf_iload_n hx dX4_isTold_4 rfl 1 rfl ?_
  refine kf_iald hx ar_17 h.1 dX4_isTold_5 ?_
  replace h := h.2
  refine kf_iload_n hx dX4_isTold_6 rfl 2 rfl ?_
  refine kf_iand hx dX4_isTold_7 ?_
  refine kf_callSiP (st := []) hx (m_J6_bitCount_0f7a4 g hg ((I 17 (Int32.toNatClampNeg x1)) &&& x2) I J _ h) lk_RX4_76 km_J6_bitCount_0f7a4 rfl (by decide) rfl (Nat.le_of_ble_eq_true rfl) dX4_isTold_8 (fun r_1 h => ?_)
  refine kf_aload_n hx dX4_isTold_11 rfl 0 rfl ?_
  refine kf_getR (n := 14) hx sl_12_1 fl_RX4_15 dX4_isTold_12 ?_
  refine kf_iload_n hx dX4_isTold_15 rfl 1 rfl ?_
  refine kf_iald hx ar_14 h.1 dX4_isTold_16 ?_
  replace h := h.2
  refine kf_icmp_lt hx 24 dX4_isTold_17 (by decide) (fun c => ?_) (fun c => ?_)
  · replace h := h.1 c
    refine kf_iconst (v := 0) hx dX4_isTold_24 (by decide) ?_
    exact hret _ _ false  dX4_isTold_25 h
  · replace h := h.2 c
    refine kf_iconst (v := 1) hx dX4_isTold_20 (by decide) ?_
    refine kf_goto hx 25 dX4_isTold_21 (by decide) ?_
    exact hret _ _ true  dX4_isTold_25 h
set_option maxHeartbeats 4000000 in
set_option maxRecDepth 20000 in
theorem m_X4_isTold (g : kf_G) (hg : kf_g g) (x1 : Int32) (x2 : Int32) (I : HI) (J : HJ) (Post : Bool → Prop) (h : w_X4_isTold x1 x2 I J Post) : kf_Mb g yX4_isTold (kf_W yX4_isTold cX4_isTold 3 (Option.some Jvm.ClassFile.FieldType.boolean)) 1 20 [.ref (g.2.2.2 12), .int x1, .int x2] I J (fun v I' J' => Post v ∧ I' = I ∧ J' = J) :=
  kf_entb hg (by decide) (Nat.le_of_ble_eq_true rfl) rfl (fun x hx hr => we_X4_isTold g hg hx x1 x2 I J Post (fun pc lv v hd hP => hr pc lv v I J hd ⟨hP, rfl, rfl⟩) h)
theorem dX2_totalFrom_0 : decode cX2_totalFrom 0 = .ok (.lconst 0, 1) := by decide +kernel
theorem dX2_totalFrom_1 : decode cX2_totalFrom 1 = .ok (.lstore 8, 2) := by decide +kernel
theorem dX2_totalFrom_3 : decode cX2_totalFrom 3 = .ok (.lload 5, 2) := by decide +kernel
theorem dX2_totalFrom_5 : decode cX2_totalFrom 5 = .ok (.lstore 10, 2) := by decide +kernel
theorem dX2_totalFrom_7 : decode cX2_totalFrom 7 = .ok (.iload_n 3, 1) := by decide +kernel
theorem dX2_totalFrom_8 : decode cX2_totalFrom 8 = .ok (.istore 12, 2) := by decide +kernel
theorem dX2_totalFrom_10 : decode cX2_totalFrom 10 = .ok (.iconst 0, 1) := by decide +kernel
theorem dX2_totalFrom_11 : decode cX2_totalFrom 11 = .ok (.istore 13, 2) := by decide +kernel
theorem dX2_totalFrom_13 : decode cX2_totalFrom 13 = .ok (.iload 13, 2) := by decide +kernel
theorem dX2_totalFrom_15 : decode cX2_totalFrom 15 = .ok (.bipush 10, 2) := by decide +kernel
theorem dX2_totalFrom_17 : decode cX2_totalFrom 17 = .ok (.if_icmp .ge 195, 3) := by decide +kernel
theorem dX2_totalFrom_20 : decode cX2_totalFrom 20 = .ok (.iload 12, 2) := by decide +kernel
theorem dX2_totalFrom_22 : decode cX2_totalFrom 22 = .ok (.ifCond .eq 190, 3) := by decide +kernel
theorem dX2_totalFrom_25 : decode cX2_totalFrom 25 = .ok (.lload 10, 2) := by decide +kernel
theorem dX2_totalFrom_27 : decode cX2_totalFrom 27 = .ok (.lconst 0, 1) := by decide +kernel
theorem dX2_totalFrom_28 : decode cX2_totalFrom 28 = .ok (.lcmp, 1) := by decide +kernel
theorem dX2_totalFrom_29 : decode cX2_totalFrom 29 = .ok (.ifCond .eq 183, 3) := by decide +kernel
theorem dX2_totalFrom_32 : decode cX2_totalFrom 32 = .ok (.iload 12, 2) := by decide +kernel
theorem dX2_totalFrom_34 : decode cX2_totalFrom 34 = .ok (.invokestatic 33, 3) := by decide +kernel
theorem dX2_totalFrom_37 : decode cX2_totalFrom 37 = .ok (.istore 14, 2) := by decide +kernel
theorem dX2_totalFrom_39 : decode cX2_totalFrom 39 = .ok (.iload 12, 2) := by decide +kernel
theorem dX2_totalFrom_41 : decode cX2_totalFrom 41 = .ok (.iload 12, 2) := by decide +kernel
theorem dX2_totalFrom_43 : decode cX2_totalFrom 43 = .ok (.iconst 1, 1) := by decide +kernel
theorem dX2_totalFrom_44 : decode cX2_totalFrom 44 = .ok (.isub, 1) := by decide +kernel
theorem dX2_totalFrom_45 : decode cX2_totalFrom 45 = .ok (.iand, 1) := by decide +kernel
theorem dX2_totalFrom_46 : decode cX2_totalFrom 46 = .ok (.istore 12, 2) := by decide +kernel
theorem dX2_totalFrom_48 : decode cX2_totalFrom 48 = .ok (.aload_n 0, 1) := by decide +kernel
theorem dX2_totalFrom_49 : decode cX2_totalFrom 49 = .ok (.getfield 38, 3) := by decide +kernel
theorem dX2_totalFrom_52 : decode cX2_totalFrom 52 = .ok (.iload 14, 2) := by decide +kernel
theorem dX2_totalFrom_54 : decode cX2_totalFrom 54 = .ok (.iaload, 1) := by decide +kernel
theorem dX2_totalFrom_55 : decode cX2_totalFrom 55 = .ok (.istore 15, 2) := by decide +kernel
theorem dX2_totalFrom_57 : decode cX2_totalFrom 57 = .ok (.iload_n 1, 1) := by decide +kernel
theorem dX2_totalFrom_58 : decode cX2_totalFrom 58 = .ok (.aload_n 0, 1) := by decide +kernel
theorem dX2_totalFrom_59 : decode cX2_totalFrom 59 = .ok (.getfield 41, 3) := by decide +kernel
theorem dX2_totalFrom_62 : decode cX2_totalFrom 62 = .ok (.ior, 1) := by decide +kernel
theorem dX2_totalFrom_63 : decode cX2_totalFrom 63 = .ok (.iload 15, 2) := by decide +kernel
theorem dX2_totalFrom_65 : decode cX2_totalFrom 65 = .ok (.invokestatic 44, 3) := by decide +kernel
theorem dX2_totalFrom_68 : decode cX2_totalFrom 68 = .ok (.ifCond .ne 138, 3) := by decide +kernel
theorem dX2_totalFrom_71 : decode cX2_totalFrom 71 = .ok (.lload 10, 2) := by decide +kernel
theorem dX2_totalFrom_73 : decode cX2_totalFrom 73 = .ok (.ldc2_w 71, 3) := by decide +kernel
theorem dX2_totalFrom_76 : decode cX2_totalFrom 76 = .ok (.ldiv, 1) := by decide +kernel
theorem dX2_totalFrom_77 : decode cX2_totalFrom 77 = .ok (.lstore 16, 2) := by decide +kernel
theorem dX2_totalFrom_79 : decode cX2_totalFrom 79 = .ok (.lload 16, 2) := by decide +kernel
theorem dX2_totalFrom_81 : decode cX2_totalFrom 81 = .ok (.bipush 16, 2) := by decide +kernel
theorem dX2_totalFrom_83 : decode cX2_totalFrom 83 = .ok (.aload_n 0, 1) := by decide +kernel
theorem dX2_totalFrom_84 : decode cX2_totalFrom 84 = .ok (.getfield 25, 3) := by decide +kernel
theorem dX2_totalFrom_87 : decode cX2_totalFrom 87 = .ok (.iload 14, 2) := by decide +kernel
theorem dX2_totalFrom_89 : decode cX2_totalFrom 89 = .ok (.iaload, 1) := by decide +kernel
theorem dX2_totalFrom_90 : decode cX2_totalFrom 90 = .ok (.isub, 1) := by decide +kernel
theorem dX2_totalFrom_91 : decode cX2_totalFrom 91 = .ok (.i2l, 1) := by decide +kernel
theorem dX2_totalFrom_92 : decode cX2_totalFrom 92 = .ok (.lmul, 1) := by decide +kernel
theorem dX2_totalFrom_93 : decode cX2_totalFrom 93 = .ok (.lstore 10, 2) := by decide +kernel
theorem dX2_totalFrom_95 : decode cX2_totalFrom 95 = .ok (.aload_n 0, 1) := by decide +kernel
theorem dX2_totalFrom_96 : decode cX2_totalFrom 96 = .ok (.getfield 25, 3) := by decide +kernel
theorem dX2_totalFrom_99 : decode cX2_totalFrom 99 = .ok (.iload 14, 2) := by decide +kernel
theorem dX2_totalFrom_101 : decode cX2_totalFrom 101 = .ok (.iaload, 1) := by decide +kernel
theorem dX2_totalFrom_102 : decode cX2_totalFrom 102 = .ok (.ifCond .le 104, 3) := by decide +kernel
theorem dX2_totalFrom_105 : decode cX2_totalFrom 105 = .ok (.iload 7, 2) := by decide +kernel
theorem dX2_totalFrom_107 : decode cX2_totalFrom 107 = .ok (.bipush 10, 2) := by decide +kernel
theorem dX2_totalFrom_109 : decode cX2_totalFrom 109 = .ok (.if_icmp .ge 97, 3) := by decide +kernel
theorem dX2_totalFrom_112 : decode cX2_totalFrom 112 = .ok (.iload_n 2, 1) := by decide +kernel
theorem dX2_totalFrom_113 : decode cX2_totalFrom 113 = .ok (.iconst 1, 1) := by decide +kernel
theorem dX2_totalFrom_114 : decode cX2_totalFrom 114 = .ok (.iload 14, 2) := by decide +kernel
theorem dX2_totalFrom_116 : decode cX2_totalFrom 116 = .ok (.ishl, 1) := by decide +kernel
theorem dX2_totalFrom_117 : decode cX2_totalFrom 117 = .ok (.ior, 1) := by decide +kernel
theorem dX2_totalFrom_118 : decode cX2_totalFrom 118 = .ok (.istore 18, 2) := by decide +kernel
theorem dX2_totalFrom_120 : decode cX2_totalFrom 120 = .ok (.aload_n 0, 1) := by decide +kernel
theorem dX2_totalFrom_121 : decode cX2_totalFrom 121 = .ok (.iload 15, 2) := by decide +kernel
theorem dX2_totalFrom_123 : decode cX2_totalFrom 123 = .ok (.iload 18, 2) := by decide +kernel
theorem dX2_totalFrom_125 : decode cX2_totalFrom 125 = .ok (.invokevirtual 48, 3) := by decide +kernel
theorem dX2_totalFrom_128 : decode cX2_totalFrom 128 = .ok (.istore 19, 2) := by decide +kernel
theorem dX2_totalFrom_130 : decode cX2_totalFrom 130 = .ok (.iload 19, 2) := by decide +kernel
theorem dX2_totalFrom_132 : decode cX2_totalFrom 132 = .ok (.ifCond .eq 12, 3) := by decide +kernel
theorem dX2_totalFrom_135 : decode cX2_totalFrom 135 = .ok (.iload_n 1, 1) := by decide +kernel
theorem dX2_totalFrom_136 : decode cX2_totalFrom 136 = .ok (.iconst 1, 1) := by decide +kernel
theorem dX2_totalFrom_137 : decode cX2_totalFrom 137 = .ok (.iload 15, 2) := by decide +kernel
theorem dX2_totalFrom_139 : decode cX2_totalFrom 139 = .ok (.ishl, 1) := by decide +kernel
theorem dX2_totalFrom_140 : decode cX2_totalFrom 140 = .ok (.ior, 1) := by decide +kernel
theorem dX2_totalFrom_141 : decode cX2_totalFrom 141 = .ok (.goto 4, 3) := by decide +kernel
theorem dX2_totalFrom_144 : decode cX2_totalFrom 144 = .ok (.iload_n 1, 1) := by decide +kernel
theorem dX2_totalFrom_145 : decode cX2_totalFrom 145 = .ok (.istore 20, 2) := by decide +kernel
theorem dX2_totalFrom_147 : decode cX2_totalFrom 147 = .ok (.iload 19, 2) := by decide +kernel
theorem dX2_totalFrom_149 : decode cX2_totalFrom 149 = .ok (.ifCond .eq 21, 3) := by decide +kernel
theorem dX2_totalFrom_152 : decode cX2_totalFrom 152 = .ok (.iload 12, 2) := by decide +kernel
theorem dX2_totalFrom_154 : decode cX2_totalFrom 154 = .ok (.aload_n 0, 1) := by decide +kernel
theorem dX2_totalFrom_155 : decode cX2_totalFrom 155 = .ok (.getfield 51, 3) := by decide +kernel
theorem dX2_totalFrom_158 : decode cX2_totalFrom 158 = .ok (.iload 15, 2) := by decide +kernel
theorem dX2_totalFrom_160 : decode cX2_totalFrom 160 = .ok (.iaload, 1) := by decide +kernel
theorem dX2_totalFrom_161 : decode cX2_totalFrom 161 = .ok (.iload 4, 2) := by decide +kernel
theorem dX2_totalFrom_163 : decode cX2_totalFrom 163 = .ok (.iconst (-1), 1) := by decide +kernel
theorem dX2_totalFrom_164 : decode cX2_totalFrom 164 = .ok (.ixor, 1) := by decide +kernel
theorem dX2_totalFrom_165 : decode cX2_totalFrom 165 = .ok (.iand, 1) := by decide +kernel
theorem dX2_totalFrom_166 : decode cX2_totalFrom 166 = .ok (.ior, 1) := by decide +kernel
theorem dX2_totalFrom_167 : decode cX2_totalFrom 167 = .ok (.goto 5, 3) := by decide +kernel
theorem dX2_totalFrom_170 : decode cX2_totalFrom 170 = .ok (.iload 12, 2) := by decide +kernel
theorem dX2_totalFrom_172 : decode cX2_totalFrom 172 = .ok (.istore 21, 2) := by decide +kernel
theorem dX2_totalFrom_174 : decode cX2_totalFrom 174 = .ok (.lload 8, 2) := by decide +kernel
theorem dX2_totalFrom_176 : decode cX2_totalFrom 176 = .ok (.aload_n 0, 1) := by decide +kernel
theorem dX2_totalFrom_177 : decode cX2_totalFrom 177 = .ok (.iload 20, 2) := by decide +kernel
theorem dX2_totalFrom_179 : decode cX2_totalFrom 179 = .ok (.iload 18, 2) := by decide +kernel
theorem dX2_totalFrom_181 : decode cX2_totalFrom 181 = .ok (.iload 21, 2) := by decide +kernel
theorem dX2_totalFrom_183 : decode cX2_totalFrom 183 = .ok (.iload 4, 2) := by decide +kernel
theorem dX2_totalFrom_185 : decode cX2_totalFrom 185 = .ok (.lload 16, 2) := by decide +kernel
theorem dX2_totalFrom_187 : decode cX2_totalFrom 187 = .ok (.aload_n 0, 1) := by decide +kernel
theorem dX2_totalFrom_188 : decode cX2_totalFrom 188 = .ok (.getfield 25, 3) := by decide +kernel
theorem dX2_totalFrom_191 : decode cX2_totalFrom 191 = .ok (.iload 14, 2) := by decide +kernel
theorem dX2_totalFrom_193 : decode cX2_totalFrom 193 = .ok (.iaload, 1) := by decide +kernel
theorem dX2_totalFrom_194 : decode cX2_totalFrom 194 = .ok (.i2l, 1) := by decide +kernel
theorem dX2_totalFrom_195 : decode cX2_totalFrom 195 = .ok (.lmul, 1) := by decide +kernel
theorem dX2_totalFrom_196 : decode cX2_totalFrom 196 = .ok (.iload 7, 2) := by decide +kernel
theorem dX2_totalFrom_198 : decode cX2_totalFrom 198 = .ok (.iconst 1, 1) := by decide +kernel
theorem dX2_totalFrom_199 : decode cX2_totalFrom 199 = .ok (.iadd, 1) := by decide +kernel
theorem dX2_totalFrom_200 : decode cX2_totalFrom 200 = .ok (.invokestatic 67, 3) := by decide +kernel
theorem dX2_totalFrom_203 : decode cX2_totalFrom 203 = .ok (.ladd, 1) := by decide +kernel
theorem dX2_totalFrom_204 : decode cX2_totalFrom 204 = .ok (.lstore 8, 2) := by decide +kernel
theorem dX2_totalFrom_206 : decode cX2_totalFrom 206 = .ok (.iinc 13 1, 3) := by decide +kernel
theorem dX2_totalFrom_209 : decode cX2_totalFrom 209 = .ok (.goto (-196), 3) := by decide +kernel
theorem dX2_totalFrom_212 : decode cX2_totalFrom 212 = .ok (.lload 8, 2) := by decide +kernel
theorem dX2_totalFrom_214 : decode cX2_totalFrom 214 = .ok (.lload 10, 2) := by decide +kernel
theorem dX2_totalFrom_216 : decode cX2_totalFrom 216 = .ok (.iload_n 1, 1) := by decide +kernel
theorem dX2_totalFrom_217 : decode cX2_totalFrom 217 = .ok (.invokestatic 73, 3) := by decide +kernel
theorem dX2_totalFrom_220 : decode cX2_totalFrom 220 = .ok (.i2l, 1) := by decide +kernel
theorem dX2_totalFrom_221 : decode cX2_totalFrom 221 = .ok (.lmul, 1) := by decide +kernel
theorem dX2_totalFrom_222 : decode cX2_totalFrom 222 = .ok (.ladd, 1) := by decide +kernel
theorem dX2_totalFrom_223 : decode cX2_totalFrom 223 = .ok (.lreturn, 1) := by decide +kernel
def wj_X2_totalFrom_172 (R : Int32 → Int32 → Int32 → Int32 → Int64 → Int32 → HI → HJ → (Int64 → Prop) → Prop) (I : HI) (J : HJ) (x1 : Int32) (x2 : Int32) (x4 : Int32) (x7 : Int32) (x8 : Int64) (x10 : Int64) (x12 : Int32) (x13 : Int32) (x14 : Int32) (x16 : Int64) (x18 : Int32) (x20 : Int32) (t0 : Int32) (E13 : Int64 → Int64 → Prop) (K13 : Int64 × Int64 × Int32 × Int32 → Prop) (Post : Int64 → Prop) : Prop :=
  vp_in x14 10 ∧ (R x20 x18 t0 x4 (x16 * (Int32.toInt64 (I 21 (Int32.toNatClampNeg x14)))) (x7 + 1) I J (fun (r_5 : Int64) => (K13 ((x8 + r_5), x10, x12, (x13 + 1)))))
set_option maxHeartbeats 4000000 in
set_option maxRecDepth 20000 in
theorem wk_X2_totalFrom_172 (g : kf_G) (hg : kf_g g) {x : kf_X} {fr lc fr' lc' : Nat} (hrm : fr' + 1 ≤ fr ∧ 8 + (22 + 11) + lc' ≤ lc) (hfl : 2 ≤ fr ∧ 42 ≤ lc) (hx : kf_ok g x RX2 cX2_totalFrom 22 fr lc) (R : Int32 → Int32 → Int32 → Int32 → Int64 → Int32 → HI → HJ → (Int64 → Prop) → Prop) (hR : ∀ (x1 : Int32) (x2 : Int32) (x3 : Int32) (x4 : Int32) (x5 : Int64) (x7 : Int32) (I : HI) (J : HJ) (P : Int64 → Prop), R x1 x2 x3 x4 x5 x7 I J P → kf_Ml g yX2_totalFrom (kf_W yX2_totalFrom cX2_totalFrom 22 (Option.some Jvm.ClassFile.FieldType.long)) fr' lc' [.ref (g.2.2.2 12), .int x1, .int x2, .int x3, .int x4, .long x5, .int x7] I J (fun v I' J' => P v ∧ I' = I ∧ J' = J)) (I : HI) (J : HJ) (x1 : Int32) (x2 : Int32) (x4 : Int32) (x7 : Int32) (x8 : Int64) (x10 : Int64) (x12 : Int32) (x13 : Int32) (x14 : Int32) (x16 : Int64) (x18 : Int32) (x20 : Int32) (t0 : Int32) (E13 : Int64 → Int64 → Prop) (K13 : Int64 × Int64 × Int32 × Int32 → Prop) (hE13 : ∀ (y8 : Int64) (y10 : Int64), E13 y8 y10 → kf_M g x 22 212 [(1, .int x1), (8, .long y8), (10, .long y10)] [] I J) (hK13 : ∀ (y8 : Int64) (y10 : Int64) (y12 : Int32) (y13 : Int32), K13 (y8, y10, y12, y13) → kf_M g x 22 13 [(0, .ref (g.2.2.2 12)), (1, .int x1), (2, .int x2), (4, .int x4), (7, .int x7), (8, .long y8), (10, .long y10), (12, .int y12), (13, .int y13)] [] I J) (Post : Int64 → Prop) (hret : ∀ (pc : Nat) (lv : List (Nat × Value)) (v : Int64), decode cX2_totalFrom pc = .ok (.lreturn, 1) → Post v → kf_M g x 22 pc lv [.long v] I J) (h : wj_X2_totalFrom_172 R I J x1 x2 x4 x7 x8 x10 x12 x13 x14 x16 x18 x20 t0 E13 K13 Post) : kf_M g x 22 172 [(0, .ref (g.2.2.2 12)), (1, .int x1), (2, .int x2), (4, .int x4), (7, .int x7), (8, .long x8), (10, .long x10), (12, .int x12), (13, .int x13), (14, .int x14), (16, .long x16), (18, .int x18), (20, .int x20)] [.int t0] I J := by
  unfold wj_X2_totalFrom_172 at h
  refine kf_istore (lv' := [(21, .int t0), (0, .ref (g.2.2.2 12)), (1, .int x1), (2, .int x2), (4, .int x4), (7, .int x7), (8, .long x8), (10, .long x10), (12, .int x12), (13, .int x13), (14, .int x14), (16, .long x16), (18, .int x18), (20, .int x20)]) hx dX2_totalFrom_172 (by decide) rfl ?_
  refine kf_lload hx dX2_totalFrom_174 6 rfl ?_
  refine kf_aload_n hx dX2_totalFrom_176 rfl 1 rfl ?_
  refine kf_iload hx dX2_totalFrom_177 13 rfl ?_
  refine kf_iload hx dX2_totalFrom_179 12 rfl ?_
  refine kf_iload hx dX2_totalFrom_181 0 rfl ?_
  refine kf_iload hx dX2_totalFrom_183 4 rfl ?_
  refine kf_lload hx dX2_totalFrom_185 11 rfl ?_
  refine kf_aload_n hx dX2_totalFrom_187 rfl 1 rfl ?_
  refine kf_getR (n := 21) hx sl_12_8 fl_RX2_25 dX2_totalFrom_188 ?_
  refine kf_iload hx dX2_totalFrom_191 10 rfl ?_
  refine kf_iald hx ar_21 h.1 dX2_totalFrom_193 ?_
  replace h := h.2
  refine kf_i2l hx dX2_totalFrom_194 ?_
  refine kf_lmul hx dX2_totalFrom_195 ?_
  refine kf_iload hx dX2_totalFrom_196 5 rfl ?_
  refine kf_iconst (v := 1) hx dX2_totalFrom_198 (by decide) ?_
  refine kf_iadd hx dX2_totalFrom_199 ?_
  refine kf_callSlP (st := [.long x8]) hx (hR x20 x18 t0 x4 (x16 * (Int32.toInt64 (I 21 (Int32.toNatClampNeg x14)))) (x7 + 1) I J _ h) lk_RX2_67 km_X2_totalFrom rfl hrm rfl (Nat.le_of_ble_eq_true rfl) dX2_totalFrom_200 (fun r_5 h => ?_)
  refine kf_ladd hx dX2_totalFrom_203 ?_
  refine kf_lstore (lv' := [(8, .long (x8 + r_5)), (21, .int t0), (0, .ref (g.2.2.2 12)), (1, .int x1), (2, .int x2), (4, .int x4), (7, .int x7), (10, .long x10), (12, .int x12), (13, .int x13), (14, .int x14), (16, .long x16), (18, .int x18), (20, .int x20)]) hx dX2_totalFrom_204 (by decide) rfl ?_
  refine kf_iinc (w := (x13 + 1)) (lv' := [(13, .int (x13 + 1)), (8, .long (x8 + r_5)), (21, .int t0), (0, .ref (g.2.2.2 12)), (1, .int x1), (2, .int x2), (4, .int x4), (7, .int x7), (10, .long x10), (12, .int x12), (14, .int x14), (16, .long x16), (18, .int x18), (20, .int x20)]) hx dX2_totalFrom_206 9 rfl rfl (by decide) rfl ?_
  refine kf_goto hx 13 dX2_totalFrom_209 (by decide) ?_
  refine kf_sub [3, 4, 5, 6, 7, 1, 8, 9, 0] rfl ?_
  exact hK13 _ _ _ _ h
def wj_X2_totalFrom_145 (R : Int32 → Int32 → Int32 → Int32 → Int64 → Int32 → HI → HJ → (Int64 → Prop) → Prop) (I : HI) (J : HJ) (x1 : Int32) (x2 : Int32) (x4 : Int32) (x7 : Int32) (x8 : Int64) (x10 : Int64) (x12 : Int32) (x13 : Int32) (x14 : Int32) (x15 : Int32) (x16 : Int64) (x18 : Int32) (x19 : Int32) (t0 : Int32) (E13 : Int64 → Int64 → Prop) (K13 : Int64 × Int64 × Int32 × Int32 → Prop) (Post : Int64 → Prop) : Prop :=
  (x19 = 0 → (wj_X2_totalFrom_172 R I J x1 x2 x4 x7 x8 x10 x12 x13 x14 x16 x18 t0 x12 E13 K13 Post)) ∧ (¬ x19 = 0 → (vp_in x15 12 ∧ (wj_X2_totalFrom_172 R I J x1 x2 x4 x7 x8 x10 x12 x13 x14 x16 x18 t0 (x12 ||| ((I 18 (Int32.toNatClampNeg x15)) &&& (x4 ^^^ (-1)))) E13 K13 Post)))
set_option maxHeartbeats 4000000 in
set_option maxRecDepth 20000 in
theorem wk_X2_totalFrom_145 (g : kf_G) (hg : kf_g g) {x : kf_X} {fr lc fr' lc' : Nat} (hrm : fr' + 1 ≤ fr ∧ 8 + (22 + 11) + lc' ≤ lc) (hfl : 2 ≤ fr ∧ 42 ≤ lc) (hx : kf_ok g x RX2 cX2_totalFrom 22 fr lc) (R : Int32 → Int32 → Int32 → Int32 → Int64 → Int32 → HI → HJ → (Int64 → Prop) → Prop) (hR : ∀ (x1 : Int32) (x2 : Int32) (x3 : Int32) (x4 : Int32) (x5 : Int64) (x7 : Int32) (I : HI) (J : HJ) (P : Int64 → Prop), R x1 x2 x3 x4 x5 x7 I J P → kf_Ml g yX2_totalFrom (kf_W yX2_totalFrom cX2_totalFrom 22 (Option.some Jvm.ClassFile.FieldType.long)) fr' lc' [.ref (g.2.2.2 12), .int x1, .int x2, .int x3, .int x4, .long x5, .int x7] I J (fun v I' J' => P v ∧ I' = I ∧ J' = J)) (I : HI) (J : HJ) (x1 : Int32) (x2 : Int32) (x4 : Int32) (x7 : Int32) (x8 : Int64) (x10 : Int64) (x12 : Int32) (x13 : Int32) (x14 : Int32) (x15 : Int32) (x16 : Int64) (x18 : Int32) (x19 : Int32) (t0 : Int32) (E13 : Int64 → Int64 → Prop) (K13 : Int64 × Int64 × Int32 × Int32 → Prop) (hE13 : ∀ (y8 : Int64) (y10 : Int64), E13 y8 y10 → kf_M g x 22 212 [(1, .int x1), (8, .long y8), (10, .long y10)] [] I J) (hK13 : ∀ (y8 : Int64) (y10 : Int64) (y12 : Int32) (y13 : Int32), K13 (y8, y10, y12, y13) → kf_M g x 22 13 [(0, .ref (g.2.2.2 12)), (1, .int x1), (2, .int x2), (4, .int x4), (7, .int x7), (8, .long y8), (10, .long y10), (12, .int y12), (13, .int y13)] [] I J) (Post : Int64 → Prop) (hret : ∀ (pc : Nat) (lv : List (Nat × Value)) (v : Int64), decode cX2_totalFrom pc = .ok (.lreturn, 1) → Post v → kf_M g x 22 pc lv [.long v] I J) (h : wj_X2_totalFrom_145 R I J x1 x2 x4 x7 x8 x10 x12 x13 x14 x15 x16 x18 x19 t0 E13 K13 Post) : kf_M g x 22 145 [(0, .ref (g.2.2.2 12)), (1, .int x1), (2, .int x2), (4, .int x4), (7, .int x7), (8, .long x8), (10, .long x10), (12, .int x12), (13, .int x13), (14, .int x14), (15, .int x15), (16, .long x16), (18, .int x18), (19, .int x19)] [.int t0] I J := by
  unfold wj_X2_totalFrom_145 at h
  refine kf_istore (lv' := [(20, .int t0), (0, .ref (g.2.2.2 12)), (1, .int x1), (2, .int x2), (4, .int x4), (7, .int x7), (8, .long x8), (10, .long x10), (12, .int x12), (13, .int x13), (14, .int x14), (15, .int x15), (16, .long x16), (18, .int x18), (19, .int x19)]) hx dX2_totalFrom_145 (by decide) rfl ?_
  refine kf_iload hx dX2_totalFrom_147 14 rfl ?_
  refine kf_if_eq hx 170 dX2_totalFrom_149 (by decide) (fun c => ?_) (fun c => ?_)
  · replace h := h.1 c
    refine kf_iload hx dX2_totalFrom_170 8 rfl ?_
    refine kf_sub [1, 2, 3, 4, 5, 6, 7, 8, 9, 10, 12, 13, 0] rfl ?_
    exact wk_X2_totalFrom_172 g hg hrm hfl hx R hR I J x1 x2 x4 x7 x8 x10 x12 x13 x14 x16 x18 t0 x12 _ _ hE13 hK13 _ hret h
  · replace h := h.2 c
    refine kf_iload hx dX2_totalFrom_152 8 rfl ?_
    refine kf_aload_n hx dX2_totalFrom_154 rfl 1 rfl ?_
    refine kf_getR (n := 18) hx sl_12_5 fl_RX2_51 dX2_totalFrom_155 ?_
    refine kf_iload hx dX2_totalFrom_158 11 rfl ?_
    refine kf_iald hx ar_18 h.1 dX2_totalFrom_160 ?_
    replace h := h.2
    refine kf_iload hx dX2_totalFrom_161 4 rfl ?_
    refine kf_iconst (v := (-1)) hx dX2_totalFrom_163 (by decide) ?_
    refine kf_ixor hx dX2_totalFrom_164 ?_
    refine kf_iand hx dX2_totalFrom_165 ?_
    refine kf_ior hx dX2_totalFrom_166 ?_
    refine kf_goto hx 172 dX2_totalFrom_167 (by decide) ?_
    refine kf_sub [1, 2, 3, 4, 5, 6, 7, 8, 9, 10, 12, 13, 0] rfl ?_
    exact wk_X2_totalFrom_172 g hg hrm hfl hx R hR I J x1 x2 x4 x7 x8 x10 x12 x13 x14 x16 x18 t0 (x12 ||| ((I 18 (Int32.toNatClampNeg x15)) &&& (x4 ^^^ (-1)))) _ _ hE13 hK13 _ hret h
def wb_X2_totalFrom_13 (R : Int32 → Int32 → Int32 → Int32 → Int64 → Int32 → HI → HJ → (Int64 → Prop) → Prop) (I : HI) (J : HJ) (x1 : Int32) (x2 : Int32) (x4 : Int32) (x7 : Int32) (Post : Int64 → Prop) (E13 : Int64 → Int64 → Prop) (K13 : (Int64 × Int64 × Int32 × Int32) → Prop) (s : Int64 × Int64 × Int32 × Int32) : Prop :=
  match s with
  | (x8, x10, x12, x13) => (10 ≤ x13 → (E13 x8 x10)) ∧ (¬ 10 ≤ x13 → ((x12 = 0 → (E13 x8 x10)) ∧ (¬ x12 = 0 → ((x10 = 0 → (E13 x8 x10)) ∧ (¬ x10 = 0 → (w_J6_numberOfTrailingZeros_0f7a4 x12 (fun (r_1 : Int32) => (vp_in r_1 10 ∧ (w_X10_has (x1 ||| (I 12 13)) (I 20 (Int32.toNatClampNeg r_1)) (fun (r_2 : Bool) => ((r_2 = true → (K13 (x8, x10, (x12 &&& (x12 - 1)), (x13 + 1)))) ∧ (r_2 = false → (vp_in r_1 10 ∧ (∀ z_3 : Int64, z_3 = ((x10 / 16) * (Int32.toInt64 (16 - (I 21 (Int32.toNatClampNeg r_1))))) → (vp_in r_1 10 ∧ (((I 21 (Int32.toNatClampNeg r_1)) ≤ 0 → (K13 (x8, z_3, (x12 &&& (x12 - 1)), (x13 + 1)))) ∧ (¬ (I 21 (Int32.toNatClampNeg r_1)) ≤ 0 → ((10 ≤ x7 → (K13 (x8, z_3, (x12 &&& (x12 - 1)), (x13 + 1)))) ∧ (¬ 10 ≤ x7 → (w_X4_isTold (I 20 (Int32.toNatClampNeg r_1)) (x2 ||| (1 <<< (r_1 &&& 31))) I J (fun (r_4 : Bool) => ((r_4 = false → (wj_X2_totalFrom_145 R I J x1 x2 x4 x7 x8 z_3 (x12 &&& (x12 - 1)) x13 r_1 (I 20 (Int32.toNatClampNeg r_1)) (x10 / 16) (x2 ||| (1 <<< (r_1 &&& 31))) (kb r_4) x1 E13 K13 Post)) ∧ (r_4 = true → (wj_X2_totalFrom_145 R I J x1 x2 x4 x7 x8 z_3 (x12 &&& (x12 - 1)) x13 r_1 (I 20 (Int32.toNatClampNeg r_1)) (x10 / 16) (x2 ||| (1 <<< (r_1 &&& 31))) (kb r_4) (x1 ||| (1 <<< ((I 20 (Int32.toNatClampNeg r_1)) &&& 31))) E13 K13 Post))))))))))))))))))))))))
set_option maxHeartbeats 4000000 in
set_option maxRecDepth 20000 in
theorem ws_X2_totalFrom_13 (g : kf_G) (hg : kf_g g) {x : kf_X} {fr lc fr' lc' : Nat} (hrm : fr' + 1 ≤ fr ∧ 8 + (22 + 11) + lc' ≤ lc) (hfl : 2 ≤ fr ∧ 42 ≤ lc) (hx : kf_ok g x RX2 cX2_totalFrom 22 fr lc) (R : Int32 → Int32 → Int32 → Int32 → Int64 → Int32 → HI → HJ → (Int64 → Prop) → Prop) (hR : ∀ (x1 : Int32) (x2 : Int32) (x3 : Int32) (x4 : Int32) (x5 : Int64) (x7 : Int32) (I : HI) (J : HJ) (P : Int64 → Prop), R x1 x2 x3 x4 x5 x7 I J P → kf_Ml g yX2_totalFrom (kf_W yX2_totalFrom cX2_totalFrom 22 (Option.some Jvm.ClassFile.FieldType.long)) fr' lc' [.ref (g.2.2.2 12), .int x1, .int x2, .int x3, .int x4, .long x5, .int x7] I J (fun v I' J' => P v ∧ I' = I ∧ J' = J)) (I : HI) (J : HJ) (x1 : Int32) (x2 : Int32) (x4 : Int32) (x7 : Int32) (Post : Int64 → Prop) (hret : ∀ (pc : Nat) (lv : List (Nat × Value)) (v : Int64), decode cX2_totalFrom pc = .ok (.lreturn, 1) → Post v → kf_M g x 22 pc lv [.long v] I J) (E13 : Int64 → Int64 → Prop) (hE13 : ∀ (y8 : Int64) (y10 : Int64), E13 y8 y10 → kf_M g x 22 212 [(1, .int x1), (8, .long y8), (10, .long y10)] [] I J) (K13 : (Int64 × Int64 × Int32 × Int32) → Prop) (hK13 : ∀ (y8 : Int64) (y10 : Int64) (y12 : Int32) (y13 : Int32), K13 (y8, y10, y12, y13) → kf_M g x 22 13 [(0, .ref (g.2.2.2 12)), (1, .int x1), (2, .int x2), (4, .int x4), (7, .int x7), (8, .long y8), (10, .long y10), (12, .int y12), (13, .int y13)] [] I J) (x8 : Int64) (x10 : Int64) (x12 : Int32) (x13 : Int32) (h : wb_X2_totalFrom_13 R I J x1 x2 x4 x7 Post E13 K13 (x8, x10, x12, x13)) : kf_M g x 22 13 [(0, .ref (g.2.2.2 12)), (1, .int x1), (2, .int x2), (4, .int x4), (7, .int x7), (8, .long x8), (10, .long x10), (12, .int x12), (13, .int x13)] [] I J := by
  unfold wb_X2_totalFrom_13 at h
  refine kf_iload hx dX2_totalFrom_13 8 rfl ?_
  refine kf_bipush (v := 10) hx dX2_totalFrom_15 (by decide) ?_
  refine kf_icmp_ge hx 212 dX2_totalFrom_17 (by decide) (fun c => ?_) (fun c => ?_)
  · replace h := h.1 c
    refine kf_sub [1, 5, 6] rfl ?_
    exact hE13 _ _ h
  · replace h := h.2 c
    refine kf_iload hx dX2_totalFrom_20 7 rfl ?_
    refine kf_if_eq hx 212 dX2_totalFrom_22 (by decide) (fun c => ?_) (fun c => ?_)
    · replace h := h.1 c
      refine kf_sub [1, 5, 6] rfl ?_
      exact hE13 _ _ h
    · replace h := h.2 c
      refine kf_lload hx dX2_totalFrom_25 6 rfl ?_
      refine kf_lconst (v := 0) hx dX2_totalFrom_27 (by decide) ?_
      refine kf_l_eq hx 212 dX2_totalFrom_28 dX2_totalFrom_29 (by decide) (fun c => ?_) (fun c => ?_)
      · replace h := h.1 c
        refine kf_sub [1, 5, 6] rfl ?_
        exact hE13 _ _ h
      · replace h := h.2 c
        refine kf_iload hx dX2_totalFrom_32 7 rfl ?_
        refine kf_callSiP (st := []) hx (m_J6_numberOfTrailingZeros_0f7a4 g hg x12 I J _ h) lk_RX2_33 km_J6_numberOfTrailingZeros_0f7a4 rfl ⟨by omega, by omega⟩ rfl (Nat.le_of_ble_eq_true rfl) dX2_totalFrom_34 (fun r_1 h => ?_)
        refine kf_istore (lv' := [(14, .int r_1), (0, .ref (g.2.2.2 12)), (1, .int x1), (2, .int x2), (4, .int x4), (7, .int x7), (8, .long x8), (10, .long x10), (12, .int x12), (13, .int x13)]) hx dX2_totalFrom_37 (by decide) rfl ?_
        refine kf_iload hx dX2_totalFrom_39 8 rfl ?_
        refine kf_iload hx dX2_totalFrom_41 8 rfl ?_
        refine kf_iconst (v := 1) hx dX2_totalFrom_43 (by decide) ?_
        refine kf_isub hx dX2_totalFrom_44 ?_
        refine kf_iand hx dX2_totalFrom_45 ?_
        refine kf_istore (lv' := [(12, .int (x12 &&& (x12 - 1))), (14, .int r_1), (0, .ref (g.2.2.2 12)), (1, .int x1), (2, .int x2), (4, .int x4), (7, .int x7), (8, .long x8), (10, .long x10), (13, .int x13)]) hx dX2_totalFrom_46 (by decide) rfl ?_
        refine kf_aload_n hx dX2_totalFrom_48 rfl 2 rfl ?_
        refine kf_getR (n := 20) hx sl_12_7 fl_RX2_38 dX2_totalFrom_49 ?_
        refine kf_iload hx dX2_totalFrom_52 1 rfl ?_
        refine kf_iald hx ar_20 h.1 dX2_totalFrom_54 ?_
        replace h := h.2
        refine kf_istore (lv' := [(15, .int (I 20 (Int32.toNatClampNeg r_1))), (12, .int (x12 &&& (x12 - 1))), (14, .int r_1), (0, .ref (g.2.2.2 12)), (1, .int x1), (2, .int x2), (4, .int x4), (7, .int x7), (8, .long x8), (10, .long x10), (13, .int x13)]) hx dX2_totalFrom_55 (by decide) rfl ?_
        refine kf_iload_n hx dX2_totalFrom_57 rfl 4 rfl ?_
        refine kf_aload_n hx dX2_totalFrom_58 rfl 3 rfl ?_
        refine kf_getI hx sl_12_13 fl_RX2_41 dX2_totalFrom_59 ?_
        refine kf_ior hx dX2_totalFrom_62 ?_
        refine kf_iload hx dX2_totalFrom_63 0 rfl ?_
        refine kf_callSbP (st := []) hx (m_X10_has g hg (x1 ||| (I 12 13)) (I 20 (Int32.toNatClampNeg r_1)) I J _ h) lk_RX2_44 km_X10_has rfl ⟨by omega, by omega⟩ rfl (Nat.le_of_ble_eq_true rfl) dX2_totalFrom_65 (fun r_2 h => ?_)
        refine kf_ifB_ne hx 206 dX2_totalFrom_68 (by decide) (fun c => ?_) (fun c => ?_)
        · replace h := h.1 c
          refine kf_iinc (w := (x13 + 1)) (lv' := [(13, .int (x13 + 1)), (15, .int (I 20 (Int32.toNatClampNeg r_1))), (12, .int (x12 &&& (x12 - 1))), (14, .int r_1), (0, .ref (g.2.2.2 12)), (1, .int x1), (2, .int x2), (4, .int x4), (7, .int x7), (8, .long x8), (10, .long x10)]) hx dX2_totalFrom_206 10 rfl rfl (by decide) rfl ?_
          refine kf_goto hx 13 dX2_totalFrom_209 (by decide) ?_
          refine kf_sub [4, 5, 6, 7, 8, 9, 10, 2, 0] rfl ?_
          exact hK13 _ _ _ _ h
        · replace h := h.2 c
          refine kf_lload hx dX2_totalFrom_71 9 rfl ?_
          refine kf_ldc2 hx ko_RX2_71 dX2_totalFrom_73 ?_
          refine kf_ldiv hx dX2_totalFrom_76 (by decide) ?_
          refine kf_lstore (lv' := [(16, .long (x10 / 16)), (15, .int (I 20 (Int32.toNatClampNeg r_1))), (12, .int (x12 &&& (x12 - 1))), (14, .int r_1), (0, .ref (g.2.2.2 12)), (1, .int x1), (2, .int x2), (4, .int x4), (7, .int x7), (8, .long x8), (10, .long x10), (13, .int x13)]) hx dX2_totalFrom_77 (by decide) rfl ?_
          refine kf_lload hx dX2_totalFrom_79 0 rfl ?_
          refine kf_bipush (v := 16) hx dX2_totalFrom_81 (by decide) ?_
          refine kf_aload_n hx dX2_totalFrom_83 rfl 4 rfl ?_
          refine kf_getR (n := 21) hx sl_12_8 fl_RX2_25 dX2_totalFrom_84 ?_
          refine kf_iload hx dX2_totalFrom_87 3 rfl ?_
          refine kf_iald hx ar_21 h.1 dX2_totalFrom_89 ?_
          replace h := h.2
          refine kf_isub hx dX2_totalFrom_90 ?_
          refine kf_i2l hx dX2_totalFrom_91 ?_
          refine kf_lmul hx dX2_totalFrom_92 ?_
          refine kf_topl (fun z_3 ez_3 => ?_)
          replace h := h z_3 ez_3
          refine kf_lstore (lv' := [(10, .long z_3), (16, .long (x10 / 16)), (15, .int (I 20 (Int32.toNatClampNeg r_1))), (12, .int (x12 &&& (x12 - 1))), (14, .int r_1), (0, .ref (g.2.2.2 12)), (1, .int x1), (2, .int x2), (4, .int x4), (7, .int x7), (8, .long x8), (13, .int x13)]) hx dX2_totalFrom_93 (by decide) rfl ?_
          refine kf_aload_n hx dX2_totalFrom_95 rfl 5 rfl ?_
          refine kf_getR (n := 21) hx sl_12_8 fl_RX2_25 dX2_totalFrom_96 ?_
          refine kf_iload hx dX2_totalFrom_99 4 rfl ?_
          refine kf_iald hx ar_21 h.1 dX2_totalFrom_101 ?_
          replace h := h.2
          refine kf_if_le hx 206 dX2_totalFrom_102 (by decide) (fun c => ?_) (fun c => ?_)
          · replace h := h.1 c
            refine kf_iinc (w := (x13 + 1)) (lv' := [(13, .int (x13 + 1)), (10, .long z_3), (16, .long (x10 / 16)), (15, .int (I 20 (Int32.toNatClampNeg r_1))), (12, .int (x12 &&& (x12 - 1))), (14, .int r_1), (0, .ref (g.2.2.2 12)), (1, .int x1), (2, .int x2), (4, .int x4), (7, .int x7), (8, .long x8)]) hx dX2_totalFrom_206 11 rfl rfl (by decide) rfl ?_
            refine kf_goto hx 13 dX2_totalFrom_209 (by decide) ?_
            refine kf_sub [6, 7, 8, 9, 10, 11, 1, 4, 0] rfl ?_
            exact hK13 _ _ _ _ h
          · replace h := h.2 c
            refine kf_iload hx dX2_totalFrom_105 9 rfl ?_
            refine kf_bipush (v := 10) hx dX2_totalFrom_107 (by decide) ?_
            refine kf_icmp_ge hx 206 dX2_totalFrom_109 (by decide) (fun c => ?_) (fun c => ?_)
            · replace h := h.1 c
              refine kf_iinc (w := (x13 + 1)) (lv' := [(13, .int (x13 + 1)), (10, .long z_3), (16, .long (x10 / 16)), (15, .int (I 20 (Int32.toNatClampNeg r_1))), (12, .int (x12 &&& (x12 - 1))), (14, .int r_1), (0, .ref (g.2.2.2 12)), (1, .int x1), (2, .int x2), (4, .int x4), (7, .int x7), (8, .long x8)]) hx dX2_totalFrom_206 11 rfl rfl (by decide) rfl ?_
              refine kf_goto hx 13 dX2_totalFrom_209 (by decide) ?_
              refine kf_sub [6, 7, 8, 9, 10, 11, 1, 4, 0] rfl ?_
              exact hK13 _ _ _ _ h
            · replace h := h.2 c
              refine kf_iload_n hx dX2_totalFrom_112 rfl 7 rfl ?_
              refine kf_iconst (v := 1) hx dX2_totalFrom_113 (by decide) ?_
              refine kf_iload hx dX2_totalFrom_114 4 rfl ?_
              refine kf_ishl hx dX2_totalFrom_116 ?_
              refine kf_ior hx dX2_totalFrom_117 ?_
              refine kf_istore (lv' := [(18, .int (x2 ||| (1 <<< (r_1 &&& 31)))), (10, .long z_3), (16, .long (x10 / 16)), (15, .int (I 20 (Int32.toNatClampNeg r_1))), (12, .int (x12 &&& (x12 - 1))), (14, .int r_1), (0, .ref (g.2.2.2 12)), (1, .int x1), (2, .int x2), (4, .int x4), (7, .int x7), (8, .long x8), (13, .int x13)]) hx dX2_totalFrom_118 (by decide) rfl ?_
              refine kf_aload_n hx dX2_totalFrom_120 rfl 6 rfl ?_
              refine kf_iload hx dX2_totalFrom_121 3 rfl ?_
              refine kf_iload hx dX2_totalFrom_123 0 rfl ?_
              refine kf_callVbP (st := []) hx (m_X4_isTold g hg (I 20 (Int32.toNatClampNeg r_1)) (x2 ||| (1 <<< (r_1 &&& 31))) I J _ h) lk_RX2_48 km_X4_isTold ob_12 rfl ⟨by omega, by omega⟩ rfl (Nat.le_of_ble_eq_true rfl) dX2_totalFrom_125 (fun r_4 h => ?_)
              refine kf_istore (lv' := [(19, .int (kb r_4)), (18, .int (x2 ||| (1 <<< (r_1 &&& 31)))), (10, .long z_3), (16, .long (x10 / 16)), (15, .int (I 20 (Int32.toNatClampNeg r_1))), (12, .int (x12 &&& (x12 - 1))), (14, .int r_1), (0, .ref (g.2.2.2 12)), (1, .int x1), (2, .int x2), (4, .int x4), (7, .int x7), (8, .long x8), (13, .int x13)]) hx dX2_totalFrom_128 (by decide) rfl ?_
              refine kf_iload hx dX2_totalFrom_130 0 rfl ?_
              refine kf_ifB_eq hx 144 dX2_totalFrom_132 (by decide) (fun c => ?_) (fun c => ?_)
              · replace h := h.1 c
                refine kf_iload_n hx dX2_totalFrom_144 rfl 8 rfl ?_
                refine kf_sub [7, 8, 9, 10, 11, 12, 2, 5, 13, 6, 4, 3, 1, 0] rfl ?_
                exact wk_X2_totalFrom_145 g hg hrm hfl hx R hR I J x1 x2 x4 x7 x8 z_3 (x12 &&& (x12 - 1)) x13 r_1 (I 20 (Int32.toNatClampNeg r_1)) (x10 / 16) (x2 ||| (1 <<< (r_1 &&& 31))) (kb r_4) x1 _ _ hE13 hK13 _ hret h
              · replace h := h.2 c
                refine kf_iload_n hx dX2_totalFrom_135 rfl 8 rfl ?_
                refine kf_iconst (v := 1) hx dX2_totalFrom_136 (by decide) ?_
                refine kf_iload hx dX2_totalFrom_137 4 rfl ?_
                refine kf_ishl hx dX2_totalFrom_139 ?_
                refine kf_ior hx dX2_totalFrom_140 ?_
                refine kf_goto hx 145 dX2_totalFrom_141 (by decide) ?_
                refine kf_sub [7, 8, 9, 10, 11, 12, 2, 5, 13, 6, 4, 3, 1, 0] rfl ?_
                exact wk_X2_totalFrom_145 g hg hrm hfl hx R hR I J x1 x2 x4 x7 x8 z_3 (x12 &&& (x12 - 1)) x13 r_1 (I 20 (Int32.toNatClampNeg r_1)) (x10 / 16) (x2 ||| (1 <<< (r_1 &&& 31))) (kb r_4) (x1 ||| (1 <<< ((I 20 (Int32.toNatClampNeg r_1)) &&& 31))) _ _ hE13 hK13 _ hret h
theorem wl_X2_totalFrom_13 (g : kf_G) (hg : kf_g g) {x : kf_X} {fr lc fr' lc' : Nat} (hrm : fr' + 1 ≤ fr ∧ 8 + (22 + 11) + lc' ≤ lc) (hfl : 2 ≤ fr ∧ 42 ≤ lc) (hx : kf_ok g x RX2 cX2_totalFrom 22 fr lc) (R : Int32 → Int32 → Int32 → Int32 → Int64 → Int32 → HI → HJ → (Int64 → Prop) → Prop) (hR : ∀ (x1 : Int32) (x2 : Int32) (x3 : Int32) (x4 : Int32) (x5 : Int64) (x7 : Int32) (I : HI) (J : HJ) (P : Int64 → Prop), R x1 x2 x3 x4 x5 x7 I J P → kf_Ml g yX2_totalFrom (kf_W yX2_totalFrom cX2_totalFrom 22 (Option.some Jvm.ClassFile.FieldType.long)) fr' lc' [.ref (g.2.2.2 12), .int x1, .int x2, .int x3, .int x4, .long x5, .int x7] I J (fun v I' J' => P v ∧ I' = I ∧ J' = J)) (I : HI) (J : HJ) (x1 : Int32) (x2 : Int32) (x4 : Int32) (x7 : Int32) (Post : Int64 → Prop) (hret : ∀ (pc : Nat) (lv : List (Nat × Value)) (v : Int64), decode cX2_totalFrom pc = .ok (.lreturn, 1) → Post v → kf_M g x 22 pc lv [.long v] I J) (E13 : Int64 → Int64 → Prop) (hE13 : ∀ (y8 : Int64) (y10 : Int64), E13 y8 y10 → kf_M g x 22 212 [(1, .int x1), (8, .long y8), (10, .long y10)] [] I J) : ∀ (n : Nat) (x8 : Int64) (x10 : Int64) (x12 : Int32) (x13 : Int32), lp (wb_X2_totalFrom_13 R I J x1 x2 x4 x7 Post E13) n (x8, x10, x12, x13) → kf_M g x 22 13 [(0, .ref (g.2.2.2 12)), (1, .int x1), (2, .int x2), (4, .int x4), (7, .int x7), (8, .long x8), (10, .long x10), (12, .int x12), (13, .int x13)] [] I J := by
  intro n
  induction n with
  | zero => intro x8 x10 x12 x13 h; exact h.elim
  | succ n ih => intro x8 x10 x12 x13 h; exact ws_X2_totalFrom_13 g hg hrm hfl hx R hR I J x1 x2 x4 x7 Post hret E13 hE13 (lp (wb_X2_totalFrom_13 R I J x1 x2 x4 x7 Post E13) n) ih x8 x10 x12 x13 h
def wr_X2_totalFrom (R : Int32 → Int32 → Int32 → Int32 → Int64 → Int32 → HI → HJ → (Int64 → Prop) → Prop) (x1 : Int32) (x2 : Int32) (x3 : Int32) (x4 : Int32) (x5 : Int64) (x7 : Int32) (I : HI) (J : HJ) (Post : Int64 → Prop) : Prop :=
  ∃ n, lp (wb_X2_totalFrom_13 R I J x1 x2 x4 x7 Post (fun (x8_6 : Int64) (x10_7 : Int64) => w_J6_bitCount_0f7a4 x1 (fun (r_8 : Int32) => (Post (x8_6 + (x10_7 * (Int32.toInt64 r_8))))))) n (0, x5, x3, 0)
set_option maxHeartbeats 4000000 in
set_option maxRecDepth 20000 in
theorem we_X2_totalFrom (g : kf_G) (hg : kf_g g) {x : kf_X} {fr lc fr' lc' : Nat} (hrm : fr' + 1 ≤ fr ∧ 8 + (22 + 11) + lc' ≤ lc) (hfl : 2 ≤ fr ∧ 42 ≤ lc) (hx : kf_ok g x RX2 cX2_totalFrom 22 fr lc) (R : Int32 → Int32 → Int32 → Int32 → Int64 → Int32 → HI → HJ → (Int64 → Prop) → Prop) (hR : ∀ (x1 : Int32) (x2 : Int32) (x3 : Int32) (x4 : Int32) (x5 : Int64) (x7 : Int32) (I : HI) (J : HJ) (P : Int64 → Prop), R x1 x2 x3 x4 x5 x7 I J P → kf_Ml g yX2_totalFrom (kf_W yX2_totalFrom cX2_totalFrom 22 (Option.some Jvm.ClassFile.FieldType.long)) fr' lc' [.ref (g.2.2.2 12), .int x1, .int x2, .int x3, .int x4, .long x5, .int x7] I J (fun v I' J' => P v ∧ I' = I ∧ J' = J)) (x1 : Int32) (x2 : Int32) (x3 : Int32) (x4 : Int32) (x5 : Int64) (x7 : Int32) (I : HI) (J : HJ) (Post : Int64 → Prop) (hret : ∀ (pc : Nat) (lv : List (Nat × Value)) (v : Int64), decode cX2_totalFrom pc = .ok (.lreturn, 1) → Post v → kf_M g x 22 pc lv [.long v] I J) (h : wr_X2_totalFrom R x1 x2 x3 x4 x5 x7 I J Post) : kf_M g x 22 0 [(0, .ref (g.2.2.2 12)), (1, .int x1), (2, .int x2), (3, .int x3), (4, .int x4), (5, .long x5), (7, .int x7)] [] I J := by
  unfold wr_X2_totalFrom at h
  refine kf_lconst (v := 0) hx dX2_totalFrom_0 (by decide) ?_
  refine kf_lstore (lv' := [(8, .long 0), (0, .ref (g.2.2.2 12)), (1, .int x1), (2, .int x2), (3, .int x3), (4, .int x4), (5, .long x5), (7, .int x7)]) hx dX2_totalFrom_1 (by decide) rfl ?_
  refine kf_lload hx dX2_totalFrom_3 6 rfl ?_
  refine kf_lstore (lv' := [(10, .long x5), (8, .long 0), (0, .ref (g.2.2.2 12)), (1, .int x1), (2, .int x2), (3, .int x3), (4, .int x4), (5, .long x5), (7, .int x7)]) hx dX2_totalFrom_5 (by decide) rfl ?_
  refine kf_iload_n hx dX2_totalFrom_7 rfl 5 rfl ?_
  refine kf_istore (lv' := [(12, .int x3), (10, .long x5), (8, .long 0), (0, .ref (g.2.2.2 12)), (1, .int x1), (2, .int x2), (3, .int x3), (4, .int x4), (5, .long x5), (7, .int x7)]) hx dX2_totalFrom_8 (by decide) rfl ?_
  refine kf_iconst (v := 0) hx dX2_totalFrom_10 (by decide) ?_
  refine kf_istore (lv' := [(13, .int 0), (12, .int x3), (10, .long x5), (8, .long 0), (0, .ref (g.2.2.2 12)), (1, .int x1), (2, .int x2), (3, .int x3), (4, .int x4), (5, .long x5), (7, .int x7)]) hx dX2_totalFrom_11 (by decide) rfl ?_
  obtain ⟨n, h⟩ := h
  refine kf_sub [4, 5, 6, 8, 10, 3, 2, 1, 0] rfl ?_
  refine wl_X2_totalFrom_13 g hg hrm hfl hx R hR I J x1 x2 x4 x7 _ hret _ (fun x8_6 x10_7 h => ?_) n _ _ _ _ h
  refine kf_lload hx dX2_totalFrom_212 1 rfl ?_
  refine kf_lload hx dX2_totalFrom_214 2 rfl ?_
  refine kf_iload_n hx dX2_totalFrom_216 rfl 0 rfl ?_
  refine kf_callSiP (st := [.long x10_7, .long x8_6]) hx (m_J6_bitCount_0f7a4 g hg x1 I J _ h) lk_RX2_73 km_J6_bitCount_0f7a4 rfl ⟨by omega, by omega⟩ rfl (Nat.le_of_ble_eq_true rfl) dX2_totalFrom_217 (fun r_8 h => ?_)
  refine kf_i2l hx dX2_totalFrom_220 ?_
  refine kf_lmul hx dX2_totalFrom_221 ?_
  refine kf_ladd hx dX2_totalFrom_222 ?_
  exact hret _ _ (x8_6 + (x10_7 * (Int32.toInt64 r_8)))  dX2_totalFrom_223 h
def w_X2_totalFrom : Nat → Int32 → Int32 → Int32 → Int32 → Int64 → Int32 → HI → HJ → (Int64 → Prop) → Prop
  | 0 => fun _ _ _ _ _ _ _ _ _ => False
  | d + 1 => wr_X2_totalFrom (w_X2_totalFrom d)
set_option maxHeartbeats 4000000 in
set_option maxRecDepth 20000 in
theorem m_X2_totalFrom (g : kf_G) (hg : kf_g g) : ∀ (d : Nat) (x1 : Int32) (x2 : Int32) (x3 : Int32) (x4 : Int32) (x5 : Int64) (x7 : Int32) (I : HI) (J : HJ) (Post : Int64 → Prop), w_X2_totalFrom d x1 x2 x3 x4 x5 x7 I J Post → kf_Ml g yX2_totalFrom (kf_W yX2_totalFrom cX2_totalFrom 22 (Option.some Jvm.ClassFile.FieldType.long)) (d + 2) (41 * d + 42) [.ref (g.2.2.2 12), .int x1, .int x2, .int x3, .int x4, .long x5, .int x7] I J (fun v I' J' => Post v ∧ I' = I ∧ J' = J) := by
  intro d
  induction d with
  | zero => intro x1 x2 x3 x4 x5 x7 I J Post h; exact h.elim
  | succ d ih =>
    intro x1 x2 x3 x4 x5 x7 I J Post h
    exact kf_entl hg (by decide) (Nat.le_of_ble_eq_true rfl) rfl (fun x hx hr => we_X2_totalFrom g hg (fr' := d + 2) (lc' := 41 * d + 42) ⟨by omega, by omega⟩ ⟨by omega, by omega⟩ hx (w_X2_totalFrom d) ih x1 x2 x3 x4 x5 x7 I J Post (fun pc lv v hd hP => hr pc lv v I J hd ⟨hP, rfl, rfl⟩) h)
theorem dX2_total_0 : decode cX2_total 0 = .ok (.aload_n 0, 1) := by decide +kernel
theorem dX2_total_1 : decode cX2_total 1 = .ok (.getfield 15, 3) := by decide +kernel
theorem dX2_total_4 : decode cX2_total 4 = .ok (.iload_n 1, 1) := by decide +kernel
theorem dX2_total_5 : decode cX2_total 5 = .ok (.invokevirtual 29, 3) := by decide +kernel
theorem dX2_total_8 : decode cX2_total 8 = .ok (.iload_n 2, 1) := by decide +kernel
theorem dX2_total_9 : decode cX2_total 9 = .ok (.iconst (-1), 1) := by decide +kernel
theorem dX2_total_10 : decode cX2_total 10 = .ok (.ixor, 1) := by decide +kernel
theorem dX2_total_11 : decode cX2_total 11 = .ok (.iand, 1) := by decide +kernel
theorem dX2_total_12 : decode cX2_total 12 = .ok (.istore_n 3, 1) := by decide +kernel
theorem dX2_total_13 : decode cX2_total 13 = .ok (.aload_n 0, 1) := by decide +kernel
theorem dX2_total_14 : decode cX2_total 14 = .ok (.getfield 15, 3) := by decide +kernel
theorem dX2_total_17 : decode cX2_total 17 = .ok (.iload_n 1, 1) := by decide +kernel
theorem dX2_total_18 : decode cX2_total 18 = .ok (.iconst 0, 1) := by decide +kernel
theorem dX2_total_19 : decode cX2_total 19 = .ok (.iload_n 3, 1) := by decide +kernel
theorem dX2_total_20 : decode cX2_total 20 = .ok (.iload_n 2, 1) := by decide +kernel
theorem dX2_total_21 : decode cX2_total 21 = .ok (.aload_n 0, 1) := by decide +kernel
theorem dX2_total_22 : decode cX2_total 22 = .ok (.invokevirtual 63, 3) := by decide +kernel
theorem dX2_total_25 : decode cX2_total 25 = .ok (.iconst 0, 1) := by decide +kernel
theorem dX2_total_26 : decode cX2_total 26 = .ok (.invokestatic 67, 3) := by decide +kernel
theorem dX2_total_29 : decode cX2_total 29 = .ok (.lreturn, 1) := by decide +kernel
def w_X2_total (x1 : Int32) (x2 : Int32) (I : HI) (J : HJ) (Post : Int64 → Prop) : Prop :=
  w_X4_tiesFrom x1 I J (fun (r_1 : Int32) => (w_X2_whole  I J (fun (r_2 : Int64) => (w_X2_totalFrom 14 x1 0 (r_1 &&& (x2 ^^^ (-1))) x2 r_2 0 I J (fun (r_3 : Int64) => (Post r_3))))))
set_option maxHeartbeats 4000000 in
set_option maxRecDepth 20000 in
theorem we_X2_total (g : kf_G) (hg : kf_g g) {x : kf_X} (hx : kf_ok g x RX2 cX2_total 4 17 657) (x1 : Int32) (x2 : Int32) (I : HI) (J : HJ) (Post : Int64 → Prop) (hret : ∀ (pc : Nat) (lv : List (Nat × Value)) (v : Int64), decode cX2_total pc = .ok (.lreturn, 1) → Post v → kf_M g x 4 pc lv [.long v] I J) (h : w_X2_total x1 x2 I J Post) : kf_M g x 4 0 [(0, .ref (g.2.2.2 39)), (1, .int x1), (2, .int x2)] [] I J := by
  unfold w_X2_total at h
  refine kf_aload_n hx dX2_total_0 rfl 0 rfl ?_
  refine kf_getR (n := 12) hx sl_39_0 fl_RX2_15 dX2_total_1 ?_
  refine kf_iload_n hx dX2_total_4 rfl 1 rfl ?_
  refine kf_callViP (st := []) hx (m_X4_tiesFrom g hg x1 I J _ h) lk_RX2_29 km_X4_tiesFrom ob_12 rfl (by decide) rfl (Nat.le_of_ble_eq_true rfl) dX2_total_5 (fun r_1 h => ?_)
  refine kf_iload_n hx dX2_total_8 rfl 2 rfl ?_
  refine kf_iconst (v := (-1)) hx dX2_total_9 (by decide) ?_
  refine kf_ixor hx dX2_total_10 ?_
  refine kf_iand hx dX2_total_11 ?_
  refine kf_istore_n (lv' := [(3, .int (r_1 &&& (x2 ^^^ (-1)))), (0, .ref (g.2.2.2 39)), (1, .int x1), (2, .int x2)]) hx dX2_total_12 rfl (by decide) rfl ?_
  refine kf_aload_n hx dX2_total_13 rfl 1 rfl ?_
  refine kf_getR (n := 12) hx sl_39_0 fl_RX2_15 dX2_total_14 ?_
  refine kf_iload_n hx dX2_total_17 rfl 2 rfl ?_
  refine kf_iconst (v := 0) hx dX2_total_18 (by decide) ?_
  refine kf_iload_n hx dX2_total_19 rfl 0 rfl ?_
  refine kf_iload_n hx dX2_total_20 rfl 3 rfl ?_
  refine kf_aload_n hx dX2_total_21 rfl 1 rfl ?_
  refine kf_callVlP (st := [.int x2, .int (r_1 &&& (x2 ^^^ (-1))), .int 0, .int x1, .ref (g.2.2.2 12)]) hx (m_X2_whole g hg  I J _ h) lk_RX2_63 km_X2_whole ob_39 rfl (by decide) rfl (Nat.le_of_ble_eq_true rfl) dX2_total_22 (fun r_2 h => ?_)
  refine kf_iconst (v := 0) hx dX2_total_25 (by decide) ?_
  refine kf_callSlP (st := []) hx (m_X2_totalFrom g hg 14 x1 0 (r_1 &&& (x2 ^^^ (-1))) x2 r_2 0 I J _ h) lk_RX2_67 km_X2_totalFrom rfl (by decide) rfl (Nat.le_of_ble_eq_true rfl) dX2_total_26 (fun r_3 h => ?_)
  exact hret _ _ r_3  dX2_total_29 h
set_option maxHeartbeats 4000000 in
set_option maxRecDepth 20000 in
theorem m_X2_total (g : kf_G) (hg : kf_g g) (x1 : Int32) (x2 : Int32) (I : HI) (J : HJ) (Post : Int64 → Prop) (h : w_X2_total x1 x2 I J Post) : kf_Ml g yX2_total (kf_W yX2_total cX2_total 4 (Option.some Jvm.ClassFile.FieldType.long)) 17 657 [.ref (g.2.2.2 39), .int x1, .int x2] I J (fun v I' J' => Post v ∧ I' = I ∧ J' = J) :=
  kf_entl hg (by decide) (Nat.le_of_ble_eq_true rfl) rfl (fun x hx hr => we_X2_total g hg hx x1 x2 I J Post (fun pc lv v hd hP => hr pc lv v I J hd ⟨hP, rfl, rfl⟩) h)
theorem dX0_bestToAdd_0 : decode cX0_bestToAdd 0 = .ok (.iconst (-1), 1) := by decide +kernel
theorem dX0_bestToAdd_1 : decode cX0_bestToAdd 1 = .ok (.istore 4, 2) := by decide +kernel
theorem dX0_bestToAdd_3 : decode cX0_bestToAdd 3 = .ok (.iconst 0, 1) := by decide +kernel
theorem dX0_bestToAdd_4 : decode cX0_bestToAdd 4 = .ok (.istore 5, 2) := by decide +kernel
theorem dX0_bestToAdd_6 : decode cX0_bestToAdd 6 = .ok (.iload 5, 2) := by decide +kernel
theorem dX0_bestToAdd_8 : decode cX0_bestToAdd 8 = .ok (.aload_n 0, 1) := by decide +kernel
theorem dX0_bestToAdd_9 : decode cX0_bestToAdd 9 = .ok (.getfield 15, 3) := by decide +kernel
theorem dX0_bestToAdd_12 : decode cX0_bestToAdd 12 = .ok (.getfield 31, 3) := by decide +kernel
theorem dX0_bestToAdd_15 : decode cX0_bestToAdd 15 = .ok (.if_icmp .ge 66, 3) := by decide +kernel
theorem dX0_bestToAdd_18 : decode cX0_bestToAdd 18 = .ok (.iload_n 1, 1) := by decide +kernel
theorem dX0_bestToAdd_19 : decode cX0_bestToAdd 19 = .ok (.iconst 1, 1) := by decide +kernel
theorem dX0_bestToAdd_20 : decode cX0_bestToAdd 20 = .ok (.iload 5, 2) := by decide +kernel
theorem dX0_bestToAdd_22 : decode cX0_bestToAdd 22 = .ok (.ishl, 1) := by decide +kernel
theorem dX0_bestToAdd_23 : decode cX0_bestToAdd 23 = .ok (.ior, 1) := by decide +kernel
theorem dX0_bestToAdd_24 : decode cX0_bestToAdd 24 = .ok (.istore 6, 2) := by decide +kernel
theorem dX0_bestToAdd_26 : decode cX0_bestToAdd 26 = .ok (.iload 6, 2) := by decide +kernel
theorem dX0_bestToAdd_28 : decode cX0_bestToAdd 28 = .ok (.iload_n 1, 1) := by decide +kernel
theorem dX0_bestToAdd_29 : decode cX0_bestToAdd 29 = .ok (.if_icmp .eq 46, 3) := by decide +kernel
theorem dX0_bestToAdd_32 : decode cX0_bestToAdd 32 = .ok (.aload_n 0, 1) := by decide +kernel
theorem dX0_bestToAdd_33 : decode cX0_bestToAdd 33 = .ok (.iload 6, 2) := by decide +kernel
theorem dX0_bestToAdd_35 : decode cX0_bestToAdd 35 = .ok (.iload_n 2, 1) := by decide +kernel
theorem dX0_bestToAdd_36 : decode cX0_bestToAdd 36 = .ok (.iload_n 3, 1) := by decide +kernel
theorem dX0_bestToAdd_37 : decode cX0_bestToAdd 37 = .ok (.invokevirtual 37, 3) := by decide +kernel
theorem dX0_bestToAdd_40 : decode cX0_bestToAdd 40 = .ok (.ifCond .eq 35, 3) := by decide +kernel
theorem dX0_bestToAdd_43 : decode cX0_bestToAdd 43 = .ok (.aload_n 0, 1) := by decide +kernel
theorem dX0_bestToAdd_44 : decode cX0_bestToAdd 44 = .ok (.getfield 19, 3) := by decide +kernel
theorem dX0_bestToAdd_47 : decode cX0_bestToAdd 47 = .ok (.iload 6, 2) := by decide +kernel
theorem dX0_bestToAdd_49 : decode cX0_bestToAdd 49 = .ok (.iconst 0, 1) := by decide +kernel
theorem dX0_bestToAdd_50 : decode cX0_bestToAdd 50 = .ok (.invokevirtual 41, 3) := by decide +kernel
theorem dX0_bestToAdd_53 : decode cX0_bestToAdd 53 = .ok (.lstore 7, 2) := by decide +kernel
theorem dX0_bestToAdd_55 : decode cX0_bestToAdd 55 = .ok (.lload 7, 2) := by decide +kernel
theorem dX0_bestToAdd_57 : decode cX0_bestToAdd 57 = .ok (.aload_n 0, 1) := by decide +kernel
theorem dX0_bestToAdd_58 : decode cX0_bestToAdd 58 = .ok (.getfield 23, 3) := by decide +kernel
theorem dX0_bestToAdd_61 : decode cX0_bestToAdd 61 = .ok (.lcmp, 1) := by decide +kernel
theorem dX0_bestToAdd_62 : decode cX0_bestToAdd 62 = .ok (.ifCond .le 13, 3) := by decide +kernel
theorem dX0_bestToAdd_65 : decode cX0_bestToAdd 65 = .ok (.aload_n 0, 1) := by decide +kernel
theorem dX0_bestToAdd_66 : decode cX0_bestToAdd 66 = .ok (.lload 7, 2) := by decide +kernel
theorem dX0_bestToAdd_68 : decode cX0_bestToAdd 68 = .ok (.putfield 23, 3) := by decide +kernel
theorem dX0_bestToAdd_71 : decode cX0_bestToAdd 71 = .ok (.iload 5, 2) := by decide +kernel
theorem dX0_bestToAdd_73 : decode cX0_bestToAdd 73 = .ok (.istore 4, 2) := by decide +kernel
theorem dX0_bestToAdd_75 : decode cX0_bestToAdd 75 = .ok (.iinc 5 1, 3) := by decide +kernel
theorem dX0_bestToAdd_78 : decode cX0_bestToAdd 78 = .ok (.goto (-72), 3) := by decide +kernel
theorem dX0_bestToAdd_81 : decode cX0_bestToAdd 81 = .ok (.iload 4, 2) := by decide +kernel
theorem dX0_bestToAdd_83 : decode cX0_bestToAdd 83 = .ok (.ireturn, 1) := by decide +kernel
def wb_X0_bestToAdd_6 (I : HI) (x1 : Int32) (x2 : Int32) (x3 : Int32) (Post : Int32 → HJ → Prop) (E6 : Int32 → HJ → Prop) (K6 : (Int32 × Int32 × HJ) → Prop) (s : Int32 × Int32 × HJ) : Prop :=
  match s with
  | (x4, x5, J) => ((I 12 11) ≤ x5 → (E6 x4 J)) ∧ (¬ (I 12 11) ≤ x5 → (((x1 ||| (1 <<< (x5 &&& 31))) = x1 → (K6 (x4, (x5 + 1), J))) ∧ (¬ (x1 ||| (1 <<< (x5 &&& 31))) = x1 → (w_X0_mayBeChosen (x1 ||| (1 <<< (x5 &&& 31))) x2 x3 I J (fun (r_1 : Bool) => ((r_1 = false → (K6 (x4, (x5 + 1), J))) ∧ (r_1 = true → (w_X2_total (x1 ||| (1 <<< (x5 &&& 31))) 0 I J (fun (r_2 : Int64) => ((r_2 ≤ (J 41 3) → (K6 (x4, (x5 + 1), J))) ∧ (¬ r_2 ≤ (J 41 3) → (∀ J_3 : HJ, J_3 = hJ J 41 3 r_2 → (K6 (x5, (x5 + 1), J_3))))))))))))))
set_option maxHeartbeats 4000000 in
set_option maxRecDepth 20000 in
theorem ws_X0_bestToAdd_6 (g : kf_G) (hg : kf_g g) {x : kf_X} (hx : kf_ok g x RX0 cX0_bestToAdd 9 18 680) (I : HI) (x1 : Int32) (x2 : Int32) (x3 : Int32) (Post : Int32 → HJ → Prop) (hret : ∀ (pc : Nat) (lv : List (Nat × Value)) (v : Int32) (Jy : HJ), decode cX0_bestToAdd pc = .ok (.ireturn, 1) → Post v Jy → kf_M g x 9 pc lv [.int v] I Jy) (E6 : Int32 → HJ → Prop) (hE6 : ∀ (y4 : Int32) (Jy : HJ), E6 y4 Jy → kf_M g x 9 81 [(4, .int y4)] [] I Jy) (K6 : (Int32 × Int32 × HJ) → Prop) (hK6 : ∀ (y4 : Int32) (y5 : Int32) (Jy : HJ), K6 (y4, y5, Jy) → kf_M g x 9 6 [(0, .ref (g.2.2.2 41)), (1, .int x1), (2, .int x2), (3, .int x3), (4, .int y4), (5, .int y5)] [] I Jy) (x4 : Int32) (x5 : Int32) (J : HJ) (h : wb_X0_bestToAdd_6 I x1 x2 x3 Post E6 K6 (x4, x5, J)) : kf_M g x 9 6 [(0, .ref (g.2.2.2 41)), (1, .int x1), (2, .int x2), (3, .int x3), (4, .int x4), (5, .int x5)] [] I J := by
  unfold wb_X0_bestToAdd_6 at h
  refine kf_iload hx dX0_bestToAdd_6 5 rfl ?_
  refine kf_aload_n hx dX0_bestToAdd_8 rfl 0 rfl ?_
  refine kf_getR (n := 12) hx sl_41_0 fl_RX0_15 dX0_bestToAdd_9 ?_
  refine kf_getI hx sl_12_11 fl_RX0_31 dX0_bestToAdd_12 ?_
  refine kf_icmp_ge hx 81 dX0_bestToAdd_15 (by decide) (fun c => ?_) (fun c => ?_)
  · replace h := h.1 c
    refine kf_sub [4] rfl ?_
    exact hE6 _ _ h
  · replace h := h.2 c
    refine kf_iload_n hx dX0_bestToAdd_18 rfl 1 rfl ?_
    refine kf_iconst (v := 1) hx dX0_bestToAdd_19 (by decide) ?_
    refine kf_iload hx dX0_bestToAdd_20 5 rfl ?_
    refine kf_ishl hx dX0_bestToAdd_22 ?_
    refine kf_ior hx dX0_bestToAdd_23 ?_
    refine kf_istore (lv' := [(6, .int (x1 ||| (1 <<< (x5 &&& 31)))), (0, .ref (g.2.2.2 41)), (1, .int x1), (2, .int x2), (3, .int x3), (4, .int x4), (5, .int x5)]) hx dX0_bestToAdd_24 (by decide) rfl ?_
    refine kf_iload hx dX0_bestToAdd_26 0 rfl ?_
    refine kf_iload_n hx dX0_bestToAdd_28 rfl 2 rfl ?_
    refine kf_icmp_eq hx 75 dX0_bestToAdd_29 (by decide) (fun c => ?_) (fun c => ?_)
    · replace h := h.1 c
      refine kf_iinc (w := (x5 + 1)) (lv' := [(5, .int (x5 + 1)), (6, .int (x1 ||| (1 <<< (x5 &&& 31)))), (0, .ref (g.2.2.2 41)), (1, .int x1), (2, .int x2), (3, .int x3), (4, .int x4)]) hx dX0_bestToAdd_75 6 rfl rfl (by decide) rfl ?_
      refine kf_goto hx 6 dX0_bestToAdd_78 (by decide) ?_
      refine kf_sub [2, 3, 4, 5, 6, 0] rfl ?_
      exact hK6 _ _ _ h
    · replace h := h.2 c
      refine kf_aload_n hx dX0_bestToAdd_32 rfl 1 rfl ?_
      refine kf_iload hx dX0_bestToAdd_33 0 rfl ?_
      refine kf_iload_n hx dX0_bestToAdd_35 rfl 3 rfl ?_
      refine kf_iload_n hx dX0_bestToAdd_36 rfl 4 rfl ?_
      refine kf_callVbP (st := []) hx (m_X0_mayBeChosen g hg (x1 ||| (1 <<< (x5 &&& 31))) x2 x3 I J _ h) lk_RX0_37 km_X0_mayBeChosen ob_41 rfl (by decide) rfl (Nat.le_of_ble_eq_true rfl) dX0_bestToAdd_37 (fun r_1 h => ?_)
      refine kf_ifB_eq hx 75 dX0_bestToAdd_40 (by decide) (fun c => ?_) (fun c => ?_)
      · replace h := h.1 c
        refine kf_iinc (w := (x5 + 1)) (lv' := [(5, .int (x5 + 1)), (6, .int (x1 ||| (1 <<< (x5 &&& 31)))), (0, .ref (g.2.2.2 41)), (1, .int x1), (2, .int x2), (3, .int x3), (4, .int x4)]) hx dX0_bestToAdd_75 6 rfl rfl (by decide) rfl ?_
        refine kf_goto hx 6 dX0_bestToAdd_78 (by decide) ?_
        refine kf_sub [2, 3, 4, 5, 6, 0] rfl ?_
        exact hK6 _ _ _ h
      · replace h := h.2 c
        refine kf_aload_n hx dX0_bestToAdd_43 rfl 1 rfl ?_
        refine kf_getR (n := 39) hx sl_41_1 fl_RX0_19 dX0_bestToAdd_44 ?_
        refine kf_iload hx dX0_bestToAdd_47 0 rfl ?_
        refine kf_iconst (v := 0) hx dX0_bestToAdd_49 (by decide) ?_
        refine kf_callVlP (st := []) hx (m_X2_total g hg (x1 ||| (1 <<< (x5 &&& 31))) 0 I J _ h) lk_RX0_41 km_X2_total ob_39 rfl (by decide) rfl (Nat.le_of_ble_eq_true rfl) dX0_bestToAdd_50 (fun r_2 h => ?_)
        refine kf_lstore (lv' := [(7, .long r_2), (6, .int (x1 ||| (1 <<< (x5 &&& 31)))), (0, .ref (g.2.2.2 41)), (1, .int x1), (2, .int x2), (3, .int x3), (4, .int x4), (5, .int x5)]) hx dX0_bestToAdd_53 (by decide) rfl ?_
        refine kf_lload hx dX0_bestToAdd_55 0 rfl ?_
        refine kf_aload_n hx dX0_bestToAdd_57 rfl 2 rfl ?_
        refine kf_getJ hx sl_41_3 fl_RX0_23 dX0_bestToAdd_58 ?_
        refine kf_l_le hx 75 dX0_bestToAdd_61 dX0_bestToAdd_62 (by decide) (fun c => ?_) (fun c => ?_)
        · replace h := h.1 c
          refine kf_iinc (w := (x5 + 1)) (lv' := [(5, .int (x5 + 1)), (7, .long r_2), (6, .int (x1 ||| (1 <<< (x5 &&& 31)))), (0, .ref (g.2.2.2 41)), (1, .int x1), (2, .int x2), (3, .int x3), (4, .int x4)]) hx dX0_bestToAdd_75 7 rfl rfl (by decide) rfl ?_
          refine kf_goto hx 6 dX0_bestToAdd_78 (by decide) ?_
          refine kf_sub [3, 4, 5, 6, 7, 0] rfl ?_
          exact hK6 _ _ _ h
        · replace h := h.2 c
          refine kf_aload_n hx dX0_bestToAdd_65 rfl 2 rfl ?_
          refine kf_lload hx dX0_bestToAdd_66 0 rfl ?_
          refine kf_putJ hx sl_41_3 fl_RX0_23 fp_0_3 dX0_bestToAdd_68 ?_
          refine kf_nmJ (fun J_3 eJ_3 => ?_)
          replace h := h J_3 eJ_3
          refine kf_iload hx dX0_bestToAdd_71 7 rfl ?_
          refine kf_istore (lv' := [(4, .int x5), (7, .long r_2), (6, .int (x1 ||| (1 <<< (x5 &&& 31)))), (0, .ref (g.2.2.2 41)), (1, .int x1), (2, .int x2), (3, .int x3), (5, .int x5)]) hx dX0_bestToAdd_73 (by decide) rfl ?_
          refine kf_iinc (w := (x5 + 1)) (lv' := [(5, .int (x5 + 1)), (4, .int x5), (7, .long r_2), (6, .int (x1 ||| (1 <<< (x5 &&& 31)))), (0, .ref (g.2.2.2 41)), (1, .int x1), (2, .int x2), (3, .int x3)]) hx dX0_bestToAdd_75 7 rfl rfl (by decide) rfl ?_
          refine kf_goto hx 6 dX0_bestToAdd_78 (by decide) ?_
          refine kf_sub [4, 5, 6, 7, 1, 0] rfl ?_
          exact hK6 _ _ _ h
theorem wl_X0_bestToAdd_6 (g : kf_G) (hg : kf_g g) {x : kf_X} (hx : kf_ok g x RX0 cX0_bestToAdd 9 18 680) (I : HI) (x1 : Int32) (x2 : Int32) (x3 : Int32) (Post : Int32 → HJ → Prop) (hret : ∀ (pc : Nat) (lv : List (Nat × Value)) (v : Int32) (Jy : HJ), decode cX0_bestToAdd pc = .ok (.ireturn, 1) → Post v Jy → kf_M g x 9 pc lv [.int v] I Jy) (E6 : Int32 → HJ → Prop) (hE6 : ∀ (y4 : Int32) (Jy : HJ), E6 y4 Jy → kf_M g x 9 81 [(4, .int y4)] [] I Jy) : ∀ (n : Nat) (x4 : Int32) (x5 : Int32) (J : HJ), lp (wb_X0_bestToAdd_6 I x1 x2 x3 Post E6) n (x4, x5, J) → kf_M g x 9 6 [(0, .ref (g.2.2.2 41)), (1, .int x1), (2, .int x2), (3, .int x3), (4, .int x4), (5, .int x5)] [] I J := by
  intro n
  induction n with
  | zero => intro x4 x5 J h; exact h.elim
  | succ n ih => intro x4 x5 J h; exact ws_X0_bestToAdd_6 g hg hx I x1 x2 x3 Post hret E6 hE6 (lp (wb_X0_bestToAdd_6 I x1 x2 x3 Post E6) n) ih x4 x5 J h
def w_X0_bestToAdd (x1 : Int32) (x2 : Int32) (x3 : Int32) (I : HI) (J : HJ) (Post : Int32 → HJ → Prop) : Prop :=
  ∃ n, lp (wb_X0_bestToAdd_6 I x1 x2 x3 Post (fun (x4_4 : Int32) (J_5 : HJ) => Post x4_4 J_5)) n ((-1), 0, J)
set_option maxHeartbeats 4000000 in
set_option maxRecDepth 20000 in
theorem we_X0_bestToAdd (g : kf_G) (hg : kf_g g) {x : kf_X} (hx : kf_ok g x RX0 cX0_bestToAdd 9 18 680) (x1 : Int32) (x2 : Int32) (x3 : Int32) (I : HI) (J : HJ) (Post : Int32 → HJ → Prop) (hret : ∀ (pc : Nat) (lv : List (Nat × Value)) (v : Int32) (Jy : HJ), decode cX0_bestToAdd pc = .ok (.ireturn, 1) → Post v Jy → kf_M g x 9 pc lv [.int v] I Jy) (h : w_X0_bestToAdd x1 x2 x3 I J Post) : kf_M g x 9 0 [(0, .ref (g.2.2.2 41)), (1, .int x1), (2, .int x2), (3, .int x3)] [] I J := by
  unfold w_X0_bestToAdd at h
  refine kf_iconst (v := (-1)) hx dX0_bestToAdd_0 (by decide) ?_
  refine kf_istore (lv' := [(4, .int (-1)), (0, .ref (g.2.2.2 41)), (1, .int x1), (2, .int x2), (3, .int x3)]) hx dX0_bestToAdd_1 (by decide) rfl ?_
  refine kf_iconst (v := 0) hx dX0_bestToAdd_3 (by decide) ?_
  refine kf_istore (lv' := [(5, .int 0), (4, .int (-1)), (0, .ref (g.2.2.2 41)), (1, .int x1), (2, .int x2), (3, .int x3)]) hx dX0_bestToAdd_4 (by decide) rfl ?_
  obtain ⟨n, h⟩ := h
  refine kf_sub [2, 3, 4, 5, 1, 0] rfl ?_
  refine wl_X0_bestToAdd_6 g hg hx I x1 x2 x3 _ hret _ (fun x4_4 J_5 h => ?_) n _ _ _ h
  refine kf_iload hx dX0_bestToAdd_81 0 rfl ?_
  exact hret _ _ x4_4 _ dX0_bestToAdd_83 h
set_option maxHeartbeats 4000000 in
set_option maxRecDepth 20000 in
theorem m_X0_bestToAdd (g : kf_G) (hg : kf_g g) (x1 : Int32) (x2 : Int32) (x3 : Int32) (I : HI) (J : HJ) (Post : Int32 → HJ → Prop) (h : w_X0_bestToAdd x1 x2 x3 I J Post) : kf_Mi g yX0_bestToAdd (kf_W yX0_bestToAdd cX0_bestToAdd 9 (Option.some Jvm.ClassFile.FieldType.int)) 18 680 [.ref (g.2.2.2 41), .int x1, .int x2, .int x3] I J (fun v I' J' => Post v J' ∧ I' = I) :=
  kf_enti hg (by decide) (Nat.le_of_ble_eq_true rfl) rfl (fun x hx hr => we_X0_bestToAdd g hg hx x1 x2 x3 I J Post (fun pc lv v J' hd hP => hr pc lv v I J' hd ⟨hP, rfl⟩) h)
theorem dX0_oneByOne_0 : decode cX0_oneByOne 0 = .ok (.iconst 0, 1) := by decide +kernel
theorem dX0_oneByOne_1 : decode cX0_oneByOne 1 = .ok (.istore_n 3, 1) := by decide +kernel
theorem dX0_oneByOne_2 : decode cX0_oneByOne 2 = .ok (.aload_n 0, 1) := by decide +kernel
theorem dX0_oneByOne_3 : decode cX0_oneByOne 3 = .ok (.lconst 0, 1) := by decide +kernel
theorem dX0_oneByOne_4 : decode cX0_oneByOne 4 = .ok (.putfield 23, 3) := by decide +kernel
theorem dX0_oneByOne_7 : decode cX0_oneByOne 7 = .ok (.iconst 0, 1) := by decide +kernel
theorem dX0_oneByOne_8 : decode cX0_oneByOne 8 = .ok (.istore 4, 2) := by decide +kernel
theorem dX0_oneByOne_10 : decode cX0_oneByOne 10 = .ok (.iload 4, 2) := by decide +kernel
theorem dX0_oneByOne_12 : decode cX0_oneByOne 12 = .ok (.iload_n 1, 1) := by decide +kernel
theorem dX0_oneByOne_13 : decode cX0_oneByOne 13 = .ok (.if_icmp .ge 33, 3) := by decide +kernel
theorem dX0_oneByOne_16 : decode cX0_oneByOne 16 = .ok (.aload_n 0, 1) := by decide +kernel
theorem dX0_oneByOne_17 : decode cX0_oneByOne 17 = .ok (.iload_n 3, 1) := by decide +kernel
theorem dX0_oneByOne_18 : decode cX0_oneByOne 18 = .ok (.iload_n 1, 1) := by decide +kernel
theorem dX0_oneByOne_19 : decode cX0_oneByOne 19 = .ok (.iload_n 2, 1) := by decide +kernel
theorem dX0_oneByOne_20 : decode cX0_oneByOne 20 = .ok (.invokevirtual 27, 3) := by decide +kernel
theorem dX0_oneByOne_23 : decode cX0_oneByOne 23 = .ok (.istore 5, 2) := by decide +kernel
theorem dX0_oneByOne_25 : decode cX0_oneByOne 25 = .ok (.iload 5, 2) := by decide +kernel
theorem dX0_oneByOne_27 : decode cX0_oneByOne 27 = .ok (.iconst (-1), 1) := by decide +kernel
theorem dX0_oneByOne_28 : decode cX0_oneByOne 28 = .ok (.if_icmp .ne 5, 3) := by decide +kernel
theorem dX0_oneByOne_31 : decode cX0_oneByOne 31 = .ok (.iload_n 3, 1) := by decide +kernel
theorem dX0_oneByOne_32 : decode cX0_oneByOne 32 = .ok (.ireturn, 1) := by decide +kernel
theorem dX0_oneByOne_33 : decode cX0_oneByOne 33 = .ok (.iload_n 3, 1) := by decide +kernel
theorem dX0_oneByOne_34 : decode cX0_oneByOne 34 = .ok (.iconst 1, 1) := by decide +kernel
theorem dX0_oneByOne_35 : decode cX0_oneByOne 35 = .ok (.iload 5, 2) := by decide +kernel
theorem dX0_oneByOne_37 : decode cX0_oneByOne 37 = .ok (.ishl, 1) := by decide +kernel
theorem dX0_oneByOne_38 : decode cX0_oneByOne 38 = .ok (.ior, 1) := by decide +kernel
theorem dX0_oneByOne_39 : decode cX0_oneByOne 39 = .ok (.istore_n 3, 1) := by decide +kernel
theorem dX0_oneByOne_40 : decode cX0_oneByOne 40 = .ok (.iinc 4 1, 3) := by decide +kernel
theorem dX0_oneByOne_43 : decode cX0_oneByOne 43 = .ok (.goto (-33), 3) := by decide +kernel
theorem dX0_oneByOne_46 : decode cX0_oneByOne 46 = .ok (.iload_n 3, 1) := by decide +kernel
theorem dX0_oneByOne_47 : decode cX0_oneByOne 47 = .ok (.ireturn, 1) := by decide +kernel
def wb_X0_oneByOne_10 (I : HI) (x1 : Int32) (x2 : Int32) (Post : Int32 → HJ → Prop) (E10 : Int32 → HJ → Prop) (K10 : (Int32 × Int32 × HJ) → Prop) (s : Int32 × Int32 × HJ) : Prop :=
  match s with
  | (x3, x4, J) => (x1 ≤ x4 → (E10 x3 J)) ∧ (¬ x1 ≤ x4 → (w_X0_bestToAdd x3 x1 x2 I J (fun (r_2 : Int32) (J_3 : HJ) => ((¬ r_2 = (-1) → (K10 ((x3 ||| (1 <<< (r_2 &&& 31))), (x4 + 1), J_3))) ∧ (r_2 = (-1) → (Post x3 J_3))))))
set_option maxHeartbeats 4000000 in
set_option maxRecDepth 20000 in
theorem ws_X0_oneByOne_10 (g : kf_G) (hg : kf_g g) {x : kf_X} (hx : kf_ok g x RX0 cX0_oneByOne 6 19 708) (I : HI) (x1 : Int32) (x2 : Int32) (Post : Int32 → HJ → Prop) (hret : ∀ (pc : Nat) (lv : List (Nat × Value)) (v : Int32) (Jy : HJ), decode cX0_oneByOne pc = .ok (.ireturn, 1) → Post v Jy → kf_M g x 6 pc lv [.int v] I Jy) (E10 : Int32 → HJ → Prop) (hE10 : ∀ (y3 : Int32) (Jy : HJ), E10 y3 Jy → kf_M g x 6 46 [(3, .int y3)] [] I Jy) (K10 : (Int32 × Int32 × HJ) → Prop) (hK10 : ∀ (y3 : Int32) (y4 : Int32) (Jy : HJ), K10 (y3, y4, Jy) → kf_M g x 6 10 [(0, .ref (g.2.2.2 41)), (1, .int x1), (2, .int x2), (3, .int y3), (4, .int y4)] [] I Jy) (x3 : Int32) (x4 : Int32) (J : HJ) (h : wb_X0_oneByOne_10 I x1 x2 Post E10 K10 (x3, x4, J)) : kf_M g x 6 10 [(0, .ref (g.2.2.2 41)), (1, .int x1), (2, .int x2), (3, .int x3), (4, .int x4)] [] I J := by
  unfold wb_X0_oneByOne_10 at h
  refine kf_iload hx dX0_oneByOne_10 4 rfl ?_
  refine kf_iload_n hx dX0_oneByOne_12 rfl 1 rfl ?_
  refine kf_icmp_ge hx 46 dX0_oneByOne_13 (by decide) (fun c => ?_) (fun c => ?_)
  · replace h := h.1 c
    refine kf_sub [3] rfl ?_
    exact hE10 _ _ h
  · replace h := h.2 c
    refine kf_aload_n hx dX0_oneByOne_16 rfl 0 rfl ?_
    refine kf_iload_n hx dX0_oneByOne_17 rfl 3 rfl ?_
    refine kf_iload_n hx dX0_oneByOne_18 rfl 1 rfl ?_
    refine kf_iload_n hx dX0_oneByOne_19 rfl 2 rfl ?_
    refine kf_callViJ (st := []) hx (m_X0_bestToAdd g hg x3 x1 x2 I J _ h) lk_RX0_27 km_X0_bestToAdd ob_41 rfl (by decide) rfl (Nat.le_of_ble_eq_true rfl) dX0_oneByOne_20 (fun r_2 J_3 h => ?_)
    refine kf_istore (lv' := [(5, .int r_2), (0, .ref (g.2.2.2 41)), (1, .int x1), (2, .int x2), (3, .int x3), (4, .int x4)]) hx dX0_oneByOne_23 (by decide) rfl ?_
    refine kf_iload hx dX0_oneByOne_25 0 rfl ?_
    refine kf_iconst (v := (-1)) hx dX0_oneByOne_27 (by decide) ?_
    refine kf_icmp_ne hx 33 dX0_oneByOne_28 (by decide) (fun c => ?_) (fun c => ?_)
    · replace h := h.1 c
      refine kf_iload_n hx dX0_oneByOne_33 rfl 4 rfl ?_
      refine kf_iconst (v := 1) hx dX0_oneByOne_34 (by decide) ?_
      refine kf_iload hx dX0_oneByOne_35 0 rfl ?_
      refine kf_ishl hx dX0_oneByOne_37 ?_
      refine kf_ior hx dX0_oneByOne_38 ?_
      refine kf_istore_n (lv' := [(3, .int (x3 ||| (1 <<< (r_2 &&& 31)))), (5, .int r_2), (0, .ref (g.2.2.2 41)), (1, .int x1), (2, .int x2), (4, .int x4)]) hx dX0_oneByOne_39 rfl (by decide) rfl ?_
      refine kf_iinc (w := (x4 + 1)) (lv' := [(4, .int (x4 + 1)), (3, .int (x3 ||| (1 <<< (r_2 &&& 31)))), (5, .int r_2), (0, .ref (g.2.2.2 41)), (1, .int x1), (2, .int x2)]) hx dX0_oneByOne_40 5 rfl rfl (by decide) rfl ?_
      refine kf_goto hx 10 dX0_oneByOne_43 (by decide) ?_
      refine kf_sub [3, 4, 5, 1, 0] rfl ?_
      exact hK10 _ _ _ h
    · replace h := h.2 c
      refine kf_iload_n hx dX0_oneByOne_31 rfl 4 rfl ?_
      exact hret _ _ x3 _ dX0_oneByOne_32 h
theorem wl_X0_oneByOne_10 (g : kf_G) (hg : kf_g g) {x : kf_X} (hx : kf_ok g x RX0 cX0_oneByOne 6 19 708) (I : HI) (x1 : Int32) (x2 : Int32) (Post : Int32 → HJ → Prop) (hret : ∀ (pc : Nat) (lv : List (Nat × Value)) (v : Int32) (Jy : HJ), decode cX0_oneByOne pc = .ok (.ireturn, 1) → Post v Jy → kf_M g x 6 pc lv [.int v] I Jy) (E10 : Int32 → HJ → Prop) (hE10 : ∀ (y3 : Int32) (Jy : HJ), E10 y3 Jy → kf_M g x 6 46 [(3, .int y3)] [] I Jy) : ∀ (n : Nat) (x3 : Int32) (x4 : Int32) (J : HJ), lp (wb_X0_oneByOne_10 I x1 x2 Post E10) n (x3, x4, J) → kf_M g x 6 10 [(0, .ref (g.2.2.2 41)), (1, .int x1), (2, .int x2), (3, .int x3), (4, .int x4)] [] I J := by
  intro n
  induction n with
  | zero => intro x3 x4 J h; exact h.elim
  | succ n ih => intro x3 x4 J h; exact ws_X0_oneByOne_10 g hg hx I x1 x2 Post hret E10 hE10 (lp (wb_X0_oneByOne_10 I x1 x2 Post E10) n) ih x3 x4 J h
def w_X0_oneByOne (x1 : Int32) (x2 : Int32) (I : HI) (J : HJ) (Post : Int32 → HJ → Prop) : Prop :=
  ∀ J_1 : HJ, J_1 = hJ J 41 3 0 → (∃ n, lp (wb_X0_oneByOne_10 I x1 x2 Post (fun (x3_4 : Int32) (J_5 : HJ) => Post x3_4 J_5)) n (0, 0, J_1))
set_option maxHeartbeats 4000000 in
set_option maxRecDepth 20000 in
theorem we_X0_oneByOne (g : kf_G) (hg : kf_g g) {x : kf_X} (hx : kf_ok g x RX0 cX0_oneByOne 6 19 708) (x1 : Int32) (x2 : Int32) (I : HI) (J : HJ) (Post : Int32 → HJ → Prop) (hret : ∀ (pc : Nat) (lv : List (Nat × Value)) (v : Int32) (Jy : HJ), decode cX0_oneByOne pc = .ok (.ireturn, 1) → Post v Jy → kf_M g x 6 pc lv [.int v] I Jy) (h : w_X0_oneByOne x1 x2 I J Post) : kf_M g x 6 0 [(0, .ref (g.2.2.2 41)), (1, .int x1), (2, .int x2)] [] I J := by
  unfold w_X0_oneByOne at h
  refine kf_iconst (v := 0) hx dX0_oneByOne_0 (by decide) ?_
  refine kf_istore_n (lv' := [(3, .int 0), (0, .ref (g.2.2.2 41)), (1, .int x1), (2, .int x2)]) hx dX0_oneByOne_1 rfl (by decide) rfl ?_
  refine kf_aload_n hx dX0_oneByOne_2 rfl 1 rfl ?_
  refine kf_lconst (v := 0) hx dX0_oneByOne_3 (by decide) ?_
  refine kf_putJ hx sl_41_3 fl_RX0_23 fp_0_3 dX0_oneByOne_4 ?_
  refine kf_nmJ (fun J_1 eJ_1 => ?_)
  replace h := h J_1 eJ_1
  refine kf_iconst (v := 0) hx dX0_oneByOne_7 (by decide) ?_
  refine kf_istore (lv' := [(4, .int 0), (3, .int 0), (0, .ref (g.2.2.2 41)), (1, .int x1), (2, .int x2)]) hx dX0_oneByOne_8 (by decide) rfl ?_
  obtain ⟨n, h⟩ := h
  refine kf_sub [2, 3, 4, 1, 0] rfl ?_
  refine wl_X0_oneByOne_10 g hg hx I x1 x2 _ hret _ (fun x3_4 J_5 h => ?_) n _ _ _ h
  refine kf_iload_n hx dX0_oneByOne_46 rfl 0 rfl ?_
  exact hret _ _ x3_4 _ dX0_oneByOne_47 h
set_option maxHeartbeats 4000000 in
set_option maxRecDepth 20000 in
theorem m_X0_oneByOne (g : kf_G) (hg : kf_g g) (x1 : Int32) (x2 : Int32) (I : HI) (J : HJ) (Post : Int32 → HJ → Prop) (h : w_X0_oneByOne x1 x2 I J Post) : kf_Mi g yX0_oneByOne (kf_W yX0_oneByOne cX0_oneByOne 6 (Option.some Jvm.ClassFile.FieldType.int)) 19 708 [.ref (g.2.2.2 41), .int x1, .int x2] I J (fun v I' J' => Post v J' ∧ I' = I) :=
  kf_enti hg (by decide) (Nat.le_of_ble_eq_true rfl) rfl (fun x hx hr => we_X0_oneByOne g hg hx x1 x2 I J Post (fun pc lv v J' hd hP => hr pc lv v I J' hd ⟨hP, rfl⟩) h)
theorem dX0_isFewer_0 : decode cX0_isFewer 0 = .ok (.iload_n 0, 1) := by decide +kernel
theorem dX0_isFewer_1 : decode cX0_isFewer 1 = .ok (.invokestatic 50, 3) := by decide +kernel
theorem dX0_isFewer_4 : decode cX0_isFewer 4 = .ok (.iload_n 1, 1) := by decide +kernel
theorem dX0_isFewer_5 : decode cX0_isFewer 5 = .ok (.invokestatic 50, 3) := by decide +kernel
theorem dX0_isFewer_8 : decode cX0_isFewer 8 = .ok (.if_icmp .ge 7, 3) := by decide +kernel
theorem dX0_isFewer_11 : decode cX0_isFewer 11 = .ok (.iconst 1, 1) := by decide +kernel
theorem dX0_isFewer_12 : decode cX0_isFewer 12 = .ok (.goto 4, 3) := by decide +kernel
theorem dX0_isFewer_15 : decode cX0_isFewer 15 = .ok (.iconst 0, 1) := by decide +kernel
theorem dX0_isFewer_16 : decode cX0_isFewer 16 = .ok (.ireturn, 1) := by decide +kernel
def w_X0_isFewer (x0 : Int32) (x1 : Int32) (Post : Bool → Prop) : Prop :=
  w_J6_bitCount_0f7a4 x0 (fun (r_1 : Int32) => (w_J6_bitCount_0f7a4 x1 (fun (r_2 : Int32) => ((r_2 ≤ r_1 → (Post false)) ∧ (¬ r_2 ≤ r_1 → (Post true))))))
set_option maxHeartbeats 4000000 in
set_option maxRecDepth 20000 in
theorem we_X0_isFewer (g : kf_G) (hg : kf_g g) {x : kf_X} (hx : kf_ok g x RX0 cX0_isFewer 2 1 20) (x0 : Int32) (x1 : Int32) (I : HI) (J : HJ) (Post : Bool → Prop) (hret : ∀ (pc : Nat) (lv : List (Nat × Value)) (v : Bool), decode cX0_isFewer pc = .ok (.ireturn, 1) → Post v → kf_M g x 2 pc lv [.int (kb v)] I J) (h : w_X0_isFewer x0 x1 Post) : kf_M g x 2 0 [(0, .int x0), (1, .int x1)] [] I J := by
  unfold w_X0_isFewer at h
  refine kf_iload_n hx dX0_isFewer_0 rfl 0 rfl ?_
  refine kf_callSiP (st := []) hx (m_J6_bitCount_0f7a4 g hg x0 I J _ h) lk_RX0_50 km_J6_bitCount_0f7a4 rfl (by decide) rfl (Nat.le_of_ble_eq_true rfl) dX0_isFewer_1 (fun r_1 h => ?_)
  refine kf_iload_n hx dX0_isFewer_4 rfl 1 rfl ?_
  refine kf_callSiP (st := [.int r_1]) hx (m_J6_bitCount_0f7a4 g hg x1 I J _ h) lk_RX0_50 km_J6_bitCount_0f7a4 rfl (by decide) rfl (Nat.le_of_ble_eq_true rfl) dX0_isFewer_5 (fun r_2 h => ?_)
  refine kf_icmp_ge hx 15 dX0_isFewer_8 (by decide) (fun c => ?_) (fun c => ?_)
  · replace h := h.1 c
    refine kf_iconst (v := 0) hx dX0_isFewer_15 (by decide) ?_
    exact hret _ _ false  dX0_isFewer_16 h
  · replace h := h.2 c
    refine kf_iconst (v := 1) hx dX0_isFewer_11 (by decide) ?_
    refine kf_goto hx 16 dX0_isFewer_12 (by decide) ?_
    exact hret _ _ true  dX0_isFewer_16 h
set_option maxHeartbeats 4000000 in
set_option maxRecDepth 20000 in
theorem m_X0_isFewer (g : kf_G) (hg : kf_g g) (x0 : Int32) (x1 : Int32) (I : HI) (J : HJ) (Post : Bool → Prop) (h : w_X0_isFewer x0 x1 Post) : kf_Mb g yX0_isFewer (kf_W yX0_isFewer cX0_isFewer 2 (Option.some Jvm.ClassFile.FieldType.boolean)) 1 20 [.int x0, .int x1] I J (fun v I' J' => Post v ∧ I' = I ∧ J' = J) :=
  kf_entb hg (by decide) (Nat.le_of_ble_eq_true rfl) rfl (fun x hx hr => we_X0_isFewer g hg hx x0 x1 I J Post (fun pc lv v hd hP => hr pc lv v I J hd ⟨hP, rfl, rfl⟩) h)
theorem dX0_throughAll_0 : decode cX0_throughAll 0 = .ok (.iconst 0, 1) := by decide +kernel
theorem dX0_throughAll_1 : decode cX0_throughAll 1 = .ok (.istore_n 3, 1) := by decide +kernel
theorem dX0_throughAll_2 : decode cX0_throughAll 2 = .ok (.aload_n 0, 1) := by decide +kernel
theorem dX0_throughAll_3 : decode cX0_throughAll 3 = .ok (.lconst 0, 1) := by decide +kernel
theorem dX0_throughAll_4 : decode cX0_throughAll 4 = .ok (.putfield 23, 3) := by decide +kernel
theorem dX0_throughAll_7 : decode cX0_throughAll 7 = .ok (.iconst 1, 1) := by decide +kernel
theorem dX0_throughAll_8 : decode cX0_throughAll 8 = .ok (.istore 4, 2) := by decide +kernel
theorem dX0_throughAll_10 : decode cX0_throughAll 10 = .ok (.iload 4, 2) := by decide +kernel
theorem dX0_throughAll_12 : decode cX0_throughAll 12 = .ok (.iconst 1, 1) := by decide +kernel
theorem dX0_throughAll_13 : decode cX0_throughAll 13 = .ok (.aload_n 0, 1) := by decide +kernel
theorem dX0_throughAll_14 : decode cX0_throughAll 14 = .ok (.getfield 15, 3) := by decide +kernel
theorem dX0_throughAll_17 : decode cX0_throughAll 17 = .ok (.getfield 31, 3) := by decide +kernel
theorem dX0_throughAll_20 : decode cX0_throughAll 20 = .ok (.ishl, 1) := by decide +kernel
theorem dX0_throughAll_21 : decode cX0_throughAll 21 = .ok (.if_icmp .ge 70, 3) := by decide +kernel
theorem dX0_throughAll_24 : decode cX0_throughAll 24 = .ok (.aload_n 0, 1) := by decide +kernel
theorem dX0_throughAll_25 : decode cX0_throughAll 25 = .ok (.iload 4, 2) := by decide +kernel
theorem dX0_throughAll_27 : decode cX0_throughAll 27 = .ok (.iload_n 1, 1) := by decide +kernel
theorem dX0_throughAll_28 : decode cX0_throughAll 28 = .ok (.iload_n 2, 1) := by decide +kernel
theorem dX0_throughAll_29 : decode cX0_throughAll 29 = .ok (.invokevirtual 37, 3) := by decide +kernel
theorem dX0_throughAll_32 : decode cX0_throughAll 32 = .ok (.ifCond .eq 53, 3) := by decide +kernel
theorem dX0_throughAll_35 : decode cX0_throughAll 35 = .ok (.aload_n 0, 1) := by decide +kernel
theorem dX0_throughAll_36 : decode cX0_throughAll 36 = .ok (.getfield 19, 3) := by decide +kernel
theorem dX0_throughAll_39 : decode cX0_throughAll 39 = .ok (.iload 4, 2) := by decide +kernel
theorem dX0_throughAll_41 : decode cX0_throughAll 41 = .ok (.iconst 0, 1) := by decide +kernel
theorem dX0_throughAll_42 : decode cX0_throughAll 42 = .ok (.invokevirtual 41, 3) := by decide +kernel
theorem dX0_throughAll_45 : decode cX0_throughAll 45 = .ok (.lstore 5, 2) := by decide +kernel
theorem dX0_throughAll_47 : decode cX0_throughAll 47 = .ok (.lload 5, 2) := by decide +kernel
theorem dX0_throughAll_49 : decode cX0_throughAll 49 = .ok (.aload_n 0, 1) := by decide +kernel
theorem dX0_throughAll_50 : decode cX0_throughAll 50 = .ok (.getfield 23, 3) := by decide +kernel
theorem dX0_throughAll_53 : decode cX0_throughAll 53 = .ok (.lcmp, 1) := by decide +kernel
theorem dX0_throughAll_54 : decode cX0_throughAll 54 = .ok (.ifCond .gt 22, 3) := by decide +kernel
theorem dX0_throughAll_57 : decode cX0_throughAll 57 = .ok (.lload 5, 2) := by decide +kernel
theorem dX0_throughAll_59 : decode cX0_throughAll 59 = .ok (.aload_n 0, 1) := by decide +kernel
theorem dX0_throughAll_60 : decode cX0_throughAll 60 = .ok (.getfield 23, 3) := by decide +kernel
theorem dX0_throughAll_63 : decode cX0_throughAll 63 = .ok (.lcmp, 1) := by decide +kernel
theorem dX0_throughAll_64 : decode cX0_throughAll 64 = .ok (.ifCond .ne 21, 3) := by decide +kernel
theorem dX0_throughAll_67 : decode cX0_throughAll 67 = .ok (.iload 4, 2) := by decide +kernel
theorem dX0_throughAll_69 : decode cX0_throughAll 69 = .ok (.iload_n 3, 1) := by decide +kernel
theorem dX0_throughAll_70 : decode cX0_throughAll 70 = .ok (.invokestatic 46, 3) := by decide +kernel
theorem dX0_throughAll_73 : decode cX0_throughAll 73 = .ok (.ifCond .eq 12, 3) := by decide +kernel
theorem dX0_throughAll_76 : decode cX0_throughAll 76 = .ok (.aload_n 0, 1) := by decide +kernel
theorem dX0_throughAll_77 : decode cX0_throughAll 77 = .ok (.lload 5, 2) := by decide +kernel
theorem dX0_throughAll_79 : decode cX0_throughAll 79 = .ok (.putfield 23, 3) := by decide +kernel
theorem dX0_throughAll_82 : decode cX0_throughAll 82 = .ok (.iload 4, 2) := by decide +kernel
theorem dX0_throughAll_84 : decode cX0_throughAll 84 = .ok (.istore_n 3, 1) := by decide +kernel
theorem dX0_throughAll_85 : decode cX0_throughAll 85 = .ok (.iinc 4 1, 3) := by decide +kernel
theorem dX0_throughAll_88 : decode cX0_throughAll 88 = .ok (.goto (-78), 3) := by decide +kernel
theorem dX0_throughAll_91 : decode cX0_throughAll 91 = .ok (.iload_n 3, 1) := by decide +kernel
theorem dX0_throughAll_92 : decode cX0_throughAll 92 = .ok (.ireturn, 1) := by decide +kernel
def wb_X0_throughAll_10 (I : HI) (x1 : Int32) (x2 : Int32) (Post : Int32 → HJ → Prop) (E10 : Int32 → HJ → Prop) (K10 : (Int32 × Int32 × HJ) → Prop) (s : Int32 × Int32 × HJ) : Prop :=
  match s with
  | (x3, x4, J) => ((1 <<< ((I 12 11) &&& 31)) ≤ x4 → (E10 x3 J)) ∧ (¬ (1 <<< ((I 12 11) &&& 31)) ≤ x4 → (w_X0_mayBeChosen x4 x1 x2 I J (fun (r_2 : Bool) => ((r_2 = false → (K10 (x3, (x4 + 1), J))) ∧ (r_2 = true → (w_X2_total x4 0 I J (fun (r_3 : Int64) => (((J 41 3) < r_3 → (∀ J_4 : HJ, J_4 = hJ J 41 3 r_3 → (K10 (x4, (x4 + 1), J_4)))) ∧ (¬ (J 41 3) < r_3 → ((¬ r_3 = (J 41 3) → (K10 (x3, (x4 + 1), J))) ∧ (r_3 = (J 41 3) → (w_X0_isFewer x4 x3 (fun (r_5 : Bool) => ((r_5 = false → (K10 (x3, (x4 + 1), J))) ∧ (r_5 = true → (∀ J_6 : HJ, J_6 = hJ J 41 3 r_3 → (K10 (x4, (x4 + 1), J_6))))))))))))))))))
set_option maxHeartbeats 4000000 in
set_option maxRecDepth 20000 in
theorem ws_X0_throughAll_10 (g : kf_G) (hg : kf_g g) {x : kf_X} (hx : kf_ok g x RX0 cX0_throughAll 7 18 680) (I : HI) (x1 : Int32) (x2 : Int32) (Post : Int32 → HJ → Prop) (hret : ∀ (pc : Nat) (lv : List (Nat × Value)) (v : Int32) (Jy : HJ), decode cX0_throughAll pc = .ok (.ireturn, 1) → Post v Jy → kf_M g x 7 pc lv [.int v] I Jy) (E10 : Int32 → HJ → Prop) (hE10 : ∀ (y3 : Int32) (Jy : HJ), E10 y3 Jy → kf_M g x 7 91 [(3, .int y3)] [] I Jy) (K10 : (Int32 × Int32 × HJ) → Prop) (hK10 : ∀ (y3 : Int32) (y4 : Int32) (Jy : HJ), K10 (y3, y4, Jy) → kf_M g x 7 10 [(0, .ref (g.2.2.2 41)), (1, .int x1), (2, .int x2), (3, .int y3), (4, .int y4)] [] I Jy) (x3 : Int32) (x4 : Int32) (J : HJ) (h : wb_X0_throughAll_10 I x1 x2 Post E10 K10 (x3, x4, J)) : kf_M g x 7 10 [(0, .ref (g.2.2.2 41)), (1, .int x1), (2, .int x2), (3, .int x3), (4, .int x4)] [] I J := by
  unfold wb_X0_throughAll_10 at h
  refine kf_iload hx dX0_throughAll_10 4 rfl ?_
  refine kf_iconst (v := 1) hx dX0_throughAll_12 (by decide) ?_
  refine kf_aload_n hx dX0_throughAll_13 rfl 0 rfl ?_
  refine kf_getR (n := 12) hx sl_41_0 fl_RX0_15 dX0_throughAll_14 ?_
  refine kf_getI hx sl_12_11 fl_RX0_31 dX0_throughAll_17 ?_
  refine kf_ishl hx dX0_throughAll_20 ?_
  refine kf_icmp_ge hx 91 dX0_throughAll_21 (by decide) (fun c => ?_) (fun c => ?_)
  · replace h := h.1 c
    refine kf_sub [3] rfl ?_
    exact hE10 _ _ h
  · replace h := h.2 c
    refine kf_aload_n hx dX0_throughAll_24 rfl 0 rfl ?_
    refine kf_iload hx dX0_throughAll_25 4 rfl ?_
    refine kf_iload_n hx dX0_throughAll_27 rfl 1 rfl ?_
    refine kf_iload_n hx dX0_throughAll_28 rfl 2 rfl ?_
    refine kf_callVbP (st := []) hx (m_X0_mayBeChosen g hg x4 x1 x2 I J _ h) lk_RX0_37 km_X0_mayBeChosen ob_41 rfl (by decide) rfl (Nat.le_of_ble_eq_true rfl) dX0_throughAll_29 (fun r_2 h => ?_)
    refine kf_ifB_eq hx 85 dX0_throughAll_32 (by decide) (fun c => ?_) (fun c => ?_)
    · replace h := h.1 c
      refine kf_iinc (w := (x4 + 1)) (lv' := [(4, .int (x4 + 1)), (0, .ref (g.2.2.2 41)), (1, .int x1), (2, .int x2), (3, .int x3)]) hx dX0_throughAll_85 4 rfl rfl (by decide) rfl ?_
      refine kf_goto hx 10 dX0_throughAll_88 (by decide) ?_
      refine kf_sub [1, 2, 3, 4, 0] rfl ?_
      exact hK10 _ _ _ h
    · replace h := h.2 c
      refine kf_aload_n hx dX0_throughAll_35 rfl 0 rfl ?_
      refine kf_getR (n := 39) hx sl_41_1 fl_RX0_19 dX0_throughAll_36 ?_
      refine kf_iload hx dX0_throughAll_39 4 rfl ?_
      refine kf_iconst (v := 0) hx dX0_throughAll_41 (by decide) ?_
      refine kf_callVlP (st := []) hx (m_X2_total g hg x4 0 I J _ h) lk_RX0_41 km_X2_total ob_39 rfl (by decide) rfl (Nat.le_of_ble_eq_true rfl) dX0_throughAll_42 (fun r_3 h => ?_)
      refine kf_lstore (lv' := [(5, .long r_3), (0, .ref (g.2.2.2 41)), (1, .int x1), (2, .int x2), (3, .int x3), (4, .int x4)]) hx dX0_throughAll_45 (by decide) rfl ?_
      refine kf_lload hx dX0_throughAll_47 0 rfl ?_
      refine kf_aload_n hx dX0_throughAll_49 rfl 1 rfl ?_
      refine kf_getJ hx sl_41_3 fl_RX0_23 dX0_throughAll_50 ?_
      refine kf_l_gt hx 76 dX0_throughAll_53 dX0_throughAll_54 (by decide) (fun c => ?_) (fun c => ?_)
      · replace h := h.1 c
        refine kf_aload_n hx dX0_throughAll_76 rfl 1 rfl ?_
        refine kf_lload hx dX0_throughAll_77 0 rfl ?_
        refine kf_putJ hx sl_41_3 fl_RX0_23 fp_0_3 dX0_throughAll_79 ?_
        refine kf_nmJ (fun J_4 eJ_4 => ?_)
        replace h := h J_4 eJ_4
        refine kf_iload hx dX0_throughAll_82 5 rfl ?_
        refine kf_istore_n (lv' := [(3, .int x4), (5, .long r_3), (0, .ref (g.2.2.2 41)), (1, .int x1), (2, .int x2), (4, .int x4)]) hx dX0_throughAll_84 rfl (by decide) rfl ?_
        refine kf_iinc (w := (x4 + 1)) (lv' := [(4, .int (x4 + 1)), (3, .int x4), (5, .long r_3), (0, .ref (g.2.2.2 41)), (1, .int x1), (2, .int x2)]) hx dX0_throughAll_85 5 rfl rfl (by decide) rfl ?_
        refine kf_goto hx 10 dX0_throughAll_88 (by decide) ?_
        refine kf_sub [3, 4, 5, 1, 0] rfl ?_
        exact hK10 _ _ _ h
      · replace h := h.2 c
        refine kf_lload hx dX0_throughAll_57 0 rfl ?_
        refine kf_aload_n hx dX0_throughAll_59 rfl 1 rfl ?_
        refine kf_getJ hx sl_41_3 fl_RX0_23 dX0_throughAll_60 ?_
        refine kf_l_ne hx 85 dX0_throughAll_63 dX0_throughAll_64 (by decide) (fun c => ?_) (fun c => ?_)
        · replace h := h.1 c
          refine kf_iinc (w := (x4 + 1)) (lv' := [(4, .int (x4 + 1)), (5, .long r_3), (0, .ref (g.2.2.2 41)), (1, .int x1), (2, .int x2), (3, .int x3)]) hx dX0_throughAll_85 5 rfl rfl (by decide) rfl ?_
          refine kf_goto hx 10 dX0_throughAll_88 (by decide) ?_
          refine kf_sub [2, 3, 4, 5, 0] rfl ?_
          exact hK10 _ _ _ h
        · replace h := h.2 c
          refine kf_iload hx dX0_throughAll_67 5 rfl ?_
          refine kf_iload_n hx dX0_throughAll_69 rfl 4 rfl ?_
          refine kf_callSbP (st := []) hx (m_X0_isFewer g hg x4 x3 I J _ h) lk_RX0_46 km_X0_isFewer rfl (by decide) rfl (Nat.le_of_ble_eq_true rfl) dX0_throughAll_70 (fun r_5 h => ?_)
          refine kf_ifB_eq hx 85 dX0_throughAll_73 (by decide) (fun c => ?_) (fun c => ?_)
          · replace h := h.1 c
            refine kf_iinc (w := (x4 + 1)) (lv' := [(4, .int (x4 + 1)), (5, .long r_3), (0, .ref (g.2.2.2 41)), (1, .int x1), (2, .int x2), (3, .int x3)]) hx dX0_throughAll_85 5 rfl rfl (by decide) rfl ?_
            refine kf_goto hx 10 dX0_throughAll_88 (by decide) ?_
            refine kf_sub [2, 3, 4, 5, 0] rfl ?_
            exact hK10 _ _ _ h
          · replace h := h.2 c
            refine kf_aload_n hx dX0_throughAll_76 rfl 1 rfl ?_
            refine kf_lload hx dX0_throughAll_77 0 rfl ?_
            refine kf_putJ hx sl_41_3 fl_RX0_23 fp_0_3 dX0_throughAll_79 ?_
            refine kf_nmJ (fun J_6 eJ_6 => ?_)
            replace h := h J_6 eJ_6
            refine kf_iload hx dX0_throughAll_82 5 rfl ?_
            refine kf_istore_n (lv' := [(3, .int x4), (5, .long r_3), (0, .ref (g.2.2.2 41)), (1, .int x1), (2, .int x2), (4, .int x4)]) hx dX0_throughAll_84 rfl (by decide) rfl ?_
            refine kf_iinc (w := (x4 + 1)) (lv' := [(4, .int (x4 + 1)), (3, .int x4), (5, .long r_3), (0, .ref (g.2.2.2 41)), (1, .int x1), (2, .int x2)]) hx dX0_throughAll_85 5 rfl rfl (by decide) rfl ?_
            refine kf_goto hx 10 dX0_throughAll_88 (by decide) ?_
            refine kf_sub [3, 4, 5, 1, 0] rfl ?_
            exact hK10 _ _ _ h
theorem wl_X0_throughAll_10 (g : kf_G) (hg : kf_g g) {x : kf_X} (hx : kf_ok g x RX0 cX0_throughAll 7 18 680) (I : HI) (x1 : Int32) (x2 : Int32) (Post : Int32 → HJ → Prop) (hret : ∀ (pc : Nat) (lv : List (Nat × Value)) (v : Int32) (Jy : HJ), decode cX0_throughAll pc = .ok (.ireturn, 1) → Post v Jy → kf_M g x 7 pc lv [.int v] I Jy) (E10 : Int32 → HJ → Prop) (hE10 : ∀ (y3 : Int32) (Jy : HJ), E10 y3 Jy → kf_M g x 7 91 [(3, .int y3)] [] I Jy) : ∀ (n : Nat) (x3 : Int32) (x4 : Int32) (J : HJ), lp (wb_X0_throughAll_10 I x1 x2 Post E10) n (x3, x4, J) → kf_M g x 7 10 [(0, .ref (g.2.2.2 41)), (1, .int x1), (2, .int x2), (3, .int x3), (4, .int x4)] [] I J := by
  intro n
  induction n with
  | zero => intro x3 x4 J h; exact h.elim
  | succ n ih => intro x3 x4 J h; exact ws_X0_throughAll_10 g hg hx I x1 x2 Post hret E10 hE10 (lp (wb_X0_throughAll_10 I x1 x2 Post E10) n) ih x3 x4 J h
def w_X0_throughAll (x1 : Int32) (x2 : Int32) (I : HI) (J : HJ) (Post : Int32 → HJ → Prop) : Prop :=
  ∀ J_1 : HJ, J_1 = hJ J 41 3 0 → (∃ n, lp (wb_X0_throughAll_10 I x1 x2 Post (fun (x3_7 : Int32) (J_8 : HJ) => Post x3_7 J_8)) n (0, 1, J_1))
set_option maxHeartbeats 4000000 in
set_option maxRecDepth 20000 in
theorem we_X0_throughAll (g : kf_G) (hg : kf_g g) {x : kf_X} (hx : kf_ok g x RX0 cX0_throughAll 7 18 680) (x1 : Int32) (x2 : Int32) (I : HI) (J : HJ) (Post : Int32 → HJ → Prop) (hret : ∀ (pc : Nat) (lv : List (Nat × Value)) (v : Int32) (Jy : HJ), decode cX0_throughAll pc = .ok (.ireturn, 1) → Post v Jy → kf_M g x 7 pc lv [.int v] I Jy) (h : w_X0_throughAll x1 x2 I J Post) : kf_M g x 7 0 [(0, .ref (g.2.2.2 41)), (1, .int x1), (2, .int x2)] [] I J := by
  unfold w_X0_throughAll at h
  refine kf_iconst (v := 0) hx dX0_throughAll_0 (by decide) ?_
  refine kf_istore_n (lv' := [(3, .int 0), (0, .ref (g.2.2.2 41)), (1, .int x1), (2, .int x2)]) hx dX0_throughAll_1 rfl (by decide) rfl ?_
  refine kf_aload_n hx dX0_throughAll_2 rfl 1 rfl ?_
  refine kf_lconst (v := 0) hx dX0_throughAll_3 (by decide) ?_
  refine kf_putJ hx sl_41_3 fl_RX0_23 fp_0_3 dX0_throughAll_4 ?_
  refine kf_nmJ (fun J_1 eJ_1 => ?_)
  replace h := h J_1 eJ_1
  refine kf_iconst (v := 1) hx dX0_throughAll_7 (by decide) ?_
  refine kf_istore (lv' := [(4, .int 1), (3, .int 0), (0, .ref (g.2.2.2 41)), (1, .int x1), (2, .int x2)]) hx dX0_throughAll_8 (by decide) rfl ?_
  obtain ⟨n, h⟩ := h
  refine kf_sub [2, 3, 4, 1, 0] rfl ?_
  refine wl_X0_throughAll_10 g hg hx I x1 x2 _ hret _ (fun x3_7 J_8 h => ?_) n _ _ _ h
  refine kf_iload_n hx dX0_throughAll_91 rfl 0 rfl ?_
  exact hret _ _ x3_7 _ dX0_throughAll_92 h
set_option maxHeartbeats 4000000 in
set_option maxRecDepth 20000 in
theorem m_X0_throughAll (g : kf_G) (hg : kf_g g) (x1 : Int32) (x2 : Int32) (I : HI) (J : HJ) (Post : Int32 → HJ → Prop) (h : w_X0_throughAll x1 x2 I J Post) : kf_Mi g yX0_throughAll (kf_W yX0_throughAll cX0_throughAll 7 (Option.some Jvm.ClassFile.FieldType.int)) 18 680 [.ref (g.2.2.2 41), .int x1, .int x2] I J (fun v I' J' => Post v J' ∧ I' = I) :=
  kf_enti hg (by decide) (Nat.le_of_ble_eq_true rfl) rfl (fun x hx hr => we_X0_throughAll g hg hx x1 x2 I J Post (fun pc lv v J' hd hP => hr pc lv v I J' hd ⟨hP, rfl⟩) h)
theorem dX0_takeGreatestGrowth_0 : decode cX0_takeGreatestGrowth 0 = .ok (.iconst 0, 1) := by decide +kernel
theorem dX0_takeGreatestGrowth_1 : decode cX0_takeGreatestGrowth 1 = .ok (.istore_n 1, 1) := by decide +kernel
theorem dX0_takeGreatestGrowth_2 : decode cX0_takeGreatestGrowth 2 = .ok (.iconst 1, 1) := by decide +kernel
theorem dX0_takeGreatestGrowth_3 : decode cX0_takeGreatestGrowth 3 = .ok (.istore_n 2, 1) := by decide +kernel
theorem dX0_takeGreatestGrowth_4 : decode cX0_takeGreatestGrowth 4 = .ok (.iload_n 2, 1) := by decide +kernel
theorem dX0_takeGreatestGrowth_5 : decode cX0_takeGreatestGrowth 5 = .ok (.aload_n 0, 1) := by decide +kernel
theorem dX0_takeGreatestGrowth_6 : decode cX0_takeGreatestGrowth 6 = .ok (.getfield 15, 3) := by decide +kernel
theorem dX0_takeGreatestGrowth_9 : decode cX0_takeGreatestGrowth 9 = .ok (.getfield 31, 3) := by decide +kernel
theorem dX0_takeGreatestGrowth_12 : decode cX0_takeGreatestGrowth 12 = .ok (.if_icmp .ge 27, 3) := by decide +kernel
theorem dX0_takeGreatestGrowth_15 : decode cX0_takeGreatestGrowth 15 = .ok (.aload_n 0, 1) := by decide +kernel
theorem dX0_takeGreatestGrowth_16 : decode cX0_takeGreatestGrowth 16 = .ok (.getfield 9, 3) := by decide +kernel
theorem dX0_takeGreatestGrowth_19 : decode cX0_takeGreatestGrowth 19 = .ok (.iload_n 2, 1) := by decide +kernel
theorem dX0_takeGreatestGrowth_20 : decode cX0_takeGreatestGrowth 20 = .ok (.laload, 1) := by decide +kernel
theorem dX0_takeGreatestGrowth_21 : decode cX0_takeGreatestGrowth 21 = .ok (.aload_n 0, 1) := by decide +kernel
theorem dX0_takeGreatestGrowth_22 : decode cX0_takeGreatestGrowth 22 = .ok (.getfield 9, 3) := by decide +kernel
theorem dX0_takeGreatestGrowth_25 : decode cX0_takeGreatestGrowth 25 = .ok (.iload_n 1, 1) := by decide +kernel
theorem dX0_takeGreatestGrowth_26 : decode cX0_takeGreatestGrowth 26 = .ok (.laload, 1) := by decide +kernel
theorem dX0_takeGreatestGrowth_27 : decode cX0_takeGreatestGrowth 27 = .ok (.lcmp, 1) := by decide +kernel
theorem dX0_takeGreatestGrowth_28 : decode cX0_takeGreatestGrowth 28 = .ok (.ifCond .le 5, 3) := by decide +kernel
theorem dX0_takeGreatestGrowth_31 : decode cX0_takeGreatestGrowth 31 = .ok (.iload_n 2, 1) := by decide +kernel
theorem dX0_takeGreatestGrowth_32 : decode cX0_takeGreatestGrowth 32 = .ok (.istore_n 1, 1) := by decide +kernel
theorem dX0_takeGreatestGrowth_33 : decode cX0_takeGreatestGrowth 33 = .ok (.iinc 2 1, 3) := by decide +kernel
theorem dX0_takeGreatestGrowth_36 : decode cX0_takeGreatestGrowth 36 = .ok (.goto (-32), 3) := by decide +kernel
theorem dX0_takeGreatestGrowth_39 : decode cX0_takeGreatestGrowth 39 = .ok (.aload_n 0, 1) := by decide +kernel
theorem dX0_takeGreatestGrowth_40 : decode cX0_takeGreatestGrowth 40 = .ok (.getfield 15, 3) := by decide +kernel
theorem dX0_takeGreatestGrowth_43 : decode cX0_takeGreatestGrowth 43 = .ok (.getfield 31, 3) := by decide +kernel
theorem dX0_takeGreatestGrowth_46 : decode cX0_takeGreatestGrowth 46 = .ok (.ifCond .le 12, 3) := by decide +kernel
theorem dX0_takeGreatestGrowth_49 : decode cX0_takeGreatestGrowth 49 = .ok (.aload_n 0, 1) := by decide +kernel
theorem dX0_takeGreatestGrowth_50 : decode cX0_takeGreatestGrowth 50 = .ok (.getfield 9, 3) := by decide +kernel
theorem dX0_takeGreatestGrowth_53 : decode cX0_takeGreatestGrowth 53 = .ok (.iload_n 1, 1) := by decide +kernel
theorem dX0_takeGreatestGrowth_54 : decode cX0_takeGreatestGrowth 54 = .ok (.laload, 1) := by decide +kernel
theorem dX0_takeGreatestGrowth_55 : decode cX0_takeGreatestGrowth 55 = .ok (.goto 4, 3) := by decide +kernel
theorem dX0_takeGreatestGrowth_58 : decode cX0_takeGreatestGrowth 58 = .ok (.lconst 0, 1) := by decide +kernel
theorem dX0_takeGreatestGrowth_59 : decode cX0_takeGreatestGrowth 59 = .ok (.lstore_n 2, 1) := by decide +kernel
theorem dX0_takeGreatestGrowth_60 : decode cX0_takeGreatestGrowth 60 = .ok (.aload_n 0, 1) := by decide +kernel
theorem dX0_takeGreatestGrowth_61 : decode cX0_takeGreatestGrowth 61 = .ok (.getfield 9, 3) := by decide +kernel
theorem dX0_takeGreatestGrowth_64 : decode cX0_takeGreatestGrowth 64 = .ok (.iload_n 1, 1) := by decide +kernel
theorem dX0_takeGreatestGrowth_65 : decode cX0_takeGreatestGrowth 65 = .ok (.lconst 0, 1) := by decide +kernel
theorem dX0_takeGreatestGrowth_66 : decode cX0_takeGreatestGrowth 66 = .ok (.lastore, 1) := by decide +kernel
theorem dX0_takeGreatestGrowth_67 : decode cX0_takeGreatestGrowth 67 = .ok (.lload_n 2, 1) := by decide +kernel
theorem dX0_takeGreatestGrowth_68 : decode cX0_takeGreatestGrowth 68 = .ok (.lreturn, 1) := by decide +kernel
def wb_X0_takeGreatestGrowth_4 (I : HI) (J : HJ) (Post : Int64 → HJ → Prop) (E4 : Int32 → Prop) (K4 : (Int32 × Int32) → Prop) (s : Int32 × Int32) : Prop :=
  match s with
  | (x1, x2) => ((I 12 11) ≤ x2 → (E4 x1)) ∧ (¬ (I 12 11) ≤ x2 → (vp_in x2 12 ∧ (vp_in x1 12 ∧ (((J 42 (Int32.toNatClampNeg x2)) ≤ (J 42 (Int32.toNatClampNeg x1)) → (K4 (x1, (x2 + 1)))) ∧ (¬ (J 42 (Int32.toNatClampNeg x2)) ≤ (J 42 (Int32.toNatClampNeg x1)) → (K4 (x2, (x2 + 1))))))))
set_option maxHeartbeats 4000000 in
set_option maxRecDepth 20000 in
theorem ws_X0_takeGreatestGrowth_4 (g : kf_G) (hg : kf_g g) {x : kf_X} (hx : kf_ok g x RX0 cX0_takeGreatestGrowth 4 0 0) (I : HI) (J : HJ) (Post : Int64 → HJ → Prop) (hret : ∀ (pc : Nat) (lv : List (Nat × Value)) (v : Int64) (Jy : HJ), decode cX0_takeGreatestGrowth pc = .ok (.lreturn, 1) → Post v Jy → kf_M g x 4 pc lv [.long v] I Jy) (E4 : Int32 → Prop) (hE4 : ∀ (y1 : Int32), E4 y1 → kf_M g x 4 39 [(0, .ref (g.2.2.2 41)), (1, .int y1)] [] I J) (K4 : (Int32 × Int32) → Prop) (hK4 : ∀ (y1 : Int32) (y2 : Int32), K4 (y1, y2) → kf_M g x 4 4 [(0, .ref (g.2.2.2 41)), (1, .int y1), (2, .int y2)] [] I J) (x1 : Int32) (x2 : Int32) (h : wb_X0_takeGreatestGrowth_4 I J Post E4 K4 (x1, x2)) : kf_M g x 4 4 [(0, .ref (g.2.2.2 41)), (1, .int x1), (2, .int x2)] [] I J := by
  unfold wb_X0_takeGreatestGrowth_4 at h
  refine kf_iload_n hx dX0_takeGreatestGrowth_4 rfl 2 rfl ?_
  refine kf_aload_n hx dX0_takeGreatestGrowth_5 rfl 0 rfl ?_
  refine kf_getR (n := 12) hx sl_41_0 fl_RX0_15 dX0_takeGreatestGrowth_6 ?_
  refine kf_getI hx sl_12_11 fl_RX0_31 dX0_takeGreatestGrowth_9 ?_
  refine kf_icmp_ge hx 39 dX0_takeGreatestGrowth_12 (by decide) (fun c => ?_) (fun c => ?_)
  · replace h := h.1 c
    refine kf_sub [0, 1] rfl ?_
    exact hE4 _ h
  · replace h := h.2 c
    refine kf_aload_n hx dX0_takeGreatestGrowth_15 rfl 0 rfl ?_
    refine kf_getR (n := 42) hx sl_41_2 fl_RX0_9 dX0_takeGreatestGrowth_16 ?_
    refine kf_iload_n hx dX0_takeGreatestGrowth_19 rfl 2 rfl ?_
    refine kf_lald hx ar_42 h.1 dX0_takeGreatestGrowth_20 ?_
    replace h := h.2
    refine kf_aload_n hx dX0_takeGreatestGrowth_21 rfl 0 rfl ?_
    refine kf_getR (n := 42) hx sl_41_2 fl_RX0_9 dX0_takeGreatestGrowth_22 ?_
    refine kf_iload_n hx dX0_takeGreatestGrowth_25 rfl 1 rfl ?_
    refine kf_lald hx ar_42 h.1 dX0_takeGreatestGrowth_26 ?_
    replace h := h.2
    refine kf_l_le hx 33 dX0_takeGreatestGrowth_27 dX0_takeGreatestGrowth_28 (by decide) (fun c => ?_) (fun c => ?_)
    · replace h := h.1 c
      refine kf_iinc (w := (x2 + 1)) (lv' := [(2, .int (x2 + 1)), (0, .ref (g.2.2.2 41)), (1, .int x1)]) hx dX0_takeGreatestGrowth_33 2 rfl rfl (by decide) rfl ?_
      refine kf_goto hx 4 dX0_takeGreatestGrowth_36 (by decide) ?_
      refine kf_sub [1, 2, 0] rfl ?_
      exact hK4 _ _ h
    · replace h := h.2 c
      refine kf_iload_n hx dX0_takeGreatestGrowth_31 rfl 2 rfl ?_
      refine kf_istore_n (lv' := [(1, .int x2), (0, .ref (g.2.2.2 41)), (2, .int x2)]) hx dX0_takeGreatestGrowth_32 rfl (by decide) rfl ?_
      refine kf_iinc (w := (x2 + 1)) (lv' := [(2, .int (x2 + 1)), (1, .int x2), (0, .ref (g.2.2.2 41))]) hx dX0_takeGreatestGrowth_33 2 rfl rfl (by decide) rfl ?_
      refine kf_goto hx 4 dX0_takeGreatestGrowth_36 (by decide) ?_
      refine kf_sub [2, 1, 0] rfl ?_
      exact hK4 _ _ h
theorem wl_X0_takeGreatestGrowth_4 (g : kf_G) (hg : kf_g g) {x : kf_X} (hx : kf_ok g x RX0 cX0_takeGreatestGrowth 4 0 0) (I : HI) (J : HJ) (Post : Int64 → HJ → Prop) (hret : ∀ (pc : Nat) (lv : List (Nat × Value)) (v : Int64) (Jy : HJ), decode cX0_takeGreatestGrowth pc = .ok (.lreturn, 1) → Post v Jy → kf_M g x 4 pc lv [.long v] I Jy) (E4 : Int32 → Prop) (hE4 : ∀ (y1 : Int32), E4 y1 → kf_M g x 4 39 [(0, .ref (g.2.2.2 41)), (1, .int y1)] [] I J) : ∀ (n : Nat) (x1 : Int32) (x2 : Int32), lp (wb_X0_takeGreatestGrowth_4 I J Post E4) n (x1, x2) → kf_M g x 4 4 [(0, .ref (g.2.2.2 41)), (1, .int x1), (2, .int x2)] [] I J := by
  intro n
  induction n with
  | zero => intro x1 x2 h; exact h.elim
  | succ n ih => intro x1 x2 h; exact ws_X0_takeGreatestGrowth_4 g hg hx I J Post hret E4 hE4 (lp (wb_X0_takeGreatestGrowth_4 I J Post E4) n) ih x1 x2 h
def w_X0_takeGreatestGrowth  (I : HI) (J : HJ) (Post : Int64 → HJ → Prop) : Prop :=
  ∃ n, lp (wb_X0_takeGreatestGrowth_4 I J Post (fun (x1_1 : Int32) => ((I 12 11) ≤ 0 → (vp_in x1_1 12 ∧ (∀ J_2 : HJ, J_2 = hJ J 42 (Int32.toNatClampNeg x1_1) 0 → (Post 0 J_2)))) ∧ (¬ (I 12 11) ≤ 0 → (vp_in x1_1 12 ∧ (vp_in x1_1 12 ∧ (∀ J_3 : HJ, J_3 = hJ J 42 (Int32.toNatClampNeg x1_1) 0 → (Post (J 42 (Int32.toNatClampNeg x1_1)) J_3))))))) n (0, 1)
set_option maxHeartbeats 4000000 in
set_option maxRecDepth 20000 in
theorem we_X0_takeGreatestGrowth (g : kf_G) (hg : kf_g g) {x : kf_X} (hx : kf_ok g x RX0 cX0_takeGreatestGrowth 4 0 0)  (I : HI) (J : HJ) (Post : Int64 → HJ → Prop) (hret : ∀ (pc : Nat) (lv : List (Nat × Value)) (v : Int64) (Jy : HJ), decode cX0_takeGreatestGrowth pc = .ok (.lreturn, 1) → Post v Jy → kf_M g x 4 pc lv [.long v] I Jy) (h : w_X0_takeGreatestGrowth  I J Post) : kf_M g x 4 0 [(0, .ref (g.2.2.2 41))] [] I J := by
  unfold w_X0_takeGreatestGrowth at h
  refine kf_iconst (v := 0) hx dX0_takeGreatestGrowth_0 (by decide) ?_
  refine kf_istore_n (lv' := [(1, .int 0), (0, .ref (g.2.2.2 41))]) hx dX0_takeGreatestGrowth_1 rfl (by decide) rfl ?_
  refine kf_iconst (v := 1) hx dX0_takeGreatestGrowth_2 (by decide) ?_
  refine kf_istore_n (lv' := [(2, .int 1), (1, .int 0), (0, .ref (g.2.2.2 41))]) hx dX0_takeGreatestGrowth_3 rfl (by decide) rfl ?_
  obtain ⟨n, h⟩ := h
  refine kf_sub [2, 1, 0] rfl ?_
  refine wl_X0_takeGreatestGrowth_4 g hg hx I J  _ hret _ (fun x1_1 h => ?_) n _ _ h
  refine kf_aload_n hx dX0_takeGreatestGrowth_39 rfl 0 rfl ?_
  refine kf_getR (n := 12) hx sl_41_0 fl_RX0_15 dX0_takeGreatestGrowth_40 ?_
  refine kf_getI hx sl_12_11 fl_RX0_31 dX0_takeGreatestGrowth_43 ?_
  refine kf_if_le hx 58 dX0_takeGreatestGrowth_46 (by decide) (fun c => ?_) (fun c => ?_)
  · replace h := h.1 c
    refine kf_lconst (v := 0) hx dX0_takeGreatestGrowth_58 (by decide) ?_
    refine kf_lstore_n (lv' := [(2, .long 0), (0, .ref (g.2.2.2 41)), (1, .int x1_1)]) hx dX0_takeGreatestGrowth_59 rfl (by decide) rfl ?_
    refine kf_aload_n hx dX0_takeGreatestGrowth_60 rfl 1 rfl ?_
    refine kf_getR (n := 42) hx sl_41_2 fl_RX0_9 dX0_takeGreatestGrowth_61 ?_
    refine kf_iload_n hx dX0_takeGreatestGrowth_64 rfl 2 rfl ?_
    refine kf_lconst (v := 0) hx dX0_takeGreatestGrowth_65 (by decide) ?_
    refine kf_last hx ar_42 h.1 dX0_takeGreatestGrowth_66 ?_
    replace h := h.2
    refine kf_nmJ (fun J_2 eJ_2 => ?_)
    replace h := h J_2 eJ_2
    refine kf_lload_n hx dX0_takeGreatestGrowth_67 rfl 0 rfl ?_
    exact hret _ _ 0 _ dX0_takeGreatestGrowth_68 h
  · replace h := h.2 c
    refine kf_aload_n hx dX0_takeGreatestGrowth_49 rfl 0 rfl ?_
    refine kf_getR (n := 42) hx sl_41_2 fl_RX0_9 dX0_takeGreatestGrowth_50 ?_
    refine kf_iload_n hx dX0_takeGreatestGrowth_53 rfl 1 rfl ?_
    refine kf_lald hx ar_42 h.1 dX0_takeGreatestGrowth_54 ?_
    replace h := h.2
    refine kf_goto hx 59 dX0_takeGreatestGrowth_55 (by decide) ?_
    refine kf_lstore_n (lv' := [(2, .long (J 42 (Int32.toNatClampNeg x1_1))), (0, .ref (g.2.2.2 41)), (1, .int x1_1)]) hx dX0_takeGreatestGrowth_59 rfl (by decide) rfl ?_
    refine kf_aload_n hx dX0_takeGreatestGrowth_60 rfl 1 rfl ?_
    refine kf_getR (n := 42) hx sl_41_2 fl_RX0_9 dX0_takeGreatestGrowth_61 ?_
    refine kf_iload_n hx dX0_takeGreatestGrowth_64 rfl 2 rfl ?_
    refine kf_lconst (v := 0) hx dX0_takeGreatestGrowth_65 (by decide) ?_
    refine kf_last hx ar_42 h.1 dX0_takeGreatestGrowth_66 ?_
    replace h := h.2
    refine kf_nmJ (fun J_3 eJ_3 => ?_)
    replace h := h J_3 eJ_3
    refine kf_lload_n hx dX0_takeGreatestGrowth_67 rfl 0 rfl ?_
    exact hret _ _ (J 42 (Int32.toNatClampNeg x1_1)) _ dX0_takeGreatestGrowth_68 h
set_option maxHeartbeats 4000000 in
set_option maxRecDepth 20000 in
theorem m_X0_takeGreatestGrowth (g : kf_G) (hg : kf_g g)  (I : HI) (J : HJ) (Post : Int64 → HJ → Prop) (h : w_X0_takeGreatestGrowth  I J Post) : kf_Ml g yX0_takeGreatestGrowth (kf_W yX0_takeGreatestGrowth cX0_takeGreatestGrowth 4 (Option.some Jvm.ClassFile.FieldType.long)) 0 0 [.ref (g.2.2.2 41)] I J (fun v I' J' => Post v J' ∧ I' = I) :=
  kf_entl hg (by decide) (Nat.le_of_ble_eq_true rfl) rfl (fun x hx hr => we_X0_takeGreatestGrowth g hg hx  I J Post (fun pc lv v J' hd hP => hr pc lv v I J' hd ⟨hP, rfl⟩) h)
theorem dX0_withGrowths_0 : decode cX0_withGrowths 0 = .ok (.iconst 0, 1) := by decide +kernel
theorem dX0_withGrowths_1 : decode cX0_withGrowths 1 = .ok (.istore_n 3, 1) := by decide +kernel
theorem dX0_withGrowths_2 : decode cX0_withGrowths 2 = .ok (.iload_n 3, 1) := by decide +kernel
theorem dX0_withGrowths_3 : decode cX0_withGrowths 3 = .ok (.aload_n 0, 1) := by decide +kernel
theorem dX0_withGrowths_4 : decode cX0_withGrowths 4 = .ok (.getfield 15, 3) := by decide +kernel
theorem dX0_withGrowths_7 : decode cX0_withGrowths 7 = .ok (.getfield 31, 3) := by decide +kernel
theorem dX0_withGrowths_10 : decode cX0_withGrowths 10 = .ok (.if_icmp .ge 45, 3) := by decide +kernel
theorem dX0_withGrowths_13 : decode cX0_withGrowths 13 = .ok (.aload_n 0, 1) := by decide +kernel
theorem dX0_withGrowths_14 : decode cX0_withGrowths 14 = .ok (.getfield 9, 3) := by decide +kernel
theorem dX0_withGrowths_17 : decode cX0_withGrowths 17 = .ok (.iload_n 3, 1) := by decide +kernel
theorem dX0_withGrowths_18 : decode cX0_withGrowths 18 = .ok (.iload_n 1, 1) := by decide +kernel
theorem dX0_withGrowths_19 : decode cX0_withGrowths 19 = .ok (.iload_n 3, 1) := by decide +kernel
theorem dX0_withGrowths_20 : decode cX0_withGrowths 20 = .ok (.invokestatic 56, 3) := by decide +kernel
theorem dX0_withGrowths_23 : decode cX0_withGrowths 23 = .ok (.ifCond .eq 7, 3) := by decide +kernel
theorem dX0_withGrowths_26 : decode cX0_withGrowths 26 = .ok (.lconst 0, 1) := by decide +kernel
theorem dX0_withGrowths_27 : decode cX0_withGrowths 27 = .ok (.goto 21, 3) := by decide +kernel
theorem dX0_withGrowths_30 : decode cX0_withGrowths 30 = .ok (.aload_n 0, 1) := by decide +kernel
theorem dX0_withGrowths_31 : decode cX0_withGrowths 31 = .ok (.getfield 19, 3) := by decide +kernel
theorem dX0_withGrowths_34 : decode cX0_withGrowths 34 = .ok (.iload_n 1, 1) := by decide +kernel
theorem dX0_withGrowths_35 : decode cX0_withGrowths 35 = .ok (.iconst 1, 1) := by decide +kernel
theorem dX0_withGrowths_36 : decode cX0_withGrowths 36 = .ok (.iload_n 3, 1) := by decide +kernel
theorem dX0_withGrowths_37 : decode cX0_withGrowths 37 = .ok (.ishl, 1) := by decide +kernel
theorem dX0_withGrowths_38 : decode cX0_withGrowths 38 = .ok (.ior, 1) := by decide +kernel
theorem dX0_withGrowths_39 : decode cX0_withGrowths 39 = .ok (.iconst 0, 1) := by decide +kernel
theorem dX0_withGrowths_40 : decode cX0_withGrowths 40 = .ok (.invokevirtual 41, 3) := by decide +kernel
theorem dX0_withGrowths_43 : decode cX0_withGrowths 43 = .ok (.aload_n 0, 1) := by decide +kernel
theorem dX0_withGrowths_44 : decode cX0_withGrowths 44 = .ok (.getfield 23, 3) := by decide +kernel
theorem dX0_withGrowths_47 : decode cX0_withGrowths 47 = .ok (.lsub, 1) := by decide +kernel
theorem dX0_withGrowths_48 : decode cX0_withGrowths 48 = .ok (.lastore, 1) := by decide +kernel
theorem dX0_withGrowths_49 : decode cX0_withGrowths 49 = .ok (.iinc 3 1, 3) := by decide +kernel
theorem dX0_withGrowths_52 : decode cX0_withGrowths 52 = .ok (.goto (-50), 3) := by decide +kernel
theorem dX0_withGrowths_55 : decode cX0_withGrowths 55 = .ok (.aload_n 0, 1) := by decide +kernel
theorem dX0_withGrowths_56 : decode cX0_withGrowths 56 = .ok (.getfield 23, 3) := by decide +kernel
theorem dX0_withGrowths_59 : decode cX0_withGrowths 59 = .ok (.lstore_n 3, 1) := by decide +kernel
theorem dX0_withGrowths_60 : decode cX0_withGrowths 60 = .ok (.iconst 0, 1) := by decide +kernel
theorem dX0_withGrowths_61 : decode cX0_withGrowths 61 = .ok (.istore 5, 2) := by decide +kernel
theorem dX0_withGrowths_63 : decode cX0_withGrowths 63 = .ok (.iload 5, 2) := by decide +kernel
theorem dX0_withGrowths_65 : decode cX0_withGrowths 65 = .ok (.iload_n 2, 1) := by decide +kernel
theorem dX0_withGrowths_66 : decode cX0_withGrowths 66 = .ok (.if_icmp .ge 16, 3) := by decide +kernel
theorem dX0_withGrowths_69 : decode cX0_withGrowths 69 = .ok (.lload_n 3, 1) := by decide +kernel
theorem dX0_withGrowths_70 : decode cX0_withGrowths 70 = .ok (.aload_n 0, 1) := by decide +kernel
theorem dX0_withGrowths_71 : decode cX0_withGrowths 71 = .ok (.invokevirtual 73, 3) := by decide +kernel
theorem dX0_withGrowths_74 : decode cX0_withGrowths 74 = .ok (.ladd, 1) := by decide +kernel
theorem dX0_withGrowths_75 : decode cX0_withGrowths 75 = .ok (.lstore_n 3, 1) := by decide +kernel
theorem dX0_withGrowths_76 : decode cX0_withGrowths 76 = .ok (.iinc 5 1, 3) := by decide +kernel
theorem dX0_withGrowths_79 : decode cX0_withGrowths 79 = .ok (.goto (-16), 3) := by decide +kernel
theorem dX0_withGrowths_82 : decode cX0_withGrowths 82 = .ok (.lload_n 3, 1) := by decide +kernel
theorem dX0_withGrowths_83 : decode cX0_withGrowths 83 = .ok (.lreturn, 1) := by decide +kernel
def wb_X0_withGrowths_2 (I : HI) (x1 : Int32) (x2 : Int32) (Post : Int64 → HJ → Prop) (E2 : HJ → Prop) (K2 : (Int32 × HJ) → Prop) (s : Int32 × HJ) : Prop :=
  match s with
  | (x3, J) => ((I 12 11) ≤ x3 → (E2 J)) ∧ (¬ (I 12 11) ≤ x3 → (w_X10_has x1 x3 (fun (r_1 : Bool) => ((r_1 = false → (w_X2_total (x1 ||| (1 <<< (x3 &&& 31))) 0 I J (fun (r_2 : Int64) => (vp_in x3 12 ∧ (∀ J_3 : HJ, J_3 = hJ J 42 (Int32.toNatClampNeg x3) (r_2 - (J 41 3)) → (K2 ((x3 + 1), J_3))))))) ∧ (r_1 = true → (vp_in x3 12 ∧ (∀ J_4 : HJ, J_4 = hJ J 42 (Int32.toNatClampNeg x3) 0 → (K2 ((x3 + 1), J_4)))))))))
set_option maxHeartbeats 4000000 in
set_option maxRecDepth 20000 in
theorem ws_X0_withGrowths_2 (g : kf_G) (hg : kf_g g) {x : kf_X} (hx : kf_ok g x RX0 cX0_withGrowths 6 18 680) (I : HI) (x1 : Int32) (x2 : Int32) (Post : Int64 → HJ → Prop) (hret : ∀ (pc : Nat) (lv : List (Nat × Value)) (v : Int64) (Jy : HJ), decode cX0_withGrowths pc = .ok (.lreturn, 1) → Post v Jy → kf_M g x 6 pc lv [.long v] I Jy) (E2 : HJ → Prop) (hE2 : ∀ (Jy : HJ), E2 Jy → kf_M g x 6 55 [(0, .ref (g.2.2.2 41)), (2, .int x2)] [] I Jy) (K2 : (Int32 × HJ) → Prop) (hK2 : ∀ (y3 : Int32) (Jy : HJ), K2 (y3, Jy) → kf_M g x 6 2 [(0, .ref (g.2.2.2 41)), (1, .int x1), (2, .int x2), (3, .int y3)] [] I Jy) (x3 : Int32) (J : HJ) (h : wb_X0_withGrowths_2 I x1 x2 Post E2 K2 (x3, J)) : kf_M g x 6 2 [(0, .ref (g.2.2.2 41)), (1, .int x1), (2, .int x2), (3, .int x3)] [] I J := by
  unfold wb_X0_withGrowths_2 at h
  refine kf_iload_n hx dX0_withGrowths_2 rfl 3 rfl ?_
  refine kf_aload_n hx dX0_withGrowths_3 rfl 0 rfl ?_
  refine kf_getR (n := 12) hx sl_41_0 fl_RX0_15 dX0_withGrowths_4 ?_
  refine kf_getI hx sl_12_11 fl_RX0_31 dX0_withGrowths_7 ?_
  refine kf_icmp_ge hx 55 dX0_withGrowths_10 (by decide) (fun c => ?_) (fun c => ?_)
  · replace h := h.1 c
    refine kf_sub [0, 2] rfl ?_
    exact hE2 _ h
  · replace h := h.2 c
    refine kf_aload_n hx dX0_withGrowths_13 rfl 0 rfl ?_
    refine kf_getR (n := 42) hx sl_41_2 fl_RX0_9 dX0_withGrowths_14 ?_
    refine kf_iload_n hx dX0_withGrowths_17 rfl 3 rfl ?_
    refine kf_iload_n hx dX0_withGrowths_18 rfl 1 rfl ?_
    refine kf_iload_n hx dX0_withGrowths_19 rfl 3 rfl ?_
    refine kf_callSbP (st := [.int x3, .ref (g.2.2.2 42)]) hx (m_X10_has g hg x1 x3 I J _ h) lk_RX0_56 km_X10_has rfl (by decide) rfl (Nat.le_of_ble_eq_true rfl) dX0_withGrowths_20 (fun r_1 h => ?_)
    refine kf_ifB_eq hx 30 dX0_withGrowths_23 (by decide) (fun c => ?_) (fun c => ?_)
    · replace h := h.1 c
      refine kf_aload_n hx dX0_withGrowths_30 rfl 0 rfl ?_
      refine kf_getR (n := 39) hx sl_41_1 fl_RX0_19 dX0_withGrowths_31 ?_
      refine kf_iload_n hx dX0_withGrowths_34 rfl 1 rfl ?_
      refine kf_iconst (v := 1) hx dX0_withGrowths_35 (by decide) ?_
      refine kf_iload_n hx dX0_withGrowths_36 rfl 3 rfl ?_
      refine kf_ishl hx dX0_withGrowths_37 ?_
      refine kf_ior hx dX0_withGrowths_38 ?_
      refine kf_iconst (v := 0) hx dX0_withGrowths_39 (by decide) ?_
      refine kf_callVlP (st := [.int x3, .ref (g.2.2.2 42)]) hx (m_X2_total g hg (x1 ||| (1 <<< (x3 &&& 31))) 0 I J _ h) lk_RX0_41 km_X2_total ob_39 rfl (by decide) rfl (Nat.le_of_ble_eq_true rfl) dX0_withGrowths_40 (fun r_2 h => ?_)
      refine kf_aload_n hx dX0_withGrowths_43 rfl 0 rfl ?_
      refine kf_getJ hx sl_41_3 fl_RX0_23 dX0_withGrowths_44 ?_
      refine kf_lsub hx dX0_withGrowths_47 ?_
      refine kf_last hx ar_42 h.1 dX0_withGrowths_48 ?_
      replace h := h.2
      refine kf_nmJ (fun J_3 eJ_3 => ?_)
      replace h := h J_3 eJ_3
      refine kf_iinc (w := (x3 + 1)) (lv' := [(3, .int (x3 + 1)), (0, .ref (g.2.2.2 41)), (1, .int x1), (2, .int x2)]) hx dX0_withGrowths_49 3 rfl rfl (by decide) rfl ?_
      refine kf_goto hx 2 dX0_withGrowths_52 (by decide) ?_
      refine kf_sub [1, 2, 3, 0] rfl ?_
      exact hK2 _ _ h
    · replace h := h.2 c
      refine kf_lconst (v := 0) hx dX0_withGrowths_26 (by decide) ?_
      refine kf_goto hx 48 dX0_withGrowths_27 (by decide) ?_
      refine kf_last hx ar_42 h.1 dX0_withGrowths_48 ?_
      replace h := h.2
      refine kf_nmJ (fun J_4 eJ_4 => ?_)
      replace h := h J_4 eJ_4
      refine kf_iinc (w := (x3 + 1)) (lv' := [(3, .int (x3 + 1)), (0, .ref (g.2.2.2 41)), (1, .int x1), (2, .int x2)]) hx dX0_withGrowths_49 3 rfl rfl (by decide) rfl ?_
      refine kf_goto hx 2 dX0_withGrowths_52 (by decide) ?_
      refine kf_sub [1, 2, 3, 0] rfl ?_
      exact hK2 _ _ h
theorem wl_X0_withGrowths_2 (g : kf_G) (hg : kf_g g) {x : kf_X} (hx : kf_ok g x RX0 cX0_withGrowths 6 18 680) (I : HI) (x1 : Int32) (x2 : Int32) (Post : Int64 → HJ → Prop) (hret : ∀ (pc : Nat) (lv : List (Nat × Value)) (v : Int64) (Jy : HJ), decode cX0_withGrowths pc = .ok (.lreturn, 1) → Post v Jy → kf_M g x 6 pc lv [.long v] I Jy) (E2 : HJ → Prop) (hE2 : ∀ (Jy : HJ), E2 Jy → kf_M g x 6 55 [(0, .ref (g.2.2.2 41)), (2, .int x2)] [] I Jy) : ∀ (n : Nat) (x3 : Int32) (J : HJ), lp (wb_X0_withGrowths_2 I x1 x2 Post E2) n (x3, J) → kf_M g x 6 2 [(0, .ref (g.2.2.2 41)), (1, .int x1), (2, .int x2), (3, .int x3)] [] I J := by
  intro n
  induction n with
  | zero => intro x3 J h; exact h.elim
  | succ n ih => intro x3 J h; exact ws_X0_withGrowths_2 g hg hx I x1 x2 Post hret E2 hE2 (lp (wb_X0_withGrowths_2 I x1 x2 Post E2) n) ih x3 J h
def wb_X0_withGrowths_63 (I : HI) (x2 : Int32) (Post : Int64 → HJ → Prop) (E63 : Int64 → HJ → Prop) (K63 : (Int64 × Int32 × HJ) → Prop) (s : Int64 × Int32 × HJ) : Prop :=
  match s with
  | (x3, x5, J) => (x2 ≤ x5 → (E63 x3 J)) ∧ (¬ x2 ≤ x5 → (w_X0_takeGreatestGrowth  I J (fun (r_6 : Int64) (J_7 : HJ) => (K63 ((x3 + r_6), (x5 + 1), J_7)))))
set_option maxHeartbeats 4000000 in
set_option maxRecDepth 20000 in
theorem ws_X0_withGrowths_63 (g : kf_G) (hg : kf_g g) {x : kf_X} (hx : kf_ok g x RX0 cX0_withGrowths 6 18 680) (I : HI) (x2 : Int32) (Post : Int64 → HJ → Prop) (hret : ∀ (pc : Nat) (lv : List (Nat × Value)) (v : Int64) (Jy : HJ), decode cX0_withGrowths pc = .ok (.lreturn, 1) → Post v Jy → kf_M g x 6 pc lv [.long v] I Jy) (E63 : Int64 → HJ → Prop) (hE63 : ∀ (y3 : Int64) (Jy : HJ), E63 y3 Jy → kf_M g x 6 82 [(3, .long y3)] [] I Jy) (K63 : (Int64 × Int32 × HJ) → Prop) (hK63 : ∀ (y3 : Int64) (y5 : Int32) (Jy : HJ), K63 (y3, y5, Jy) → kf_M g x 6 63 [(0, .ref (g.2.2.2 41)), (2, .int x2), (3, .long y3), (5, .int y5)] [] I Jy) (x3 : Int64) (x5 : Int32) (J : HJ) (h : wb_X0_withGrowths_63 I x2 Post E63 K63 (x3, x5, J)) : kf_M g x 6 63 [(0, .ref (g.2.2.2 41)), (2, .int x2), (3, .long x3), (5, .int x5)] [] I J := by
  unfold wb_X0_withGrowths_63 at h
  refine kf_iload hx dX0_withGrowths_63 3 rfl ?_
  refine kf_iload_n hx dX0_withGrowths_65 rfl 1 rfl ?_
  refine kf_icmp_ge hx 82 dX0_withGrowths_66 (by decide) (fun c => ?_) (fun c => ?_)
  · replace h := h.1 c
    refine kf_sub [2] rfl ?_
    exact hE63 _ _ h
  · replace h := h.2 c
    refine kf_lload_n hx dX0_withGrowths_69 rfl 2 rfl ?_
    refine kf_aload_n hx dX0_withGrowths_70 rfl 0 rfl ?_
    refine kf_callVlJ (st := [.long x3]) hx (m_X0_takeGreatestGrowth g hg  I J _ h) lk_RX0_73 km_X0_takeGreatestGrowth ob_41 rfl (by decide) rfl (Nat.le_of_ble_eq_true rfl) dX0_withGrowths_71 (fun r_6 J_7 h => ?_)
    refine kf_ladd hx dX0_withGrowths_74 ?_
    refine kf_lstore_n (lv' := [(3, .long (x3 + r_6)), (0, .ref (g.2.2.2 41)), (2, .int x2), (5, .int x5)]) hx dX0_withGrowths_75 rfl (by decide) rfl ?_
    refine kf_iinc (w := (x5 + 1)) (lv' := [(5, .int (x5 + 1)), (3, .long (x3 + r_6)), (0, .ref (g.2.2.2 41)), (2, .int x2)]) hx dX0_withGrowths_76 3 rfl rfl (by decide) rfl ?_
    refine kf_goto hx 63 dX0_withGrowths_79 (by decide) ?_
    refine kf_sub [2, 3, 1, 0] rfl ?_
    exact hK63 _ _ _ h
theorem wl_X0_withGrowths_63 (g : kf_G) (hg : kf_g g) {x : kf_X} (hx : kf_ok g x RX0 cX0_withGrowths 6 18 680) (I : HI) (x2 : Int32) (Post : Int64 → HJ → Prop) (hret : ∀ (pc : Nat) (lv : List (Nat × Value)) (v : Int64) (Jy : HJ), decode cX0_withGrowths pc = .ok (.lreturn, 1) → Post v Jy → kf_M g x 6 pc lv [.long v] I Jy) (E63 : Int64 → HJ → Prop) (hE63 : ∀ (y3 : Int64) (Jy : HJ), E63 y3 Jy → kf_M g x 6 82 [(3, .long y3)] [] I Jy) : ∀ (n : Nat) (x3 : Int64) (x5 : Int32) (J : HJ), lp (wb_X0_withGrowths_63 I x2 Post E63) n (x3, x5, J) → kf_M g x 6 63 [(0, .ref (g.2.2.2 41)), (2, .int x2), (3, .long x3), (5, .int x5)] [] I J := by
  intro n
  induction n with
  | zero => intro x3 x5 J h; exact h.elim
  | succ n ih => intro x3 x5 J h; exact ws_X0_withGrowths_63 g hg hx I x2 Post hret E63 hE63 (lp (wb_X0_withGrowths_63 I x2 Post E63) n) ih x3 x5 J h
def w_X0_withGrowths (x1 : Int32) (x2 : Int32) (I : HI) (J : HJ) (Post : Int64 → HJ → Prop) : Prop :=
  ∃ n, lp (wb_X0_withGrowths_2 I x1 x2 Post (fun (J_5 : HJ) => ∃ n, lp (wb_X0_withGrowths_63 I x2 Post (fun (x3_8 : Int64) (J_9 : HJ) => Post x3_8 J_9)) n ((J_5 41 3), 0, J_5))) n (0, J)
set_option maxHeartbeats 4000000 in
set_option maxRecDepth 20000 in
theorem we_X0_withGrowths (g : kf_G) (hg : kf_g g) {x : kf_X} (hx : kf_ok g x RX0 cX0_withGrowths 6 18 680) (x1 : Int32) (x2 : Int32) (I : HI) (J : HJ) (Post : Int64 → HJ → Prop) (hret : ∀ (pc : Nat) (lv : List (Nat × Value)) (v : Int64) (Jy : HJ), decode cX0_withGrowths pc = .ok (.lreturn, 1) → Post v Jy → kf_M g x 6 pc lv [.long v] I Jy) (h : w_X0_withGrowths x1 x2 I J Post) : kf_M g x 6 0 [(0, .ref (g.2.2.2 41)), (1, .int x1), (2, .int x2)] [] I J := by
  unfold w_X0_withGrowths at h
  refine kf_iconst (v := 0) hx dX0_withGrowths_0 (by decide) ?_
  refine kf_istore_n (lv' := [(3, .int 0), (0, .ref (g.2.2.2 41)), (1, .int x1), (2, .int x2)]) hx dX0_withGrowths_1 rfl (by decide) rfl ?_
  obtain ⟨n, h⟩ := h
  refine kf_sub [1, 2, 3, 0] rfl ?_
  refine wl_X0_withGrowths_2 g hg hx I x1 x2 _ hret _ (fun J_5 h => ?_) n _ _ h
  refine kf_aload_n hx dX0_withGrowths_55 rfl 0 rfl ?_
  refine kf_getJ hx sl_41_3 fl_RX0_23 dX0_withGrowths_56 ?_
  refine kf_lstore_n (lv' := [(3, .long (J_5 41 3)), (0, .ref (g.2.2.2 41)), (2, .int x2)]) hx dX0_withGrowths_59 rfl (by decide) rfl ?_
  refine kf_iconst (v := 0) hx dX0_withGrowths_60 (by decide) ?_
  refine kf_istore (lv' := [(5, .int 0), (3, .long (J_5 41 3)), (0, .ref (g.2.2.2 41)), (2, .int x2)]) hx dX0_withGrowths_61 (by decide) rfl ?_
  obtain ⟨n, h⟩ := h
  refine kf_sub [2, 3, 1, 0] rfl ?_
  refine wl_X0_withGrowths_63 g hg hx I x2 _ hret _ (fun x3_8 J_9 h => ?_) n _ _ _ h
  refine kf_lload_n hx dX0_withGrowths_82 rfl 0 rfl ?_
  exact hret _ _ x3_8 _ dX0_withGrowths_83 h
set_option maxHeartbeats 4000000 in
set_option maxRecDepth 20000 in
theorem m_X0_withGrowths (g : kf_G) (hg : kf_g g) (x1 : Int32) (x2 : Int32) (I : HI) (J : HJ) (Post : Int64 → HJ → Prop) (h : w_X0_withGrowths x1 x2 I J Post) : kf_Ml g yX0_withGrowths (kf_W yX0_withGrowths cX0_withGrowths 6 (Option.some Jvm.ClassFile.FieldType.long)) 18 680 [.ref (g.2.2.2 41), .int x1, .int x2] I J (fun v I' J' => Post v J' ∧ I' = I) :=
  kf_entl hg (by decide) (Nat.le_of_ble_eq_true rfl) rfl (fun x hx hr => we_X0_withGrowths g hg hx x1 x2 I J Post (fun pc lv v J' hd hP => hr pc lv v I J' hd ⟨hP, rfl⟩) h)
theorem dX2_count_0 : decode cX2_count 0 = .ok (.iconst 1, 1) := by decide +kernel
theorem dX2_count_1 : decode cX2_count 1 = .ok (.aload_n 0, 1) := by decide +kernel
theorem dX2_count_2 : decode cX2_count 2 = .ok (.getfield 15, 3) := by decide +kernel
theorem dX2_count_5 : decode cX2_count 5 = .ok (.getfield 19, 3) := by decide +kernel
theorem dX2_count_8 : decode cX2_count 8 = .ok (.ishl, 1) := by decide +kernel
theorem dX2_count_9 : decode cX2_count 9 = .ok (.ireturn, 1) := by decide +kernel
def w_X2_count  (I : HI) (J : HJ) (Post : Int32 → Prop) : Prop :=
  Post (1 <<< ((I 12 12) &&& 31))
set_option maxHeartbeats 4000000 in
set_option maxRecDepth 20000 in
theorem we_X2_count (g : kf_G) (hg : kf_g g) {x : kf_X} (hx : kf_ok g x RX2 cX2_count 1 0 0)  (I : HI) (J : HJ) (Post : Int32 → Prop) (hret : ∀ (pc : Nat) (lv : List (Nat × Value)) (v : Int32), decode cX2_count pc = .ok (.ireturn, 1) → Post v → kf_M g x 1 pc lv [.int v] I J) (h : w_X2_count  I J Post) : kf_M g x 1 0 [(0, .ref (g.2.2.2 39))] [] I J := by
  unfold w_X2_count at h
  refine kf_iconst (v := 1) hx dX2_count_0 (by decide) ?_
  refine kf_aload_n hx dX2_count_1 rfl 0 rfl ?_
  refine kf_getR (n := 12) hx sl_39_0 fl_RX2_15 dX2_count_2 ?_
  refine kf_getI hx sl_12_12 fl_RX2_19 dX2_count_5 ?_
  refine kf_ishl hx dX2_count_8 ?_
  exact hret _ _ (1 <<< ((I 12 12) &&& 31))  dX2_count_9 h
set_option maxHeartbeats 4000000 in
set_option maxRecDepth 20000 in
theorem m_X2_count (g : kf_G) (hg : kf_g g)  (I : HI) (J : HJ) (Post : Int32 → Prop) (h : w_X2_count  I J Post) : kf_Mi g yX2_count (kf_W yX2_count cX2_count 1 (Option.some Jvm.ClassFile.FieldType.int)) 0 0 [.ref (g.2.2.2 39)] I J (fun v I' J' => Post v ∧ I' = I ∧ J' = J) :=
  kf_enti hg (by decide) (Nat.le_of_ble_eq_true rfl) rfl (fun x hx hr => we_X2_count g hg hx  I J Post (fun pc lv v hd hP => hr pc lv v I J hd ⟨hP, rfl, rfl⟩) h)
theorem dX0_tiesToClose_0 : decode cX0_tiesToClose 0 = .ok (.iconst 0, 1) := by decide +kernel
theorem dX0_tiesToClose_1 : decode cX0_tiesToClose 1 = .ok (.istore_n 3, 1) := by decide +kernel
theorem dX0_tiesToClose_2 : decode cX0_tiesToClose 2 = .ok (.aload_n 0, 1) := by decide +kernel
theorem dX0_tiesToClose_3 : decode cX0_tiesToClose 3 = .ok (.aload_n 0, 1) := by decide +kernel
theorem dX0_tiesToClose_4 : decode cX0_tiesToClose 4 = .ok (.getfield 19, 3) := by decide +kernel
theorem dX0_tiesToClose_7 : decode cX0_tiesToClose 7 = .ok (.iload_n 1, 1) := by decide +kernel
theorem dX0_tiesToClose_8 : decode cX0_tiesToClose 8 = .ok (.iconst 0, 1) := by decide +kernel
theorem dX0_tiesToClose_9 : decode cX0_tiesToClose 9 = .ok (.invokevirtual 41, 3) := by decide +kernel
theorem dX0_tiesToClose_12 : decode cX0_tiesToClose 12 = .ok (.putfield 23, 3) := by decide +kernel
theorem dX0_tiesToClose_15 : decode cX0_tiesToClose 15 = .ok (.iconst 1, 1) := by decide +kernel
theorem dX0_tiesToClose_16 : decode cX0_tiesToClose 16 = .ok (.istore 4, 2) := by decide +kernel
theorem dX0_tiesToClose_18 : decode cX0_tiesToClose 18 = .ok (.iload 4, 2) := by decide +kernel
theorem dX0_tiesToClose_20 : decode cX0_tiesToClose 20 = .ok (.aload_n 0, 1) := by decide +kernel
theorem dX0_tiesToClose_21 : decode cX0_tiesToClose 21 = .ok (.getfield 19, 3) := by decide +kernel
theorem dX0_tiesToClose_24 : decode cX0_tiesToClose 24 = .ok (.invokevirtual 77, 3) := by decide +kernel
theorem dX0_tiesToClose_27 : decode cX0_tiesToClose 27 = .ok (.if_icmp .ge 68, 3) := by decide +kernel
theorem dX0_tiesToClose_30 : decode cX0_tiesToClose 30 = .ok (.iload 4, 2) := by decide +kernel
theorem dX0_tiesToClose_32 : decode cX0_tiesToClose 32 = .ok (.invokestatic 50, 3) := by decide +kernel
theorem dX0_tiesToClose_35 : decode cX0_tiesToClose 35 = .ok (.iload_n 2, 1) := by decide +kernel
theorem dX0_tiesToClose_36 : decode cX0_tiesToClose 36 = .ok (.if_icmp .gt 53, 3) := by decide +kernel
theorem dX0_tiesToClose_39 : decode cX0_tiesToClose 39 = .ok (.aload_n 0, 1) := by decide +kernel
theorem dX0_tiesToClose_40 : decode cX0_tiesToClose 40 = .ok (.getfield 19, 3) := by decide +kernel
theorem dX0_tiesToClose_43 : decode cX0_tiesToClose 43 = .ok (.iload_n 1, 1) := by decide +kernel
theorem dX0_tiesToClose_44 : decode cX0_tiesToClose 44 = .ok (.iload 4, 2) := by decide +kernel
theorem dX0_tiesToClose_46 : decode cX0_tiesToClose 46 = .ok (.invokevirtual 41, 3) := by decide +kernel
theorem dX0_tiesToClose_49 : decode cX0_tiesToClose 49 = .ok (.lstore 5, 2) := by decide +kernel
theorem dX0_tiesToClose_51 : decode cX0_tiesToClose 51 = .ok (.lload 5, 2) := by decide +kernel
theorem dX0_tiesToClose_53 : decode cX0_tiesToClose 53 = .ok (.aload_n 0, 1) := by decide +kernel
theorem dX0_tiesToClose_54 : decode cX0_tiesToClose 54 = .ok (.getfield 23, 3) := by decide +kernel
theorem dX0_tiesToClose_57 : decode cX0_tiesToClose 57 = .ok (.lcmp, 1) := by decide +kernel
theorem dX0_tiesToClose_58 : decode cX0_tiesToClose 58 = .ok (.ifCond .lt 22, 3) := by decide +kernel
theorem dX0_tiesToClose_61 : decode cX0_tiesToClose 61 = .ok (.lload 5, 2) := by decide +kernel
theorem dX0_tiesToClose_63 : decode cX0_tiesToClose 63 = .ok (.aload_n 0, 1) := by decide +kernel
theorem dX0_tiesToClose_64 : decode cX0_tiesToClose 64 = .ok (.getfield 23, 3) := by decide +kernel
theorem dX0_tiesToClose_67 : decode cX0_tiesToClose 67 = .ok (.lcmp, 1) := by decide +kernel
theorem dX0_tiesToClose_68 : decode cX0_tiesToClose 68 = .ok (.ifCond .ne 21, 3) := by decide +kernel
theorem dX0_tiesToClose_71 : decode cX0_tiesToClose 71 = .ok (.iload 4, 2) := by decide +kernel
theorem dX0_tiesToClose_73 : decode cX0_tiesToClose 73 = .ok (.iload_n 3, 1) := by decide +kernel
theorem dX0_tiesToClose_74 : decode cX0_tiesToClose 74 = .ok (.invokestatic 46, 3) := by decide +kernel
theorem dX0_tiesToClose_77 : decode cX0_tiesToClose 77 = .ok (.ifCond .eq 12, 3) := by decide +kernel
theorem dX0_tiesToClose_80 : decode cX0_tiesToClose 80 = .ok (.aload_n 0, 1) := by decide +kernel
theorem dX0_tiesToClose_81 : decode cX0_tiesToClose 81 = .ok (.lload 5, 2) := by decide +kernel
theorem dX0_tiesToClose_83 : decode cX0_tiesToClose 83 = .ok (.putfield 23, 3) := by decide +kernel
theorem dX0_tiesToClose_86 : decode cX0_tiesToClose 86 = .ok (.iload 4, 2) := by decide +kernel
theorem dX0_tiesToClose_88 : decode cX0_tiesToClose 88 = .ok (.istore_n 3, 1) := by decide +kernel
theorem dX0_tiesToClose_89 : decode cX0_tiesToClose 89 = .ok (.iinc 4 1, 3) := by decide +kernel
theorem dX0_tiesToClose_92 : decode cX0_tiesToClose 92 = .ok (.goto (-74), 3) := by decide +kernel
theorem dX0_tiesToClose_95 : decode cX0_tiesToClose 95 = .ok (.iload_n 3, 1) := by decide +kernel
theorem dX0_tiesToClose_96 : decode cX0_tiesToClose 96 = .ok (.ireturn, 1) := by decide +kernel
def wb_X0_tiesToClose_18 (I : HI) (x1 : Int32) (x2 : Int32) (Post : Int32 → HJ → Prop) (E18 : Int32 → HJ → Prop) (K18 : (Int32 × Int32 × HJ) → Prop) (s : Int32 × Int32 × HJ) : Prop :=
  match s with
  | (x3, x4, J) => w_X2_count  I J (fun (r_3 : Int32) => ((r_3 ≤ x4 → (E18 x3 J)) ∧ (¬ r_3 ≤ x4 → (w_J6_bitCount_0f7a4 x4 (fun (r_4 : Int32) => ((x2 < r_4 → (K18 (x3, (x4 + 1), J))) ∧ (¬ x2 < r_4 → (w_X2_total x1 x4 I J (fun (r_5 : Int64) => ((r_5 < (J 41 3) → (∀ J_6 : HJ, J_6 = hJ J 41 3 r_5 → (K18 (x4, (x4 + 1), J_6)))) ∧ (¬ r_5 < (J 41 3) → ((¬ r_5 = (J 41 3) → (K18 (x3, (x4 + 1), J))) ∧ (r_5 = (J 41 3) → (w_X0_isFewer x4 x3 (fun (r_7 : Bool) => ((r_7 = false → (K18 (x3, (x4 + 1), J))) ∧ (r_7 = true → (∀ J_8 : HJ, J_8 = hJ J 41 3 r_5 → (K18 (x4, (x4 + 1), J_8))))))))))))))))))))
set_option maxHeartbeats 4000000 in
set_option maxRecDepth 20000 in
theorem ws_X0_tiesToClose_18 (g : kf_G) (hg : kf_g g) {x : kf_X} (hx : kf_ok g x RX0 cX0_tiesToClose 7 18 680) (I : HI) (x1 : Int32) (x2 : Int32) (Post : Int32 → HJ → Prop) (hret : ∀ (pc : Nat) (lv : List (Nat × Value)) (v : Int32) (Jy : HJ), decode cX0_tiesToClose pc = .ok (.ireturn, 1) → Post v Jy → kf_M g x 7 pc lv [.int v] I Jy) (E18 : Int32 → HJ → Prop) (hE18 : ∀ (y3 : Int32) (Jy : HJ), E18 y3 Jy → kf_M g x 7 95 [(3, .int y3)] [] I Jy) (K18 : (Int32 × Int32 × HJ) → Prop) (hK18 : ∀ (y3 : Int32) (y4 : Int32) (Jy : HJ), K18 (y3, y4, Jy) → kf_M g x 7 18 [(0, .ref (g.2.2.2 41)), (1, .int x1), (2, .int x2), (3, .int y3), (4, .int y4)] [] I Jy) (x3 : Int32) (x4 : Int32) (J : HJ) (h : wb_X0_tiesToClose_18 I x1 x2 Post E18 K18 (x3, x4, J)) : kf_M g x 7 18 [(0, .ref (g.2.2.2 41)), (1, .int x1), (2, .int x2), (3, .int x3), (4, .int x4)] [] I J := by
  unfold wb_X0_tiesToClose_18 at h
  refine kf_iload hx dX0_tiesToClose_18 4 rfl ?_
  refine kf_aload_n hx dX0_tiesToClose_20 rfl 0 rfl ?_
  refine kf_getR (n := 39) hx sl_41_1 fl_RX0_19 dX0_tiesToClose_21 ?_
  refine kf_callViP (st := [.int x4]) hx (m_X2_count g hg  I J _ h) lk_RX0_77 km_X2_count ob_39 rfl (by decide) rfl (Nat.le_of_ble_eq_true rfl) dX0_tiesToClose_24 (fun r_3 h => ?_)
  refine kf_icmp_ge hx 95 dX0_tiesToClose_27 (by decide) (fun c => ?_) (fun c => ?_)
  · replace h := h.1 c
    refine kf_sub [3] rfl ?_
    exact hE18 _ _ h
  · replace h := h.2 c
    refine kf_iload hx dX0_tiesToClose_30 4 rfl ?_
    refine kf_callSiP (st := []) hx (m_J6_bitCount_0f7a4 g hg x4 I J _ h) lk_RX0_50 km_J6_bitCount_0f7a4 rfl (by decide) rfl (Nat.le_of_ble_eq_true rfl) dX0_tiesToClose_32 (fun r_4 h => ?_)
    refine kf_iload_n hx dX0_tiesToClose_35 rfl 2 rfl ?_
    refine kf_icmp_gt hx 89 dX0_tiesToClose_36 (by decide) (fun c => ?_) (fun c => ?_)
    · replace h := h.1 c
      refine kf_iinc (w := (x4 + 1)) (lv' := [(4, .int (x4 + 1)), (0, .ref (g.2.2.2 41)), (1, .int x1), (2, .int x2), (3, .int x3)]) hx dX0_tiesToClose_89 4 rfl rfl (by decide) rfl ?_
      refine kf_goto hx 18 dX0_tiesToClose_92 (by decide) ?_
      refine kf_sub [1, 2, 3, 4, 0] rfl ?_
      exact hK18 _ _ _ h
    · replace h := h.2 c
      refine kf_aload_n hx dX0_tiesToClose_39 rfl 0 rfl ?_
      refine kf_getR (n := 39) hx sl_41_1 fl_RX0_19 dX0_tiesToClose_40 ?_
      refine kf_iload_n hx dX0_tiesToClose_43 rfl 1 rfl ?_
      refine kf_iload hx dX0_tiesToClose_44 4 rfl ?_
      refine kf_callVlP (st := []) hx (m_X2_total g hg x1 x4 I J _ h) lk_RX0_41 km_X2_total ob_39 rfl (by decide) rfl (Nat.le_of_ble_eq_true rfl) dX0_tiesToClose_46 (fun r_5 h => ?_)
      refine kf_lstore (lv' := [(5, .long r_5), (0, .ref (g.2.2.2 41)), (1, .int x1), (2, .int x2), (3, .int x3), (4, .int x4)]) hx dX0_tiesToClose_49 (by decide) rfl ?_
      refine kf_lload hx dX0_tiesToClose_51 0 rfl ?_
      refine kf_aload_n hx dX0_tiesToClose_53 rfl 1 rfl ?_
      refine kf_getJ hx sl_41_3 fl_RX0_23 dX0_tiesToClose_54 ?_
      refine kf_l_lt hx 80 dX0_tiesToClose_57 dX0_tiesToClose_58 (by decide) (fun c => ?_) (fun c => ?_)
      · replace h := h.1 c
        refine kf_aload_n hx dX0_tiesToClose_80 rfl 1 rfl ?_
        refine kf_lload hx dX0_tiesToClose_81 0 rfl ?_
        refine kf_putJ hx sl_41_3 fl_RX0_23 fp_0_3 dX0_tiesToClose_83 ?_
        refine kf_nmJ (fun J_6 eJ_6 => ?_)
        replace h := h J_6 eJ_6
        refine kf_iload hx dX0_tiesToClose_86 5 rfl ?_
        refine kf_istore_n (lv' := [(3, .int x4), (5, .long r_5), (0, .ref (g.2.2.2 41)), (1, .int x1), (2, .int x2), (4, .int x4)]) hx dX0_tiesToClose_88 rfl (by decide) rfl ?_
        refine kf_iinc (w := (x4 + 1)) (lv' := [(4, .int (x4 + 1)), (3, .int x4), (5, .long r_5), (0, .ref (g.2.2.2 41)), (1, .int x1), (2, .int x2)]) hx dX0_tiesToClose_89 5 rfl rfl (by decide) rfl ?_
        refine kf_goto hx 18 dX0_tiesToClose_92 (by decide) ?_
        refine kf_sub [3, 4, 5, 1, 0] rfl ?_
        exact hK18 _ _ _ h
      · replace h := h.2 c
        refine kf_lload hx dX0_tiesToClose_61 0 rfl ?_
        refine kf_aload_n hx dX0_tiesToClose_63 rfl 1 rfl ?_
        refine kf_getJ hx sl_41_3 fl_RX0_23 dX0_tiesToClose_64 ?_
        refine kf_l_ne hx 89 dX0_tiesToClose_67 dX0_tiesToClose_68 (by decide) (fun c => ?_) (fun c => ?_)
        · replace h := h.1 c
          refine kf_iinc (w := (x4 + 1)) (lv' := [(4, .int (x4 + 1)), (5, .long r_5), (0, .ref (g.2.2.2 41)), (1, .int x1), (2, .int x2), (3, .int x3)]) hx dX0_tiesToClose_89 5 rfl rfl (by decide) rfl ?_
          refine kf_goto hx 18 dX0_tiesToClose_92 (by decide) ?_
          refine kf_sub [2, 3, 4, 5, 0] rfl ?_
          exact hK18 _ _ _ h
        · replace h := h.2 c
          refine kf_iload hx dX0_tiesToClose_71 5 rfl ?_
          refine kf_iload_n hx dX0_tiesToClose_73 rfl 4 rfl ?_
          refine kf_callSbP (st := []) hx (m_X0_isFewer g hg x4 x3 I J _ h) lk_RX0_46 km_X0_isFewer rfl (by decide) rfl (Nat.le_of_ble_eq_true rfl) dX0_tiesToClose_74 (fun r_7 h => ?_)
          refine kf_ifB_eq hx 89 dX0_tiesToClose_77 (by decide) (fun c => ?_) (fun c => ?_)
          · replace h := h.1 c
            refine kf_iinc (w := (x4 + 1)) (lv' := [(4, .int (x4 + 1)), (5, .long r_5), (0, .ref (g.2.2.2 41)), (1, .int x1), (2, .int x2), (3, .int x3)]) hx dX0_tiesToClose_89 5 rfl rfl (by decide) rfl ?_
            refine kf_goto hx 18 dX0_tiesToClose_92 (by decide) ?_
            refine kf_sub [2, 3, 4, 5, 0] rfl ?_
            exact hK18 _ _ _ h
          · replace h := h.2 c
            refine kf_aload_n hx dX0_tiesToClose_80 rfl 1 rfl ?_
            refine kf_lload hx dX0_tiesToClose_81 0 rfl ?_
            refine kf_putJ hx sl_41_3 fl_RX0_23 fp_0_3 dX0_tiesToClose_83 ?_
            refine kf_nmJ (fun J_8 eJ_8 => ?_)
            replace h := h J_8 eJ_8
            refine kf_iload hx dX0_tiesToClose_86 5 rfl ?_
            refine kf_istore_n (lv' := [(3, .int x4), (5, .long r_5), (0, .ref (g.2.2.2 41)), (1, .int x1), (2, .int x2), (4, .int x4)]) hx dX0_tiesToClose_88 rfl (by decide) rfl ?_
            refine kf_iinc (w := (x4 + 1)) (lv' := [(4, .int (x4 + 1)), (3, .int x4), (5, .long r_5), (0, .ref (g.2.2.2 41)), (1, .int x1), (2, .int x2)]) hx dX0_tiesToClose_89 5 rfl rfl (by decide) rfl ?_
            refine kf_goto hx 18 dX0_tiesToClose_92 (by decide) ?_
            refine kf_sub [3, 4, 5, 1, 0] rfl ?_
            exact hK18 _ _ _ h
theorem wl_X0_tiesToClose_18 (g : kf_G) (hg : kf_g g) {x : kf_X} (hx : kf_ok g x RX0 cX0_tiesToClose 7 18 680) (I : HI) (x1 : Int32) (x2 : Int32) (Post : Int32 → HJ → Prop) (hret : ∀ (pc : Nat) (lv : List (Nat × Value)) (v : Int32) (Jy : HJ), decode cX0_tiesToClose pc = .ok (.ireturn, 1) → Post v Jy → kf_M g x 7 pc lv [.int v] I Jy) (E18 : Int32 → HJ → Prop) (hE18 : ∀ (y3 : Int32) (Jy : HJ), E18 y3 Jy → kf_M g x 7 95 [(3, .int y3)] [] I Jy) : ∀ (n : Nat) (x3 : Int32) (x4 : Int32) (J : HJ), lp (wb_X0_tiesToClose_18 I x1 x2 Post E18) n (x3, x4, J) → kf_M g x 7 18 [(0, .ref (g.2.2.2 41)), (1, .int x1), (2, .int x2), (3, .int x3), (4, .int x4)] [] I J := by
  intro n
  induction n with
  | zero => intro x3 x4 J h; exact h.elim
  | succ n ih => intro x3 x4 J h; exact ws_X0_tiesToClose_18 g hg hx I x1 x2 Post hret E18 hE18 (lp (wb_X0_tiesToClose_18 I x1 x2 Post E18) n) ih x3 x4 J h
def w_X0_tiesToClose (x1 : Int32) (x2 : Int32) (I : HI) (J : HJ) (Post : Int32 → HJ → Prop) : Prop :=
  w_X2_total x1 0 I J (fun (r_1 : Int64) => (∀ J_2 : HJ, J_2 = hJ J 41 3 r_1 → (∃ n, lp (wb_X0_tiesToClose_18 I x1 x2 Post (fun (x3_9 : Int32) (J_10 : HJ) => Post x3_9 J_10)) n (0, 1, J_2))))
set_option maxHeartbeats 4000000 in
set_option maxRecDepth 20000 in
theorem we_X0_tiesToClose (g : kf_G) (hg : kf_g g) {x : kf_X} (hx : kf_ok g x RX0 cX0_tiesToClose 7 18 680) (x1 : Int32) (x2 : Int32) (I : HI) (J : HJ) (Post : Int32 → HJ → Prop) (hret : ∀ (pc : Nat) (lv : List (Nat × Value)) (v : Int32) (Jy : HJ), decode cX0_tiesToClose pc = .ok (.ireturn, 1) → Post v Jy → kf_M g x 7 pc lv [.int v] I Jy) (h : w_X0_tiesToClose x1 x2 I J Post) : kf_M g x 7 0 [(0, .ref (g.2.2.2 41)), (1, .int x1), (2, .int x2)] [] I J := by
  unfold w_X0_tiesToClose at h
  refine kf_iconst (v := 0) hx dX0_tiesToClose_0 (by decide) ?_
  refine kf_istore_n (lv' := [(3, .int 0), (0, .ref (g.2.2.2 41)), (1, .int x1), (2, .int x2)]) hx dX0_tiesToClose_1 rfl (by decide) rfl ?_
  refine kf_aload_n hx dX0_tiesToClose_2 rfl 1 rfl ?_
  refine kf_aload_n hx dX0_tiesToClose_3 rfl 1 rfl ?_
  refine kf_getR (n := 39) hx sl_41_1 fl_RX0_19 dX0_tiesToClose_4 ?_
  refine kf_iload_n hx dX0_tiesToClose_7 rfl 2 rfl ?_
  refine kf_iconst (v := 0) hx dX0_tiesToClose_8 (by decide) ?_
  refine kf_callVlP (st := [.ref (g.2.2.2 41)]) hx (m_X2_total g hg x1 0 I J _ h) lk_RX0_41 km_X2_total ob_39 rfl (by decide) rfl (Nat.le_of_ble_eq_true rfl) dX0_tiesToClose_9 (fun r_1 h => ?_)
  refine kf_putJ hx sl_41_3 fl_RX0_23 fp_0_3 dX0_tiesToClose_12 ?_
  refine kf_nmJ (fun J_2 eJ_2 => ?_)
  replace h := h J_2 eJ_2
  refine kf_iconst (v := 1) hx dX0_tiesToClose_15 (by decide) ?_
  refine kf_istore (lv' := [(4, .int 1), (3, .int 0), (0, .ref (g.2.2.2 41)), (1, .int x1), (2, .int x2)]) hx dX0_tiesToClose_16 (by decide) rfl ?_
  obtain ⟨n, h⟩ := h
  refine kf_sub [2, 3, 4, 1, 0] rfl ?_
  refine wl_X0_tiesToClose_18 g hg hx I x1 x2 _ hret _ (fun x3_9 J_10 h => ?_) n _ _ _ h
  refine kf_iload_n hx dX0_tiesToClose_95 rfl 0 rfl ?_
  exact hret _ _ x3_9 _ dX0_tiesToClose_96 h
set_option maxHeartbeats 4000000 in
set_option maxRecDepth 20000 in
theorem m_X0_tiesToClose (g : kf_G) (hg : kf_g g) (x1 : Int32) (x2 : Int32) (I : HI) (J : HJ) (Post : Int32 → HJ → Prop) (h : w_X0_tiesToClose x1 x2 I J Post) : kf_Mi g yX0_tiesToClose (kf_W yX0_tiesToClose cX0_tiesToClose 7 (Option.some Jvm.ClassFile.FieldType.int)) 18 680 [.ref (g.2.2.2 41), .int x1, .int x2] I J (fun v I' J' => Post v J' ∧ I' = I) :=
  kf_enti hg (by decide) (Nat.le_of_ble_eq_true rfl) rfl (fun x hx hr => we_X0_tiesToClose g hg hx x1 x2 I J Post (fun pc lv v J' hd hP => hr pc lv v I J' hd ⟨hP, rfl⟩) h)
theorem dX1_commonDivisor_0 : decode cX1_commonDivisor 0 = .ok (.lload_n 0, 1) := by decide +kernel
theorem dX1_commonDivisor_1 : decode cX1_commonDivisor 1 = .ok (.lstore 4, 2) := by decide +kernel
theorem dX1_commonDivisor_3 : decode cX1_commonDivisor 3 = .ok (.lload_n 2, 1) := by decide +kernel
theorem dX1_commonDivisor_4 : decode cX1_commonDivisor 4 = .ok (.lstore 6, 2) := by decide +kernel
theorem dX1_commonDivisor_6 : decode cX1_commonDivisor 6 = .ok (.iconst 0, 1) := by decide +kernel
theorem dX1_commonDivisor_7 : decode cX1_commonDivisor 7 = .ok (.istore 8, 2) := by decide +kernel
theorem dX1_commonDivisor_9 : decode cX1_commonDivisor 9 = .ok (.iload 8, 2) := by decide +kernel
theorem dX1_commonDivisor_11 : decode cX1_commonDivisor 11 = .ok (.bipush 100, 2) := by decide +kernel
theorem dX1_commonDivisor_13 : decode cX1_commonDivisor 13 = .ok (.if_icmp .ge 31, 3) := by decide +kernel
theorem dX1_commonDivisor_16 : decode cX1_commonDivisor 16 = .ok (.lload 6, 2) := by decide +kernel
theorem dX1_commonDivisor_18 : decode cX1_commonDivisor 18 = .ok (.lconst 0, 1) := by decide +kernel
theorem dX1_commonDivisor_19 : decode cX1_commonDivisor 19 = .ok (.lcmp, 1) := by decide +kernel
theorem dX1_commonDivisor_20 : decode cX1_commonDivisor 20 = .ok (.ifCond .eq 24, 3) := by decide +kernel
theorem dX1_commonDivisor_23 : decode cX1_commonDivisor 23 = .ok (.lload 4, 2) := by decide +kernel
theorem dX1_commonDivisor_25 : decode cX1_commonDivisor 25 = .ok (.lload 6, 2) := by decide +kernel
theorem dX1_commonDivisor_27 : decode cX1_commonDivisor 27 = .ok (.lrem, 1) := by decide +kernel
theorem dX1_commonDivisor_28 : decode cX1_commonDivisor 28 = .ok (.lstore 9, 2) := by decide +kernel
theorem dX1_commonDivisor_30 : decode cX1_commonDivisor 30 = .ok (.lload 6, 2) := by decide +kernel
theorem dX1_commonDivisor_32 : decode cX1_commonDivisor 32 = .ok (.lstore 4, 2) := by decide +kernel
theorem dX1_commonDivisor_34 : decode cX1_commonDivisor 34 = .ok (.lload 9, 2) := by decide +kernel
theorem dX1_commonDivisor_36 : decode cX1_commonDivisor 36 = .ok (.lstore 6, 2) := by decide +kernel
theorem dX1_commonDivisor_38 : decode cX1_commonDivisor 38 = .ok (.iinc 8 1, 3) := by decide +kernel
theorem dX1_commonDivisor_41 : decode cX1_commonDivisor 41 = .ok (.goto (-32), 3) := by decide +kernel
theorem dX1_commonDivisor_44 : decode cX1_commonDivisor 44 = .ok (.lload 4, 2) := by decide +kernel
theorem dX1_commonDivisor_46 : decode cX1_commonDivisor 46 = .ok (.lreturn, 1) := by decide +kernel
def wb_X1_commonDivisor_9  (Post : Int64 → Prop) (E9 : Int64 → Prop) (K9 : (Int64 × Int64 × Int32) → Prop) (s : Int64 × Int64 × Int32) : Prop :=
  match s with
  | (x4, x6, x8) => (100 ≤ x8 → (E9 x4)) ∧ (¬ 100 ≤ x8 → ((x6 = 0 → (E9 x4)) ∧ (¬ x6 = 0 → (¬ x6 = 0 ∧ (K9 (x6, (x4 - (x4 / x6) * x6), (x8 + 1)))))))
set_option maxHeartbeats 4000000 in
set_option maxRecDepth 20000 in
theorem ws_X1_commonDivisor_9 (g : kf_G) (hg : kf_g g) {x : kf_X} (hx : kf_ok g x RX1 cX1_commonDivisor 11 0 0) (I : HI) (J : HJ) (Post : Int64 → Prop) (hret : ∀ (pc : Nat) (lv : List (Nat × Value)) (v : Int64), decode cX1_commonDivisor pc = .ok (.lreturn, 1) → Post v → kf_M g x 11 pc lv [.long v] I J) (E9 : Int64 → Prop) (hE9 : ∀ (y4 : Int64), E9 y4 → kf_M g x 11 44 [(4, .long y4)] [] I J) (K9 : (Int64 × Int64 × Int32) → Prop) (hK9 : ∀ (y4 : Int64) (y6 : Int64) (y8 : Int32), K9 (y4, y6, y8) → kf_M g x 11 9 [(4, .long y4), (6, .long y6), (8, .int y8)] [] I J) (x4 : Int64) (x6 : Int64) (x8 : Int32) (h : wb_X1_commonDivisor_9  Post E9 K9 (x4, x6, x8)) : kf_M g x 11 9 [(4, .long x4), (6, .long x6), (8, .int x8)] [] I J := by
  unfold wb_X1_commonDivisor_9 at h
  refine kf_iload hx dX1_commonDivisor_9 2 rfl ?_
  refine kf_bipush (v := 100) hx dX1_commonDivisor_11 (by decide) ?_
  refine kf_icmp_ge hx 44 dX1_commonDivisor_13 (by decide) (fun c => ?_) (fun c => ?_)
  · replace h := h.1 c
    refine kf_sub [0] rfl ?_
    exact hE9 _ h
  · replace h := h.2 c
    refine kf_lload hx dX1_commonDivisor_16 1 rfl ?_
    refine kf_lconst (v := 0) hx dX1_commonDivisor_18 (by decide) ?_
    refine kf_l_eq hx 44 dX1_commonDivisor_19 dX1_commonDivisor_20 (by decide) (fun c => ?_) (fun c => ?_)
    · replace h := h.1 c
      refine kf_sub [0] rfl ?_
      exact hE9 _ h
    · replace h := h.2 c
      refine kf_lload hx dX1_commonDivisor_23 0 rfl ?_
      refine kf_lload hx dX1_commonDivisor_25 1 rfl ?_
      refine kf_lrem hx dX1_commonDivisor_27 h.1 ?_
      replace h := h.2
      refine kf_lstore (lv' := [(9, .long (x4 - (x4 / x6) * x6)), (4, .long x4), (6, .long x6), (8, .int x8)]) hx dX1_commonDivisor_28 (by decide) rfl ?_
      refine kf_lload hx dX1_commonDivisor_30 2 rfl ?_
      refine kf_lstore (lv' := [(4, .long x6), (9, .long (x4 - (x4 / x6) * x6)), (6, .long x6), (8, .int x8)]) hx dX1_commonDivisor_32 (by decide) rfl ?_
      refine kf_lload hx dX1_commonDivisor_34 1 rfl ?_
      refine kf_lstore (lv' := [(6, .long (x4 - (x4 / x6) * x6)), (4, .long x6), (9, .long (x4 - (x4 / x6) * x6)), (8, .int x8)]) hx dX1_commonDivisor_36 (by decide) rfl ?_
      refine kf_iinc (w := (x8 + 1)) (lv' := [(8, .int (x8 + 1)), (6, .long (x4 - (x4 / x6) * x6)), (4, .long x6), (9, .long (x4 - (x4 / x6) * x6))]) hx dX1_commonDivisor_38 3 rfl rfl (by decide) rfl ?_
      refine kf_goto hx 9 dX1_commonDivisor_41 (by decide) ?_
      refine kf_sub [2, 1, 0] rfl ?_
      exact hK9 _ _ _ h
theorem wl_X1_commonDivisor_9 (g : kf_G) (hg : kf_g g) {x : kf_X} (hx : kf_ok g x RX1 cX1_commonDivisor 11 0 0) (I : HI) (J : HJ) (Post : Int64 → Prop) (hret : ∀ (pc : Nat) (lv : List (Nat × Value)) (v : Int64), decode cX1_commonDivisor pc = .ok (.lreturn, 1) → Post v → kf_M g x 11 pc lv [.long v] I J) (E9 : Int64 → Prop) (hE9 : ∀ (y4 : Int64), E9 y4 → kf_M g x 11 44 [(4, .long y4)] [] I J) : ∀ (n : Nat) (x4 : Int64) (x6 : Int64) (x8 : Int32), lp (wb_X1_commonDivisor_9  Post E9) n (x4, x6, x8) → kf_M g x 11 9 [(4, .long x4), (6, .long x6), (8, .int x8)] [] I J := by
  intro n
  induction n with
  | zero => intro x4 x6 x8 h; exact h.elim
  | succ n ih => intro x4 x6 x8 h; exact ws_X1_commonDivisor_9 g hg hx I J Post hret E9 hE9 (lp (wb_X1_commonDivisor_9  Post E9) n) ih x4 x6 x8 h
def w_X1_commonDivisor (x0 : Int64) (x2 : Int64) (Post : Int64 → Prop) : Prop :=
  ∃ n, lp (wb_X1_commonDivisor_9 Post (fun (x4_1 : Int64) => Post x4_1)) n (x0, x2, 0)
set_option maxHeartbeats 4000000 in
set_option maxRecDepth 20000 in
theorem we_X1_commonDivisor (g : kf_G) (hg : kf_g g) {x : kf_X} (hx : kf_ok g x RX1 cX1_commonDivisor 11 0 0) (x0 : Int64) (x2 : Int64) (I : HI) (J : HJ) (Post : Int64 → Prop) (hret : ∀ (pc : Nat) (lv : List (Nat × Value)) (v : Int64), decode cX1_commonDivisor pc = .ok (.lreturn, 1) → Post v → kf_M g x 11 pc lv [.long v] I J) (h : w_X1_commonDivisor x0 x2 Post) : kf_M g x 11 0 [(0, .long x0), (2, .long x2)] [] I J := by
  unfold w_X1_commonDivisor at h
  refine kf_lload_n hx dX1_commonDivisor_0 rfl 0 rfl ?_
  refine kf_lstore (lv' := [(4, .long x0), (0, .long x0), (2, .long x2)]) hx dX1_commonDivisor_1 (by decide) rfl ?_
  refine kf_lload_n hx dX1_commonDivisor_3 rfl 2 rfl ?_
  refine kf_lstore (lv' := [(6, .long x2), (4, .long x0), (0, .long x0), (2, .long x2)]) hx dX1_commonDivisor_4 (by decide) rfl ?_
  refine kf_iconst (v := 0) hx dX1_commonDivisor_6 (by decide) ?_
  refine kf_istore (lv' := [(8, .int 0), (6, .long x2), (4, .long x0), (0, .long x0), (2, .long x2)]) hx dX1_commonDivisor_7 (by decide) rfl ?_
  obtain ⟨n, h⟩ := h
  refine kf_sub [2, 1, 0] rfl ?_
  refine wl_X1_commonDivisor_9 g hg hx I J  _ hret _ (fun x4_1 h => ?_) n _ _ _ h
  refine kf_lload hx dX1_commonDivisor_44 0 rfl ?_
  exact hret _ _ x4_1  dX1_commonDivisor_46 h
set_option maxHeartbeats 4000000 in
set_option maxRecDepth 20000 in
theorem m_X1_commonDivisor (g : kf_G) (hg : kf_g g) (x0 : Int64) (x2 : Int64) (I : HI) (J : HJ) (Post : Int64 → Prop) (h : w_X1_commonDivisor x0 x2 Post) : kf_Ml g yX1_commonDivisor (kf_W yX1_commonDivisor cX1_commonDivisor 11 (Option.some Jvm.ClassFile.FieldType.long)) 0 0 [.long x0, .long x2] I J (fun v I' J' => Post v ∧ I' = I ∧ J' = J) :=
  kf_entl hg (by decide) (Nat.le_of_ble_eq_true rfl) rfl (fun x hx hr => we_X1_commonDivisor g hg hx x0 x2 I J Post (fun pc lv v hd hP => hr pc lv v I J hd ⟨hP, rfl, rfl⟩) h)
theorem dX1_become_0 : decode cX1_become 0 = .ok (.lload_n 1, 1) := by decide +kernel
theorem dX1_become_1 : decode cX1_become 1 = .ok (.lload_n 3, 1) := by decide +kernel
theorem dX1_become_2 : decode cX1_become 2 = .ok (.invokestatic 13, 3) := by decide +kernel
theorem dX1_become_5 : decode cX1_become 5 = .ok (.lstore 5, 2) := by decide +kernel
theorem dX1_become_7 : decode cX1_become 7 = .ok (.lload_n 3, 1) := by decide +kernel
theorem dX1_become_8 : decode cX1_become 8 = .ok (.lconst 0, 1) := by decide +kernel
theorem dX1_become_9 : decode cX1_become 9 = .ok (.lcmp, 1) := by decide +kernel
theorem dX1_become_10 : decode cX1_become 10 = .ok (.ifCond .le 26, 3) := by decide +kernel
theorem dX1_become_13 : decode cX1_become 13 = .ok (.lload 5, 2) := by decide +kernel
theorem dX1_become_15 : decode cX1_become 15 = .ok (.lconst 0, 1) := by decide +kernel
theorem dX1_become_16 : decode cX1_become 16 = .ok (.lcmp, 1) := by decide +kernel
theorem dX1_become_17 : decode cX1_become 17 = .ok (.ifCond .le 19, 3) := by decide +kernel
theorem dX1_become_20 : decode cX1_become 20 = .ok (.aload_n 0, 1) := by decide +kernel
theorem dX1_become_21 : decode cX1_become 21 = .ok (.lload_n 1, 1) := by decide +kernel
theorem dX1_become_22 : decode cX1_become 22 = .ok (.lload 5, 2) := by decide +kernel
theorem dX1_become_24 : decode cX1_become 24 = .ok (.ldiv, 1) := by decide +kernel
theorem dX1_become_25 : decode cX1_become 25 = .ok (.putfield 17, 3) := by decide +kernel
theorem dX1_become_28 : decode cX1_become 28 = .ok (.aload_n 0, 1) := by decide +kernel
theorem dX1_become_29 : decode cX1_become 29 = .ok (.lload_n 3, 1) := by decide +kernel
theorem dX1_become_30 : decode cX1_become 30 = .ok (.lload 5, 2) := by decide +kernel
theorem dX1_become_32 : decode cX1_become 32 = .ok (.ldiv, 1) := by decide +kernel
theorem dX1_become_33 : decode cX1_become 33 = .ok (.putfield 7, 3) := by decide +kernel
theorem dX1_become_36 : decode cX1_become 36 = .ok (.return_, 1) := by decide +kernel
def w_X1_become (x1 : Int64) (x3 : Int64) (I : HI) (J : HJ) (Post : HJ → Prop) : Prop :=
  w_X1_commonDivisor x1 x3 (fun (r_1 : Int64) => ((x3 ≤ 0 → (Post J)) ∧ (¬ x3 ≤ 0 → ((r_1 ≤ 0 → (Post J)) ∧ (¬ r_1 ≤ 0 → (¬ r_1 = 0 ∧ (∀ J_2 : HJ, J_2 = hJ J 11 0 (x1 / r_1) → (¬ r_1 = 0 ∧ (∀ J_3 : HJ, J_3 = hJ J_2 11 1 (x3 / r_1) → (Post J_3))))))))))
set_option maxHeartbeats 4000000 in
set_option maxRecDepth 20000 in
theorem we_X1_become (g : kf_G) (hg : kf_g g) {x : kf_X} (hx : kf_ok g x RX1 cX1_become 7 1 30) (x1 : Int64) (x3 : Int64) (I : HI) (J : HJ) (Post : HJ → Prop) (hret : ∀ (pc : Nat) (lv : List (Nat × Value)) (Jy : HJ), decode cX1_become pc = .ok (.return_, 1) → Post Jy → kf_M g x 7 pc lv [] I Jy) (h : w_X1_become x1 x3 I J Post) : kf_M g x 7 0 [(0, .ref (g.2.2.2 11)), (1, .long x1), (3, .long x3)] [] I J := by
  unfold w_X1_become at h
  refine kf_lload_n hx dX1_become_0 rfl 1 rfl ?_
  refine kf_lload_n hx dX1_become_1 rfl 2 rfl ?_
  refine kf_callSlP (st := []) hx (m_X1_commonDivisor g hg x1 x3 I J _ h) lk_RX1_13 km_X1_commonDivisor rfl (by decide) rfl (Nat.le_of_ble_eq_true rfl) dX1_become_2 (fun r_1 h => ?_)
  refine kf_lstore (lv' := [(5, .long r_1), (0, .ref (g.2.2.2 11)), (1, .long x1), (3, .long x3)]) hx dX1_become_5 (by decide) rfl ?_
  refine kf_lload_n hx dX1_become_7 rfl 3 rfl ?_
  refine kf_lconst (v := 0) hx dX1_become_8 (by decide) ?_
  refine kf_l_le hx 36 dX1_become_9 dX1_become_10 (by decide) (fun c => ?_) (fun c => ?_)
  · replace h := h.1 c
    exact hret _ _ _ dX1_become_36 h
  · replace h := h.2 c
    refine kf_lload hx dX1_become_13 0 rfl ?_
    refine kf_lconst (v := 0) hx dX1_become_15 (by decide) ?_
    refine kf_l_le hx 36 dX1_become_16 dX1_become_17 (by decide) (fun c => ?_) (fun c => ?_)
    · replace h := h.1 c
      exact hret _ _ _ dX1_become_36 h
    · replace h := h.2 c
      refine kf_aload_n hx dX1_become_20 rfl 1 rfl ?_
      refine kf_lload_n hx dX1_become_21 rfl 2 rfl ?_
      refine kf_lload hx dX1_become_22 0 rfl ?_
      refine kf_ldiv hx dX1_become_24 h.1 ?_
      replace h := h.2
      refine kf_putJ hx sl_11_0 fl_RX1_17 fp_1_0 dX1_become_25 ?_
      refine kf_nmJ (fun J_2 eJ_2 => ?_)
      replace h := h J_2 eJ_2
      refine kf_aload_n hx dX1_become_28 rfl 1 rfl ?_
      refine kf_lload_n hx dX1_become_29 rfl 3 rfl ?_
      refine kf_lload hx dX1_become_30 0 rfl ?_
      refine kf_ldiv hx dX1_become_32 h.1 ?_
      replace h := h.2
      refine kf_putJ hx sl_11_1 fl_RX1_7 fp_1_1 dX1_become_33 ?_
      refine kf_nmJ (fun J_3 eJ_3 => ?_)
      replace h := h J_3 eJ_3
      exact hret _ _ _ dX1_become_36 h
set_option maxHeartbeats 4000000 in
set_option maxRecDepth 20000 in
theorem m_X1_become (g : kf_G) (hg : kf_g g) (x1 : Int64) (x3 : Int64) (I : HI) (J : HJ) (Post : HJ → Prop) (h : w_X1_become x1 x3 I J Post) : kf_Mv g yX1_become (kf_W yX1_become cX1_become 7 (Option.none : Option Jvm.ClassFile.FieldType)) 1 30 [.ref (g.2.2.2 11), .long x1, .long x3] I J (fun I' J' => Post J' ∧ I' = I) :=
  kf_entv hg (by decide) (Nat.le_of_ble_eq_true rfl) rfl (fun x hx hr => we_X1_become g hg hx x1 x3 I J Post (fun pc lv J' hd hP => hr pc lv I J' hd ⟨hP, rfl⟩) h)
theorem dX2_weighAll_0 : decode cX2_weighAll 0 = .ok (.aload_n 0, 1) := by decide +kernel
theorem dX2_weighAll_1 : decode cX2_weighAll 1 = .ok (.getfield 9, 3) := by decide +kernel
theorem dX2_weighAll_4 : decode cX2_weighAll 4 = .ok (.iconst 0, 1) := by decide +kernel
theorem dX2_weighAll_5 : decode cX2_weighAll 5 = .ok (.lconst 1, 1) := by decide +kernel
theorem dX2_weighAll_6 : decode cX2_weighAll 6 = .ok (.lastore, 1) := by decide +kernel
theorem dX2_weighAll_7 : decode cX2_weighAll 7 = .ok (.iconst 0, 1) := by decide +kernel
theorem dX2_weighAll_8 : decode cX2_weighAll 8 = .ok (.istore_n 1, 1) := by decide +kernel
theorem dX2_weighAll_9 : decode cX2_weighAll 9 = .ok (.iload_n 1, 1) := by decide +kernel
theorem dX2_weighAll_10 : decode cX2_weighAll 10 = .ok (.aload_n 0, 1) := by decide +kernel
theorem dX2_weighAll_11 : decode cX2_weighAll 11 = .ok (.getfield 15, 3) := by decide +kernel
theorem dX2_weighAll_14 : decode cX2_weighAll 14 = .ok (.getfield 19, 3) := by decide +kernel
theorem dX2_weighAll_17 : decode cX2_weighAll 17 = .ok (.if_icmp .ge 73, 3) := by decide +kernel
theorem dX2_weighAll_20 : decode cX2_weighAll 20 = .ok (.iconst 1, 1) := by decide +kernel
theorem dX2_weighAll_21 : decode cX2_weighAll 21 = .ok (.iload_n 1, 1) := by decide +kernel
theorem dX2_weighAll_22 : decode cX2_weighAll 22 = .ok (.ishl, 1) := by decide +kernel
theorem dX2_weighAll_23 : decode cX2_weighAll 23 = .ok (.istore_n 2, 1) := by decide +kernel
theorem dX2_weighAll_24 : decode cX2_weighAll 24 = .ok (.iconst 0, 1) := by decide +kernel
theorem dX2_weighAll_25 : decode cX2_weighAll 25 = .ok (.istore_n 3, 1) := by decide +kernel
theorem dX2_weighAll_26 : decode cX2_weighAll 26 = .ok (.iload_n 3, 1) := by decide +kernel
theorem dX2_weighAll_27 : decode cX2_weighAll 27 = .ok (.iload_n 2, 1) := by decide +kernel
theorem dX2_weighAll_28 : decode cX2_weighAll 28 = .ok (.if_icmp .ge 56, 3) := by decide +kernel
theorem dX2_weighAll_31 : decode cX2_weighAll 31 = .ok (.aload_n 0, 1) := by decide +kernel
theorem dX2_weighAll_32 : decode cX2_weighAll 32 = .ok (.getfield 9, 3) := by decide +kernel
theorem dX2_weighAll_35 : decode cX2_weighAll 35 = .ok (.iload_n 2, 1) := by decide +kernel
theorem dX2_weighAll_36 : decode cX2_weighAll 36 = .ok (.iload_n 3, 1) := by decide +kernel
theorem dX2_weighAll_37 : decode cX2_weighAll 37 = .ok (.iadd, 1) := by decide +kernel
theorem dX2_weighAll_38 : decode cX2_weighAll 38 = .ok (.aload_n 0, 1) := by decide +kernel
theorem dX2_weighAll_39 : decode cX2_weighAll 39 = .ok (.getfield 9, 3) := by decide +kernel
theorem dX2_weighAll_42 : decode cX2_weighAll 42 = .ok (.iload_n 3, 1) := by decide +kernel
theorem dX2_weighAll_43 : decode cX2_weighAll 43 = .ok (.laload, 1) := by decide +kernel
theorem dX2_weighAll_44 : decode cX2_weighAll 44 = .ok (.aload_n 0, 1) := by decide +kernel
theorem dX2_weighAll_45 : decode cX2_weighAll 45 = .ok (.getfield 15, 3) := by decide +kernel
theorem dX2_weighAll_48 : decode cX2_weighAll 48 = .ok (.getfield 25, 3) := by decide +kernel
theorem dX2_weighAll_51 : decode cX2_weighAll 51 = .ok (.iload_n 1, 1) := by decide +kernel
theorem dX2_weighAll_52 : decode cX2_weighAll 52 = .ok (.iaload, 1) := by decide +kernel
theorem dX2_weighAll_53 : decode cX2_weighAll 53 = .ok (.i2l, 1) := by decide +kernel
theorem dX2_weighAll_54 : decode cX2_weighAll 54 = .ok (.lmul, 1) := by decide +kernel
theorem dX2_weighAll_55 : decode cX2_weighAll 55 = .ok (.lastore, 1) := by decide +kernel
theorem dX2_weighAll_56 : decode cX2_weighAll 56 = .ok (.aload_n 0, 1) := by decide +kernel
theorem dX2_weighAll_57 : decode cX2_weighAll 57 = .ok (.getfield 9, 3) := by decide +kernel
theorem dX2_weighAll_60 : decode cX2_weighAll 60 = .ok (.iload_n 3, 1) := by decide +kernel
theorem dX2_weighAll_61 : decode cX2_weighAll 61 = .ok (.dup2, 1) := by decide +kernel
theorem dX2_weighAll_62 : decode cX2_weighAll 62 = .ok (.laload, 1) := by decide +kernel
theorem dX2_weighAll_63 : decode cX2_weighAll 63 = .ok (.bipush 16, 2) := by decide +kernel
theorem dX2_weighAll_65 : decode cX2_weighAll 65 = .ok (.aload_n 0, 1) := by decide +kernel
theorem dX2_weighAll_66 : decode cX2_weighAll 66 = .ok (.getfield 15, 3) := by decide +kernel
theorem dX2_weighAll_69 : decode cX2_weighAll 69 = .ok (.getfield 25, 3) := by decide +kernel
theorem dX2_weighAll_72 : decode cX2_weighAll 72 = .ok (.iload_n 1, 1) := by decide +kernel
theorem dX2_weighAll_73 : decode cX2_weighAll 73 = .ok (.iaload, 1) := by decide +kernel
theorem dX2_weighAll_74 : decode cX2_weighAll 74 = .ok (.isub, 1) := by decide +kernel
theorem dX2_weighAll_75 : decode cX2_weighAll 75 = .ok (.i2l, 1) := by decide +kernel
theorem dX2_weighAll_76 : decode cX2_weighAll 76 = .ok (.lmul, 1) := by decide +kernel
theorem dX2_weighAll_77 : decode cX2_weighAll 77 = .ok (.lastore, 1) := by decide +kernel
theorem dX2_weighAll_78 : decode cX2_weighAll 78 = .ok (.iinc 3 1, 3) := by decide +kernel
theorem dX2_weighAll_81 : decode cX2_weighAll 81 = .ok (.goto (-55), 3) := by decide +kernel
theorem dX2_weighAll_84 : decode cX2_weighAll 84 = .ok (.iinc 1 1, 3) := by decide +kernel
theorem dX2_weighAll_87 : decode cX2_weighAll 87 = .ok (.goto (-78), 3) := by decide +kernel
theorem dX2_weighAll_90 : decode cX2_weighAll 90 = .ok (.return_, 1) := by decide +kernel
def wb_X2_weighAll_26 (I : HI) (x1 : Int32) (x2 : Int32) (E9 : HJ → Prop) (K9 : Int32 × HJ → Prop) (Post : HJ → Prop) (E26 : HJ → Prop) (K26 : (Int32 × HJ) → Prop) (s : Int32 × HJ) : Prop :=
  match s with
  | (x3, J) => (x2 ≤ x3 → (E26 J)) ∧ (¬ x2 ≤ x3 → (vp_in x3 1024 ∧ (vp_in x1 10 ∧ (vp_in (x2 + x3) 1024 ∧ (∀ J_2 : HJ, J_2 = hJ J 40 (Int32.toNatClampNeg (x2 + x3)) ((J 40 (Int32.toNatClampNeg x3)) * (Int32.toInt64 (I 21 (Int32.toNatClampNeg x1)))) → (vp_in x3 1024 ∧ (vp_in x1 10 ∧ (vp_in x3 1024 ∧ (∀ J_3 : HJ, J_3 = hJ J_2 40 (Int32.toNatClampNeg x3) ((J_2 40 (Int32.toNatClampNeg x3)) * (Int32.toInt64 (16 - (I 21 (Int32.toNatClampNeg x1))))) → (K26 ((x3 + 1), J_3)))))))))))
set_option maxHeartbeats 4000000 in
set_option maxRecDepth 20000 in
theorem ws_X2_weighAll_26 (g : kf_G) (hg : kf_g g) {x : kf_X} (hx : kf_ok g x RX2 cX2_weighAll 4 0 0) (I : HI) (x1 : Int32) (x2 : Int32) (E9 : HJ → Prop) (K9 : Int32 × HJ → Prop) (hE9 : ∀ (Jy : HJ), E9 Jy → kf_M g x 4 90 [] [] I Jy) (hK9 : ∀ (y1 : Int32) (Jy : HJ), K9 (y1, Jy) → kf_M g x 4 9 [(0, .ref (g.2.2.2 39)), (1, .int y1)] [] I Jy) (Post : HJ → Prop) (hret : ∀ (pc : Nat) (lv : List (Nat × Value)) (Jy : HJ), decode cX2_weighAll pc = .ok (.return_, 1) → Post Jy → kf_M g x 4 pc lv [] I Jy) (E26 : HJ → Prop) (hE26 : ∀ (Jy : HJ), E26 Jy → kf_M g x 4 84 [(0, .ref (g.2.2.2 39)), (1, .int x1)] [] I Jy) (K26 : (Int32 × HJ) → Prop) (hK26 : ∀ (y3 : Int32) (Jy : HJ), K26 (y3, Jy) → kf_M g x 4 26 [(0, .ref (g.2.2.2 39)), (1, .int x1), (2, .int x2), (3, .int y3)] [] I Jy) (x3 : Int32) (J : HJ) (h : wb_X2_weighAll_26 I x1 x2 E9 K9 Post E26 K26 (x3, J)) : kf_M g x 4 26 [(0, .ref (g.2.2.2 39)), (1, .int x1), (2, .int x2), (3, .int x3)] [] I J := by
  unfold wb_X2_weighAll_26 at h
  refine kf_iload_n hx dX2_weighAll_26 rfl 3 rfl ?_
  refine kf_iload_n hx dX2_weighAll_27 rfl 2 rfl ?_
  refine kf_icmp_ge hx 84 dX2_weighAll_28 (by decide) (fun c => ?_) (fun c => ?_)
  · replace h := h.1 c
    refine kf_sub [0, 1] rfl ?_
    exact hE26 _ h
  · replace h := h.2 c
    refine kf_aload_n hx dX2_weighAll_31 rfl 0 rfl ?_
    refine kf_getR (n := 40) hx sl_39_1 fl_RX2_9 dX2_weighAll_32 ?_
    refine kf_iload_n hx dX2_weighAll_35 rfl 2 rfl ?_
    refine kf_iload_n hx dX2_weighAll_36 rfl 3 rfl ?_
    refine kf_iadd hx dX2_weighAll_37 ?_
    refine kf_aload_n hx dX2_weighAll_38 rfl 0 rfl ?_
    refine kf_getR (n := 40) hx sl_39_1 fl_RX2_9 dX2_weighAll_39 ?_
    refine kf_iload_n hx dX2_weighAll_42 rfl 3 rfl ?_
    refine kf_lald hx ar_40 h.1 dX2_weighAll_43 ?_
    replace h := h.2
    refine kf_aload_n hx dX2_weighAll_44 rfl 0 rfl ?_
    refine kf_getR (n := 12) hx sl_39_0 fl_RX2_15 dX2_weighAll_45 ?_
    refine kf_getR (n := 21) hx sl_12_8 fl_RX2_25 dX2_weighAll_48 ?_
    refine kf_iload_n hx dX2_weighAll_51 rfl 1 rfl ?_
    refine kf_iald hx ar_21 h.1 dX2_weighAll_52 ?_
    replace h := h.2
    refine kf_i2l hx dX2_weighAll_53 ?_
    refine kf_lmul hx dX2_weighAll_54 ?_
    refine kf_last hx ar_40 h.1 dX2_weighAll_55 ?_
    replace h := h.2
    refine kf_nmJ (fun J_2 eJ_2 => ?_)
    replace h := h J_2 eJ_2
    refine kf_aload_n hx dX2_weighAll_56 rfl 0 rfl ?_
    refine kf_getR (n := 40) hx sl_39_1 fl_RX2_9 dX2_weighAll_57 ?_
    refine kf_iload_n hx dX2_weighAll_60 rfl 3 rfl ?_
    refine kf_dup2 hx dX2_weighAll_61 rfl rfl ?_
    refine kf_lald hx ar_40 h.1 dX2_weighAll_62 ?_
    replace h := h.2
    refine kf_bipush (v := 16) hx dX2_weighAll_63 (by decide) ?_
    refine kf_aload_n hx dX2_weighAll_65 rfl 0 rfl ?_
    refine kf_getR (n := 12) hx sl_39_0 fl_RX2_15 dX2_weighAll_66 ?_
    refine kf_getR (n := 21) hx sl_12_8 fl_RX2_25 dX2_weighAll_69 ?_
    refine kf_iload_n hx dX2_weighAll_72 rfl 1 rfl ?_
    refine kf_iald hx ar_21 h.1 dX2_weighAll_73 ?_
    replace h := h.2
    refine kf_isub hx dX2_weighAll_74 ?_
    refine kf_i2l hx dX2_weighAll_75 ?_
    refine kf_lmul hx dX2_weighAll_76 ?_
    refine kf_last hx ar_40 h.1 dX2_weighAll_77 ?_
    replace h := h.2
    refine kf_nmJ (fun J_3 eJ_3 => ?_)
    replace h := h J_3 eJ_3
    refine kf_iinc (w := (x3 + 1)) (lv' := [(3, .int (x3 + 1)), (0, .ref (g.2.2.2 39)), (1, .int x1), (2, .int x2)]) hx dX2_weighAll_78 3 rfl rfl (by decide) rfl ?_
    refine kf_goto hx 26 dX2_weighAll_81 (by decide) ?_
    refine kf_sub [1, 2, 3, 0] rfl ?_
    exact hK26 _ _ h
theorem wl_X2_weighAll_26 (g : kf_G) (hg : kf_g g) {x : kf_X} (hx : kf_ok g x RX2 cX2_weighAll 4 0 0) (I : HI) (x1 : Int32) (x2 : Int32) (E9 : HJ → Prop) (K9 : Int32 × HJ → Prop) (hE9 : ∀ (Jy : HJ), E9 Jy → kf_M g x 4 90 [] [] I Jy) (hK9 : ∀ (y1 : Int32) (Jy : HJ), K9 (y1, Jy) → kf_M g x 4 9 [(0, .ref (g.2.2.2 39)), (1, .int y1)] [] I Jy) (Post : HJ → Prop) (hret : ∀ (pc : Nat) (lv : List (Nat × Value)) (Jy : HJ), decode cX2_weighAll pc = .ok (.return_, 1) → Post Jy → kf_M g x 4 pc lv [] I Jy) (E26 : HJ → Prop) (hE26 : ∀ (Jy : HJ), E26 Jy → kf_M g x 4 84 [(0, .ref (g.2.2.2 39)), (1, .int x1)] [] I Jy) : ∀ (n : Nat) (x3 : Int32) (J : HJ), lp (wb_X2_weighAll_26 I x1 x2 E9 K9 Post E26) n (x3, J) → kf_M g x 4 26 [(0, .ref (g.2.2.2 39)), (1, .int x1), (2, .int x2), (3, .int x3)] [] I J := by
  intro n
  induction n with
  | zero => intro x3 J h; exact h.elim
  | succ n ih => intro x3 J h; exact ws_X2_weighAll_26 g hg hx I x1 x2 E9 K9 hE9 hK9 Post hret E26 hE26 (lp (wb_X2_weighAll_26 I x1 x2 E9 K9 Post E26) n) ih x3 J h
def wb_X2_weighAll_9 (I : HI) (Post : HJ → Prop) (E9 : HJ → Prop) (K9 : (Int32 × HJ) → Prop) (s : Int32 × HJ) : Prop :=
  match s with
  | (x1, J) => ((I 12 12) ≤ x1 → (E9 J)) ∧ (¬ (I 12 12) ≤ x1 → (∃ n, lp (wb_X2_weighAll_26 I x1 (1 <<< (x1 &&& 31)) E9 K9 Post (fun (J_4 : HJ) => K9 ((x1 + 1), J_4))) n (0, J)))
set_option maxHeartbeats 4000000 in
set_option maxRecDepth 20000 in
theorem ws_X2_weighAll_9 (g : kf_G) (hg : kf_g g) {x : kf_X} (hx : kf_ok g x RX2 cX2_weighAll 4 0 0) (I : HI) (Post : HJ → Prop) (hret : ∀ (pc : Nat) (lv : List (Nat × Value)) (Jy : HJ), decode cX2_weighAll pc = .ok (.return_, 1) → Post Jy → kf_M g x 4 pc lv [] I Jy) (E9 : HJ → Prop) (hE9 : ∀ (Jy : HJ), E9 Jy → kf_M g x 4 90 [] [] I Jy) (K9 : (Int32 × HJ) → Prop) (hK9 : ∀ (y1 : Int32) (Jy : HJ), K9 (y1, Jy) → kf_M g x 4 9 [(0, .ref (g.2.2.2 39)), (1, .int y1)] [] I Jy) (x1 : Int32) (J : HJ) (h : wb_X2_weighAll_9 I Post E9 K9 (x1, J)) : kf_M g x 4 9 [(0, .ref (g.2.2.2 39)), (1, .int x1)] [] I J := by
  unfold wb_X2_weighAll_9 at h
  refine kf_iload_n hx dX2_weighAll_9 rfl 1 rfl ?_
  refine kf_aload_n hx dX2_weighAll_10 rfl 0 rfl ?_
  refine kf_getR (n := 12) hx sl_39_0 fl_RX2_15 dX2_weighAll_11 ?_
  refine kf_getI hx sl_12_12 fl_RX2_19 dX2_weighAll_14 ?_
  refine kf_icmp_ge hx 90 dX2_weighAll_17 (by decide) (fun c => ?_) (fun c => ?_)
  · replace h := h.1 c
    refine kf_sub [] rfl ?_
    exact hE9 _ h
  · replace h := h.2 c
    refine kf_iconst (v := 1) hx dX2_weighAll_20 (by decide) ?_
    refine kf_iload_n hx dX2_weighAll_21 rfl 1 rfl ?_
    refine kf_ishl hx dX2_weighAll_22 ?_
    refine kf_istore_n (lv' := [(2, .int (1 <<< (x1 &&& 31))), (0, .ref (g.2.2.2 39)), (1, .int x1)]) hx dX2_weighAll_23 rfl (by decide) rfl ?_
    refine kf_iconst (v := 0) hx dX2_weighAll_24 (by decide) ?_
    refine kf_istore_n (lv' := [(3, .int 0), (2, .int (1 <<< (x1 &&& 31))), (0, .ref (g.2.2.2 39)), (1, .int x1)]) hx dX2_weighAll_25 rfl (by decide) rfl ?_
    obtain ⟨n, h⟩ := h
    refine kf_sub [2, 3, 1, 0] rfl ?_
    refine wl_X2_weighAll_26 g hg hx I x1 (1 <<< (x1 &&& 31)) _ _ hE9 hK9 _ hret _ (fun J_4 h => ?_) n _ _ h
    refine kf_iinc (w := (x1 + 1)) (lv' := [(1, .int (x1 + 1)), (0, .ref (g.2.2.2 39))]) hx dX2_weighAll_84 1 rfl rfl (by decide) rfl ?_
    refine kf_goto hx 9 dX2_weighAll_87 (by decide) ?_
    refine kf_sub [1, 0] rfl ?_
    exact hK9 _ _ h
theorem wl_X2_weighAll_9 (g : kf_G) (hg : kf_g g) {x : kf_X} (hx : kf_ok g x RX2 cX2_weighAll 4 0 0) (I : HI) (Post : HJ → Prop) (hret : ∀ (pc : Nat) (lv : List (Nat × Value)) (Jy : HJ), decode cX2_weighAll pc = .ok (.return_, 1) → Post Jy → kf_M g x 4 pc lv [] I Jy) (E9 : HJ → Prop) (hE9 : ∀ (Jy : HJ), E9 Jy → kf_M g x 4 90 [] [] I Jy) : ∀ (n : Nat) (x1 : Int32) (J : HJ), lp (wb_X2_weighAll_9 I Post E9) n (x1, J) → kf_M g x 4 9 [(0, .ref (g.2.2.2 39)), (1, .int x1)] [] I J := by
  intro n
  induction n with
  | zero => intro x1 J h; exact h.elim
  | succ n ih => intro x1 J h; exact ws_X2_weighAll_9 g hg hx I Post hret E9 hE9 (lp (wb_X2_weighAll_9 I Post E9) n) ih x1 J h
def w_X2_weighAll  (I : HI) (J : HJ) (Post : HJ → Prop) : Prop :=
  ∀ J_1 : HJ, J_1 = hJ J 40 0 1 → (∃ n, lp (wb_X2_weighAll_9 I Post (fun (J_5 : HJ) => Post J_5)) n (0, J_1))
set_option maxHeartbeats 4000000 in
set_option maxRecDepth 20000 in
theorem we_X2_weighAll (g : kf_G) (hg : kf_g g) {x : kf_X} (hx : kf_ok g x RX2 cX2_weighAll 4 0 0)  (I : HI) (J : HJ) (Post : HJ → Prop) (hret : ∀ (pc : Nat) (lv : List (Nat × Value)) (Jy : HJ), decode cX2_weighAll pc = .ok (.return_, 1) → Post Jy → kf_M g x 4 pc lv [] I Jy) (h : w_X2_weighAll  I J Post) : kf_M g x 4 0 [(0, .ref (g.2.2.2 39))] [] I J := by
  unfold w_X2_weighAll at h
  refine kf_aload_n hx dX2_weighAll_0 rfl 0 rfl ?_
  refine kf_getR (n := 40) hx sl_39_1 fl_RX2_9 dX2_weighAll_1 ?_
  refine kf_iconst (v := 0) hx dX2_weighAll_4 (by decide) ?_
  refine kf_lconst (v := 1) hx dX2_weighAll_5 (by decide) ?_
  refine kf_last hx ar_40 (by unfold vp_in; decide) dX2_weighAll_6 ?_
  refine kf_nmJ (fun J_1 eJ_1 => ?_)
  replace h := h J_1 eJ_1
  refine kf_iconst (v := 0) hx dX2_weighAll_7 (by decide) ?_
  refine kf_istore_n (lv' := [(1, .int 0), (0, .ref (g.2.2.2 39))]) hx dX2_weighAll_8 rfl (by decide) rfl ?_
  obtain ⟨n, h⟩ := h
  refine kf_sub [1, 0] rfl ?_
  refine wl_X2_weighAll_9 g hg hx I  _ hret _ (fun J_5 h => ?_) n _ _ h
  exact hret _ _ _ dX2_weighAll_90 h
set_option maxHeartbeats 4000000 in
set_option maxRecDepth 20000 in
theorem m_X2_weighAll (g : kf_G) (hg : kf_g g)  (I : HI) (J : HJ) (Post : HJ → Prop) (h : w_X2_weighAll  I J Post) : kf_Mv g yX2_weighAll (kf_W yX2_weighAll cX2_weighAll 4 (Option.none : Option Jvm.ClassFile.FieldType)) 0 0 [.ref (g.2.2.2 39)] I J (fun I' J' => Post J' ∧ I' = I) :=
  kf_entv hg (by decide) (Nat.le_of_ble_eq_true rfl) rfl (fun x hx hr => we_X2_weighAll g hg hx  I J Post (fun pc lv J' hd hP => hr pc lv I J' hd ⟨hP, rfl⟩) h)
theorem dX2_takers_0 : decode cX2_takers 0 = .ok (.iload_n 1, 1) := by decide +kernel
theorem dX2_takers_1 : decode cX2_takers 1 = .ok (.istore_n 3, 1) := by decide +kernel
theorem dX2_takers_2 : decode cX2_takers 2 = .ok (.iconst 0, 1) := by decide +kernel
theorem dX2_takers_3 : decode cX2_takers 3 = .ok (.istore 4, 2) := by decide +kernel
theorem dX2_takers_5 : decode cX2_takers 5 = .ok (.aload_n 0, 1) := by decide +kernel
theorem dX2_takers_6 : decode cX2_takers 6 = .ok (.getfield 15, 3) := by decide +kernel
theorem dX2_takers_9 : decode cX2_takers 9 = .ok (.iload_n 1, 1) := by decide +kernel
theorem dX2_takers_10 : decode cX2_takers 10 = .ok (.invokevirtual 29, 3) := by decide +kernel
theorem dX2_takers_13 : decode cX2_takers 13 = .ok (.iload_n 2, 1) := by decide +kernel
theorem dX2_takers_14 : decode cX2_takers 14 = .ok (.iand, 1) := by decide +kernel
theorem dX2_takers_15 : decode cX2_takers 15 = .ok (.istore 5, 2) := by decide +kernel
theorem dX2_takers_17 : decode cX2_takers 17 = .ok (.iconst 0, 1) := by decide +kernel
theorem dX2_takers_18 : decode cX2_takers 18 = .ok (.istore 6, 2) := by decide +kernel
theorem dX2_takers_20 : decode cX2_takers 20 = .ok (.iload 6, 2) := by decide +kernel
theorem dX2_takers_22 : decode cX2_takers 22 = .ok (.bipush 10, 2) := by decide +kernel
theorem dX2_takers_24 : decode cX2_takers 24 = .ok (.if_icmp .ge 106, 3) := by decide +kernel
theorem dX2_takers_27 : decode cX2_takers 27 = .ok (.iload 5, 2) := by decide +kernel
theorem dX2_takers_29 : decode cX2_takers 29 = .ok (.ifCond .eq 101, 3) := by decide +kernel
theorem dX2_takers_32 : decode cX2_takers 32 = .ok (.iload 5, 2) := by decide +kernel
theorem dX2_takers_34 : decode cX2_takers 34 = .ok (.invokestatic 33, 3) := by decide +kernel
theorem dX2_takers_37 : decode cX2_takers 37 = .ok (.istore 7, 2) := by decide +kernel
theorem dX2_takers_39 : decode cX2_takers 39 = .ok (.iload 5, 2) := by decide +kernel
theorem dX2_takers_41 : decode cX2_takers 41 = .ok (.iload 5, 2) := by decide +kernel
theorem dX2_takers_43 : decode cX2_takers 43 = .ok (.iconst 1, 1) := by decide +kernel
theorem dX2_takers_44 : decode cX2_takers 44 = .ok (.isub, 1) := by decide +kernel
theorem dX2_takers_45 : decode cX2_takers 45 = .ok (.iand, 1) := by decide +kernel
theorem dX2_takers_46 : decode cX2_takers 46 = .ok (.istore 5, 2) := by decide +kernel
theorem dX2_takers_48 : decode cX2_takers 48 = .ok (.iload 4, 2) := by decide +kernel
theorem dX2_takers_50 : decode cX2_takers 50 = .ok (.iconst 1, 1) := by decide +kernel
theorem dX2_takers_51 : decode cX2_takers 51 = .ok (.iload 7, 2) := by decide +kernel
theorem dX2_takers_53 : decode cX2_takers 53 = .ok (.ishl, 1) := by decide +kernel
theorem dX2_takers_54 : decode cX2_takers 54 = .ok (.ior, 1) := by decide +kernel
theorem dX2_takers_55 : decode cX2_takers 55 = .ok (.istore 4, 2) := by decide +kernel
theorem dX2_takers_57 : decode cX2_takers 57 = .ok (.aload_n 0, 1) := by decide +kernel
theorem dX2_takers_58 : decode cX2_takers 58 = .ok (.getfield 15, 3) := by decide +kernel
theorem dX2_takers_61 : decode cX2_takers 61 = .ok (.getfield 38, 3) := by decide +kernel
theorem dX2_takers_64 : decode cX2_takers 64 = .ok (.iload 7, 2) := by decide +kernel
theorem dX2_takers_66 : decode cX2_takers 66 = .ok (.iaload, 1) := by decide +kernel
theorem dX2_takers_67 : decode cX2_takers 67 = .ok (.istore 8, 2) := by decide +kernel
theorem dX2_takers_69 : decode cX2_takers 69 = .ok (.iload_n 3, 1) := by decide +kernel
theorem dX2_takers_70 : decode cX2_takers 70 = .ok (.aload_n 0, 1) := by decide +kernel
theorem dX2_takers_71 : decode cX2_takers 71 = .ok (.getfield 15, 3) := by decide +kernel
theorem dX2_takers_74 : decode cX2_takers 74 = .ok (.getfield 41, 3) := by decide +kernel
theorem dX2_takers_77 : decode cX2_takers 77 = .ok (.ior, 1) := by decide +kernel
theorem dX2_takers_78 : decode cX2_takers 78 = .ok (.iload 8, 2) := by decide +kernel
theorem dX2_takers_80 : decode cX2_takers 80 = .ok (.invokestatic 44, 3) := by decide +kernel
theorem dX2_takers_83 : decode cX2_takers 83 = .ok (.ifCond .ne 41, 3) := by decide +kernel
theorem dX2_takers_86 : decode cX2_takers 86 = .ok (.aload_n 0, 1) := by decide +kernel
theorem dX2_takers_87 : decode cX2_takers 87 = .ok (.getfield 15, 3) := by decide +kernel
theorem dX2_takers_90 : decode cX2_takers 90 = .ok (.iload 8, 2) := by decide +kernel
theorem dX2_takers_92 : decode cX2_takers 92 = .ok (.iload 4, 2) := by decide +kernel
theorem dX2_takers_94 : decode cX2_takers 94 = .ok (.invokevirtual 48, 3) := by decide +kernel
theorem dX2_takers_97 : decode cX2_takers 97 = .ok (.ifCond .eq 27, 3) := by decide +kernel
theorem dX2_takers_100 : decode cX2_takers 100 = .ok (.iload_n 3, 1) := by decide +kernel
theorem dX2_takers_101 : decode cX2_takers 101 = .ok (.iconst 1, 1) := by decide +kernel
theorem dX2_takers_102 : decode cX2_takers 102 = .ok (.iload 8, 2) := by decide +kernel
theorem dX2_takers_104 : decode cX2_takers 104 = .ok (.ishl, 1) := by decide +kernel
theorem dX2_takers_105 : decode cX2_takers 105 = .ok (.ior, 1) := by decide +kernel
theorem dX2_takers_106 : decode cX2_takers 106 = .ok (.istore_n 3, 1) := by decide +kernel
theorem dX2_takers_107 : decode cX2_takers 107 = .ok (.iload 5, 2) := by decide +kernel
theorem dX2_takers_109 : decode cX2_takers 109 = .ok (.aload_n 0, 1) := by decide +kernel
theorem dX2_takers_110 : decode cX2_takers 110 = .ok (.getfield 15, 3) := by decide +kernel
theorem dX2_takers_113 : decode cX2_takers 113 = .ok (.getfield 51, 3) := by decide +kernel
theorem dX2_takers_116 : decode cX2_takers 116 = .ok (.iload 8, 2) := by decide +kernel
theorem dX2_takers_118 : decode cX2_takers 118 = .ok (.iaload, 1) := by decide +kernel
theorem dX2_takers_119 : decode cX2_takers 119 = .ok (.iload_n 2, 1) := by decide +kernel
theorem dX2_takers_120 : decode cX2_takers 120 = .ok (.iand, 1) := by decide +kernel
theorem dX2_takers_121 : decode cX2_takers 121 = .ok (.ior, 1) := by decide +kernel
theorem dX2_takers_122 : decode cX2_takers 122 = .ok (.istore 5, 2) := by decide +kernel
theorem dX2_takers_124 : decode cX2_takers 124 = .ok (.iinc 6 1, 3) := by decide +kernel
theorem dX2_takers_127 : decode cX2_takers 127 = .ok (.goto (-107), 3) := by decide +kernel
theorem dX2_takers_130 : decode cX2_takers 130 = .ok (.iload_n 3, 1) := by decide +kernel
theorem dX2_takers_131 : decode cX2_takers 131 = .ok (.ireturn, 1) := by decide +kernel
def wb_X2_takers_20 (I : HI) (J : HJ) (x2 : Int32) (Post : Int32 → Prop) (E20 : Int32 → Prop) (K20 : (Int32 × Int32 × Int32 × Int32) → Prop) (s : Int32 × Int32 × Int32 × Int32) : Prop :=
  match s with
  | (x3, x4, x5, x6) => (10 ≤ x6 → (E20 x3)) ∧ (¬ 10 ≤ x6 → ((x5 = 0 → (E20 x3)) ∧ (¬ x5 = 0 → (w_J6_numberOfTrailingZeros_0f7a4 x5 (fun (r_2 : Int32) => (vp_in r_2 10 ∧ (w_X10_has (x3 ||| (I 12 13)) (I 20 (Int32.toNatClampNeg r_2)) (fun (r_3 : Bool) => ((r_3 = true → (K20 (x3, (x4 ||| (1 <<< (r_2 &&& 31))), (x5 &&& (x5 - 1)), (x6 + 1)))) ∧ (r_3 = false → (w_X4_isTold (I 20 (Int32.toNatClampNeg r_2)) (x4 ||| (1 <<< (r_2 &&& 31))) I J (fun (r_4 : Bool) => ((r_4 = false → (K20 (x3, (x4 ||| (1 <<< (r_2 &&& 31))), (x5 &&& (x5 - 1)), (x6 + 1)))) ∧ (r_4 = true → (∀ z_5 : Int32, z_5 = (x3 ||| (1 <<< ((I 20 (Int32.toNatClampNeg r_2)) &&& 31))) → (vp_in (I 20 (Int32.toNatClampNeg r_2)) 12 ∧ (∀ z_6 : Int32, z_6 = ((x5 &&& (x5 - 1)) ||| ((I 18 (Int32.toNatClampNeg (I 20 (Int32.toNatClampNeg r_2)))) &&& x2)) → (K20 (z_5, (x4 ||| (1 <<< (r_2 &&& 31))), z_6, (x6 + 1))))))))))))))))))))
set_option maxHeartbeats 4000000 in
set_option maxRecDepth 20000 in
theorem ws_X2_takers_20 (g : kf_G) (hg : kf_g g) {x : kf_X} (hx : kf_ok g x RX2 cX2_takers 9 2 44) (I : HI) (J : HJ) (x2 : Int32) (Post : Int32 → Prop) (hret : ∀ (pc : Nat) (lv : List (Nat × Value)) (v : Int32), decode cX2_takers pc = .ok (.ireturn, 1) → Post v → kf_M g x 9 pc lv [.int v] I J) (E20 : Int32 → Prop) (hE20 : ∀ (y3 : Int32), E20 y3 → kf_M g x 9 130 [(3, .int y3)] [] I J) (K20 : (Int32 × Int32 × Int32 × Int32) → Prop) (hK20 : ∀ (y3 : Int32) (y4 : Int32) (y5 : Int32) (y6 : Int32), K20 (y3, y4, y5, y6) → kf_M g x 9 20 [(0, .ref (g.2.2.2 39)), (2, .int x2), (3, .int y3), (4, .int y4), (5, .int y5), (6, .int y6)] [] I J) (x3 : Int32) (x4 : Int32) (x5 : Int32) (x6 : Int32) (h : wb_X2_takers_20 I J x2 Post E20 K20 (x3, x4, x5, x6)) : kf_M g x 9 20 [(0, .ref (g.2.2.2 39)), (2, .int x2), (3, .int x3), (4, .int x4), (5, .int x5), (6, .int x6)] [] I J := by
  unfold wb_X2_takers_20 at h
  refine kf_iload hx dX2_takers_20 5 rfl ?_
  refine kf_bipush (v := 10) hx dX2_takers_22 (by decide) ?_
  refine kf_icmp_ge hx 130 dX2_takers_24 (by decide) (fun c => ?_) (fun c => ?_)
  · replace h := h.1 c
    refine kf_sub [2] rfl ?_
    exact hE20 _ h
  · replace h := h.2 c
    refine kf_iload hx dX2_takers_27 4 rfl ?_
    refine kf_if_eq hx 130 dX2_takers_29 (by decide) (fun c => ?_) (fun c => ?_)
    · replace h := h.1 c
      refine kf_sub [2] rfl ?_
      exact hE20 _ h
    · replace h := h.2 c
      refine kf_iload hx dX2_takers_32 4 rfl ?_
      refine kf_callSiP (st := []) hx (m_J6_numberOfTrailingZeros_0f7a4 g hg x5 I J _ h) lk_RX2_33 km_J6_numberOfTrailingZeros_0f7a4 rfl (by decide) rfl (Nat.le_of_ble_eq_true rfl) dX2_takers_34 (fun r_2 h => ?_)
      refine kf_istore (lv' := [(7, .int r_2), (0, .ref (g.2.2.2 39)), (2, .int x2), (3, .int x3), (4, .int x4), (5, .int x5), (6, .int x6)]) hx dX2_takers_37 (by decide) rfl ?_
      refine kf_iload hx dX2_takers_39 5 rfl ?_
      refine kf_iload hx dX2_takers_41 5 rfl ?_
      refine kf_iconst (v := 1) hx dX2_takers_43 (by decide) ?_
      refine kf_isub hx dX2_takers_44 ?_
      refine kf_iand hx dX2_takers_45 ?_
      refine kf_istore (lv' := [(5, .int (x5 &&& (x5 - 1))), (7, .int r_2), (0, .ref (g.2.2.2 39)), (2, .int x2), (3, .int x3), (4, .int x4), (6, .int x6)]) hx dX2_takers_46 (by decide) rfl ?_
      refine kf_iload hx dX2_takers_48 5 rfl ?_
      refine kf_iconst (v := 1) hx dX2_takers_50 (by decide) ?_
      refine kf_iload hx dX2_takers_51 1 rfl ?_
      refine kf_ishl hx dX2_takers_53 ?_
      refine kf_ior hx dX2_takers_54 ?_
      refine kf_istore (lv' := [(4, .int (x4 ||| (1 <<< (r_2 &&& 31)))), (5, .int (x5 &&& (x5 - 1))), (7, .int r_2), (0, .ref (g.2.2.2 39)), (2, .int x2), (3, .int x3), (6, .int x6)]) hx dX2_takers_55 (by decide) rfl ?_
      refine kf_aload_n hx dX2_takers_57 rfl 3 rfl ?_
      refine kf_getR (n := 12) hx sl_39_0 fl_RX2_15 dX2_takers_58 ?_
      refine kf_getR (n := 20) hx sl_12_7 fl_RX2_38 dX2_takers_61 ?_
      refine kf_iload hx dX2_takers_64 2 rfl ?_
      refine kf_iald hx ar_20 h.1 dX2_takers_66 ?_
      replace h := h.2
      refine kf_istore (lv' := [(8, .int (I 20 (Int32.toNatClampNeg r_2))), (4, .int (x4 ||| (1 <<< (r_2 &&& 31)))), (5, .int (x5 &&& (x5 - 1))), (7, .int r_2), (0, .ref (g.2.2.2 39)), (2, .int x2), (3, .int x3), (6, .int x6)]) hx dX2_takers_67 (by decide) rfl ?_
      refine kf_iload_n hx dX2_takers_69 rfl 6 rfl ?_
      refine kf_aload_n hx dX2_takers_70 rfl 4 rfl ?_
      refine kf_getR (n := 12) hx sl_39_0 fl_RX2_15 dX2_takers_71 ?_
      refine kf_getI hx sl_12_13 fl_RX2_41 dX2_takers_74 ?_
      refine kf_ior hx dX2_takers_77 ?_
      refine kf_iload hx dX2_takers_78 0 rfl ?_
      refine kf_callSbP (st := []) hx (m_X10_has g hg (x3 ||| (I 12 13)) (I 20 (Int32.toNatClampNeg r_2)) I J _ h) lk_RX2_44 km_X10_has rfl (by decide) rfl (Nat.le_of_ble_eq_true rfl) dX2_takers_80 (fun r_3 h => ?_)
      refine kf_ifB_ne hx 124 dX2_takers_83 (by decide) (fun c => ?_) (fun c => ?_)
      · replace h := h.1 c
        refine kf_iinc (w := (x6 + 1)) (lv' := [(6, .int (x6 + 1)), (8, .int (I 20 (Int32.toNatClampNeg r_2))), (4, .int (x4 ||| (1 <<< (r_2 &&& 31)))), (5, .int (x5 &&& (x5 - 1))), (7, .int r_2), (0, .ref (g.2.2.2 39)), (2, .int x2), (3, .int x3)]) hx dX2_takers_124 7 rfl rfl (by decide) rfl ?_
        refine kf_goto hx 20 dX2_takers_127 (by decide) ?_
        refine kf_sub [5, 6, 7, 2, 3, 0] rfl ?_
        exact hK20 _ _ _ _ h
      · replace h := h.2 c
        refine kf_aload_n hx dX2_takers_86 rfl 4 rfl ?_
        refine kf_getR (n := 12) hx sl_39_0 fl_RX2_15 dX2_takers_87 ?_
        refine kf_iload hx dX2_takers_90 0 rfl ?_
        refine kf_iload hx dX2_takers_92 1 rfl ?_
        refine kf_callVbP (st := []) hx (m_X4_isTold g hg (I 20 (Int32.toNatClampNeg r_2)) (x4 ||| (1 <<< (r_2 &&& 31))) I J _ h) lk_RX2_48 km_X4_isTold ob_12 rfl (by decide) rfl (Nat.le_of_ble_eq_true rfl) dX2_takers_94 (fun r_4 h => ?_)
        refine kf_ifB_eq hx 124 dX2_takers_97 (by decide) (fun c => ?_) (fun c => ?_)
        · replace h := h.1 c
          refine kf_iinc (w := (x6 + 1)) (lv' := [(6, .int (x6 + 1)), (8, .int (I 20 (Int32.toNatClampNeg r_2))), (4, .int (x4 ||| (1 <<< (r_2 &&& 31)))), (5, .int (x5 &&& (x5 - 1))), (7, .int r_2), (0, .ref (g.2.2.2 39)), (2, .int x2), (3, .int x3)]) hx dX2_takers_124 7 rfl rfl (by decide) rfl ?_
          refine kf_goto hx 20 dX2_takers_127 (by decide) ?_
          refine kf_sub [5, 6, 7, 2, 3, 0] rfl ?_
          exact hK20 _ _ _ _ h
        · replace h := h.2 c
          refine kf_iload_n hx dX2_takers_100 rfl 6 rfl ?_
          refine kf_iconst (v := 1) hx dX2_takers_101 (by decide) ?_
          refine kf_iload hx dX2_takers_102 0 rfl ?_
          refine kf_ishl hx dX2_takers_104 ?_
          refine kf_ior hx dX2_takers_105 ?_
          refine kf_topi (fun z_5 ez_5 => ?_)
          replace h := h z_5 ez_5
          refine kf_istore_n (lv' := [(3, .int z_5), (8, .int (I 20 (Int32.toNatClampNeg r_2))), (4, .int (x4 ||| (1 <<< (r_2 &&& 31)))), (5, .int (x5 &&& (x5 - 1))), (7, .int r_2), (0, .ref (g.2.2.2 39)), (2, .int x2), (6, .int x6)]) hx dX2_takers_106 rfl (by decide) rfl ?_
          refine kf_iload hx dX2_takers_107 3 rfl ?_
          refine kf_aload_n hx dX2_takers_109 rfl 5 rfl ?_
          refine kf_getR (n := 12) hx sl_39_0 fl_RX2_15 dX2_takers_110 ?_
          refine kf_getR (n := 18) hx sl_12_5 fl_RX2_51 dX2_takers_113 ?_
          refine kf_iload hx dX2_takers_116 1 rfl ?_
          refine kf_iald hx ar_18 h.1 dX2_takers_118 ?_
          replace h := h.2
          refine kf_iload_n hx dX2_takers_119 rfl 6 rfl ?_
          refine kf_iand hx dX2_takers_120 ?_
          refine kf_ior hx dX2_takers_121 ?_
          refine kf_topi (fun z_6 ez_6 => ?_)
          replace h := h z_6 ez_6
          refine kf_istore (lv' := [(5, .int z_6), (3, .int z_5), (8, .int (I 20 (Int32.toNatClampNeg r_2))), (4, .int (x4 ||| (1 <<< (r_2 &&& 31)))), (7, .int r_2), (0, .ref (g.2.2.2 39)), (2, .int x2), (6, .int x6)]) hx dX2_takers_122 (by decide) rfl ?_
          refine kf_iinc (w := (x6 + 1)) (lv' := [(6, .int (x6 + 1)), (5, .int z_6), (3, .int z_5), (8, .int (I 20 (Int32.toNatClampNeg r_2))), (4, .int (x4 ||| (1 <<< (r_2 &&& 31)))), (7, .int r_2), (0, .ref (g.2.2.2 39)), (2, .int x2)]) hx dX2_takers_124 7 rfl rfl (by decide) rfl ?_
          refine kf_goto hx 20 dX2_takers_127 (by decide) ?_
          refine kf_sub [6, 7, 2, 4, 1, 0] rfl ?_
          exact hK20 _ _ _ _ h
theorem wl_X2_takers_20 (g : kf_G) (hg : kf_g g) {x : kf_X} (hx : kf_ok g x RX2 cX2_takers 9 2 44) (I : HI) (J : HJ) (x2 : Int32) (Post : Int32 → Prop) (hret : ∀ (pc : Nat) (lv : List (Nat × Value)) (v : Int32), decode cX2_takers pc = .ok (.ireturn, 1) → Post v → kf_M g x 9 pc lv [.int v] I J) (E20 : Int32 → Prop) (hE20 : ∀ (y3 : Int32), E20 y3 → kf_M g x 9 130 [(3, .int y3)] [] I J) : ∀ (n : Nat) (x3 : Int32) (x4 : Int32) (x5 : Int32) (x6 : Int32), lp (wb_X2_takers_20 I J x2 Post E20) n (x3, x4, x5, x6) → kf_M g x 9 20 [(0, .ref (g.2.2.2 39)), (2, .int x2), (3, .int x3), (4, .int x4), (5, .int x5), (6, .int x6)] [] I J := by
  intro n
  induction n with
  | zero => intro x3 x4 x5 x6 h; exact h.elim
  | succ n ih => intro x3 x4 x5 x6 h; exact ws_X2_takers_20 g hg hx I J x2 Post hret E20 hE20 (lp (wb_X2_takers_20 I J x2 Post E20) n) ih x3 x4 x5 x6 h
def w_X2_takers (x1 : Int32) (x2 : Int32) (I : HI) (J : HJ) (Post : Int32 → Prop) : Prop :=
  w_X4_tiesFrom x1 I J (fun (r_1 : Int32) => (∃ n, lp (wb_X2_takers_20 I J x2 Post (fun (x3_7 : Int32) => Post x3_7)) n (x1, 0, (r_1 &&& x2), 0)))
set_option maxHeartbeats 4000000 in
set_option maxRecDepth 20000 in
theorem we_X2_takers (g : kf_G) (hg : kf_g g) {x : kf_X} (hx : kf_ok g x RX2 cX2_takers 9 2 44) (x1 : Int32) (x2 : Int32) (I : HI) (J : HJ) (Post : Int32 → Prop) (hret : ∀ (pc : Nat) (lv : List (Nat × Value)) (v : Int32), decode cX2_takers pc = .ok (.ireturn, 1) → Post v → kf_M g x 9 pc lv [.int v] I J) (h : w_X2_takers x1 x2 I J Post) : kf_M g x 9 0 [(0, .ref (g.2.2.2 39)), (1, .int x1), (2, .int x2)] [] I J := by
  unfold w_X2_takers at h
  refine kf_iload_n hx dX2_takers_0 rfl 1 rfl ?_
  refine kf_istore_n (lv' := [(3, .int x1), (0, .ref (g.2.2.2 39)), (1, .int x1), (2, .int x2)]) hx dX2_takers_1 rfl (by decide) rfl ?_
  refine kf_iconst (v := 0) hx dX2_takers_2 (by decide) ?_
  refine kf_istore (lv' := [(4, .int 0), (3, .int x1), (0, .ref (g.2.2.2 39)), (1, .int x1), (2, .int x2)]) hx dX2_takers_3 (by decide) rfl ?_
  refine kf_aload_n hx dX2_takers_5 rfl 2 rfl ?_
  refine kf_getR (n := 12) hx sl_39_0 fl_RX2_15 dX2_takers_6 ?_
  refine kf_iload_n hx dX2_takers_9 rfl 3 rfl ?_
  refine kf_callViP (st := []) hx (m_X4_tiesFrom g hg x1 I J _ h) lk_RX2_29 km_X4_tiesFrom ob_12 rfl (by decide) rfl (Nat.le_of_ble_eq_true rfl) dX2_takers_10 (fun r_1 h => ?_)
  refine kf_iload_n hx dX2_takers_13 rfl 4 rfl ?_
  refine kf_iand hx dX2_takers_14 ?_
  refine kf_istore (lv' := [(5, .int (r_1 &&& x2)), (4, .int 0), (3, .int x1), (0, .ref (g.2.2.2 39)), (1, .int x1), (2, .int x2)]) hx dX2_takers_15 (by decide) rfl ?_
  refine kf_iconst (v := 0) hx dX2_takers_17 (by decide) ?_
  refine kf_istore (lv' := [(6, .int 0), (5, .int (r_1 &&& x2)), (4, .int 0), (3, .int x1), (0, .ref (g.2.2.2 39)), (1, .int x1), (2, .int x2)]) hx dX2_takers_18 (by decide) rfl ?_
  obtain ⟨n, h⟩ := h
  refine kf_sub [4, 6, 3, 2, 1, 0] rfl ?_
  refine wl_X2_takers_20 g hg hx I J x2 _ hret _ (fun x3_7 h => ?_) n _ _ _ _ h
  refine kf_iload_n hx dX2_takers_130 rfl 0 rfl ?_
  exact hret _ _ x3_7  dX2_takers_131 h
set_option maxHeartbeats 4000000 in
set_option maxRecDepth 20000 in
theorem m_X2_takers (g : kf_G) (hg : kf_g g) (x1 : Int32) (x2 : Int32) (I : HI) (J : HJ) (Post : Int32 → Prop) (h : w_X2_takers x1 x2 I J Post) : kf_Mi g yX2_takers (kf_W yX2_takers cX2_takers 9 (Option.some Jvm.ClassFile.FieldType.int)) 2 44 [.ref (g.2.2.2 39), .int x1, .int x2] I J (fun v I' J' => Post v ∧ I' = I ∧ J' = J) :=
  kf_enti hg (by decide) (Nat.le_of_ble_eq_true rfl) rfl (fun x hx hr => we_X2_takers g hg hx x1 x2 I J Post (fun pc lv v hd hP => hr pc lv v I J hd ⟨hP, rfl, rfl⟩) h)
theorem dX2_tiesHeard_0 : decode cX2_tiesHeard 0 = .ok (.aload_n 0, 1) := by decide +kernel
theorem dX2_tiesHeard_1 : decode cX2_tiesHeard 1 = .ok (.getfield 15, 3) := by decide +kernel
theorem dX2_tiesHeard_4 : decode cX2_tiesHeard 4 = .ok (.getfield 41, 3) := by decide +kernel
theorem dX2_tiesHeard_7 : decode cX2_tiesHeard 7 = .ok (.iload_n 1, 1) := by decide +kernel
theorem dX2_tiesHeard_8 : decode cX2_tiesHeard 8 = .ok (.invokestatic 44, 3) := by decide +kernel
theorem dX2_tiesHeard_11 : decode cX2_tiesHeard 11 = .ok (.ifCond .eq 7, 3) := by decide +kernel
theorem dX2_tiesHeard_14 : decode cX2_tiesHeard 14 = .ok (.iconst 0, 1) := by decide +kernel
theorem dX2_tiesHeard_15 : decode cX2_tiesHeard 15 = .ok (.goto 12, 3) := by decide +kernel
theorem dX2_tiesHeard_18 : decode cX2_tiesHeard 18 = .ok (.aload_n 0, 1) := by decide +kernel
theorem dX2_tiesHeard_19 : decode cX2_tiesHeard 19 = .ok (.getfield 15, 3) := by decide +kernel
theorem dX2_tiesHeard_22 : decode cX2_tiesHeard 22 = .ok (.getfield 60, 3) := by decide +kernel
theorem dX2_tiesHeard_25 : decode cX2_tiesHeard 25 = .ok (.iload_n 1, 1) := by decide +kernel
theorem dX2_tiesHeard_26 : decode cX2_tiesHeard 26 = .ok (.iaload, 1) := by decide +kernel
theorem dX2_tiesHeard_27 : decode cX2_tiesHeard 27 = .ok (.ireturn, 1) := by decide +kernel
def w_X2_tiesHeard (x1 : Int32) (I : HI) (J : HJ) (Post : Int32 → Prop) : Prop :=
  w_X10_has (I 12 13) x1 (fun (r_1 : Bool) => ((r_1 = false → (vp_in x1 12 ∧ (Post (I 17 (Int32.toNatClampNeg x1))))) ∧ (r_1 = true → (Post 0))))
set_option maxHeartbeats 4000000 in
set_option maxRecDepth 20000 in
theorem we_X2_tiesHeard (g : kf_G) (hg : kf_g g) {x : kf_X} (hx : kf_ok g x RX2 cX2_tiesHeard 2 1 21) (x1 : Int32) (I : HI) (J : HJ) (Post : Int32 → Prop) (hret : ∀ (pc : Nat) (lv : List (Nat × Value)) (v : Int32), decode cX2_tiesHeard pc = .ok (.ireturn, 1) → Post v → kf_M g x 2 pc lv [.int v] I J) (h : w_X2_tiesHeard x1 I J Post) : kf_M g x 2 0 [(0, .ref (g.2.2.2 39)), (1, .int x1)] [] I J := by
  unfold w_X2_tiesHeard at h
  refine kf_aload_n hx dX2_tiesHeard_0 rfl 0 rfl ?_
  refine kf_getR (n := 12) hx sl_39_0 fl_RX2_15 dX2_tiesHeard_1 ?_
  refine kf_getI hx sl_12_13 fl_RX2_41 dX2_tiesHeard_4 ?_
  refine kf_iload_n hx dX2_tiesHeard_7 rfl 1 rfl ?_
  refine kf_callSbP (st := []) hx (m_X10_has g hg (I 12 13) x1 I J _ h) lk_RX2_44 km_X10_has rfl (by decide) rfl (Nat.le_of_ble_eq_true rfl) dX2_tiesHeard_8 (fun r_1 h => ?_)
  refine kf_ifB_eq hx 18 dX2_tiesHeard_11 (by decide) (fun c => ?_) (fun c => ?_)
  · replace h := h.1 c
    refine kf_aload_n hx dX2_tiesHeard_18 rfl 0 rfl ?_
    refine kf_getR (n := 12) hx sl_39_0 fl_RX2_15 dX2_tiesHeard_19 ?_
    refine kf_getR (n := 17) hx sl_12_4 fl_RX2_60 dX2_tiesHeard_22 ?_
    refine kf_iload_n hx dX2_tiesHeard_25 rfl 1 rfl ?_
    refine kf_iald hx ar_17 h.1 dX2_tiesHeard_26 ?_
    replace h := h.2
    exact hret _ _ (I 17 (Int32.toNatClampNeg x1))  dX2_tiesHeard_27 h
  · replace h := h.2 c
    refine kf_iconst (v := 0) hx dX2_tiesHeard_14 (by decide) ?_
    refine kf_goto hx 27 dX2_tiesHeard_15 (by decide) ?_
    exact hret _ _ 0  dX2_tiesHeard_27 h
set_option maxHeartbeats 4000000 in
set_option maxRecDepth 20000 in
theorem m_X2_tiesHeard (g : kf_G) (hg : kf_g g) (x1 : Int32) (I : HI) (J : HJ) (Post : Int32 → Prop) (h : w_X2_tiesHeard x1 I J Post) : kf_Mi g yX2_tiesHeard (kf_W yX2_tiesHeard cX2_tiesHeard 2 (Option.some Jvm.ClassFile.FieldType.int)) 1 21 [.ref (g.2.2.2 39), .int x1] I J (fun v I' J' => Post v ∧ I' = I ∧ J' = J) :=
  kf_enti hg (by decide) (Nat.le_of_ble_eq_true rfl) rfl (fun x hx hr => we_X2_tiesHeard g hg hx x1 I J Post (fun pc lv v hd hP => hr pc lv v I J hd ⟨hP, rfl, rfl⟩) h)
theorem dX2_walkedBack_0 : decode cX2_walkedBack 0 = .ok (.iconst 1, 1) := by decide +kernel
theorem dX2_walkedBack_1 : decode cX2_walkedBack 1 = .ok (.iload_n 1, 1) := by decide +kernel
theorem dX2_walkedBack_2 : decode cX2_walkedBack 2 = .ok (.ishl, 1) := by decide +kernel
theorem dX2_walkedBack_3 : decode cX2_walkedBack 3 = .ok (.istore_n 3, 1) := by decide +kernel
theorem dX2_walkedBack_4 : decode cX2_walkedBack 4 = .ok (.aload_n 0, 1) := by decide +kernel
theorem dX2_walkedBack_5 : decode cX2_walkedBack 5 = .ok (.iload_n 1, 1) := by decide +kernel
theorem dX2_walkedBack_6 : decode cX2_walkedBack 6 = .ok (.invokevirtual 54, 3) := by decide +kernel
theorem dX2_walkedBack_9 : decode cX2_walkedBack 9 = .ok (.iload_n 2, 1) := by decide +kernel
theorem dX2_walkedBack_10 : decode cX2_walkedBack 10 = .ok (.iand, 1) := by decide +kernel
theorem dX2_walkedBack_11 : decode cX2_walkedBack 11 = .ok (.istore 4, 2) := by decide +kernel
theorem dX2_walkedBack_13 : decode cX2_walkedBack 13 = .ok (.iconst 0, 1) := by decide +kernel
theorem dX2_walkedBack_14 : decode cX2_walkedBack 14 = .ok (.istore 5, 2) := by decide +kernel
theorem dX2_walkedBack_16 : decode cX2_walkedBack 16 = .ok (.iload 5, 2) := by decide +kernel
theorem dX2_walkedBack_18 : decode cX2_walkedBack 18 = .ok (.bipush 10, 2) := by decide +kernel
theorem dX2_walkedBack_20 : decode cX2_walkedBack 20 = .ok (.if_icmp .ge 71, 3) := by decide +kernel
theorem dX2_walkedBack_23 : decode cX2_walkedBack 23 = .ok (.iload 4, 2) := by decide +kernel
theorem dX2_walkedBack_25 : decode cX2_walkedBack 25 = .ok (.ifCond .eq 66, 3) := by decide +kernel
theorem dX2_walkedBack_28 : decode cX2_walkedBack 28 = .ok (.iload 4, 2) := by decide +kernel
theorem dX2_walkedBack_30 : decode cX2_walkedBack 30 = .ok (.invokestatic 33, 3) := by decide +kernel
theorem dX2_walkedBack_33 : decode cX2_walkedBack 33 = .ok (.istore 6, 2) := by decide +kernel
theorem dX2_walkedBack_35 : decode cX2_walkedBack 35 = .ok (.iload 4, 2) := by decide +kernel
theorem dX2_walkedBack_37 : decode cX2_walkedBack 37 = .ok (.iload 4, 2) := by decide +kernel
theorem dX2_walkedBack_39 : decode cX2_walkedBack 39 = .ok (.iconst 1, 1) := by decide +kernel
theorem dX2_walkedBack_40 : decode cX2_walkedBack 40 = .ok (.isub, 1) := by decide +kernel
theorem dX2_walkedBack_41 : decode cX2_walkedBack 41 = .ok (.iand, 1) := by decide +kernel
theorem dX2_walkedBack_42 : decode cX2_walkedBack 42 = .ok (.istore 4, 2) := by decide +kernel
theorem dX2_walkedBack_44 : decode cX2_walkedBack 44 = .ok (.aload_n 0, 1) := by decide +kernel
theorem dX2_walkedBack_45 : decode cX2_walkedBack 45 = .ok (.getfield 15, 3) := by decide +kernel
theorem dX2_walkedBack_48 : decode cX2_walkedBack 48 = .ok (.getfield 57, 3) := by decide +kernel
theorem dX2_walkedBack_51 : decode cX2_walkedBack 51 = .ok (.iload 6, 2) := by decide +kernel
theorem dX2_walkedBack_53 : decode cX2_walkedBack 53 = .ok (.iaload, 1) := by decide +kernel
theorem dX2_walkedBack_54 : decode cX2_walkedBack 54 = .ok (.istore 7, 2) := by decide +kernel
theorem dX2_walkedBack_56 : decode cX2_walkedBack 56 = .ok (.iload_n 3, 1) := by decide +kernel
theorem dX2_walkedBack_57 : decode cX2_walkedBack 57 = .ok (.iload 7, 2) := by decide +kernel
theorem dX2_walkedBack_59 : decode cX2_walkedBack 59 = .ok (.invokestatic 44, 3) := by decide +kernel
theorem dX2_walkedBack_62 : decode cX2_walkedBack 62 = .ok (.ifCond .ne 23, 3) := by decide +kernel
theorem dX2_walkedBack_65 : decode cX2_walkedBack 65 = .ok (.iload_n 3, 1) := by decide +kernel
theorem dX2_walkedBack_66 : decode cX2_walkedBack 66 = .ok (.iconst 1, 1) := by decide +kernel
theorem dX2_walkedBack_67 : decode cX2_walkedBack 67 = .ok (.iload 7, 2) := by decide +kernel
theorem dX2_walkedBack_69 : decode cX2_walkedBack 69 = .ok (.ishl, 1) := by decide +kernel
theorem dX2_walkedBack_70 : decode cX2_walkedBack 70 = .ok (.ior, 1) := by decide +kernel
theorem dX2_walkedBack_71 : decode cX2_walkedBack 71 = .ok (.istore_n 3, 1) := by decide +kernel
theorem dX2_walkedBack_72 : decode cX2_walkedBack 72 = .ok (.iload 4, 2) := by decide +kernel
theorem dX2_walkedBack_74 : decode cX2_walkedBack 74 = .ok (.aload_n 0, 1) := by decide +kernel
theorem dX2_walkedBack_75 : decode cX2_walkedBack 75 = .ok (.iload 7, 2) := by decide +kernel
theorem dX2_walkedBack_77 : decode cX2_walkedBack 77 = .ok (.invokevirtual 54, 3) := by decide +kernel
theorem dX2_walkedBack_80 : decode cX2_walkedBack 80 = .ok (.iload_n 2, 1) := by decide +kernel
theorem dX2_walkedBack_81 : decode cX2_walkedBack 81 = .ok (.iand, 1) := by decide +kernel
theorem dX2_walkedBack_82 : decode cX2_walkedBack 82 = .ok (.ior, 1) := by decide +kernel
theorem dX2_walkedBack_83 : decode cX2_walkedBack 83 = .ok (.istore 4, 2) := by decide +kernel
theorem dX2_walkedBack_85 : decode cX2_walkedBack 85 = .ok (.iinc 5 1, 3) := by decide +kernel
theorem dX2_walkedBack_88 : decode cX2_walkedBack 88 = .ok (.goto (-72), 3) := by decide +kernel
theorem dX2_walkedBack_91 : decode cX2_walkedBack 91 = .ok (.iload_n 3, 1) := by decide +kernel
theorem dX2_walkedBack_92 : decode cX2_walkedBack 92 = .ok (.ireturn, 1) := by decide +kernel
def wb_X2_walkedBack_16 (I : HI) (J : HJ) (x2 : Int32) (Post : Int32 → Prop) (E16 : Int32 → Prop) (K16 : (Int32 × Int32 × Int32) → Prop) (s : Int32 × Int32 × Int32) : Prop :=
  match s with
  | (x3, x4, x5) => (10 ≤ x5 → (E16 x3)) ∧ (¬ 10 ≤ x5 → ((x4 = 0 → (E16 x3)) ∧ (¬ x4 = 0 → (w_J6_numberOfTrailingZeros_0f7a4 x4 (fun (r_2 : Int32) => (vp_in r_2 10 ∧ (w_X10_has x3 (I 19 (Int32.toNatClampNeg r_2)) (fun (r_3 : Bool) => ((r_3 = true → (K16 (x3, (x4 &&& (x4 - 1)), (x5 + 1)))) ∧ (r_3 = false → (∀ z_4 : Int32, z_4 = (x3 ||| (1 <<< ((I 19 (Int32.toNatClampNeg r_2)) &&& 31))) → (w_X2_tiesHeard (I 19 (Int32.toNatClampNeg r_2)) I J (fun (r_5 : Int32) => (K16 (z_4, ((x4 &&& (x4 - 1)) ||| (r_5 &&& x2)), (x5 + 1))))))))))))))))
set_option maxHeartbeats 4000000 in
set_option maxRecDepth 20000 in
theorem ws_X2_walkedBack_16 (g : kf_G) (hg : kf_g g) {x : kf_X} (hx : kf_ok g x RX2 cX2_walkedBack 8 2 42) (I : HI) (J : HJ) (x2 : Int32) (Post : Int32 → Prop) (hret : ∀ (pc : Nat) (lv : List (Nat × Value)) (v : Int32), decode cX2_walkedBack pc = .ok (.ireturn, 1) → Post v → kf_M g x 8 pc lv [.int v] I J) (E16 : Int32 → Prop) (hE16 : ∀ (y3 : Int32), E16 y3 → kf_M g x 8 91 [(3, .int y3)] [] I J) (K16 : (Int32 × Int32 × Int32) → Prop) (hK16 : ∀ (y3 : Int32) (y4 : Int32) (y5 : Int32), K16 (y3, y4, y5) → kf_M g x 8 16 [(0, .ref (g.2.2.2 39)), (2, .int x2), (3, .int y3), (4, .int y4), (5, .int y5)] [] I J) (x3 : Int32) (x4 : Int32) (x5 : Int32) (h : wb_X2_walkedBack_16 I J x2 Post E16 K16 (x3, x4, x5)) : kf_M g x 8 16 [(0, .ref (g.2.2.2 39)), (2, .int x2), (3, .int x3), (4, .int x4), (5, .int x5)] [] I J := by
  unfold wb_X2_walkedBack_16 at h
  refine kf_iload hx dX2_walkedBack_16 4 rfl ?_
  refine kf_bipush (v := 10) hx dX2_walkedBack_18 (by decide) ?_
  refine kf_icmp_ge hx 91 dX2_walkedBack_20 (by decide) (fun c => ?_) (fun c => ?_)
  · replace h := h.1 c
    refine kf_sub [2] rfl ?_
    exact hE16 _ h
  · replace h := h.2 c
    refine kf_iload hx dX2_walkedBack_23 3 rfl ?_
    refine kf_if_eq hx 91 dX2_walkedBack_25 (by decide) (fun c => ?_) (fun c => ?_)
    · replace h := h.1 c
      refine kf_sub [2] rfl ?_
      exact hE16 _ h
    · replace h := h.2 c
      refine kf_iload hx dX2_walkedBack_28 3 rfl ?_
      refine kf_callSiP (st := []) hx (m_J6_numberOfTrailingZeros_0f7a4 g hg x4 I J _ h) lk_RX2_33 km_J6_numberOfTrailingZeros_0f7a4 rfl (by decide) rfl (Nat.le_of_ble_eq_true rfl) dX2_walkedBack_30 (fun r_2 h => ?_)
      refine kf_istore (lv' := [(6, .int r_2), (0, .ref (g.2.2.2 39)), (2, .int x2), (3, .int x3), (4, .int x4), (5, .int x5)]) hx dX2_walkedBack_33 (by decide) rfl ?_
      refine kf_iload hx dX2_walkedBack_35 4 rfl ?_
      refine kf_iload hx dX2_walkedBack_37 4 rfl ?_
      refine kf_iconst (v := 1) hx dX2_walkedBack_39 (by decide) ?_
      refine kf_isub hx dX2_walkedBack_40 ?_
      refine kf_iand hx dX2_walkedBack_41 ?_
      refine kf_istore (lv' := [(4, .int (x4 &&& (x4 - 1))), (6, .int r_2), (0, .ref (g.2.2.2 39)), (2, .int x2), (3, .int x3), (5, .int x5)]) hx dX2_walkedBack_42 (by decide) rfl ?_
      refine kf_aload_n hx dX2_walkedBack_44 rfl 2 rfl ?_
      refine kf_getR (n := 12) hx sl_39_0 fl_RX2_15 dX2_walkedBack_45 ?_
      refine kf_getR (n := 19) hx sl_12_6 fl_RX2_57 dX2_walkedBack_48 ?_
      refine kf_iload hx dX2_walkedBack_51 1 rfl ?_
      refine kf_iald hx ar_19 h.1 dX2_walkedBack_53 ?_
      replace h := h.2
      refine kf_istore (lv' := [(7, .int (I 19 (Int32.toNatClampNeg r_2))), (4, .int (x4 &&& (x4 - 1))), (6, .int r_2), (0, .ref (g.2.2.2 39)), (2, .int x2), (3, .int x3), (5, .int x5)]) hx dX2_walkedBack_54 (by decide) rfl ?_
      refine kf_iload_n hx dX2_walkedBack_56 rfl 5 rfl ?_
      refine kf_iload hx dX2_walkedBack_57 0 rfl ?_
      refine kf_callSbP (st := []) hx (m_X10_has g hg x3 (I 19 (Int32.toNatClampNeg r_2)) I J _ h) lk_RX2_44 km_X10_has rfl (by decide) rfl (Nat.le_of_ble_eq_true rfl) dX2_walkedBack_59 (fun r_3 h => ?_)
      refine kf_ifB_ne hx 85 dX2_walkedBack_62 (by decide) (fun c => ?_) (fun c => ?_)
      · replace h := h.1 c
        refine kf_iinc (w := (x5 + 1)) (lv' := [(5, .int (x5 + 1)), (7, .int (I 19 (Int32.toNatClampNeg r_2))), (4, .int (x4 &&& (x4 - 1))), (6, .int r_2), (0, .ref (g.2.2.2 39)), (2, .int x2), (3, .int x3)]) hx dX2_walkedBack_85 6 rfl rfl (by decide) rfl ?_
        refine kf_goto hx 16 dX2_walkedBack_88 (by decide) ?_
        refine kf_sub [4, 5, 6, 2, 0] rfl ?_
        exact hK16 _ _ _ h
      · replace h := h.2 c
        refine kf_iload_n hx dX2_walkedBack_65 rfl 5 rfl ?_
        refine kf_iconst (v := 1) hx dX2_walkedBack_66 (by decide) ?_
        refine kf_iload hx dX2_walkedBack_67 0 rfl ?_
        refine kf_ishl hx dX2_walkedBack_69 ?_
        refine kf_ior hx dX2_walkedBack_70 ?_
        refine kf_topi (fun z_4 ez_4 => ?_)
        replace h := h z_4 ez_4
        refine kf_istore_n (lv' := [(3, .int z_4), (7, .int (I 19 (Int32.toNatClampNeg r_2))), (4, .int (x4 &&& (x4 - 1))), (6, .int r_2), (0, .ref (g.2.2.2 39)), (2, .int x2), (5, .int x5)]) hx dX2_walkedBack_71 rfl (by decide) rfl ?_
        refine kf_iload hx dX2_walkedBack_72 2 rfl ?_
        refine kf_aload_n hx dX2_walkedBack_74 rfl 4 rfl ?_
        refine kf_iload hx dX2_walkedBack_75 1 rfl ?_
        refine kf_callViP (st := [.int (x4 &&& (x4 - 1))]) hx (m_X2_tiesHeard g hg (I 19 (Int32.toNatClampNeg r_2)) I J _ h) lk_RX2_54 km_X2_tiesHeard ob_39 rfl (by decide) rfl (Nat.le_of_ble_eq_true rfl) dX2_walkedBack_77 (fun r_5 h => ?_)
        refine kf_iload_n hx dX2_walkedBack_80 rfl 5 rfl ?_
        refine kf_iand hx dX2_walkedBack_81 ?_
        refine kf_ior hx dX2_walkedBack_82 ?_
        refine kf_istore (lv' := [(4, .int ((x4 &&& (x4 - 1)) ||| (r_5 &&& x2))), (3, .int z_4), (7, .int (I 19 (Int32.toNatClampNeg r_2))), (6, .int r_2), (0, .ref (g.2.2.2 39)), (2, .int x2), (5, .int x5)]) hx dX2_walkedBack_83 (by decide) rfl ?_
        refine kf_iinc (w := (x5 + 1)) (lv' := [(5, .int (x5 + 1)), (4, .int ((x4 &&& (x4 - 1)) ||| (r_5 &&& x2))), (3, .int z_4), (7, .int (I 19 (Int32.toNatClampNeg r_2))), (6, .int r_2), (0, .ref (g.2.2.2 39)), (2, .int x2)]) hx dX2_walkedBack_85 6 rfl rfl (by decide) rfl ?_
        refine kf_goto hx 16 dX2_walkedBack_88 (by decide) ?_
        refine kf_sub [5, 6, 2, 1, 0] rfl ?_
        exact hK16 _ _ _ h
theorem wl_X2_walkedBack_16 (g : kf_G) (hg : kf_g g) {x : kf_X} (hx : kf_ok g x RX2 cX2_walkedBack 8 2 42) (I : HI) (J : HJ) (x2 : Int32) (Post : Int32 → Prop) (hret : ∀ (pc : Nat) (lv : List (Nat × Value)) (v : Int32), decode cX2_walkedBack pc = .ok (.ireturn, 1) → Post v → kf_M g x 8 pc lv [.int v] I J) (E16 : Int32 → Prop) (hE16 : ∀ (y3 : Int32), E16 y3 → kf_M g x 8 91 [(3, .int y3)] [] I J) : ∀ (n : Nat) (x3 : Int32) (x4 : Int32) (x5 : Int32), lp (wb_X2_walkedBack_16 I J x2 Post E16) n (x3, x4, x5) → kf_M g x 8 16 [(0, .ref (g.2.2.2 39)), (2, .int x2), (3, .int x3), (4, .int x4), (5, .int x5)] [] I J := by
  intro n
  induction n with
  | zero => intro x3 x4 x5 h; exact h.elim
  | succ n ih => intro x3 x4 x5 h; exact ws_X2_walkedBack_16 g hg hx I J x2 Post hret E16 hE16 (lp (wb_X2_walkedBack_16 I J x2 Post E16) n) ih x3 x4 x5 h
def w_X2_walkedBack (x1 : Int32) (x2 : Int32) (I : HI) (J : HJ) (Post : Int32 → Prop) : Prop :=
  w_X2_tiesHeard x1 I J (fun (r_1 : Int32) => (∃ n, lp (wb_X2_walkedBack_16 I J x2 Post (fun (x3_6 : Int32) => Post x3_6)) n ((1 <<< (x1 &&& 31)), (r_1 &&& x2), 0)))
set_option maxHeartbeats 4000000 in
set_option maxRecDepth 20000 in
theorem we_X2_walkedBack (g : kf_G) (hg : kf_g g) {x : kf_X} (hx : kf_ok g x RX2 cX2_walkedBack 8 2 42) (x1 : Int32) (x2 : Int32) (I : HI) (J : HJ) (Post : Int32 → Prop) (hret : ∀ (pc : Nat) (lv : List (Nat × Value)) (v : Int32), decode cX2_walkedBack pc = .ok (.ireturn, 1) → Post v → kf_M g x 8 pc lv [.int v] I J) (h : w_X2_walkedBack x1 x2 I J Post) : kf_M g x 8 0 [(0, .ref (g.2.2.2 39)), (1, .int x1), (2, .int x2)] [] I J := by
  unfold w_X2_walkedBack at h
  refine kf_iconst (v := 1) hx dX2_walkedBack_0 (by decide) ?_
  refine kf_iload_n hx dX2_walkedBack_1 rfl 1 rfl ?_
  refine kf_ishl hx dX2_walkedBack_2 ?_
  refine kf_istore_n (lv' := [(3, .int (1 <<< (x1 &&& 31))), (0, .ref (g.2.2.2 39)), (1, .int x1), (2, .int x2)]) hx dX2_walkedBack_3 rfl (by decide) rfl ?_
  refine kf_aload_n hx dX2_walkedBack_4 rfl 1 rfl ?_
  refine kf_iload_n hx dX2_walkedBack_5 rfl 2 rfl ?_
  refine kf_callViP (st := []) hx (m_X2_tiesHeard g hg x1 I J _ h) lk_RX2_54 km_X2_tiesHeard ob_39 rfl (by decide) rfl (Nat.le_of_ble_eq_true rfl) dX2_walkedBack_6 (fun r_1 h => ?_)
  refine kf_iload_n hx dX2_walkedBack_9 rfl 3 rfl ?_
  refine kf_iand hx dX2_walkedBack_10 ?_
  refine kf_istore (lv' := [(4, .int (r_1 &&& x2)), (3, .int (1 <<< (x1 &&& 31))), (0, .ref (g.2.2.2 39)), (1, .int x1), (2, .int x2)]) hx dX2_walkedBack_11 (by decide) rfl ?_
  refine kf_iconst (v := 0) hx dX2_walkedBack_13 (by decide) ?_
  refine kf_istore (lv' := [(5, .int 0), (4, .int (r_1 &&& x2)), (3, .int (1 <<< (x1 &&& 31))), (0, .ref (g.2.2.2 39)), (1, .int x1), (2, .int x2)]) hx dX2_walkedBack_14 (by decide) rfl ?_
  obtain ⟨n, h⟩ := h
  refine kf_sub [3, 5, 2, 1, 0] rfl ?_
  refine wl_X2_walkedBack_16 g hg hx I J x2 _ hret _ (fun x3_6 h => ?_) n _ _ _ h
  refine kf_iload_n hx dX2_walkedBack_91 rfl 0 rfl ?_
  exact hret _ _ x3_6  dX2_walkedBack_92 h
set_option maxHeartbeats 4000000 in
set_option maxRecDepth 20000 in
theorem m_X2_walkedBack (g : kf_G) (hg : kf_g g) (x1 : Int32) (x2 : Int32) (I : HI) (J : HJ) (Post : Int32 → Prop) (h : w_X2_walkedBack x1 x2 I J Post) : kf_Mi g yX2_walkedBack (kf_W yX2_walkedBack cX2_walkedBack 8 (Option.some Jvm.ClassFile.FieldType.int)) 2 42 [.ref (g.2.2.2 39), .int x1, .int x2] I J (fun v I' J' => Post v ∧ I' = I ∧ J' = J) :=
  kf_enti hg (by decide) (Nat.le_of_ble_eq_true rfl) rfl (fun x hx hr => we_X2_walkedBack g hg hx x1 x2 I J Post (fun pc lv v hd hP => hr pc lv v I J hd ⟨hP, rfl, rfl⟩) h)
theorem dX2_drawn_0 : decode cX2_drawn 0 = .ok (.iconst 0, 1) := by decide +kernel
theorem dX2_drawn_1 : decode cX2_drawn 1 = .ok (.istore_n 2, 1) := by decide +kernel
theorem dX2_drawn_2 : decode cX2_drawn 2 = .ok (.iconst 0, 1) := by decide +kernel
theorem dX2_drawn_3 : decode cX2_drawn 3 = .ok (.istore_n 3, 1) := by decide +kernel
theorem dX2_drawn_4 : decode cX2_drawn 4 = .ok (.iload_n 3, 1) := by decide +kernel
theorem dX2_drawn_5 : decode cX2_drawn 5 = .ok (.aload_n 0, 1) := by decide +kernel
theorem dX2_drawn_6 : decode cX2_drawn 6 = .ok (.getfield 15, 3) := by decide +kernel
theorem dX2_drawn_9 : decode cX2_drawn 9 = .ok (.getfield 19, 3) := by decide +kernel
theorem dX2_drawn_12 : decode cX2_drawn 12 = .ok (.if_icmp .ge 62, 3) := by decide +kernel
theorem dX2_drawn_15 : decode cX2_drawn 15 = .ok (.iload_n 1, 1) := by decide +kernel
theorem dX2_drawn_16 : decode cX2_drawn 16 = .ok (.i2l, 1) := by decide +kernel
theorem dX2_drawn_17 : decode cX2_drawn 17 = .ok (.ldc2_w 76, 3) := by decide +kernel
theorem dX2_drawn_20 : decode cX2_drawn 20 = .ok (.lmul, 1) := by decide +kernel
theorem dX2_drawn_21 : decode cX2_drawn 21 = .ok (.iload_n 3, 1) := by decide +kernel
theorem dX2_drawn_22 : decode cX2_drawn 22 = .ok (.i2l, 1) := by decide +kernel
theorem dX2_drawn_23 : decode cX2_drawn 23 = .ok (.ldc2_w 78, 3) := by decide +kernel
theorem dX2_drawn_26 : decode cX2_drawn 26 = .ok (.lmul, 1) := by decide +kernel
theorem dX2_drawn_27 : decode cX2_drawn 27 = .ok (.ladd, 1) := by decide +kernel
theorem dX2_drawn_28 : decode cX2_drawn 28 = .ok (.ldc2_w 80, 3) := by decide +kernel
theorem dX2_drawn_31 : decode cX2_drawn 31 = .ok (.ladd, 1) := by decide +kernel
theorem dX2_drawn_32 : decode cX2_drawn 32 = .ok (.ldc2_w 82, 3) := by decide +kernel
theorem dX2_drawn_35 : decode cX2_drawn 35 = .ok (.lmul, 1) := by decide +kernel
theorem dX2_drawn_36 : decode cX2_drawn 36 = .ok (.ldc2_w 84, 3) := by decide +kernel
theorem dX2_drawn_39 : decode cX2_drawn 39 = .ok (.ldiv, 1) := by decide +kernel
theorem dX2_drawn_40 : decode cX2_drawn 40 = .ok (.ldc2_w 71, 3) := by decide +kernel
theorem dX2_drawn_43 : decode cX2_drawn 43 = .ok (.lrem, 1) := by decide +kernel
theorem dX2_drawn_44 : decode cX2_drawn 44 = .ok (.lstore 4, 2) := by decide +kernel
theorem dX2_drawn_46 : decode cX2_drawn 46 = .ok (.lload 4, 2) := by decide +kernel
theorem dX2_drawn_48 : decode cX2_drawn 48 = .ok (.aload_n 0, 1) := by decide +kernel
theorem dX2_drawn_49 : decode cX2_drawn 49 = .ok (.getfield 15, 3) := by decide +kernel
theorem dX2_drawn_52 : decode cX2_drawn 52 = .ok (.getfield 25, 3) := by decide +kernel
theorem dX2_drawn_55 : decode cX2_drawn 55 = .ok (.iload_n 3, 1) := by decide +kernel
theorem dX2_drawn_56 : decode cX2_drawn 56 = .ok (.iaload, 1) := by decide +kernel
theorem dX2_drawn_57 : decode cX2_drawn 57 = .ok (.i2l, 1) := by decide +kernel
theorem dX2_drawn_58 : decode cX2_drawn 58 = .ok (.lcmp, 1) := by decide +kernel
theorem dX2_drawn_59 : decode cX2_drawn 59 = .ok (.ifCond .ge 9, 3) := by decide +kernel
theorem dX2_drawn_62 : decode cX2_drawn 62 = .ok (.iload_n 2, 1) := by decide +kernel
theorem dX2_drawn_63 : decode cX2_drawn 63 = .ok (.iconst 1, 1) := by decide +kernel
theorem dX2_drawn_64 : decode cX2_drawn 64 = .ok (.iload_n 3, 1) := by decide +kernel
theorem dX2_drawn_65 : decode cX2_drawn 65 = .ok (.ishl, 1) := by decide +kernel
theorem dX2_drawn_66 : decode cX2_drawn 66 = .ok (.ior, 1) := by decide +kernel
theorem dX2_drawn_67 : decode cX2_drawn 67 = .ok (.istore_n 2, 1) := by decide +kernel
theorem dX2_drawn_68 : decode cX2_drawn 68 = .ok (.iinc 3 1, 3) := by decide +kernel
theorem dX2_drawn_71 : decode cX2_drawn 71 = .ok (.goto (-67), 3) := by decide +kernel
theorem dX2_drawn_74 : decode cX2_drawn 74 = .ok (.iload_n 2, 1) := by decide +kernel
theorem dX2_drawn_75 : decode cX2_drawn 75 = .ok (.ireturn, 1) := by decide +kernel
def wb_X2_drawn_4 (I : HI) (J : HJ) (x1 : Int32) (Post : Int32 → Prop) (E4 : Int32 → Prop) (K4 : (Int32 × Int32) → Prop) (s : Int32 × Int32) : Prop :=
  match s with
  | (x2, x3) => ((I 12 12) ≤ x3 → (E4 x2)) ∧ (¬ (I 12 12) ≤ x3 → (∀ z_1 : Int64, z_1 = (((((((Int32.toInt64 x1) * 40503) + ((Int32.toInt64 x3) * 9973)) + 1299709) * 69069) / 2048) - (((((((Int32.toInt64 x1) * 40503) + ((Int32.toInt64 x3) * 9973)) + 1299709) * 69069) / 2048) / 16) * 16) → (vp_in x3 10 ∧ (((Int32.toInt64 (I 21 (Int32.toNatClampNeg x3))) ≤ z_1 → (K4 (x2, (x3 + 1)))) ∧ (¬ (Int32.toInt64 (I 21 (Int32.toNatClampNeg x3))) ≤ z_1 → (K4 ((x2 ||| (1 <<< (x3 &&& 31))), (x3 + 1))))))))
set_option maxHeartbeats 4000000 in
set_option maxRecDepth 20000 in
theorem ws_X2_drawn_4 (g : kf_G) (hg : kf_g g) {x : kf_X} (hx : kf_ok g x RX2 cX2_drawn 6 0 0) (I : HI) (J : HJ) (x1 : Int32) (Post : Int32 → Prop) (hret : ∀ (pc : Nat) (lv : List (Nat × Value)) (v : Int32), decode cX2_drawn pc = .ok (.ireturn, 1) → Post v → kf_M g x 6 pc lv [.int v] I J) (E4 : Int32 → Prop) (hE4 : ∀ (y2 : Int32), E4 y2 → kf_M g x 6 74 [(2, .int y2)] [] I J) (K4 : (Int32 × Int32) → Prop) (hK4 : ∀ (y2 : Int32) (y3 : Int32), K4 (y2, y3) → kf_M g x 6 4 [(0, .ref (g.2.2.2 39)), (1, .int x1), (2, .int y2), (3, .int y3)] [] I J) (x2 : Int32) (x3 : Int32) (h : wb_X2_drawn_4 I J x1 Post E4 K4 (x2, x3)) : kf_M g x 6 4 [(0, .ref (g.2.2.2 39)), (1, .int x1), (2, .int x2), (3, .int x3)] [] I J := by
  unfold wb_X2_drawn_4 at h
  refine kf_iload_n hx dX2_drawn_4 rfl 3 rfl ?_
  refine kf_aload_n hx dX2_drawn_5 rfl 0 rfl ?_
  refine kf_getR (n := 12) hx sl_39_0 fl_RX2_15 dX2_drawn_6 ?_
  refine kf_getI hx sl_12_12 fl_RX2_19 dX2_drawn_9 ?_
  refine kf_icmp_ge hx 74 dX2_drawn_12 (by decide) (fun c => ?_) (fun c => ?_)
  · replace h := h.1 c
    refine kf_sub [2] rfl ?_
    exact hE4 _ h
  · replace h := h.2 c
    refine kf_iload_n hx dX2_drawn_15 rfl 1 rfl ?_
    refine kf_i2l hx dX2_drawn_16 ?_
    refine kf_ldc2 hx ko_RX2_76 dX2_drawn_17 ?_
    refine kf_lmul hx dX2_drawn_20 ?_
    refine kf_iload_n hx dX2_drawn_21 rfl 3 rfl ?_
    refine kf_i2l hx dX2_drawn_22 ?_
    refine kf_ldc2 hx ko_RX2_78 dX2_drawn_23 ?_
    refine kf_lmul hx dX2_drawn_26 ?_
    refine kf_ladd hx dX2_drawn_27 ?_
    refine kf_ldc2 hx ko_RX2_80 dX2_drawn_28 ?_
    refine kf_ladd hx dX2_drawn_31 ?_
    refine kf_ldc2 hx ko_RX2_82 dX2_drawn_32 ?_
    refine kf_lmul hx dX2_drawn_35 ?_
    refine kf_ldc2 hx ko_RX2_84 dX2_drawn_36 ?_
    refine kf_ldiv hx dX2_drawn_39 (by decide) ?_
    refine kf_ldc2 hx ko_RX2_71 dX2_drawn_40 ?_
    refine kf_lrem hx dX2_drawn_43 (by decide) ?_
    refine kf_topl (fun z_1 ez_1 => ?_)
    replace h := h z_1 ez_1
    refine kf_lstore (lv' := [(4, .long z_1), (0, .ref (g.2.2.2 39)), (1, .int x1), (2, .int x2), (3, .int x3)]) hx dX2_drawn_44 (by decide) rfl ?_
    refine kf_lload hx dX2_drawn_46 0 rfl ?_
    refine kf_aload_n hx dX2_drawn_48 rfl 1 rfl ?_
    refine kf_getR (n := 12) hx sl_39_0 fl_RX2_15 dX2_drawn_49 ?_
    refine kf_getR (n := 21) hx sl_12_8 fl_RX2_25 dX2_drawn_52 ?_
    refine kf_iload_n hx dX2_drawn_55 rfl 4 rfl ?_
    refine kf_iald hx ar_21 h.1 dX2_drawn_56 ?_
    replace h := h.2
    refine kf_i2l hx dX2_drawn_57 ?_
    refine kf_l_ge hx 68 dX2_drawn_58 dX2_drawn_59 (by decide) (fun c => ?_) (fun c => ?_)
    · replace h := h.1 c
      refine kf_iinc (w := (x3 + 1)) (lv' := [(3, .int (x3 + 1)), (4, .long z_1), (0, .ref (g.2.2.2 39)), (1, .int x1), (2, .int x2)]) hx dX2_drawn_68 4 rfl rfl (by decide) rfl ?_
      refine kf_goto hx 4 dX2_drawn_71 (by decide) ?_
      refine kf_sub [2, 3, 4, 0] rfl ?_
      exact hK4 _ _ h
    · replace h := h.2 c
      refine kf_iload_n hx dX2_drawn_62 rfl 3 rfl ?_
      refine kf_iconst (v := 1) hx dX2_drawn_63 (by decide) ?_
      refine kf_iload_n hx dX2_drawn_64 rfl 4 rfl ?_
      refine kf_ishl hx dX2_drawn_65 ?_
      refine kf_ior hx dX2_drawn_66 ?_
      refine kf_istore_n (lv' := [(2, .int (x2 ||| (1 <<< (x3 &&& 31)))), (4, .long z_1), (0, .ref (g.2.2.2 39)), (1, .int x1), (3, .int x3)]) hx dX2_drawn_67 rfl (by decide) rfl ?_
      refine kf_iinc (w := (x3 + 1)) (lv' := [(3, .int (x3 + 1)), (2, .int (x2 ||| (1 <<< (x3 &&& 31)))), (4, .long z_1), (0, .ref (g.2.2.2 39)), (1, .int x1)]) hx dX2_drawn_68 4 rfl rfl (by decide) rfl ?_
      refine kf_goto hx 4 dX2_drawn_71 (by decide) ?_
      refine kf_sub [3, 4, 1, 0] rfl ?_
      exact hK4 _ _ h
theorem wl_X2_drawn_4 (g : kf_G) (hg : kf_g g) {x : kf_X} (hx : kf_ok g x RX2 cX2_drawn 6 0 0) (I : HI) (J : HJ) (x1 : Int32) (Post : Int32 → Prop) (hret : ∀ (pc : Nat) (lv : List (Nat × Value)) (v : Int32), decode cX2_drawn pc = .ok (.ireturn, 1) → Post v → kf_M g x 6 pc lv [.int v] I J) (E4 : Int32 → Prop) (hE4 : ∀ (y2 : Int32), E4 y2 → kf_M g x 6 74 [(2, .int y2)] [] I J) : ∀ (n : Nat) (x2 : Int32) (x3 : Int32), lp (wb_X2_drawn_4 I J x1 Post E4) n (x2, x3) → kf_M g x 6 4 [(0, .ref (g.2.2.2 39)), (1, .int x1), (2, .int x2), (3, .int x3)] [] I J := by
  intro n
  induction n with
  | zero => intro x2 x3 h; exact h.elim
  | succ n ih => intro x2 x3 h; exact ws_X2_drawn_4 g hg hx I J x1 Post hret E4 hE4 (lp (wb_X2_drawn_4 I J x1 Post E4) n) ih x2 x3 h
def w_X2_drawn (x1 : Int32) (I : HI) (J : HJ) (Post : Int32 → Prop) : Prop :=
  ∃ n, lp (wb_X2_drawn_4 I J x1 Post (fun (x2_2 : Int32) => Post x2_2)) n (0, 0)
set_option maxHeartbeats 4000000 in
set_option maxRecDepth 20000 in
theorem we_X2_drawn (g : kf_G) (hg : kf_g g) {x : kf_X} (hx : kf_ok g x RX2 cX2_drawn 6 0 0) (x1 : Int32) (I : HI) (J : HJ) (Post : Int32 → Prop) (hret : ∀ (pc : Nat) (lv : List (Nat × Value)) (v : Int32), decode cX2_drawn pc = .ok (.ireturn, 1) → Post v → kf_M g x 6 pc lv [.int v] I J) (h : w_X2_drawn x1 I J Post) : kf_M g x 6 0 [(0, .ref (g.2.2.2 39)), (1, .int x1)] [] I J := by
  unfold w_X2_drawn at h
  refine kf_iconst (v := 0) hx dX2_drawn_0 (by decide) ?_
  refine kf_istore_n (lv' := [(2, .int 0), (0, .ref (g.2.2.2 39)), (1, .int x1)]) hx dX2_drawn_1 rfl (by decide) rfl ?_
  refine kf_iconst (v := 0) hx dX2_drawn_2 (by decide) ?_
  refine kf_istore_n (lv' := [(3, .int 0), (2, .int 0), (0, .ref (g.2.2.2 39)), (1, .int x1)]) hx dX2_drawn_3 rfl (by decide) rfl ?_
  obtain ⟨n, h⟩ := h
  refine kf_sub [2, 3, 1, 0] rfl ?_
  refine wl_X2_drawn_4 g hg hx I J x1 _ hret _ (fun x2_2 h => ?_) n _ _ h
  refine kf_iload_n hx dX2_drawn_74 rfl 0 rfl ?_
  exact hret _ _ x2_2  dX2_drawn_75 h
set_option maxHeartbeats 4000000 in
set_option maxRecDepth 20000 in
theorem m_X2_drawn (g : kf_G) (hg : kf_g g) (x1 : Int32) (I : HI) (J : HJ) (Post : Int32 → Prop) (h : w_X2_drawn x1 I J Post) : kf_Mi g yX2_drawn (kf_W yX2_drawn cX2_drawn 6 (Option.some Jvm.ClassFile.FieldType.int)) 0 0 [.ref (g.2.2.2 39), .int x1] I J (fun v I' J' => Post v ∧ I' = I ∧ J' = J) :=
  kf_enti hg (by decide) (Nat.le_of_ble_eq_true rfl) rfl (fun x hx hr => we_X2_drawn g hg hx x1 I J Post (fun pc lv v hd hP => hr pc lv v I J hd ⟨hP, rfl, rfl⟩) h)
theorem dX2_metered_0 : decode cX2_metered 0 = .ok (.iconst 0, 1) := by decide +kernel
theorem dX2_metered_1 : decode cX2_metered 1 = .ok (.istore_n 3, 1) := by decide +kernel
theorem dX2_metered_2 : decode cX2_metered 2 = .ok (.iconst 0, 1) := by decide +kernel
theorem dX2_metered_3 : decode cX2_metered 3 = .ok (.istore 4, 2) := by decide +kernel
theorem dX2_metered_5 : decode cX2_metered 5 = .ok (.iload 4, 2) := by decide +kernel
theorem dX2_metered_7 : decode cX2_metered 7 = .ok (.iload_n 2, 1) := by decide +kernel
theorem dX2_metered_8 : decode cX2_metered 8 = .ok (.if_icmp .ge 47, 3) := by decide +kernel
theorem dX2_metered_11 : decode cX2_metered 11 = .ok (.aload_n 0, 1) := by decide +kernel
theorem dX2_metered_12 : decode cX2_metered 12 = .ok (.getfield 15, 3) := by decide +kernel
theorem dX2_metered_15 : decode cX2_metered 15 = .ok (.getfield 86, 3) := by decide +kernel
theorem dX2_metered_18 : decode cX2_metered 18 = .ok (.ifCond .le 37, 3) := by decide +kernel
theorem dX2_metered_21 : decode cX2_metered 21 = .ok (.aload_n 0, 1) := by decide +kernel
theorem dX2_metered_22 : decode cX2_metered 22 = .ok (.iload 4, 2) := by decide +kernel
theorem dX2_metered_24 : decode cX2_metered 24 = .ok (.aload_n 0, 1) := by decide +kernel
theorem dX2_metered_25 : decode cX2_metered 25 = .ok (.getfield 15, 3) := by decide +kernel
theorem dX2_metered_28 : decode cX2_metered 28 = .ok (.getfield 86, 3) := by decide +kernel
theorem dX2_metered_31 : decode cX2_metered 31 = .ok (.irem, 1) := by decide +kernel
theorem dX2_metered_32 : decode cX2_metered 32 = .ok (.aload_n 0, 1) := by decide +kernel
theorem dX2_metered_33 : decode cX2_metered 33 = .ok (.iload 4, 2) := by decide +kernel
theorem dX2_metered_35 : decode cX2_metered 35 = .ok (.invokevirtual 89, 3) := by decide +kernel
theorem dX2_metered_38 : decode cX2_metered 38 = .ok (.invokevirtual 92, 3) := by decide +kernel
theorem dX2_metered_41 : decode cX2_metered 41 = .ok (.iload_n 1, 1) := by decide +kernel
theorem dX2_metered_42 : decode cX2_metered 42 = .ok (.iand, 1) := by decide +kernel
theorem dX2_metered_43 : decode cX2_metered 43 = .ok (.ifCond .eq 6, 3) := by decide +kernel
theorem dX2_metered_46 : decode cX2_metered 46 = .ok (.iinc 3 1, 3) := by decide +kernel
theorem dX2_metered_49 : decode cX2_metered 49 = .ok (.iinc 4 1, 3) := by decide +kernel
theorem dX2_metered_52 : decode cX2_metered 52 = .ok (.goto (-47), 3) := by decide +kernel
theorem dX2_metered_55 : decode cX2_metered 55 = .ok (.iload_n 3, 1) := by decide +kernel
theorem dX2_metered_56 : decode cX2_metered 56 = .ok (.ireturn, 1) := by decide +kernel
def wb_X2_metered_5 (I : HI) (J : HJ) (x1 : Int32) (x2 : Int32) (Post : Int32 → Prop) (E5 : Int32 → Prop) (K5 : (Int32 × Int32) → Prop) (s : Int32 × Int32) : Prop :=
  match s with
  | (x3, x4) => (x2 ≤ x4 → (E5 x3)) ∧ (¬ x2 ≤ x4 → (((I 12 11) ≤ 0 → (E5 x3)) ∧ (¬ (I 12 11) ≤ 0 → (¬ (I 12 11) = 0 ∧ (w_X2_drawn x4 I J (fun (r_1 : Int32) => (w_X2_walkedBack (x4 - (x4 / (I 12 11)) * (I 12 11)) r_1 I J (fun (r_2 : Int32) => (((r_2 &&& x1) = 0 → (K5 (x3, (x4 + 1)))) ∧ (¬ (r_2 &&& x1) = 0 → (K5 ((x3 + 1), (x4 + 1)))))))))))))
set_option maxHeartbeats 4000000 in
set_option maxRecDepth 20000 in
theorem ws_X2_metered_5 (g : kf_G) (hg : kf_g g) {x : kf_X} (hx : kf_ok g x RX2 cX2_metered 5 3 69) (I : HI) (J : HJ) (x1 : Int32) (x2 : Int32) (Post : Int32 → Prop) (hret : ∀ (pc : Nat) (lv : List (Nat × Value)) (v : Int32), decode cX2_metered pc = .ok (.ireturn, 1) → Post v → kf_M g x 5 pc lv [.int v] I J) (E5 : Int32 → Prop) (hE5 : ∀ (y3 : Int32), E5 y3 → kf_M g x 5 55 [(3, .int y3)] [] I J) (K5 : (Int32 × Int32) → Prop) (hK5 : ∀ (y3 : Int32) (y4 : Int32), K5 (y3, y4) → kf_M g x 5 5 [(0, .ref (g.2.2.2 39)), (1, .int x1), (2, .int x2), (3, .int y3), (4, .int y4)] [] I J) (x3 : Int32) (x4 : Int32) (h : wb_X2_metered_5 I J x1 x2 Post E5 K5 (x3, x4)) : kf_M g x 5 5 [(0, .ref (g.2.2.2 39)), (1, .int x1), (2, .int x2), (3, .int x3), (4, .int x4)] [] I J := by
  unfold wb_X2_metered_5 at h
  refine kf_iload hx dX2_metered_5 4 rfl ?_
  refine kf_iload_n hx dX2_metered_7 rfl 2 rfl ?_
  refine kf_icmp_ge hx 55 dX2_metered_8 (by decide) (fun c => ?_) (fun c => ?_)
  · replace h := h.1 c
    refine kf_sub [3] rfl ?_
    exact hE5 _ h
  · replace h := h.2 c
    refine kf_aload_n hx dX2_metered_11 rfl 0 rfl ?_
    refine kf_getR (n := 12) hx sl_39_0 fl_RX2_15 dX2_metered_12 ?_
    refine kf_getI hx sl_12_11 fl_RX2_86 dX2_metered_15 ?_
    refine kf_if_le hx 55 dX2_metered_18 (by decide) (fun c => ?_) (fun c => ?_)
    · replace h := h.1 c
      refine kf_sub [3] rfl ?_
      exact hE5 _ h
    · replace h := h.2 c
      refine kf_aload_n hx dX2_metered_21 rfl 0 rfl ?_
      refine kf_iload hx dX2_metered_22 4 rfl ?_
      refine kf_aload_n hx dX2_metered_24 rfl 0 rfl ?_
      refine kf_getR (n := 12) hx sl_39_0 fl_RX2_15 dX2_metered_25 ?_
      refine kf_getI hx sl_12_11 fl_RX2_86 dX2_metered_28 ?_
      refine kf_irem hx dX2_metered_31 h.1 ?_
      replace h := h.2
      refine kf_aload_n hx dX2_metered_32 rfl 0 rfl ?_
      refine kf_iload hx dX2_metered_33 4 rfl ?_
      refine kf_callViP (st := [.int (x4 - (x4 / (I 12 11)) * (I 12 11)), .ref (g.2.2.2 39)]) hx (m_X2_drawn g hg x4 I J _ h) lk_RX2_89 km_X2_drawn ob_39 rfl (by decide) rfl (Nat.le_of_ble_eq_true rfl) dX2_metered_35 (fun r_1 h => ?_)
      refine kf_callViP (st := []) hx (m_X2_walkedBack g hg (x4 - (x4 / (I 12 11)) * (I 12 11)) r_1 I J _ h) lk_RX2_92 km_X2_walkedBack ob_39 rfl (by decide) rfl (Nat.le_of_ble_eq_true rfl) dX2_metered_38 (fun r_2 h => ?_)
      refine kf_iload_n hx dX2_metered_41 rfl 1 rfl ?_
      refine kf_iand hx dX2_metered_42 ?_
      refine kf_if_eq hx 49 dX2_metered_43 (by decide) (fun c => ?_) (fun c => ?_)
      · replace h := h.1 c
        refine kf_iinc (w := (x4 + 1)) (lv' := [(4, .int (x4 + 1)), (0, .ref (g.2.2.2 39)), (1, .int x1), (2, .int x2), (3, .int x3)]) hx dX2_metered_49 4 rfl rfl (by decide) rfl ?_
        refine kf_goto hx 5 dX2_metered_52 (by decide) ?_
        refine kf_sub [1, 2, 3, 4, 0] rfl ?_
        exact hK5 _ _ h
      · replace h := h.2 c
        refine kf_iinc (w := (x3 + 1)) (lv' := [(3, .int (x3 + 1)), (0, .ref (g.2.2.2 39)), (1, .int x1), (2, .int x2), (4, .int x4)]) hx dX2_metered_46 3 rfl rfl (by decide) rfl ?_
        refine kf_iinc (w := (x4 + 1)) (lv' := [(4, .int (x4 + 1)), (3, .int (x3 + 1)), (0, .ref (g.2.2.2 39)), (1, .int x1), (2, .int x2)]) hx dX2_metered_49 4 rfl rfl (by decide) rfl ?_
        refine kf_goto hx 5 dX2_metered_52 (by decide) ?_
        refine kf_sub [2, 3, 4, 1, 0] rfl ?_
        exact hK5 _ _ h
theorem wl_X2_metered_5 (g : kf_G) (hg : kf_g g) {x : kf_X} (hx : kf_ok g x RX2 cX2_metered 5 3 69) (I : HI) (J : HJ) (x1 : Int32) (x2 : Int32) (Post : Int32 → Prop) (hret : ∀ (pc : Nat) (lv : List (Nat × Value)) (v : Int32), decode cX2_metered pc = .ok (.ireturn, 1) → Post v → kf_M g x 5 pc lv [.int v] I J) (E5 : Int32 → Prop) (hE5 : ∀ (y3 : Int32), E5 y3 → kf_M g x 5 55 [(3, .int y3)] [] I J) : ∀ (n : Nat) (x3 : Int32) (x4 : Int32), lp (wb_X2_metered_5 I J x1 x2 Post E5) n (x3, x4) → kf_M g x 5 5 [(0, .ref (g.2.2.2 39)), (1, .int x1), (2, .int x2), (3, .int x3), (4, .int x4)] [] I J := by
  intro n
  induction n with
  | zero => intro x3 x4 h; exact h.elim
  | succ n ih => intro x3 x4 h; exact ws_X2_metered_5 g hg hx I J x1 x2 Post hret E5 hE5 (lp (wb_X2_metered_5 I J x1 x2 Post E5) n) ih x3 x4 h
def w_X2_metered (x1 : Int32) (x2 : Int32) (I : HI) (J : HJ) (Post : Int32 → Prop) : Prop :=
  ∃ n, lp (wb_X2_metered_5 I J x1 x2 Post (fun (x3_3 : Int32) => Post x3_3)) n (0, 0)
set_option maxHeartbeats 4000000 in
set_option maxRecDepth 20000 in
theorem we_X2_metered (g : kf_G) (hg : kf_g g) {x : kf_X} (hx : kf_ok g x RX2 cX2_metered 5 3 69) (x1 : Int32) (x2 : Int32) (I : HI) (J : HJ) (Post : Int32 → Prop) (hret : ∀ (pc : Nat) (lv : List (Nat × Value)) (v : Int32), decode cX2_metered pc = .ok (.ireturn, 1) → Post v → kf_M g x 5 pc lv [.int v] I J) (h : w_X2_metered x1 x2 I J Post) : kf_M g x 5 0 [(0, .ref (g.2.2.2 39)), (1, .int x1), (2, .int x2)] [] I J := by
  unfold w_X2_metered at h
  refine kf_iconst (v := 0) hx dX2_metered_0 (by decide) ?_
  refine kf_istore_n (lv' := [(3, .int 0), (0, .ref (g.2.2.2 39)), (1, .int x1), (2, .int x2)]) hx dX2_metered_1 rfl (by decide) rfl ?_
  refine kf_iconst (v := 0) hx dX2_metered_2 (by decide) ?_
  refine kf_istore (lv' := [(4, .int 0), (3, .int 0), (0, .ref (g.2.2.2 39)), (1, .int x1), (2, .int x2)]) hx dX2_metered_3 (by decide) rfl ?_
  obtain ⟨n, h⟩ := h
  refine kf_sub [2, 3, 4, 1, 0] rfl ?_
  refine wl_X2_metered_5 g hg hx I J x1 x2 _ hret _ (fun x3_3 h => ?_) n _ _ h
  refine kf_iload_n hx dX2_metered_55 rfl 0 rfl ?_
  exact hret _ _ x3_3  dX2_metered_56 h
set_option maxHeartbeats 4000000 in
set_option maxRecDepth 20000 in
theorem m_X2_metered (g : kf_G) (hg : kf_g g) (x1 : Int32) (x2 : Int32) (I : HI) (J : HJ) (Post : Int32 → Prop) (h : w_X2_metered x1 x2 I J Post) : kf_Mi g yX2_metered (kf_W yX2_metered cX2_metered 5 (Option.some Jvm.ClassFile.FieldType.int)) 3 69 [.ref (g.2.2.2 39), .int x1, .int x2] I J (fun v I' J' => Post v ∧ I' = I ∧ J' = J) :=
  kf_enti hg (by decide) (Nat.le_of_ble_eq_true rfl) rfl (fun x hx hr => we_X2_metered g hg hx x1 x2 I J Post (fun pc lv v hd hP => hr pc lv v I J hd ⟨hP, rfl, rfl⟩) h)
theorem dJ7_fill_53178_0 : decode cJ7_fill_53178 0 = .ok (.iconst 0, 1) := by decide +kernel
theorem dJ7_fill_53178_1 : decode cJ7_fill_53178 1 = .ok (.istore_n 2, 1) := by decide +kernel
theorem dJ7_fill_53178_2 : decode cJ7_fill_53178 2 = .ok (.aload_n 0, 1) := by decide +kernel
theorem dJ7_fill_53178_3 : decode cJ7_fill_53178 3 = .ok (.arraylength, 1) := by decide +kernel
theorem dJ7_fill_53178_4 : decode cJ7_fill_53178 4 = .ok (.istore_n 3, 1) := by decide +kernel
theorem dJ7_fill_53178_5 : decode cJ7_fill_53178 5 = .ok (.iload_n 2, 1) := by decide +kernel
theorem dJ7_fill_53178_6 : decode cJ7_fill_53178 6 = .ok (.iload_n 3, 1) := by decide +kernel
theorem dJ7_fill_53178_7 : decode cJ7_fill_53178 7 = .ok (.if_icmp .ge 13, 3) := by decide +kernel
theorem dJ7_fill_53178_10 : decode cJ7_fill_53178 10 = .ok (.aload_n 0, 1) := by decide +kernel
theorem dJ7_fill_53178_11 : decode cJ7_fill_53178 11 = .ok (.iload_n 2, 1) := by decide +kernel
theorem dJ7_fill_53178_12 : decode cJ7_fill_53178 12 = .ok (.iload_n 1, 1) := by decide +kernel
theorem dJ7_fill_53178_13 : decode cJ7_fill_53178 13 = .ok (.iastore, 1) := by decide +kernel
theorem dJ7_fill_53178_14 : decode cJ7_fill_53178 14 = .ok (.iinc 2 1, 3) := by decide +kernel
theorem dJ7_fill_53178_17 : decode cJ7_fill_53178 17 = .ok (.goto (-12), 3) := by decide +kernel
theorem dJ7_fill_53178_20 : decode cJ7_fill_53178 20 = .ok (.return_, 1) := by decide +kernel
def wb_J7_fill_53178_5 (J : HJ) (c0 n0 : Nat) (x1 : Int32) (x3 : Int32) (Post : HI → Prop) (E5 : HI → Prop) (K5 : (Int32 × HI) → Prop) (s : Int32 × HI) : Prop :=
  match s with
  | (x2, I) => (x3 ≤ x2 → (E5 I)) ∧ (¬ x3 ≤ x2 → (vp_in x2 n0 ∧ (∀ I_1 : HI, I_1 = hI I c0 (Int32.toNatClampNeg x2) x1 → (K5 ((x2 + 1), I_1)))))
set_option maxHeartbeats 4000000 in
set_option maxRecDepth 20000 in
theorem ws_J7_fill_53178_5 (g : kf_G) (hg : kf_g g) {x : kf_X} (hx : kf_ok g x RJ7 cJ7_fill_53178 4 0 0) (J : HJ) (c0 n0 : Nat) (x1 : Int32) (x3 : Int32) (hc0 : kf_SH[c0]? = some (1, n0, [0])) (Post : HI → Prop) (hret : ∀ (pc : Nat) (lv : List (Nat × Value)) (Iy : HI), decode cJ7_fill_53178 pc = .ok (.return_, 1) → Post Iy → kf_M g x 4 pc lv [] Iy J) (E5 : HI → Prop) (hE5 : ∀ (Iy : HI), E5 Iy → kf_M g x 4 20 [] [] Iy J) (K5 : (Int32 × HI) → Prop) (hK5 : ∀ (y2 : Int32) (Iy : HI), K5 (y2, Iy) → kf_M g x 4 5 [(0, .ref (g.2.2.2 c0)), (1, .int x1), (2, .int y2), (3, .int x3)] [] Iy J) (x2 : Int32) (I : HI) (h : wb_J7_fill_53178_5 J c0 n0 x1 x3 Post E5 K5 (x2, I)) : kf_M g x 4 5 [(0, .ref (g.2.2.2 c0)), (1, .int x1), (2, .int x2), (3, .int x3)] [] I J := by
  unfold wb_J7_fill_53178_5 at h
  refine kf_iload_n hx dJ7_fill_53178_5 rfl 2 rfl ?_
  refine kf_iload_n hx dJ7_fill_53178_6 rfl 3 rfl ?_
  refine kf_icmp_ge hx 20 dJ7_fill_53178_7 (by decide) (fun c => ?_) (fun c => ?_)
  · replace h := h.1 c
    refine kf_sub [] rfl ?_
    exact hE5 _ h
  · replace h := h.2 c
    refine kf_aload_n hx dJ7_fill_53178_10 rfl 0 rfl ?_
    refine kf_iload_n hx dJ7_fill_53178_11 rfl 2 rfl ?_
    refine kf_iload_n hx dJ7_fill_53178_12 rfl 1 rfl ?_
    refine kf_iast hx hc0 h.1 dJ7_fill_53178_13 ?_
    replace h := h.2
    refine kf_nmI (fun I_1 eI_1 => ?_)
    replace h := h I_1 eI_1
    refine kf_iinc (w := (x2 + 1)) (lv' := [(2, .int (x2 + 1)), (0, .ref (g.2.2.2 c0)), (1, .int x1), (3, .int x3)]) hx dJ7_fill_53178_14 2 rfl rfl (by decide) rfl ?_
    refine kf_goto hx 5 dJ7_fill_53178_17 (by decide) ?_
    refine kf_sub [1, 2, 0, 3] rfl ?_
    exact hK5 _ _ h
theorem wl_J7_fill_53178_5 (g : kf_G) (hg : kf_g g) {x : kf_X} (hx : kf_ok g x RJ7 cJ7_fill_53178 4 0 0) (J : HJ) (c0 n0 : Nat) (x1 : Int32) (x3 : Int32) (hc0 : kf_SH[c0]? = some (1, n0, [0])) (Post : HI → Prop) (hret : ∀ (pc : Nat) (lv : List (Nat × Value)) (Iy : HI), decode cJ7_fill_53178 pc = .ok (.return_, 1) → Post Iy → kf_M g x 4 pc lv [] Iy J) (E5 : HI → Prop) (hE5 : ∀ (Iy : HI), E5 Iy → kf_M g x 4 20 [] [] Iy J) : ∀ (n : Nat) (x2 : Int32) (I : HI), lp (wb_J7_fill_53178_5 J c0 n0 x1 x3 Post E5) n (x2, I) → kf_M g x 4 5 [(0, .ref (g.2.2.2 c0)), (1, .int x1), (2, .int x2), (3, .int x3)] [] I J := by
  intro n
  induction n with
  | zero => intro x2 I h; exact h.elim
  | succ n ih => intro x2 I h; exact ws_J7_fill_53178_5 g hg hx J c0 n0 x1 x3 hc0 Post hret E5 hE5 (lp (wb_J7_fill_53178_5 J c0 n0 x1 x3 Post E5) n) ih x2 I h
def w_J7_fill_53178 (c0 n0 : Nat) (x1 : Int32) (I : HI) (J : HJ) (Post : HI → Prop) : Prop :=
  ∃ n, lp (wb_J7_fill_53178_5 J c0 n0 x1 (Int32.ofNat n0) Post (fun (I_2 : HI) => Post I_2)) n (0, I)
set_option maxHeartbeats 4000000 in
set_option maxRecDepth 20000 in
theorem we_J7_fill_53178 (g : kf_G) (hg : kf_g g) {x : kf_X} (hx : kf_ok g x RJ7 cJ7_fill_53178 4 0 0) (c0 n0 : Nat) (x1 : Int32) (hc0 : kf_SH[c0]? = some (1, n0, [0])) (I : HI) (J : HJ) (Post : HI → Prop) (hret : ∀ (pc : Nat) (lv : List (Nat × Value)) (Iy : HI), decode cJ7_fill_53178 pc = .ok (.return_, 1) → Post Iy → kf_M g x 4 pc lv [] Iy J) (h : w_J7_fill_53178 c0 n0 x1 I J Post) : kf_M g x 4 0 [(0, .ref (g.2.2.2 c0)), (1, .int x1)] [] I J := by
  unfold w_J7_fill_53178 at h
  refine kf_iconst (v := 0) hx dJ7_fill_53178_0 (by decide) ?_
  refine kf_istore_n (lv' := [(2, .int 0), (0, .ref (g.2.2.2 c0)), (1, .int x1)]) hx dJ7_fill_53178_1 rfl (by decide) rfl ?_
  refine kf_aload_n hx dJ7_fill_53178_2 rfl 1 rfl ?_
  refine kf_alenI (v := Int32.ofNat n0) hx hc0 rfl rfl dJ7_fill_53178_3 ?_
  refine kf_istore_n (lv' := [(3, .int (Int32.ofNat n0)), (2, .int 0), (0, .ref (g.2.2.2 c0)), (1, .int x1)]) hx dJ7_fill_53178_4 rfl (by decide) rfl ?_
  obtain ⟨n, h⟩ := h
  refine kf_sub [2, 3, 1, 0] rfl ?_
  refine wl_J7_fill_53178_5 g hg hx J c0 n0 x1 (Int32.ofNat n0) hc0 _ hret _ (fun I_2 h => ?_) n _ _ h
  exact hret _ _ _ dJ7_fill_53178_20 h
set_option maxHeartbeats 4000000 in
set_option maxRecDepth 20000 in
theorem m_J7_fill_53178 (g : kf_G) (hg : kf_g g) (c0 n0 : Nat) (x1 : Int32) (hc0 : kf_SH[c0]? = some (1, n0, [0])) (I : HI) (J : HJ) (Post : HI → Prop) (h : w_J7_fill_53178 c0 n0 x1 I J Post) : kf_Mv g yJ7_fill_53178 (kf_W yJ7_fill_53178 cJ7_fill_53178 4 (Option.none : Option Jvm.ClassFile.FieldType)) 0 0 [.ref (g.2.2.2 c0), .int x1] I J (fun I' J' => Post I' ∧ J' = J) :=
  kf_entv hg (by decide) (Nat.le_of_ble_eq_true rfl) rfl (fun x hx hr => we_J7_fill_53178 g hg hx c0 n0 x1 hc0 I J Post (fun pc lv I' hd hP => hr pc lv I' J hd ⟨hP, rfl⟩) h)
theorem dX7_decide_0 : decode cX7_decide 0 = .ok (.aload_n 0, 1) := by decide +kernel
theorem dX7_decide_1 : decode cX7_decide 1 = .ok (.getfield 21, 3) := by decide +kernel
theorem dX7_decide_4 : decode cX7_decide 4 = .ok (.getfield 86, 3) := by decide +kernel
theorem dX7_decide_7 : decode cX7_decide 7 = .ok (.iload_n 1, 1) := by decide +kernel
theorem dX7_decide_8 : decode cX7_decide 8 = .ok (.iaload, 1) := by decide +kernel
theorem dX7_decide_9 : decode cX7_decide 9 = .ok (.aload_n 0, 1) := by decide +kernel
theorem dX7_decide_10 : decode cX7_decide 10 = .ok (.getfield 53, 3) := by decide +kernel
theorem dX7_decide_13 : decode cX7_decide 13 = .ok (.iand, 1) := by decide +kernel
theorem dX7_decide_14 : decode cX7_decide 14 = .ok (.istore_n 3, 1) := by decide +kernel
theorem dX7_decide_15 : decode cX7_decide 15 = .ok (.aload_n 0, 1) := by decide +kernel
theorem dX7_decide_16 : decode cX7_decide 16 = .ok (.dup, 1) := by decide +kernel
theorem dX7_decide_17 : decode cX7_decide 17 = .ok (.getfield 35, 3) := by decide +kernel
theorem dX7_decide_20 : decode cX7_decide 20 = .ok (.iconst 1, 1) := by decide +kernel
theorem dX7_decide_21 : decode cX7_decide 21 = .ok (.iload_n 1, 1) := by decide +kernel
theorem dX7_decide_22 : decode cX7_decide 22 = .ok (.ishl, 1) := by decide +kernel
theorem dX7_decide_23 : decode cX7_decide 23 = .ok (.ior, 1) := by decide +kernel
theorem dX7_decide_24 : decode cX7_decide 24 = .ok (.putfield 35, 3) := by decide +kernel
theorem dX7_decide_27 : decode cX7_decide 27 = .ok (.iconst 2, 1) := by decide +kernel
theorem dX7_decide_28 : decode cX7_decide 28 = .ok (.iload_n 3, 1) := by decide +kernel
theorem dX7_decide_29 : decode cX7_decide 29 = .ok (.aload_n 0, 1) := by decide +kernel
theorem dX7_decide_30 : decode cX7_decide 30 = .ok (.getfield 47, 3) := by decide +kernel
theorem dX7_decide_33 : decode cX7_decide 33 = .ok (.iand, 1) := by decide +kernel
theorem dX7_decide_34 : decode cX7_decide 34 = .ok (.invokestatic 89, 3) := by decide +kernel
theorem dX7_decide_37 : decode cX7_decide 37 = .ok (.imul, 1) := by decide +kernel
theorem dX7_decide_38 : decode cX7_decide 38 = .ok (.iload_n 3, 1) := by decide +kernel
theorem dX7_decide_39 : decode cX7_decide 39 = .ok (.invokestatic 89, 3) := by decide +kernel
theorem dX7_decide_42 : decode cX7_decide 42 = .ok (.if_icmp .lt 33, 3) := by decide +kernel
theorem dX7_decide_45 : decode cX7_decide 45 = .ok (.aload_n 0, 1) := by decide +kernel
theorem dX7_decide_46 : decode cX7_decide 46 = .ok (.dup, 1) := by decide +kernel
theorem dX7_decide_47 : decode cX7_decide 47 = .ok (.getfield 38, 3) := by decide +kernel
theorem dX7_decide_50 : decode cX7_decide 50 = .ok (.iconst 1, 1) := by decide +kernel
theorem dX7_decide_51 : decode cX7_decide 51 = .ok (.iload_n 1, 1) := by decide +kernel
theorem dX7_decide_52 : decode cX7_decide 52 = .ok (.ishl, 1) := by decide +kernel
theorem dX7_decide_53 : decode cX7_decide 53 = .ok (.ior, 1) := by decide +kernel
theorem dX7_decide_54 : decode cX7_decide 54 = .ok (.putfield 38, 3) := by decide +kernel
theorem dX7_decide_57 : decode cX7_decide 57 = .ok (.aload_n 0, 1) := by decide +kernel
theorem dX7_decide_58 : decode cX7_decide 58 = .ok (.dup, 1) := by decide +kernel
theorem dX7_decide_59 : decode cX7_decide 59 = .ok (.getfield 47, 3) := by decide +kernel
theorem dX7_decide_62 : decode cX7_decide 62 = .ok (.aload_n 0, 1) := by decide +kernel
theorem dX7_decide_63 : decode cX7_decide 63 = .ok (.getfield 21, 3) := by decide +kernel
theorem dX7_decide_66 : decode cX7_decide 66 = .ok (.getfield 94, 3) := by decide +kernel
theorem dX7_decide_69 : decode cX7_decide 69 = .ok (.iload_n 1, 1) := by decide +kernel
theorem dX7_decide_70 : decode cX7_decide 70 = .ok (.iaload, 1) := by decide +kernel
theorem dX7_decide_71 : decode cX7_decide 71 = .ok (.ior, 1) := by decide +kernel
theorem dX7_decide_72 : decode cX7_decide 72 = .ok (.putfield 47, 3) := by decide +kernel
theorem dX7_decide_75 : decode cX7_decide 75 = .ok (.aload_n 0, 1) := by decide +kernel
theorem dX7_decide_76 : decode cX7_decide 76 = .ok (.getfield 15, 3) := by decide +kernel
theorem dX7_decide_79 : decode cX7_decide 79 = .ok (.iload_n 2, 1) := by decide +kernel
theorem dX7_decide_80 : decode cX7_decide 80 = .ok (.aload_n 0, 1) := by decide +kernel
theorem dX7_decide_81 : decode cX7_decide 81 = .ok (.getfield 21, 3) := by decide +kernel
theorem dX7_decide_84 : decode cX7_decide 84 = .ok (.getfield 97, 3) := by decide +kernel
theorem dX7_decide_87 : decode cX7_decide 87 = .ok (.iload_n 1, 1) := by decide +kernel
theorem dX7_decide_88 : decode cX7_decide 88 = .ok (.iaload, 1) := by decide +kernel
theorem dX7_decide_89 : decode cX7_decide 89 = .ok (.iadd, 1) := by decide +kernel
theorem dX7_decide_90 : decode cX7_decide 90 = .ok (.bipush 8, 2) := by decide +kernel
theorem dX7_decide_92 : decode cX7_decide 92 = .ok (.irem, 1) := by decide +kernel
theorem dX7_decide_93 : decode cX7_decide 93 = .ok (.dup2, 1) := by decide +kernel
theorem dX7_decide_94 : decode cX7_decide 94 = .ok (.iaload, 1) := by decide +kernel
theorem dX7_decide_95 : decode cX7_decide 95 = .ok (.iconst 1, 1) := by decide +kernel
theorem dX7_decide_96 : decode cX7_decide 96 = .ok (.iload_n 1, 1) := by decide +kernel
theorem dX7_decide_97 : decode cX7_decide 97 = .ok (.ishl, 1) := by decide +kernel
theorem dX7_decide_98 : decode cX7_decide 98 = .ok (.ior, 1) := by decide +kernel
theorem dX7_decide_99 : decode cX7_decide 99 = .ok (.iastore, 1) := by decide +kernel
theorem dX7_decide_100 : decode cX7_decide 100 = .ok (.return_, 1) := by decide +kernel
def wj_X7_decide_75 (I : HI) (J : HJ) (x1 : Int32) (x2 : Int32) (Post : HI → Prop) : Prop :=
  vp_in x1 12 ∧ (vp_in ((x2 + (I 15 (Int32.toNatClampNeg x1))) - ((x2 + (I 15 (Int32.toNatClampNeg x1))) / 8) * 8) 8 ∧ (vp_in ((x2 + (I 15 (Int32.toNatClampNeg x1))) - ((x2 + (I 15 (Int32.toNatClampNeg x1))) / 8) * 8) 8 ∧ (∀ I_5 : HI, I_5 = hI I 50 (Int32.toNatClampNeg ((x2 + (I 15 (Int32.toNatClampNeg x1))) - ((x2 + (I 15 (Int32.toNatClampNeg x1))) / 8) * 8)) ((I 50 (Int32.toNatClampNeg ((x2 + (I 15 (Int32.toNatClampNeg x1))) - ((x2 + (I 15 (Int32.toNatClampNeg x1))) / 8) * 8))) ||| (1 <<< (x1 &&& 31))) → (Post I_5))))
set_option maxHeartbeats 4000000 in
set_option maxRecDepth 20000 in
theorem wk_X7_decide_75 (g : kf_G) (hg : kf_g g) {x : kf_X} (hx : kf_ok g x RX7 cX7_decide 4 1 20) (I : HI) (J : HJ) (x1 : Int32) (x2 : Int32) (Post : HI → Prop) (hret : ∀ (pc : Nat) (lv : List (Nat × Value)) (Iy : HI), decode cX7_decide pc = .ok (.return_, 1) → Post Iy → kf_M g x 4 pc lv [] Iy J) (h : wj_X7_decide_75 I J x1 x2 Post) : kf_M g x 4 75 [(0, .ref (g.2.2.2 48)), (1, .int x1), (2, .int x2)] [] I J := by
  unfold wj_X7_decide_75 at h
  refine kf_aload_n hx dX7_decide_75 rfl 0 rfl ?_
  refine kf_getR (n := 50) hx sl_48_2 fl_RX7_15 dX7_decide_76 ?_
  refine kf_iload_n hx dX7_decide_79 rfl 2 rfl ?_
  refine kf_aload_n hx dX7_decide_80 rfl 0 rfl ?_
  refine kf_getR (n := 12) hx sl_48_0 fl_RX7_21 dX7_decide_81 ?_
  refine kf_getR (n := 15) hx sl_12_2 fl_RX7_97 dX7_decide_84 ?_
  refine kf_iload_n hx dX7_decide_87 rfl 1 rfl ?_
  refine kf_iald hx ar_15 h.1 dX7_decide_88 ?_
  replace h := h.2
  refine kf_iadd hx dX7_decide_89 ?_
  refine kf_bipush (v := 8) hx dX7_decide_90 (by decide) ?_
  refine kf_irem hx dX7_decide_92 (by decide) ?_
  refine kf_dup2 hx dX7_decide_93 rfl rfl ?_
  refine kf_iald hx ar_50 h.1 dX7_decide_94 ?_
  replace h := h.2
  refine kf_iconst (v := 1) hx dX7_decide_95 (by decide) ?_
  refine kf_iload_n hx dX7_decide_96 rfl 1 rfl ?_
  refine kf_ishl hx dX7_decide_97 ?_
  refine kf_ior hx dX7_decide_98 ?_
  refine kf_iast hx ar_50 h.1 dX7_decide_99 ?_
  replace h := h.2
  refine kf_nmI (fun I_5 eI_5 => ?_)
  replace h := h I_5 eI_5
  exact hret _ _ _ dX7_decide_100 h
def w_X7_decide (x1 : Int32) (x2 : Int32) (I : HI) (J : HJ) (Post : HI → Prop) : Prop :=
  vp_in x1 12 ∧ (∀ z_1 : Int32, z_1 = ((I 17 (Int32.toNatClampNeg x1)) &&& (I 48 9)) → (∀ I_2 : HI, I_2 = hI I 48 5 ((I 48 5) ||| (1 <<< (x1 &&& 31))) → (w_J6_bitCount_0f7a4 (z_1 &&& (I_2 48 7)) (fun (r_3 : Int32) => (w_J6_bitCount_0f7a4 z_1 (fun (r_4 : Int32) => (((2 * r_3) < r_4 → (wj_X7_decide_75 I_2 J x1 x2 Post)) ∧ (¬ (2 * r_3) < r_4 → (∀ I_6 : HI, I_6 = hI I_2 48 6 ((I_2 48 6) ||| (1 <<< (x1 &&& 31))) → (vp_in x1 12 ∧ (∀ I_7 : HI, I_7 = hI I_6 48 7 ((I_6 48 7) ||| (I_6 18 (Int32.toNatClampNeg x1))) → (wj_X7_decide_75 I_7 J x1 x2 Post))))))))))))
set_option maxHeartbeats 4000000 in
set_option maxRecDepth 20000 in
theorem we_X7_decide (g : kf_G) (hg : kf_g g) {x : kf_X} (hx : kf_ok g x RX7 cX7_decide 4 1 20) (x1 : Int32) (x2 : Int32) (I : HI) (J : HJ) (Post : HI → Prop) (hret : ∀ (pc : Nat) (lv : List (Nat × Value)) (Iy : HI), decode cX7_decide pc = .ok (.return_, 1) → Post Iy → kf_M g x 4 pc lv [] Iy J) (h : w_X7_decide x1 x2 I J Post) : kf_M g x 4 0 [(0, .ref (g.2.2.2 48)), (1, .int x1), (2, .int x2)] [] I J := by
  unfold w_X7_decide at h
  refine kf_aload_n hx dX7_decide_0 rfl 0 rfl ?_
  refine kf_getR (n := 12) hx sl_48_0 fl_RX7_21 dX7_decide_1 ?_
  refine kf_getR (n := 17) hx sl_12_4 fl_RX7_86 dX7_decide_4 ?_
  refine kf_iload_n hx dX7_decide_7 rfl 1 rfl ?_
  refine kf_iald hx ar_17 h.1 dX7_decide_8 ?_
  replace h := h.2
  refine kf_aload_n hx dX7_decide_9 rfl 0 rfl ?_
  refine kf_getI hx sl_48_9 fl_RX7_53 dX7_decide_10 ?_
  refine kf_iand hx dX7_decide_13 ?_
  refine kf_topi (fun z_1 ez_1 => ?_)
  replace h := h z_1 ez_1
  refine kf_istore_n (lv' := [(3, .int z_1), (0, .ref (g.2.2.2 48)), (1, .int x1), (2, .int x2)]) hx dX7_decide_14 rfl (by decide) rfl ?_
  refine kf_aload_n hx dX7_decide_15 rfl 1 rfl ?_
  refine kf_dup hx dX7_decide_16 rfl ?_
  refine kf_getI hx sl_48_5 fl_RX7_35 dX7_decide_17 ?_
  refine kf_iconst (v := 1) hx dX7_decide_20 (by decide) ?_
  refine kf_iload_n hx dX7_decide_21 rfl 2 rfl ?_
  refine kf_ishl hx dX7_decide_22 ?_
  refine kf_ior hx dX7_decide_23 ?_
  refine kf_putI hx sl_48_5 fl_RX7_35 fp_7_5 dX7_decide_24 ?_
  refine kf_nmI (fun I_2 eI_2 => ?_)
  replace h := h I_2 eI_2
  refine kf_iconst (v := 2) hx dX7_decide_27 (by decide) ?_
  refine kf_iload_n hx dX7_decide_28 rfl 0 rfl ?_
  refine kf_aload_n hx dX7_decide_29 rfl 1 rfl ?_
  refine kf_getI hx sl_48_7 fl_RX7_47 dX7_decide_30 ?_
  refine kf_iand hx dX7_decide_33 ?_
  refine kf_callSiP (st := [.int 2]) hx (m_J6_bitCount_0f7a4 g hg (z_1 &&& (I_2 48 7)) I_2 J _ h) lk_RX7_89 km_J6_bitCount_0f7a4 rfl (by decide) rfl (Nat.le_of_ble_eq_true rfl) dX7_decide_34 (fun r_3 h => ?_)
  refine kf_imul hx dX7_decide_37 ?_
  refine kf_iload_n hx dX7_decide_38 rfl 0 rfl ?_
  refine kf_callSiP (st := [.int (2 * r_3)]) hx (m_J6_bitCount_0f7a4 g hg z_1 I_2 J _ h) lk_RX7_89 km_J6_bitCount_0f7a4 rfl (by decide) rfl (Nat.le_of_ble_eq_true rfl) dX7_decide_39 (fun r_4 h => ?_)
  refine kf_icmp_lt hx 75 dX7_decide_42 (by decide) (fun c => ?_) (fun c => ?_)
  · replace h := h.1 c
    refine kf_sub [1, 2, 3] rfl ?_
    exact wk_X7_decide_75 g hg hx I_2 J x1 x2 _ hret h
  · replace h := h.2 c
    refine kf_aload_n hx dX7_decide_45 rfl 1 rfl ?_
    refine kf_dup hx dX7_decide_46 rfl ?_
    refine kf_getI hx sl_48_6 fl_RX7_38 dX7_decide_47 ?_
    refine kf_iconst (v := 1) hx dX7_decide_50 (by decide) ?_
    refine kf_iload_n hx dX7_decide_51 rfl 2 rfl ?_
    refine kf_ishl hx dX7_decide_52 ?_
    refine kf_ior hx dX7_decide_53 ?_
    refine kf_putI hx sl_48_6 fl_RX7_38 fp_7_6 dX7_decide_54 ?_
    refine kf_nmI (fun I_6 eI_6 => ?_)
    replace h := h I_6 eI_6
    refine kf_aload_n hx dX7_decide_57 rfl 1 rfl ?_
    refine kf_dup hx dX7_decide_58 rfl ?_
    refine kf_getI hx sl_48_7 fl_RX7_47 dX7_decide_59 ?_
    refine kf_aload_n hx dX7_decide_62 rfl 1 rfl ?_
    refine kf_getR (n := 12) hx sl_48_0 fl_RX7_21 dX7_decide_63 ?_
    refine kf_getR (n := 18) hx sl_12_5 fl_RX7_94 dX7_decide_66 ?_
    refine kf_iload_n hx dX7_decide_69 rfl 2 rfl ?_
    refine kf_iald hx ar_18 h.1 dX7_decide_70 ?_
    replace h := h.2
    refine kf_ior hx dX7_decide_71 ?_
    refine kf_putI hx sl_48_7 fl_RX7_47 fp_7_7 dX7_decide_72 ?_
    refine kf_nmI (fun I_7 eI_7 => ?_)
    replace h := h I_7 eI_7
    refine kf_sub [1, 2, 3] rfl ?_
    exact wk_X7_decide_75 g hg hx I_7 J x1 x2 _ hret h
set_option maxHeartbeats 4000000 in
set_option maxRecDepth 20000 in
theorem m_X7_decide (g : kf_G) (hg : kf_g g) (x1 : Int32) (x2 : Int32) (I : HI) (J : HJ) (Post : HI → Prop) (h : w_X7_decide x1 x2 I J Post) : kf_Mv g yX7_decide (kf_W yX7_decide cX7_decide 4 (Option.none : Option Jvm.ClassFile.FieldType)) 1 20 [.ref (g.2.2.2 48), .int x1, .int x2] I J (fun I' J' => Post I' ∧ J' = J) :=
  kf_entv hg (by decide) (Nat.le_of_ble_eq_true rfl) rfl (fun x hx hr => we_X7_decide g hg hx x1 x2 I J Post (fun pc lv I' hd hP => hr pc lv I' J hd ⟨hP, rfl⟩) h)
