theorem dX11_spelled_0 : decode cX11_spelled 0 = .ok (.iload_n 0, 1) := by decide +kernel
theorem dX11_spelled_1 : decode cX11_spelled 1 = .ok (.i2l, 1) := by decide +kernel
theorem dX11_spelled_2 : decode cX11_spelled 2 = .ok (.ldc2_w 162, 3) := by decide +kernel
theorem dX11_spelled_5 : decode cX11_spelled 5 = .ok (.lsub, 1) := by decide +kernel
theorem dX11_spelled_6 : decode cX11_spelled 6 = .ok (.lstore 6, 2) := by decide +kernel
theorem dX11_spelled_8 : decode cX11_spelled 8 = .ok (.lload 6, 2) := by decide +kernel
theorem dX11_spelled_10 : decode cX11_spelled 10 = .ok (.ldc2_w 160, 3) := by decide +kernel
theorem dX11_spelled_13 : decode cX11_spelled 13 = .ok (.lmul, 1) := by decide +kernel
theorem dX11_spelled_14 : decode cX11_spelled 14 = .ok (.iload_n 1, 1) := by decide +kernel
theorem dX11_spelled_15 : decode cX11_spelled 15 = .ok (.i2l, 1) := by decide +kernel
theorem dX11_spelled_16 : decode cX11_spelled 16 = .ok (.ladd, 1) := by decide +kernel
theorem dX11_spelled_17 : decode cX11_spelled 17 = .ok (.ldc2_w 162, 3) := by decide +kernel
theorem dX11_spelled_20 : decode cX11_spelled 20 = .ok (.lsub, 1) := by decide +kernel
theorem dX11_spelled_21 : decode cX11_spelled 21 = .ok (.lstore 6, 2) := by decide +kernel
theorem dX11_spelled_23 : decode cX11_spelled 23 = .ok (.iload_n 2, 1) := by decide +kernel
theorem dX11_spelled_24 : decode cX11_spelled 24 = .ok (.ifCond .le 19, 3) := by decide +kernel
theorem dX11_spelled_27 : decode cX11_spelled 27 = .ok (.lload 6, 2) := by decide +kernel
theorem dX11_spelled_29 : decode cX11_spelled 29 = .ok (.ldc2_w 160, 3) := by decide +kernel
theorem dX11_spelled_32 : decode cX11_spelled 32 = .ok (.lmul, 1) := by decide +kernel
theorem dX11_spelled_33 : decode cX11_spelled 33 = .ok (.iload_n 2, 1) := by decide +kernel
theorem dX11_spelled_34 : decode cX11_spelled 34 = .ok (.i2l, 1) := by decide +kernel
theorem dX11_spelled_35 : decode cX11_spelled 35 = .ok (.ladd, 1) := by decide +kernel
theorem dX11_spelled_36 : decode cX11_spelled 36 = .ok (.ldc2_w 162, 3) := by decide +kernel
theorem dX11_spelled_39 : decode cX11_spelled 39 = .ok (.lsub, 1) := by decide +kernel
theorem dX11_spelled_40 : decode cX11_spelled 40 = .ok (.goto 5, 3) := by decide +kernel
theorem dX11_spelled_43 : decode cX11_spelled 43 = .ok (.lload 6, 2) := by decide +kernel
theorem dX11_spelled_45 : decode cX11_spelled 45 = .ok (.lstore 6, 2) := by decide +kernel
theorem dX11_spelled_47 : decode cX11_spelled 47 = .ok (.iload_n 3, 1) := by decide +kernel
theorem dX11_spelled_48 : decode cX11_spelled 48 = .ok (.ifCond .le 19, 3) := by decide +kernel
theorem dX11_spelled_51 : decode cX11_spelled 51 = .ok (.lload 6, 2) := by decide +kernel
theorem dX11_spelled_53 : decode cX11_spelled 53 = .ok (.ldc2_w 160, 3) := by decide +kernel
theorem dX11_spelled_56 : decode cX11_spelled 56 = .ok (.lmul, 1) := by decide +kernel
theorem dX11_spelled_57 : decode cX11_spelled 57 = .ok (.iload_n 3, 1) := by decide +kernel
theorem dX11_spelled_58 : decode cX11_spelled 58 = .ok (.i2l, 1) := by decide +kernel
theorem dX11_spelled_59 : decode cX11_spelled 59 = .ok (.ladd, 1) := by decide +kernel
theorem dX11_spelled_60 : decode cX11_spelled 60 = .ok (.ldc2_w 162, 3) := by decide +kernel
theorem dX11_spelled_63 : decode cX11_spelled 63 = .ok (.lsub, 1) := by decide +kernel
theorem dX11_spelled_64 : decode cX11_spelled 64 = .ok (.goto 5, 3) := by decide +kernel
theorem dX11_spelled_67 : decode cX11_spelled 67 = .ok (.lload 6, 2) := by decide +kernel
theorem dX11_spelled_69 : decode cX11_spelled 69 = .ok (.lstore 6, 2) := by decide +kernel
theorem dX11_spelled_71 : decode cX11_spelled 71 = .ok (.iload 4, 2) := by decide +kernel
theorem dX11_spelled_73 : decode cX11_spelled 73 = .ok (.ifCond .le 20, 3) := by decide +kernel
theorem dX11_spelled_76 : decode cX11_spelled 76 = .ok (.lload 6, 2) := by decide +kernel
theorem dX11_spelled_78 : decode cX11_spelled 78 = .ok (.ldc2_w 160, 3) := by decide +kernel
theorem dX11_spelled_81 : decode cX11_spelled 81 = .ok (.lmul, 1) := by decide +kernel
theorem dX11_spelled_82 : decode cX11_spelled 82 = .ok (.iload 4, 2) := by decide +kernel
theorem dX11_spelled_84 : decode cX11_spelled 84 = .ok (.i2l, 1) := by decide +kernel
theorem dX11_spelled_85 : decode cX11_spelled 85 = .ok (.ladd, 1) := by decide +kernel
theorem dX11_spelled_86 : decode cX11_spelled 86 = .ok (.ldc2_w 162, 3) := by decide +kernel
theorem dX11_spelled_89 : decode cX11_spelled 89 = .ok (.lsub, 1) := by decide +kernel
theorem dX11_spelled_90 : decode cX11_spelled 90 = .ok (.goto 5, 3) := by decide +kernel
theorem dX11_spelled_93 : decode cX11_spelled 93 = .ok (.lload 6, 2) := by decide +kernel
theorem dX11_spelled_95 : decode cX11_spelled 95 = .ok (.lstore 6, 2) := by decide +kernel
theorem dX11_spelled_97 : decode cX11_spelled 97 = .ok (.iload 5, 2) := by decide +kernel
theorem dX11_spelled_99 : decode cX11_spelled 99 = .ok (.ifCond .le 20, 3) := by decide +kernel
theorem dX11_spelled_102 : decode cX11_spelled 102 = .ok (.lload 6, 2) := by decide +kernel
theorem dX11_spelled_104 : decode cX11_spelled 104 = .ok (.ldc2_w 160, 3) := by decide +kernel
theorem dX11_spelled_107 : decode cX11_spelled 107 = .ok (.lmul, 1) := by decide +kernel
theorem dX11_spelled_108 : decode cX11_spelled 108 = .ok (.iload 5, 2) := by decide +kernel
theorem dX11_spelled_110 : decode cX11_spelled 110 = .ok (.i2l, 1) := by decide +kernel
theorem dX11_spelled_111 : decode cX11_spelled 111 = .ok (.ladd, 1) := by decide +kernel
theorem dX11_spelled_112 : decode cX11_spelled 112 = .ok (.ldc2_w 162, 3) := by decide +kernel
theorem dX11_spelled_115 : decode cX11_spelled 115 = .ok (.lsub, 1) := by decide +kernel
theorem dX11_spelled_116 : decode cX11_spelled 116 = .ok (.goto 5, 3) := by decide +kernel
theorem dX11_spelled_119 : decode cX11_spelled 119 = .ok (.lload 6, 2) := by decide +kernel
theorem dX11_spelled_121 : decode cX11_spelled 121 = .ok (.lreturn, 1) := by decide +kernel
def wj_X11_spelled_95 (x5 : Int32) (t0 : Int64) (Post : Int64 → Prop) : Prop :=
  (x5 ≤ 0 → (Post t0)) ∧ (¬ x5 ≤ 0 → (Post (((t0 * 32) + (Int32.toInt64 x5)) - 96)))
set_option maxHeartbeats 4000000 in
set_option maxRecDepth 20000 in
theorem wk_X11_spelled_95 (g : kf_G) (hg : kf_g g) {x : kf_X} (hx : kf_ok g x RX11 cX11_spelled 8 0 0) (I : HI) (J : HJ) (x5 : Int32) (t0 : Int64) (Post : Int64 → Prop) (hret : ∀ (pc : Nat) (lv : List (Nat × Value)) (v : Int64), decode cX11_spelled pc = .ok (.lreturn, 1) → Post v → kf_M g x 8 pc lv [.long v] I J) (h : wj_X11_spelled_95 x5 t0 Post) : kf_M g x 8 95 [(5, .int x5)] [.long t0] I J := by
  unfold wj_X11_spelled_95 at h
  refine kf_lstore (lv' := [(6, .long t0), (5, .int x5)]) hx dX11_spelled_95 (by decide) rfl ?_
  refine kf_iload hx dX11_spelled_97 1 rfl ?_
  refine kf_if_le hx 119 dX11_spelled_99 (by decide) (fun c => ?_) (fun c => ?_)
  · replace h := h.1 c
    refine kf_lload hx dX11_spelled_119 0 rfl ?_
    exact hret _ _ t0  dX11_spelled_121 h
  · replace h := h.2 c
    refine kf_lload hx dX11_spelled_102 0 rfl ?_
    refine kf_ldc2 hx ko_RX11_160 dX11_spelled_104 ?_
    refine kf_lmul hx dX11_spelled_107 ?_
    refine kf_iload hx dX11_spelled_108 1 rfl ?_
    refine kf_i2l hx dX11_spelled_110 ?_
    refine kf_ladd hx dX11_spelled_111 ?_
    refine kf_ldc2 hx ko_RX11_162 dX11_spelled_112 ?_
    refine kf_lsub hx dX11_spelled_115 ?_
    refine kf_goto hx 121 dX11_spelled_116 (by decide) ?_
    exact hret _ _ (((t0 * 32) + (Int32.toInt64 x5)) - 96)  dX11_spelled_121 h
def wj_X11_spelled_69 (x4 : Int32) (x5 : Int32) (t0 : Int64) (Post : Int64 → Prop) : Prop :=
  (x4 ≤ 0 → (wj_X11_spelled_95 x5 t0 Post)) ∧ (¬ x4 ≤ 0 → (wj_X11_spelled_95 x5 (((t0 * 32) + (Int32.toInt64 x4)) - 96) Post))
set_option maxHeartbeats 4000000 in
set_option maxRecDepth 20000 in
theorem wk_X11_spelled_69 (g : kf_G) (hg : kf_g g) {x : kf_X} (hx : kf_ok g x RX11 cX11_spelled 8 0 0) (I : HI) (J : HJ) (x4 : Int32) (x5 : Int32) (t0 : Int64) (Post : Int64 → Prop) (hret : ∀ (pc : Nat) (lv : List (Nat × Value)) (v : Int64), decode cX11_spelled pc = .ok (.lreturn, 1) → Post v → kf_M g x 8 pc lv [.long v] I J) (h : wj_X11_spelled_69 x4 x5 t0 Post) : kf_M g x 8 69 [(4, .int x4), (5, .int x5)] [.long t0] I J := by
  unfold wj_X11_spelled_69 at h
  refine kf_lstore (lv' := [(6, .long t0), (4, .int x4), (5, .int x5)]) hx dX11_spelled_69 (by decide) rfl ?_
  refine kf_iload hx dX11_spelled_71 1 rfl ?_
  refine kf_if_le hx 93 dX11_spelled_73 (by decide) (fun c => ?_) (fun c => ?_)
  · replace h := h.1 c
    refine kf_lload hx dX11_spelled_93 0 rfl ?_
    refine kf_sub [2] rfl ?_
    exact wk_X11_spelled_95 g hg hx I J x5 t0 _ hret h
  · replace h := h.2 c
    refine kf_lload hx dX11_spelled_76 0 rfl ?_
    refine kf_ldc2 hx ko_RX11_160 dX11_spelled_78 ?_
    refine kf_lmul hx dX11_spelled_81 ?_
    refine kf_iload hx dX11_spelled_82 1 rfl ?_
    refine kf_i2l hx dX11_spelled_84 ?_
    refine kf_ladd hx dX11_spelled_85 ?_
    refine kf_ldc2 hx ko_RX11_162 dX11_spelled_86 ?_
    refine kf_lsub hx dX11_spelled_89 ?_
    refine kf_goto hx 95 dX11_spelled_90 (by decide) ?_
    refine kf_sub [2] rfl ?_
    exact wk_X11_spelled_95 g hg hx I J x5 (((t0 * 32) + (Int32.toInt64 x4)) - 96) _ hret h
def wj_X11_spelled_45 (x3 : Int32) (x4 : Int32) (x5 : Int32) (t0 : Int64) (Post : Int64 → Prop) : Prop :=
  (x3 ≤ 0 → (wj_X11_spelled_69 x4 x5 t0 Post)) ∧ (¬ x3 ≤ 0 → (wj_X11_spelled_69 x4 x5 (((t0 * 32) + (Int32.toInt64 x3)) - 96) Post))
set_option maxHeartbeats 4000000 in
set_option maxRecDepth 20000 in
theorem wk_X11_spelled_45 (g : kf_G) (hg : kf_g g) {x : kf_X} (hx : kf_ok g x RX11 cX11_spelled 8 0 0) (I : HI) (J : HJ) (x3 : Int32) (x4 : Int32) (x5 : Int32) (t0 : Int64) (Post : Int64 → Prop) (hret : ∀ (pc : Nat) (lv : List (Nat × Value)) (v : Int64), decode cX11_spelled pc = .ok (.lreturn, 1) → Post v → kf_M g x 8 pc lv [.long v] I J) (h : wj_X11_spelled_45 x3 x4 x5 t0 Post) : kf_M g x 8 45 [(3, .int x3), (4, .int x4), (5, .int x5)] [.long t0] I J := by
  unfold wj_X11_spelled_45 at h
  refine kf_lstore (lv' := [(6, .long t0), (3, .int x3), (4, .int x4), (5, .int x5)]) hx dX11_spelled_45 (by decide) rfl ?_
  refine kf_iload_n hx dX11_spelled_47 rfl 1 rfl ?_
  refine kf_if_le hx 67 dX11_spelled_48 (by decide) (fun c => ?_) (fun c => ?_)
  · replace h := h.1 c
    refine kf_lload hx dX11_spelled_67 0 rfl ?_
    refine kf_sub [2, 3] rfl ?_
    exact wk_X11_spelled_69 g hg hx I J x4 x5 t0 _ hret h
  · replace h := h.2 c
    refine kf_lload hx dX11_spelled_51 0 rfl ?_
    refine kf_ldc2 hx ko_RX11_160 dX11_spelled_53 ?_
    refine kf_lmul hx dX11_spelled_56 ?_
    refine kf_iload_n hx dX11_spelled_57 rfl 1 rfl ?_
    refine kf_i2l hx dX11_spelled_58 ?_
    refine kf_ladd hx dX11_spelled_59 ?_
    refine kf_ldc2 hx ko_RX11_162 dX11_spelled_60 ?_
    refine kf_lsub hx dX11_spelled_63 ?_
    refine kf_goto hx 69 dX11_spelled_64 (by decide) ?_
    refine kf_sub [2, 3] rfl ?_
    exact wk_X11_spelled_69 g hg hx I J x4 x5 (((t0 * 32) + (Int32.toInt64 x3)) - 96) _ hret h
def w_X11_spelled (x0 : Int32) (x1 : Int32) (x2 : Int32) (x3 : Int32) (x4 : Int32) (x5 : Int32) (Post : Int64 → Prop) : Prop :=
  ∀ z_1 : Int64, z_1 = (((((Int32.toInt64 x0) - 96) * 32) + (Int32.toInt64 x1)) - 96) → ((x2 ≤ 0 → (wj_X11_spelled_45 x3 x4 x5 z_1 Post)) ∧ (¬ x2 ≤ 0 → (wj_X11_spelled_45 x3 x4 x5 (((z_1 * 32) + (Int32.toInt64 x2)) - 96) Post)))
set_option maxHeartbeats 4000000 in
set_option maxRecDepth 20000 in
theorem we_X11_spelled (g : kf_G) (hg : kf_g g) {x : kf_X} (hx : kf_ok g x RX11 cX11_spelled 8 0 0) (x0 : Int32) (x1 : Int32) (x2 : Int32) (x3 : Int32) (x4 : Int32) (x5 : Int32) (I : HI) (J : HJ) (Post : Int64 → Prop) (hret : ∀ (pc : Nat) (lv : List (Nat × Value)) (v : Int64), decode cX11_spelled pc = .ok (.lreturn, 1) → Post v → kf_M g x 8 pc lv [.long v] I J) (h : w_X11_spelled x0 x1 x2 x3 x4 x5 Post) : kf_M g x 8 0 [(0, .int x0), (1, .int x1), (2, .int x2), (3, .int x3), (4, .int x4), (5, .int x5)] [] I J := by
  unfold w_X11_spelled at h
  refine kf_iload_n hx dX11_spelled_0 rfl 0 rfl ?_
  refine kf_i2l hx dX11_spelled_1 ?_
  refine kf_ldc2 hx ko_RX11_162 dX11_spelled_2 ?_
  refine kf_lsub hx dX11_spelled_5 ?_
  refine kf_lstore (lv' := [(6, .long ((Int32.toInt64 x0) - 96)), (0, .int x0), (1, .int x1), (2, .int x2), (3, .int x3), (4, .int x4), (5, .int x5)]) hx dX11_spelled_6 (by decide) rfl ?_
  refine kf_lload hx dX11_spelled_8 0 rfl ?_
  refine kf_ldc2 hx ko_RX11_160 dX11_spelled_10 ?_
  refine kf_lmul hx dX11_spelled_13 ?_
  refine kf_iload_n hx dX11_spelled_14 rfl 2 rfl ?_
  refine kf_i2l hx dX11_spelled_15 ?_
  refine kf_ladd hx dX11_spelled_16 ?_
  refine kf_ldc2 hx ko_RX11_162 dX11_spelled_17 ?_
  refine kf_lsub hx dX11_spelled_20 ?_
  refine kf_topl (fun z_1 ez_1 => ?_)
  replace h := h z_1 ez_1
  refine kf_lstore (lv' := [(6, .long z_1), (0, .int x0), (1, .int x1), (2, .int x2), (3, .int x3), (4, .int x4), (5, .int x5)]) hx dX11_spelled_21 (by decide) rfl ?_
  refine kf_iload_n hx dX11_spelled_23 rfl 3 rfl ?_
  refine kf_if_le hx 43 dX11_spelled_24 (by decide) (fun c => ?_) (fun c => ?_)
  · replace h := h.1 c
    refine kf_lload hx dX11_spelled_43 0 rfl ?_
    refine kf_sub [4, 5, 6] rfl ?_
    exact wk_X11_spelled_45 g hg hx I J x3 x4 x5 z_1 _ hret h
  · replace h := h.2 c
    refine kf_lload hx dX11_spelled_27 0 rfl ?_
    refine kf_ldc2 hx ko_RX11_160 dX11_spelled_29 ?_
    refine kf_lmul hx dX11_spelled_32 ?_
    refine kf_iload_n hx dX11_spelled_33 rfl 3 rfl ?_
    refine kf_i2l hx dX11_spelled_34 ?_
    refine kf_ladd hx dX11_spelled_35 ?_
    refine kf_ldc2 hx ko_RX11_162 dX11_spelled_36 ?_
    refine kf_lsub hx dX11_spelled_39 ?_
    refine kf_goto hx 45 dX11_spelled_40 (by decide) ?_
    refine kf_sub [4, 5, 6] rfl ?_
    exact wk_X11_spelled_45 g hg hx I J x3 x4 x5 (((z_1 * 32) + (Int32.toInt64 x2)) - 96) _ hret h
set_option maxHeartbeats 4000000 in
set_option maxRecDepth 20000 in
theorem m_X11_spelled (g : kf_G) (hg : kf_g g) (x0 : Int32) (x1 : Int32) (x2 : Int32) (x3 : Int32) (x4 : Int32) (x5 : Int32) (I : HI) (J : HJ) (Post : Int64 → Prop) (h : w_X11_spelled x0 x1 x2 x3 x4 x5 Post) : kf_Ml g yX11_spelled (kf_W yX11_spelled cX11_spelled 8 (Option.some Jvm.ClassFile.FieldType.long)) 0 0 [.int x0, .int x1, .int x2, .int x3, .int x4, .int x5] I J (fun v I' J' => Post v ∧ I' = I ∧ J' = J) :=
  kf_entl hg (by decide) (Nat.le_of_ble_eq_true rfl) rfl (fun x hx hr => we_X11_spelled g hg hx x0 x1 x2 x3 x4 x5 I J Post (fun pc lv v hd hP => hr pc lv v I J hd ⟨hP, rfl, rfl⟩) h)
theorem dX11_isWord_0 : decode cX11_isWord 0 = .ok (.aload_n 0, 1) := by decide +kernel
theorem dX11_isWord_1 : decode cX11_isWord 1 = .ok (.getfield 151, 3) := by decide +kernel
theorem dX11_isWord_4 : decode cX11_isWord 4 = .ok (.iconst 1, 1) := by decide +kernel
theorem dX11_isWord_5 : decode cX11_isWord 5 = .ok (.if_icmp .ne 16, 3) := by decide +kernel
theorem dX11_isWord_8 : decode cX11_isWord 8 = .ok (.aload_n 0, 1) := by decide +kernel
theorem dX11_isWord_9 : decode cX11_isWord 9 = .ok (.getfield 157, 3) := by decide +kernel
theorem dX11_isWord_12 : decode cX11_isWord 12 = .ok (.lload_n 1, 1) := by decide +kernel
theorem dX11_isWord_13 : decode cX11_isWord 13 = .ok (.lcmp, 1) := by decide +kernel
theorem dX11_isWord_14 : decode cX11_isWord 14 = .ok (.ifCond .ne 7, 3) := by decide +kernel
theorem dX11_isWord_17 : decode cX11_isWord 17 = .ok (.iconst 1, 1) := by decide +kernel
theorem dX11_isWord_18 : decode cX11_isWord 18 = .ok (.goto 4, 3) := by decide +kernel
theorem dX11_isWord_21 : decode cX11_isWord 21 = .ok (.iconst 0, 1) := by decide +kernel
theorem dX11_isWord_22 : decode cX11_isWord 22 = .ok (.ireturn, 1) := by decide +kernel
def w_X11_isWord (x1 : Int64) (I : HI) (J : HJ) (Post : Bool → Prop) : Prop :=
  (¬ (I 72 14) = 1 → (Post false)) ∧ ((I 72 14) = 1 → ((¬ (J 72 19) = x1 → (Post false)) ∧ ((J 72 19) = x1 → (Post true))))
set_option maxHeartbeats 4000000 in
set_option maxRecDepth 20000 in
theorem we_X11_isWord (g : kf_G) (hg : kf_g g) {x : kf_X} (hx : kf_ok g x RX11 cX11_isWord 3 0 0) (x1 : Int64) (I : HI) (J : HJ) (Post : Bool → Prop) (hret : ∀ (pc : Nat) (lv : List (Nat × Value)) (v : Bool), decode cX11_isWord pc = .ok (.ireturn, 1) → Post v → kf_M g x 3 pc lv [.int (kb v)] I J) (h : w_X11_isWord x1 I J Post) : kf_M g x 3 0 [(0, .ref (g.2.2.2 72)), (1, .long x1)] [] I J := by
  unfold w_X11_isWord at h
  refine kf_aload_n hx dX11_isWord_0 rfl 0 rfl ?_
  refine kf_getI hx sl_72_14 fl_RX11_151 dX11_isWord_1 ?_
  refine kf_iconst (v := 1) hx dX11_isWord_4 (by decide) ?_
  refine kf_icmp_ne hx 21 dX11_isWord_5 (by decide) (fun c => ?_) (fun c => ?_)
  · replace h := h.1 c
    refine kf_iconst (v := 0) hx dX11_isWord_21 (by decide) ?_
    exact hret _ _ false  dX11_isWord_22 h
  · replace h := h.2 c
    refine kf_aload_n hx dX11_isWord_8 rfl 0 rfl ?_
    refine kf_getJ hx sl_72_19 fl_RX11_157 dX11_isWord_9 ?_
    refine kf_lload_n hx dX11_isWord_12 rfl 1 rfl ?_
    refine kf_l_ne hx 21 dX11_isWord_13 dX11_isWord_14 (by decide) (fun c => ?_) (fun c => ?_)
    · replace h := h.1 c
      refine kf_iconst (v := 0) hx dX11_isWord_21 (by decide) ?_
      exact hret _ _ false  dX11_isWord_22 h
    · replace h := h.2 c
      refine kf_iconst (v := 1) hx dX11_isWord_17 (by decide) ?_
      refine kf_goto hx 22 dX11_isWord_18 (by decide) ?_
      exact hret _ _ true  dX11_isWord_22 h
set_option maxHeartbeats 4000000 in
set_option maxRecDepth 20000 in
theorem m_X11_isWord (g : kf_G) (hg : kf_g g) (x1 : Int64) (I : HI) (J : HJ) (Post : Bool → Prop) (h : w_X11_isWord x1 I J Post) : kf_Mb g yX11_isWord (kf_W yX11_isWord cX11_isWord 3 (Option.some Jvm.ClassFile.FieldType.boolean)) 0 0 [.ref (g.2.2.2 72), .long x1] I J (fun v I' J' => Post v ∧ I' = I ∧ J' = J) :=
  kf_entb hg (by decide) (Nat.le_of_ble_eq_true rfl) rfl (fun x hx hr => we_X11_isWord g hg hx x1 I J Post (fun pc lv v hd hP => hr pc lv v I J hd ⟨hP, rfl, rfl⟩) h)
theorem dX11_isPerson_0 : decode cX11_isPerson 0 = .ok (.aload_n 0, 1) := by decide +kernel
theorem dX11_isPerson_1 : decode cX11_isPerson 1 = .ok (.bipush 112, 2) := by decide +kernel
theorem dX11_isPerson_3 : decode cX11_isPerson 3 = .ok (.bipush 101, 2) := by decide +kernel
theorem dX11_isPerson_5 : decode cX11_isPerson 5 = .ok (.bipush 114, 2) := by decide +kernel
theorem dX11_isPerson_7 : decode cX11_isPerson 7 = .ok (.bipush 115, 2) := by decide +kernel
theorem dX11_isPerson_9 : decode cX11_isPerson 9 = .ok (.bipush 111, 2) := by decide +kernel
theorem dX11_isPerson_11 : decode cX11_isPerson 11 = .ok (.bipush 110, 2) := by decide +kernel
theorem dX11_isPerson_13 : decode cX11_isPerson 13 = .ok (.invokestatic 173, 3) := by decide +kernel
theorem dX11_isPerson_16 : decode cX11_isPerson 16 = .ok (.invokevirtual 177, 3) := by decide +kernel
theorem dX11_isPerson_19 : decode cX11_isPerson 19 = .ok (.ireturn, 1) := by decide +kernel
def w_X11_isPerson  (I : HI) (J : HJ) (Post : Bool → Prop) : Prop :=
  w_X11_spelled 112 101 114 115 111 110 (fun (r_1 : Int64) => (w_X11_isWord r_1 I J (fun (r_2 : Bool) => (Post r_2))))
set_option maxHeartbeats 4000000 in
set_option maxRecDepth 20000 in
theorem we_X11_isPerson (g : kf_G) (hg : kf_g g) {x : kf_X} (hx : kf_ok g x RX11 cX11_isPerson 1 1 27)  (I : HI) (J : HJ) (Post : Bool → Prop) (hret : ∀ (pc : Nat) (lv : List (Nat × Value)) (v : Bool), decode cX11_isPerson pc = .ok (.ireturn, 1) → Post v → kf_M g x 1 pc lv [.int (kb v)] I J) (h : w_X11_isPerson  I J Post) : kf_M g x 1 0 [(0, .ref (g.2.2.2 72))] [] I J := by
  unfold w_X11_isPerson at h
  refine kf_aload_n hx dX11_isPerson_0 rfl 0 rfl ?_
  refine kf_bipush (v := 112) hx dX11_isPerson_1 (by decide) ?_
  refine kf_bipush (v := 101) hx dX11_isPerson_3 (by decide) ?_
  refine kf_bipush (v := 114) hx dX11_isPerson_5 (by decide) ?_
  refine kf_bipush (v := 115) hx dX11_isPerson_7 (by decide) ?_
  refine kf_bipush (v := 111) hx dX11_isPerson_9 (by decide) ?_
  refine kf_bipush (v := 110) hx dX11_isPerson_11 (by decide) ?_
  refine kf_callSlP (st := [.ref (g.2.2.2 72)]) hx (m_X11_spelled g hg 112 101 114 115 111 110 I J _ h) lk_RX11_173 km_X11_spelled rfl (by decide) rfl (Nat.le_of_ble_eq_true rfl) dX11_isPerson_13 (fun r_1 h => ?_)
  refine kf_callVbP (st := []) hx (m_X11_isWord g hg r_1 I J _ h) lk_RX11_177 km_X11_isWord ob_72 rfl (by decide) rfl (Nat.le_of_ble_eq_true rfl) dX11_isPerson_16 (fun r_2 h => ?_)
  exact hret _ _ r_2  dX11_isPerson_19 h
set_option maxHeartbeats 4000000 in
set_option maxRecDepth 20000 in
theorem m_X11_isPerson (g : kf_G) (hg : kf_g g)  (I : HI) (J : HJ) (Post : Bool → Prop) (h : w_X11_isPerson  I J Post) : kf_Mb g yX11_isPerson (kf_W yX11_isPerson cX11_isPerson 1 (Option.some Jvm.ClassFile.FieldType.boolean)) 1 27 [.ref (g.2.2.2 72)] I J (fun v I' J' => Post v ∧ I' = I ∧ J' = J) :=
  kf_entb hg (by decide) (Nat.le_of_ble_eq_true rfl) rfl (fun x hx hr => we_X11_isPerson g hg hx  I J Post (fun pc lv v hd hP => hr pc lv v I J hd ⟨hP, rfl, rfl⟩) h)
theorem dX11_isTie_0 : decode cX11_isTie 0 = .ok (.aload_n 0, 1) := by decide +kernel
theorem dX11_isTie_1 : decode cX11_isTie 1 = .ok (.bipush 116, 2) := by decide +kernel
theorem dX11_isTie_3 : decode cX11_isTie 3 = .ok (.bipush 105, 2) := by decide +kernel
theorem dX11_isTie_5 : decode cX11_isTie 5 = .ok (.bipush 101, 2) := by decide +kernel
theorem dX11_isTie_7 : decode cX11_isTie 7 = .ok (.iconst 0, 1) := by decide +kernel
theorem dX11_isTie_8 : decode cX11_isTie 8 = .ok (.iconst 0, 1) := by decide +kernel
theorem dX11_isTie_9 : decode cX11_isTie 9 = .ok (.iconst 0, 1) := by decide +kernel
theorem dX11_isTie_10 : decode cX11_isTie 10 = .ok (.invokestatic 173, 3) := by decide +kernel
theorem dX11_isTie_13 : decode cX11_isTie 13 = .ok (.invokevirtual 177, 3) := by decide +kernel
theorem dX11_isTie_16 : decode cX11_isTie 16 = .ok (.ireturn, 1) := by decide +kernel
def w_X11_isTie  (I : HI) (J : HJ) (Post : Bool → Prop) : Prop :=
  w_X11_spelled 116 105 101 0 0 0 (fun (r_1 : Int64) => (w_X11_isWord r_1 I J (fun (r_2 : Bool) => (Post r_2))))
set_option maxHeartbeats 4000000 in
set_option maxRecDepth 20000 in
theorem we_X11_isTie (g : kf_G) (hg : kf_g g) {x : kf_X} (hx : kf_ok g x RX11 cX11_isTie 1 1 27)  (I : HI) (J : HJ) (Post : Bool → Prop) (hret : ∀ (pc : Nat) (lv : List (Nat × Value)) (v : Bool), decode cX11_isTie pc = .ok (.ireturn, 1) → Post v → kf_M g x 1 pc lv [.int (kb v)] I J) (h : w_X11_isTie  I J Post) : kf_M g x 1 0 [(0, .ref (g.2.2.2 72))] [] I J := by
  unfold w_X11_isTie at h
  refine kf_aload_n hx dX11_isTie_0 rfl 0 rfl ?_
  refine kf_bipush (v := 116) hx dX11_isTie_1 (by decide) ?_
  refine kf_bipush (v := 105) hx dX11_isTie_3 (by decide) ?_
  refine kf_bipush (v := 101) hx dX11_isTie_5 (by decide) ?_
  refine kf_iconst (v := 0) hx dX11_isTie_7 (by decide) ?_
  refine kf_iconst (v := 0) hx dX11_isTie_8 (by decide) ?_
  refine kf_iconst (v := 0) hx dX11_isTie_9 (by decide) ?_
  refine kf_callSlP (st := [.ref (g.2.2.2 72)]) hx (m_X11_spelled g hg 116 105 101 0 0 0 I J _ h) lk_RX11_173 km_X11_spelled rfl (by decide) rfl (Nat.le_of_ble_eq_true rfl) dX11_isTie_10 (fun r_1 h => ?_)
  refine kf_callVbP (st := []) hx (m_X11_isWord g hg r_1 I J _ h) lk_RX11_177 km_X11_isWord ob_72 rfl (by decide) rfl (Nat.le_of_ble_eq_true rfl) dX11_isTie_13 (fun r_2 h => ?_)
  exact hret _ _ r_2  dX11_isTie_16 h
set_option maxHeartbeats 4000000 in
set_option maxRecDepth 20000 in
theorem m_X11_isTie (g : kf_G) (hg : kf_g g)  (I : HI) (J : HJ) (Post : Bool → Prop) (h : w_X11_isTie  I J Post) : kf_Mb g yX11_isTie (kf_W yX11_isTie cX11_isTie 1 (Option.some Jvm.ClassFile.FieldType.boolean)) 1 27 [.ref (g.2.2.2 72)] I J (fun v I' J' => Post v ∧ I' = I ∧ J' = J) :=
  kf_entb hg (by decide) (Nat.le_of_ble_eq_true rfl) rfl (fun x hx hr => we_X11_isTie g hg hx  I J Post (fun pc lv v hd hP => hr pc lv v I J hd ⟨hP, rfl, rfl⟩) h)
theorem dX11_isTo_0 : decode cX11_isTo 0 = .ok (.aload_n 0, 1) := by decide +kernel
theorem dX11_isTo_1 : decode cX11_isTo 1 = .ok (.bipush 116, 2) := by decide +kernel
theorem dX11_isTo_3 : decode cX11_isTo 3 = .ok (.bipush 111, 2) := by decide +kernel
theorem dX11_isTo_5 : decode cX11_isTo 5 = .ok (.iconst 0, 1) := by decide +kernel
theorem dX11_isTo_6 : decode cX11_isTo 6 = .ok (.iconst 0, 1) := by decide +kernel
theorem dX11_isTo_7 : decode cX11_isTo 7 = .ok (.iconst 0, 1) := by decide +kernel
theorem dX11_isTo_8 : decode cX11_isTo 8 = .ok (.iconst 0, 1) := by decide +kernel
theorem dX11_isTo_9 : decode cX11_isTo 9 = .ok (.invokestatic 173, 3) := by decide +kernel
theorem dX11_isTo_12 : decode cX11_isTo 12 = .ok (.invokevirtual 177, 3) := by decide +kernel
theorem dX11_isTo_15 : decode cX11_isTo 15 = .ok (.ireturn, 1) := by decide +kernel
def w_X11_isTo  (I : HI) (J : HJ) (Post : Bool → Prop) : Prop :=
  w_X11_spelled 116 111 0 0 0 0 (fun (r_1 : Int64) => (w_X11_isWord r_1 I J (fun (r_2 : Bool) => (Post r_2))))
set_option maxHeartbeats 4000000 in
set_option maxRecDepth 20000 in
theorem we_X11_isTo (g : kf_G) (hg : kf_g g) {x : kf_X} (hx : kf_ok g x RX11 cX11_isTo 1 1 27)  (I : HI) (J : HJ) (Post : Bool → Prop) (hret : ∀ (pc : Nat) (lv : List (Nat × Value)) (v : Bool), decode cX11_isTo pc = .ok (.ireturn, 1) → Post v → kf_M g x 1 pc lv [.int (kb v)] I J) (h : w_X11_isTo  I J Post) : kf_M g x 1 0 [(0, .ref (g.2.2.2 72))] [] I J := by
  unfold w_X11_isTo at h
  refine kf_aload_n hx dX11_isTo_0 rfl 0 rfl ?_
  refine kf_bipush (v := 116) hx dX11_isTo_1 (by decide) ?_
  refine kf_bipush (v := 111) hx dX11_isTo_3 (by decide) ?_
  refine kf_iconst (v := 0) hx dX11_isTo_5 (by decide) ?_
  refine kf_iconst (v := 0) hx dX11_isTo_6 (by decide) ?_
  refine kf_iconst (v := 0) hx dX11_isTo_7 (by decide) ?_
  refine kf_iconst (v := 0) hx dX11_isTo_8 (by decide) ?_
  refine kf_callSlP (st := [.ref (g.2.2.2 72)]) hx (m_X11_spelled g hg 116 111 0 0 0 0 I J _ h) lk_RX11_173 km_X11_spelled rfl (by decide) rfl (Nat.le_of_ble_eq_true rfl) dX11_isTo_9 (fun r_1 h => ?_)
  refine kf_callVbP (st := []) hx (m_X11_isWord g hg r_1 I J _ h) lk_RX11_177 km_X11_isWord ob_72 rfl (by decide) rfl (Nat.le_of_ble_eq_true rfl) dX11_isTo_12 (fun r_2 h => ?_)
  exact hret _ _ r_2  dX11_isTo_15 h
set_option maxHeartbeats 4000000 in
set_option maxRecDepth 20000 in
theorem m_X11_isTo (g : kf_G) (hg : kf_g g)  (I : HI) (J : HJ) (Post : Bool → Prop) (h : w_X11_isTo  I J Post) : kf_Mb g yX11_isTo (kf_W yX11_isTo cX11_isTo 1 (Option.some Jvm.ClassFile.FieldType.boolean)) 1 27 [.ref (g.2.2.2 72)] I J (fun v I' J' => Post v ∧ I' = I ∧ J' = J) :=
  kf_entb hg (by decide) (Nat.le_of_ble_eq_true rfl) rfl (fun x hx hr => we_X11_isTo g hg hx  I J Post (fun pc lv v hd hP => hr pc lv v I J hd ⟨hP, rfl, rfl⟩) h)
theorem dX11_isOdds_0 : decode cX11_isOdds 0 = .ok (.aload_n 0, 1) := by decide +kernel
theorem dX11_isOdds_1 : decode cX11_isOdds 1 = .ok (.bipush 111, 2) := by decide +kernel
theorem dX11_isOdds_3 : decode cX11_isOdds 3 = .ok (.bipush 100, 2) := by decide +kernel
theorem dX11_isOdds_5 : decode cX11_isOdds 5 = .ok (.bipush 100, 2) := by decide +kernel
theorem dX11_isOdds_7 : decode cX11_isOdds 7 = .ok (.bipush 115, 2) := by decide +kernel
theorem dX11_isOdds_9 : decode cX11_isOdds 9 = .ok (.iconst 0, 1) := by decide +kernel
theorem dX11_isOdds_10 : decode cX11_isOdds 10 = .ok (.iconst 0, 1) := by decide +kernel
theorem dX11_isOdds_11 : decode cX11_isOdds 11 = .ok (.invokestatic 173, 3) := by decide +kernel
theorem dX11_isOdds_14 : decode cX11_isOdds 14 = .ok (.invokevirtual 177, 3) := by decide +kernel
theorem dX11_isOdds_17 : decode cX11_isOdds 17 = .ok (.ireturn, 1) := by decide +kernel
def w_X11_isOdds  (I : HI) (J : HJ) (Post : Bool → Prop) : Prop :=
  w_X11_spelled 111 100 100 115 0 0 (fun (r_1 : Int64) => (w_X11_isWord r_1 I J (fun (r_2 : Bool) => (Post r_2))))
set_option maxHeartbeats 4000000 in
set_option maxRecDepth 20000 in
theorem we_X11_isOdds (g : kf_G) (hg : kf_g g) {x : kf_X} (hx : kf_ok g x RX11 cX11_isOdds 1 1 27)  (I : HI) (J : HJ) (Post : Bool → Prop) (hret : ∀ (pc : Nat) (lv : List (Nat × Value)) (v : Bool), decode cX11_isOdds pc = .ok (.ireturn, 1) → Post v → kf_M g x 1 pc lv [.int (kb v)] I J) (h : w_X11_isOdds  I J Post) : kf_M g x 1 0 [(0, .ref (g.2.2.2 72))] [] I J := by
  unfold w_X11_isOdds at h
  refine kf_aload_n hx dX11_isOdds_0 rfl 0 rfl ?_
  refine kf_bipush (v := 111) hx dX11_isOdds_1 (by decide) ?_
  refine kf_bipush (v := 100) hx dX11_isOdds_3 (by decide) ?_
  refine kf_bipush (v := 100) hx dX11_isOdds_5 (by decide) ?_
  refine kf_bipush (v := 115) hx dX11_isOdds_7 (by decide) ?_
  refine kf_iconst (v := 0) hx dX11_isOdds_9 (by decide) ?_
  refine kf_iconst (v := 0) hx dX11_isOdds_10 (by decide) ?_
  refine kf_callSlP (st := [.ref (g.2.2.2 72)]) hx (m_X11_spelled g hg 111 100 100 115 0 0 I J _ h) lk_RX11_173 km_X11_spelled rfl (by decide) rfl (Nat.le_of_ble_eq_true rfl) dX11_isOdds_11 (fun r_1 h => ?_)
  refine kf_callVbP (st := []) hx (m_X11_isWord g hg r_1 I J _ h) lk_RX11_177 km_X11_isWord ob_72 rfl (by decide) rfl (Nat.le_of_ble_eq_true rfl) dX11_isOdds_14 (fun r_2 h => ?_)
  exact hret _ _ r_2  dX11_isOdds_17 h
set_option maxHeartbeats 4000000 in
set_option maxRecDepth 20000 in
theorem m_X11_isOdds (g : kf_G) (hg : kf_g g)  (I : HI) (J : HJ) (Post : Bool → Prop) (h : w_X11_isOdds  I J Post) : kf_Mb g yX11_isOdds (kf_W yX11_isOdds cX11_isOdds 1 (Option.some Jvm.ClassFile.FieldType.boolean)) 1 27 [.ref (g.2.2.2 72)] I J (fun v I' J' => Post v ∧ I' = I ∧ J' = J) :=
  kf_entb hg (by decide) (Nat.le_of_ble_eq_true rfl) rfl (fun x hx hr => we_X11_isOdds g hg hx  I J Post (fun pc lv v hd hP => hr pc lv v I J hd ⟨hP, rfl, rfl⟩) h)
theorem dX11_isValley_0 : decode cX11_isValley 0 = .ok (.aload_n 0, 1) := by decide +kernel
theorem dX11_isValley_1 : decode cX11_isValley 1 = .ok (.bipush 118, 2) := by decide +kernel
theorem dX11_isValley_3 : decode cX11_isValley 3 = .ok (.bipush 97, 2) := by decide +kernel
theorem dX11_isValley_5 : decode cX11_isValley 5 = .ok (.bipush 108, 2) := by decide +kernel
theorem dX11_isValley_7 : decode cX11_isValley 7 = .ok (.bipush 108, 2) := by decide +kernel
theorem dX11_isValley_9 : decode cX11_isValley 9 = .ok (.bipush 101, 2) := by decide +kernel
theorem dX11_isValley_11 : decode cX11_isValley 11 = .ok (.bipush 121, 2) := by decide +kernel
theorem dX11_isValley_13 : decode cX11_isValley 13 = .ok (.invokestatic 173, 3) := by decide +kernel
theorem dX11_isValley_16 : decode cX11_isValley 16 = .ok (.invokevirtual 177, 3) := by decide +kernel
theorem dX11_isValley_19 : decode cX11_isValley 19 = .ok (.ireturn, 1) := by decide +kernel
def w_X11_isValley  (I : HI) (J : HJ) (Post : Bool → Prop) : Prop :=
  w_X11_spelled 118 97 108 108 101 121 (fun (r_1 : Int64) => (w_X11_isWord r_1 I J (fun (r_2 : Bool) => (Post r_2))))
set_option maxHeartbeats 4000000 in
set_option maxRecDepth 20000 in
theorem we_X11_isValley (g : kf_G) (hg : kf_g g) {x : kf_X} (hx : kf_ok g x RX11 cX11_isValley 1 1 27)  (I : HI) (J : HJ) (Post : Bool → Prop) (hret : ∀ (pc : Nat) (lv : List (Nat × Value)) (v : Bool), decode cX11_isValley pc = .ok (.ireturn, 1) → Post v → kf_M g x 1 pc lv [.int (kb v)] I J) (h : w_X11_isValley  I J Post) : kf_M g x 1 0 [(0, .ref (g.2.2.2 72))] [] I J := by
  unfold w_X11_isValley at h
  refine kf_aload_n hx dX11_isValley_0 rfl 0 rfl ?_
  refine kf_bipush (v := 118) hx dX11_isValley_1 (by decide) ?_
  refine kf_bipush (v := 97) hx dX11_isValley_3 (by decide) ?_
  refine kf_bipush (v := 108) hx dX11_isValley_5 (by decide) ?_
  refine kf_bipush (v := 108) hx dX11_isValley_7 (by decide) ?_
  refine kf_bipush (v := 101) hx dX11_isValley_9 (by decide) ?_
  refine kf_bipush (v := 121) hx dX11_isValley_11 (by decide) ?_
  refine kf_callSlP (st := [.ref (g.2.2.2 72)]) hx (m_X11_spelled g hg 118 97 108 108 101 121 I J _ h) lk_RX11_173 km_X11_spelled rfl (by decide) rfl (Nat.le_of_ble_eq_true rfl) dX11_isValley_13 (fun r_1 h => ?_)
  refine kf_callVbP (st := []) hx (m_X11_isWord g hg r_1 I J _ h) lk_RX11_177 km_X11_isWord ob_72 rfl (by decide) rfl (Nat.le_of_ble_eq_true rfl) dX11_isValley_16 (fun r_2 h => ?_)
  exact hret _ _ r_2  dX11_isValley_19 h
set_option maxHeartbeats 4000000 in
set_option maxRecDepth 20000 in
theorem m_X11_isValley (g : kf_G) (hg : kf_g g)  (I : HI) (J : HJ) (Post : Bool → Prop) (h : w_X11_isValley  I J Post) : kf_Mb g yX11_isValley (kf_W yX11_isValley cX11_isValley 1 (Option.some Jvm.ClassFile.FieldType.boolean)) 1 27 [.ref (g.2.2.2 72)] I J (fun v I' J' => Post v ∧ I' = I ∧ J' = J) :=
  kf_entb hg (by decide) (Nat.le_of_ble_eq_true rfl) rfl (fun x hx hr => we_X11_isValley g hg hx  I J Post (fun pc lv v hd hP => hr pc lv v I J hd ⟨hP, rfl, rfl⟩) h)
theorem dX11_isMost_0 : decode cX11_isMost 0 = .ok (.aload_n 0, 1) := by decide +kernel
theorem dX11_isMost_1 : decode cX11_isMost 1 = .ok (.bipush 109, 2) := by decide +kernel
theorem dX11_isMost_3 : decode cX11_isMost 3 = .ok (.bipush 111, 2) := by decide +kernel
theorem dX11_isMost_5 : decode cX11_isMost 5 = .ok (.bipush 115, 2) := by decide +kernel
theorem dX11_isMost_7 : decode cX11_isMost 7 = .ok (.bipush 116, 2) := by decide +kernel
theorem dX11_isMost_9 : decode cX11_isMost 9 = .ok (.iconst 0, 1) := by decide +kernel
theorem dX11_isMost_10 : decode cX11_isMost 10 = .ok (.iconst 0, 1) := by decide +kernel
theorem dX11_isMost_11 : decode cX11_isMost 11 = .ok (.invokestatic 173, 3) := by decide +kernel
theorem dX11_isMost_14 : decode cX11_isMost 14 = .ok (.invokevirtual 177, 3) := by decide +kernel
theorem dX11_isMost_17 : decode cX11_isMost 17 = .ok (.ireturn, 1) := by decide +kernel
def w_X11_isMost  (I : HI) (J : HJ) (Post : Bool → Prop) : Prop :=
  w_X11_spelled 109 111 115 116 0 0 (fun (r_1 : Int64) => (w_X11_isWord r_1 I J (fun (r_2 : Bool) => (Post r_2))))
set_option maxHeartbeats 4000000 in
set_option maxRecDepth 20000 in
theorem we_X11_isMost (g : kf_G) (hg : kf_g g) {x : kf_X} (hx : kf_ok g x RX11 cX11_isMost 1 1 27)  (I : HI) (J : HJ) (Post : Bool → Prop) (hret : ∀ (pc : Nat) (lv : List (Nat × Value)) (v : Bool), decode cX11_isMost pc = .ok (.ireturn, 1) → Post v → kf_M g x 1 pc lv [.int (kb v)] I J) (h : w_X11_isMost  I J Post) : kf_M g x 1 0 [(0, .ref (g.2.2.2 72))] [] I J := by
  unfold w_X11_isMost at h
  refine kf_aload_n hx dX11_isMost_0 rfl 0 rfl ?_
  refine kf_bipush (v := 109) hx dX11_isMost_1 (by decide) ?_
  refine kf_bipush (v := 111) hx dX11_isMost_3 (by decide) ?_
  refine kf_bipush (v := 115) hx dX11_isMost_5 (by decide) ?_
  refine kf_bipush (v := 116) hx dX11_isMost_7 (by decide) ?_
  refine kf_iconst (v := 0) hx dX11_isMost_9 (by decide) ?_
  refine kf_iconst (v := 0) hx dX11_isMost_10 (by decide) ?_
  refine kf_callSlP (st := [.ref (g.2.2.2 72)]) hx (m_X11_spelled g hg 109 111 115 116 0 0 I J _ h) lk_RX11_173 km_X11_spelled rfl (by decide) rfl (Nat.le_of_ble_eq_true rfl) dX11_isMost_11 (fun r_1 h => ?_)
  refine kf_callVbP (st := []) hx (m_X11_isWord g hg r_1 I J _ h) lk_RX11_177 km_X11_isWord ob_72 rfl (by decide) rfl (Nat.le_of_ble_eq_true rfl) dX11_isMost_14 (fun r_2 h => ?_)
  exact hret _ _ r_2  dX11_isMost_17 h
set_option maxHeartbeats 4000000 in
set_option maxRecDepth 20000 in
theorem m_X11_isMost (g : kf_G) (hg : kf_g g)  (I : HI) (J : HJ) (Post : Bool → Prop) (h : w_X11_isMost  I J Post) : kf_Mb g yX11_isMost (kf_W yX11_isMost cX11_isMost 1 (Option.some Jvm.ClassFile.FieldType.boolean)) 1 27 [.ref (g.2.2.2 72)] I J (fun v I' J' => Post v ∧ I' = I ∧ J' = J) :=
  kf_entb hg (by decide) (Nat.le_of_ble_eq_true rfl) rfl (fun x hx hr => we_X11_isMost g hg hx  I J Post (fun pc lv v hd hP => hr pc lv v I J hd ⟨hP, rfl, rfl⟩) h)
theorem dX11_isHours_0 : decode cX11_isHours 0 = .ok (.aload_n 0, 1) := by decide +kernel
theorem dX11_isHours_1 : decode cX11_isHours 1 = .ok (.bipush 104, 2) := by decide +kernel
theorem dX11_isHours_3 : decode cX11_isHours 3 = .ok (.bipush 111, 2) := by decide +kernel
theorem dX11_isHours_5 : decode cX11_isHours 5 = .ok (.bipush 117, 2) := by decide +kernel
theorem dX11_isHours_7 : decode cX11_isHours 7 = .ok (.bipush 114, 2) := by decide +kernel
theorem dX11_isHours_9 : decode cX11_isHours 9 = .ok (.bipush 115, 2) := by decide +kernel
theorem dX11_isHours_11 : decode cX11_isHours 11 = .ok (.iconst 0, 1) := by decide +kernel
theorem dX11_isHours_12 : decode cX11_isHours 12 = .ok (.invokestatic 173, 3) := by decide +kernel
theorem dX11_isHours_15 : decode cX11_isHours 15 = .ok (.invokevirtual 177, 3) := by decide +kernel
theorem dX11_isHours_18 : decode cX11_isHours 18 = .ok (.ireturn, 1) := by decide +kernel
def w_X11_isHours  (I : HI) (J : HJ) (Post : Bool → Prop) : Prop :=
  w_X11_spelled 104 111 117 114 115 0 (fun (r_1 : Int64) => (w_X11_isWord r_1 I J (fun (r_2 : Bool) => (Post r_2))))
set_option maxHeartbeats 4000000 in
set_option maxRecDepth 20000 in
theorem we_X11_isHours (g : kf_G) (hg : kf_g g) {x : kf_X} (hx : kf_ok g x RX11 cX11_isHours 1 1 27)  (I : HI) (J : HJ) (Post : Bool → Prop) (hret : ∀ (pc : Nat) (lv : List (Nat × Value)) (v : Bool), decode cX11_isHours pc = .ok (.ireturn, 1) → Post v → kf_M g x 1 pc lv [.int (kb v)] I J) (h : w_X11_isHours  I J Post) : kf_M g x 1 0 [(0, .ref (g.2.2.2 72))] [] I J := by
  unfold w_X11_isHours at h
  refine kf_aload_n hx dX11_isHours_0 rfl 0 rfl ?_
  refine kf_bipush (v := 104) hx dX11_isHours_1 (by decide) ?_
  refine kf_bipush (v := 111) hx dX11_isHours_3 (by decide) ?_
  refine kf_bipush (v := 117) hx dX11_isHours_5 (by decide) ?_
  refine kf_bipush (v := 114) hx dX11_isHours_7 (by decide) ?_
  refine kf_bipush (v := 115) hx dX11_isHours_9 (by decide) ?_
  refine kf_iconst (v := 0) hx dX11_isHours_11 (by decide) ?_
  refine kf_callSlP (st := [.ref (g.2.2.2 72)]) hx (m_X11_spelled g hg 104 111 117 114 115 0 I J _ h) lk_RX11_173 km_X11_spelled rfl (by decide) rfl (Nat.le_of_ble_eq_true rfl) dX11_isHours_12 (fun r_1 h => ?_)
  refine kf_callVbP (st := []) hx (m_X11_isWord g hg r_1 I J _ h) lk_RX11_177 km_X11_isWord ob_72 rfl (by decide) rfl (Nat.le_of_ble_eq_true rfl) dX11_isHours_15 (fun r_2 h => ?_)
  exact hret _ _ r_2  dX11_isHours_18 h
set_option maxHeartbeats 4000000 in
set_option maxRecDepth 20000 in
theorem m_X11_isHours (g : kf_G) (hg : kf_g g)  (I : HI) (J : HJ) (Post : Bool → Prop) (h : w_X11_isHours  I J Post) : kf_Mb g yX11_isHours (kf_W yX11_isHours cX11_isHours 1 (Option.some Jvm.ClassFile.FieldType.boolean)) 1 27 [.ref (g.2.2.2 72)] I J (fun v I' J' => Post v ∧ I' = I ∧ J' = J) :=
  kf_entb hg (by decide) (Nat.le_of_ble_eq_true rfl) rfl (fun x hx hr => we_X11_isHours g hg hx  I J Post (fun pc lv v hd hP => hr pc lv v I J hd ⟨hP, rfl, rfl⟩) h)
theorem dX11_isBack_0 : decode cX11_isBack 0 = .ok (.aload_n 0, 1) := by decide +kernel
theorem dX11_isBack_1 : decode cX11_isBack 1 = .ok (.bipush 98, 2) := by decide +kernel
theorem dX11_isBack_3 : decode cX11_isBack 3 = .ok (.bipush 97, 2) := by decide +kernel
theorem dX11_isBack_5 : decode cX11_isBack 5 = .ok (.bipush 99, 2) := by decide +kernel
theorem dX11_isBack_7 : decode cX11_isBack 7 = .ok (.bipush 107, 2) := by decide +kernel
theorem dX11_isBack_9 : decode cX11_isBack 9 = .ok (.iconst 0, 1) := by decide +kernel
theorem dX11_isBack_10 : decode cX11_isBack 10 = .ok (.iconst 0, 1) := by decide +kernel
theorem dX11_isBack_11 : decode cX11_isBack 11 = .ok (.invokestatic 173, 3) := by decide +kernel
theorem dX11_isBack_14 : decode cX11_isBack 14 = .ok (.invokevirtual 177, 3) := by decide +kernel
theorem dX11_isBack_17 : decode cX11_isBack 17 = .ok (.ireturn, 1) := by decide +kernel
def w_X11_isBack  (I : HI) (J : HJ) (Post : Bool → Prop) : Prop :=
  w_X11_spelled 98 97 99 107 0 0 (fun (r_1 : Int64) => (w_X11_isWord r_1 I J (fun (r_2 : Bool) => (Post r_2))))
set_option maxHeartbeats 4000000 in
set_option maxRecDepth 20000 in
theorem we_X11_isBack (g : kf_G) (hg : kf_g g) {x : kf_X} (hx : kf_ok g x RX11 cX11_isBack 1 1 27)  (I : HI) (J : HJ) (Post : Bool → Prop) (hret : ∀ (pc : Nat) (lv : List (Nat × Value)) (v : Bool), decode cX11_isBack pc = .ok (.ireturn, 1) → Post v → kf_M g x 1 pc lv [.int (kb v)] I J) (h : w_X11_isBack  I J Post) : kf_M g x 1 0 [(0, .ref (g.2.2.2 72))] [] I J := by
  unfold w_X11_isBack at h
  refine kf_aload_n hx dX11_isBack_0 rfl 0 rfl ?_
  refine kf_bipush (v := 98) hx dX11_isBack_1 (by decide) ?_
  refine kf_bipush (v := 97) hx dX11_isBack_3 (by decide) ?_
  refine kf_bipush (v := 99) hx dX11_isBack_5 (by decide) ?_
  refine kf_bipush (v := 107) hx dX11_isBack_7 (by decide) ?_
  refine kf_iconst (v := 0) hx dX11_isBack_9 (by decide) ?_
  refine kf_iconst (v := 0) hx dX11_isBack_10 (by decide) ?_
  refine kf_callSlP (st := [.ref (g.2.2.2 72)]) hx (m_X11_spelled g hg 98 97 99 107 0 0 I J _ h) lk_RX11_173 km_X11_spelled rfl (by decide) rfl (Nat.le_of_ble_eq_true rfl) dX11_isBack_11 (fun r_1 h => ?_)
  refine kf_callVbP (st := []) hx (m_X11_isWord g hg r_1 I J _ h) lk_RX11_177 km_X11_isWord ob_72 rfl (by decide) rfl (Nat.le_of_ble_eq_true rfl) dX11_isBack_14 (fun r_2 h => ?_)
  exact hret _ _ r_2  dX11_isBack_17 h
set_option maxHeartbeats 4000000 in
set_option maxRecDepth 20000 in
theorem m_X11_isBack (g : kf_G) (hg : kf_g g)  (I : HI) (J : HJ) (Post : Bool → Prop) (h : w_X11_isBack  I J Post) : kf_Mb g yX11_isBack (kf_W yX11_isBack cX11_isBack 1 (Option.some Jvm.ClassFile.FieldType.boolean)) 1 27 [.ref (g.2.2.2 72)] I J (fun v I' J' => Post v ∧ I' = I ∧ J' = J) :=
  kf_entb hg (by decide) (Nat.le_of_ble_eq_true rfl) rfl (fun x hx hr => we_X11_isBack g hg hx  I J Post (fun pc lv v hd hP => hr pc lv v I J hd ⟨hP, rfl, rfl⟩) h)
theorem dX11_trait_0 : decode cX11_trait 0 = .ok (.aload_n 0, 1) := by decide +kernel
theorem dX11_trait_1 : decode cX11_trait 1 = .ok (.bipush 105, 2) := by decide +kernel
theorem dX11_trait_3 : decode cX11_trait 3 = .ok (.bipush 110, 2) := by decide +kernel
theorem dX11_trait_5 : decode cX11_trait 5 = .ok (.iconst 0, 1) := by decide +kernel
theorem dX11_trait_6 : decode cX11_trait 6 = .ok (.iconst 0, 1) := by decide +kernel
theorem dX11_trait_7 : decode cX11_trait 7 = .ok (.iconst 0, 1) := by decide +kernel
theorem dX11_trait_8 : decode cX11_trait 8 = .ok (.iconst 0, 1) := by decide +kernel
theorem dX11_trait_9 : decode cX11_trait 9 = .ok (.invokestatic 173, 3) := by decide +kernel
theorem dX11_trait_12 : decode cX11_trait 12 = .ok (.invokevirtual 177, 3) := by decide +kernel
theorem dX11_trait_15 : decode cX11_trait 15 = .ok (.ifCond .eq 5, 3) := by decide +kernel
theorem dX11_trait_18 : decode cX11_trait 18 = .ok (.iconst 0, 1) := by decide +kernel
theorem dX11_trait_19 : decode cX11_trait 19 = .ok (.ireturn, 1) := by decide +kernel
theorem dX11_trait_20 : decode cX11_trait 20 = .ok (.aload_n 0, 1) := by decide +kernel
theorem dX11_trait_21 : decode cX11_trait 21 = .ok (.bipush 110, 2) := by decide +kernel
theorem dX11_trait_23 : decode cX11_trait 23 = .ok (.bipush 101, 2) := by decide +kernel
theorem dX11_trait_25 : decode cX11_trait 25 = .ok (.bipush 101, 2) := by decide +kernel
theorem dX11_trait_27 : decode cX11_trait 27 = .ok (.bipush 100, 2) := by decide +kernel
theorem dX11_trait_29 : decode cX11_trait 29 = .ok (.bipush 115, 2) := by decide +kernel
theorem dX11_trait_31 : decode cX11_trait 31 = .ok (.iconst 0, 1) := by decide +kernel
theorem dX11_trait_32 : decode cX11_trait 32 = .ok (.invokestatic 173, 3) := by decide +kernel
theorem dX11_trait_35 : decode cX11_trait 35 = .ok (.invokevirtual 177, 3) := by decide +kernel
theorem dX11_trait_38 : decode cX11_trait 38 = .ok (.ifCond .eq 5, 3) := by decide +kernel
theorem dX11_trait_41 : decode cX11_trait 41 = .ok (.iconst 1, 1) := by decide +kernel
theorem dX11_trait_42 : decode cX11_trait 42 = .ok (.ireturn, 1) := by decide +kernel
theorem dX11_trait_43 : decode cX11_trait 43 = .ok (.aload_n 0, 1) := by decide +kernel
theorem dX11_trait_44 : decode cX11_trait 44 = .ok (.bipush 108, 2) := by decide +kernel
theorem dX11_trait_46 : decode cX11_trait 46 = .ok (.bipush 97, 2) := by decide +kernel
theorem dX11_trait_48 : decode cX11_trait 48 = .ok (.bipush 116, 2) := by decide +kernel
theorem dX11_trait_50 : decode cX11_trait 50 = .ok (.bipush 101, 2) := by decide +kernel
theorem dX11_trait_52 : decode cX11_trait 52 = .ok (.iconst 0, 1) := by decide +kernel
theorem dX11_trait_53 : decode cX11_trait 53 = .ok (.iconst 0, 1) := by decide +kernel
theorem dX11_trait_54 : decode cX11_trait 54 = .ok (.invokestatic 173, 3) := by decide +kernel
theorem dX11_trait_57 : decode cX11_trait 57 = .ok (.invokevirtual 177, 3) := by decide +kernel
theorem dX11_trait_60 : decode cX11_trait 60 = .ok (.ifCond .eq 5, 3) := by decide +kernel
theorem dX11_trait_63 : decode cX11_trait 63 = .ok (.iconst 2, 1) := by decide +kernel
theorem dX11_trait_64 : decode cX11_trait 64 = .ok (.ireturn, 1) := by decide +kernel
theorem dX11_trait_65 : decode cX11_trait 65 = .ok (.aload_n 0, 1) := by decide +kernel
theorem dX11_trait_66 : decode cX11_trait 66 = .ok (.ldc2_w 181, 3) := by decide +kernel
theorem dX11_trait_69 : decode cX11_trait 69 = .ok (.invokevirtual 177, 3) := by decide +kernel
theorem dX11_trait_72 : decode cX11_trait 72 = .ok (.ifCond .eq 5, 3) := by decide +kernel
theorem dX11_trait_75 : decode cX11_trait 75 = .ok (.iconst 3, 1) := by decide +kernel
theorem dX11_trait_76 : decode cX11_trait 76 = .ok (.ireturn, 1) := by decide +kernel
theorem dX11_trait_77 : decode cX11_trait 77 = .ok (.aload_n 0, 1) := by decide +kernel
theorem dX11_trait_78 : decode cX11_trait 78 = .ok (.bipush 99, 2) := by decide +kernel
theorem dX11_trait_80 : decode cX11_trait 80 = .ok (.bipush 111, 2) := by decide +kernel
theorem dX11_trait_82 : decode cX11_trait 82 = .ok (.bipush 115, 2) := by decide +kernel
theorem dX11_trait_84 : decode cX11_trait 84 = .ok (.bipush 116, 2) := by decide +kernel
theorem dX11_trait_86 : decode cX11_trait 86 = .ok (.bipush 115, 2) := by decide +kernel
theorem dX11_trait_88 : decode cX11_trait 88 = .ok (.iconst 0, 1) := by decide +kernel
theorem dX11_trait_89 : decode cX11_trait 89 = .ok (.invokestatic 173, 3) := by decide +kernel
theorem dX11_trait_92 : decode cX11_trait 92 = .ok (.invokevirtual 177, 3) := by decide +kernel
theorem dX11_trait_95 : decode cX11_trait 95 = .ok (.ifCond .eq 7, 3) := by decide +kernel
theorem dX11_trait_98 : decode cX11_trait 98 = .ok (.iconst 4, 1) := by decide +kernel
theorem dX11_trait_99 : decode cX11_trait 99 = .ok (.goto 4, 3) := by decide +kernel
theorem dX11_trait_102 : decode cX11_trait 102 = .ok (.iconst (-1), 1) := by decide +kernel
theorem dX11_trait_103 : decode cX11_trait 103 = .ok (.ireturn, 1) := by decide +kernel
def w_X11_trait  (I : HI) (J : HJ) (Post : Int32 → Prop) : Prop :=
  w_X11_spelled 105 110 0 0 0 0 (fun (r_1 : Int64) => (w_X11_isWord r_1 I J (fun (r_2 : Bool) => ((r_2 = false → (w_X11_spelled 110 101 101 100 115 0 (fun (r_3 : Int64) => (w_X11_isWord r_3 I J (fun (r_4 : Bool) => ((r_4 = false → (w_X11_spelled 108 97 116 101 0 0 (fun (r_5 : Int64) => (w_X11_isWord r_5 I J (fun (r_6 : Bool) => ((r_6 = false → (w_X11_isWord 675016687182 I J (fun (r_7 : Bool) => ((r_7 = false → (w_X11_spelled 99 111 115 116 115 0 (fun (r_8 : Int64) => (w_X11_isWord r_8 I J (fun (r_9 : Bool) => ((r_9 = false → (Post (-1))) ∧ (r_9 = true → (Post 4)))))))) ∧ (r_7 = true → (Post 3)))))) ∧ (r_6 = true → (Post 2)))))))) ∧ (r_4 = true → (Post 1)))))))) ∧ (r_2 = true → (Post 0))))))
set_option maxHeartbeats 4000000 in
set_option maxRecDepth 20000 in
theorem we_X11_trait (g : kf_G) (hg : kf_g g) {x : kf_X} (hx : kf_ok g x RX11 cX11_trait 1 1 27)  (I : HI) (J : HJ) (Post : Int32 → Prop) (hret : ∀ (pc : Nat) (lv : List (Nat × Value)) (v : Int32), decode cX11_trait pc = .ok (.ireturn, 1) → Post v → kf_M g x 1 pc lv [.int v] I J) (h : w_X11_trait  I J Post) : kf_M g x 1 0 [(0, .ref (g.2.2.2 72))] [] I J := by
  unfold w_X11_trait at h
  refine kf_aload_n hx dX11_trait_0 rfl 0 rfl ?_
  refine kf_bipush (v := 105) hx dX11_trait_1 (by decide) ?_
  refine kf_bipush (v := 110) hx dX11_trait_3 (by decide) ?_
  refine kf_iconst (v := 0) hx dX11_trait_5 (by decide) ?_
  refine kf_iconst (v := 0) hx dX11_trait_6 (by decide) ?_
  refine kf_iconst (v := 0) hx dX11_trait_7 (by decide) ?_
  refine kf_iconst (v := 0) hx dX11_trait_8 (by decide) ?_
  refine kf_callSlP (st := [.ref (g.2.2.2 72)]) hx (m_X11_spelled g hg 105 110 0 0 0 0 I J _ h) lk_RX11_173 km_X11_spelled rfl (by decide) rfl (Nat.le_of_ble_eq_true rfl) dX11_trait_9 (fun r_1 h => ?_)
  refine kf_callVbP (st := []) hx (m_X11_isWord g hg r_1 I J _ h) lk_RX11_177 km_X11_isWord ob_72 rfl (by decide) rfl (Nat.le_of_ble_eq_true rfl) dX11_trait_12 (fun r_2 h => ?_)
  refine kf_ifB_eq hx 20 dX11_trait_15 (by decide) (fun c => ?_) (fun c => ?_)
  · replace h := h.1 c
    refine kf_aload_n hx dX11_trait_20 rfl 0 rfl ?_
    refine kf_bipush (v := 110) hx dX11_trait_21 (by decide) ?_
    refine kf_bipush (v := 101) hx dX11_trait_23 (by decide) ?_
    refine kf_bipush (v := 101) hx dX11_trait_25 (by decide) ?_
    refine kf_bipush (v := 100) hx dX11_trait_27 (by decide) ?_
    refine kf_bipush (v := 115) hx dX11_trait_29 (by decide) ?_
    refine kf_iconst (v := 0) hx dX11_trait_31 (by decide) ?_
    refine kf_callSlP (st := [.ref (g.2.2.2 72)]) hx (m_X11_spelled g hg 110 101 101 100 115 0 I J _ h) lk_RX11_173 km_X11_spelled rfl (by decide) rfl (Nat.le_of_ble_eq_true rfl) dX11_trait_32 (fun r_3 h => ?_)
    refine kf_callVbP (st := []) hx (m_X11_isWord g hg r_3 I J _ h) lk_RX11_177 km_X11_isWord ob_72 rfl (by decide) rfl (Nat.le_of_ble_eq_true rfl) dX11_trait_35 (fun r_4 h => ?_)
    refine kf_ifB_eq hx 43 dX11_trait_38 (by decide) (fun c => ?_) (fun c => ?_)
    · replace h := h.1 c
      refine kf_aload_n hx dX11_trait_43 rfl 0 rfl ?_
      refine kf_bipush (v := 108) hx dX11_trait_44 (by decide) ?_
      refine kf_bipush (v := 97) hx dX11_trait_46 (by decide) ?_
      refine kf_bipush (v := 116) hx dX11_trait_48 (by decide) ?_
      refine kf_bipush (v := 101) hx dX11_trait_50 (by decide) ?_
      refine kf_iconst (v := 0) hx dX11_trait_52 (by decide) ?_
      refine kf_iconst (v := 0) hx dX11_trait_53 (by decide) ?_
      refine kf_callSlP (st := [.ref (g.2.2.2 72)]) hx (m_X11_spelled g hg 108 97 116 101 0 0 I J _ h) lk_RX11_173 km_X11_spelled rfl (by decide) rfl (Nat.le_of_ble_eq_true rfl) dX11_trait_54 (fun r_5 h => ?_)
      refine kf_callVbP (st := []) hx (m_X11_isWord g hg r_5 I J _ h) lk_RX11_177 km_X11_isWord ob_72 rfl (by decide) rfl (Nat.le_of_ble_eq_true rfl) dX11_trait_57 (fun r_6 h => ?_)
      refine kf_ifB_eq hx 65 dX11_trait_60 (by decide) (fun c => ?_) (fun c => ?_)
      · replace h := h.1 c
        refine kf_aload_n hx dX11_trait_65 rfl 0 rfl ?_
        refine kf_ldc2 hx ko_RX11_181 dX11_trait_66 ?_
        refine kf_callVbP (st := []) hx (m_X11_isWord g hg 675016687182 I J _ h) lk_RX11_177 km_X11_isWord ob_72 rfl (by decide) rfl (Nat.le_of_ble_eq_true rfl) dX11_trait_69 (fun r_7 h => ?_)
        refine kf_ifB_eq hx 77 dX11_trait_72 (by decide) (fun c => ?_) (fun c => ?_)
        · replace h := h.1 c
          refine kf_aload_n hx dX11_trait_77 rfl 0 rfl ?_
          refine kf_bipush (v := 99) hx dX11_trait_78 (by decide) ?_
          refine kf_bipush (v := 111) hx dX11_trait_80 (by decide) ?_
          refine kf_bipush (v := 115) hx dX11_trait_82 (by decide) ?_
          refine kf_bipush (v := 116) hx dX11_trait_84 (by decide) ?_
          refine kf_bipush (v := 115) hx dX11_trait_86 (by decide) ?_
          refine kf_iconst (v := 0) hx dX11_trait_88 (by decide) ?_
          refine kf_callSlP (st := [.ref (g.2.2.2 72)]) hx (m_X11_spelled g hg 99 111 115 116 115 0 I J _ h) lk_RX11_173 km_X11_spelled rfl (by decide) rfl (Nat.le_of_ble_eq_true rfl) dX11_trait_89 (fun r_8 h => ?_)
          refine kf_callVbP (st := []) hx (m_X11_isWord g hg r_8 I J _ h) lk_RX11_177 km_X11_isWord ob_72 rfl (by decide) rfl (Nat.le_of_ble_eq_true rfl) dX11_trait_92 (fun r_9 h => ?_)
          refine kf_ifB_eq hx 102 dX11_trait_95 (by decide) (fun c => ?_) (fun c => ?_)
          · replace h := h.1 c
            refine kf_iconst (v := (-1)) hx dX11_trait_102 (by decide) ?_
            exact hret _ _ (-1)  dX11_trait_103 h
          · replace h := h.2 c
            refine kf_iconst (v := 4) hx dX11_trait_98 (by decide) ?_
            refine kf_goto hx 103 dX11_trait_99 (by decide) ?_
            exact hret _ _ 4  dX11_trait_103 h
        · replace h := h.2 c
          refine kf_iconst (v := 3) hx dX11_trait_75 (by decide) ?_
          exact hret _ _ 3  dX11_trait_76 h
      · replace h := h.2 c
        refine kf_iconst (v := 2) hx dX11_trait_63 (by decide) ?_
        exact hret _ _ 2  dX11_trait_64 h
    · replace h := h.2 c
      refine kf_iconst (v := 1) hx dX11_trait_41 (by decide) ?_
      exact hret _ _ 1  dX11_trait_42 h
  · replace h := h.2 c
    refine kf_iconst (v := 0) hx dX11_trait_18 (by decide) ?_
    exact hret _ _ 0  dX11_trait_19 h
set_option maxHeartbeats 4000000 in
set_option maxRecDepth 20000 in
theorem m_X11_trait (g : kf_G) (hg : kf_g g)  (I : HI) (J : HJ) (Post : Int32 → Prop) (h : w_X11_trait  I J Post) : kf_Mi g yX11_trait (kf_W yX11_trait cX11_trait 1 (Option.some Jvm.ClassFile.FieldType.int)) 1 27 [.ref (g.2.2.2 72)] I J (fun v I' J' => Post v ∧ I' = I ∧ J' = J) :=
  kf_enti hg (by decide) (Nat.le_of_ble_eq_true rfl) rfl (fun x hx hr => we_X11_trait g hg hx  I J Post (fun pc lv v hd hP => hr pc lv v I J hd ⟨hP, rfl, rfl⟩) h)
theorem dX11_isName_0 : decode cX11_isName 0 = .ok (.aload_n 0, 1) := by decide +kernel
theorem dX11_isName_1 : decode cX11_isName 1 = .ok (.getfield 151, 3) := by decide +kernel
theorem dX11_isName_4 : decode cX11_isName 4 = .ok (.iconst 1, 1) := by decide +kernel
theorem dX11_isName_5 : decode cX11_isName 5 = .ok (.if_icmp .ne 79, 3) := by decide +kernel
theorem dX11_isName_8 : decode cX11_isName 8 = .ok (.aload_n 0, 1) := by decide +kernel
theorem dX11_isName_9 : decode cX11_isName 9 = .ok (.getfield 164, 3) := by decide +kernel
theorem dX11_isName_12 : decode cX11_isName 12 = .ok (.bipush 8, 2) := by decide +kernel
theorem dX11_isName_14 : decode cX11_isName 14 = .ok (.if_icmp .gt 70, 3) := by decide +kernel
theorem dX11_isName_17 : decode cX11_isName 17 = .ok (.aload_n 0, 1) := by decide +kernel
theorem dX11_isName_18 : decode cX11_isName 18 = .ok (.invokevirtual 183, 3) := by decide +kernel
theorem dX11_isName_21 : decode cX11_isName 21 = .ok (.ifCond .ge 63, 3) := by decide +kernel
theorem dX11_isName_24 : decode cX11_isName 24 = .ok (.aload_n 0, 1) := by decide +kernel
theorem dX11_isName_25 : decode cX11_isName 25 = .ok (.invokevirtual 187, 3) := by decide +kernel
theorem dX11_isName_28 : decode cX11_isName 28 = .ok (.ifCond .ne 56, 3) := by decide +kernel
theorem dX11_isName_31 : decode cX11_isName 31 = .ok (.aload_n 0, 1) := by decide +kernel
theorem dX11_isName_32 : decode cX11_isName 32 = .ok (.invokevirtual 191, 3) := by decide +kernel
theorem dX11_isName_35 : decode cX11_isName 35 = .ok (.ifCond .ne 49, 3) := by decide +kernel
theorem dX11_isName_38 : decode cX11_isName 38 = .ok (.aload_n 0, 1) := by decide +kernel
theorem dX11_isName_39 : decode cX11_isName 39 = .ok (.invokevirtual 194, 3) := by decide +kernel
theorem dX11_isName_42 : decode cX11_isName 42 = .ok (.ifCond .ne 42, 3) := by decide +kernel
theorem dX11_isName_45 : decode cX11_isName 45 = .ok (.aload_n 0, 1) := by decide +kernel
theorem dX11_isName_46 : decode cX11_isName 46 = .ok (.invokevirtual 197, 3) := by decide +kernel
theorem dX11_isName_49 : decode cX11_isName 49 = .ok (.ifCond .ne 35, 3) := by decide +kernel
theorem dX11_isName_52 : decode cX11_isName 52 = .ok (.aload_n 0, 1) := by decide +kernel
theorem dX11_isName_53 : decode cX11_isName 53 = .ok (.invokevirtual 200, 3) := by decide +kernel
theorem dX11_isName_56 : decode cX11_isName 56 = .ok (.ifCond .ne 28, 3) := by decide +kernel
theorem dX11_isName_59 : decode cX11_isName 59 = .ok (.aload_n 0, 1) := by decide +kernel
theorem dX11_isName_60 : decode cX11_isName 60 = .ok (.invokevirtual 203, 3) := by decide +kernel
theorem dX11_isName_63 : decode cX11_isName 63 = .ok (.ifCond .ne 21, 3) := by decide +kernel
theorem dX11_isName_66 : decode cX11_isName 66 = .ok (.aload_n 0, 1) := by decide +kernel
theorem dX11_isName_67 : decode cX11_isName 67 = .ok (.invokevirtual 206, 3) := by decide +kernel
theorem dX11_isName_70 : decode cX11_isName 70 = .ok (.ifCond .ne 14, 3) := by decide +kernel
theorem dX11_isName_73 : decode cX11_isName 73 = .ok (.aload_n 0, 1) := by decide +kernel
theorem dX11_isName_74 : decode cX11_isName 74 = .ok (.invokevirtual 209, 3) := by decide +kernel
theorem dX11_isName_77 : decode cX11_isName 77 = .ok (.ifCond .ne 7, 3) := by decide +kernel
theorem dX11_isName_80 : decode cX11_isName 80 = .ok (.iconst 1, 1) := by decide +kernel
theorem dX11_isName_81 : decode cX11_isName 81 = .ok (.goto 4, 3) := by decide +kernel
theorem dX11_isName_84 : decode cX11_isName 84 = .ok (.iconst 0, 1) := by decide +kernel
theorem dX11_isName_85 : decode cX11_isName 85 = .ok (.ireturn, 1) := by decide +kernel
def w_X11_isName  (I : HI) (J : HJ) (Post : Bool → Prop) : Prop :=
  (¬ (I 72 14) = 1 → (Post false)) ∧ ((I 72 14) = 1 → ((8 < (I 72 18) → (Post false)) ∧ (¬ 8 < (I 72 18) → (w_X11_trait  I J (fun (r_1 : Int32) => ((0 ≤ r_1 → (Post false)) ∧ (¬ 0 ≤ r_1 → (w_X11_isPerson  I J (fun (r_2 : Bool) => ((r_2 = true → (Post false)) ∧ (r_2 = false → (w_X11_isTie  I J (fun (r_3 : Bool) => ((r_3 = true → (Post false)) ∧ (r_3 = false → (w_X11_isTo  I J (fun (r_4 : Bool) => ((r_4 = true → (Post false)) ∧ (r_4 = false → (w_X11_isOdds  I J (fun (r_5 : Bool) => ((r_5 = true → (Post false)) ∧ (r_5 = false → (w_X11_isValley  I J (fun (r_6 : Bool) => ((r_6 = true → (Post false)) ∧ (r_6 = false → (w_X11_isMost  I J (fun (r_7 : Bool) => ((r_7 = true → (Post false)) ∧ (r_7 = false → (w_X11_isHours  I J (fun (r_8 : Bool) => ((r_8 = true → (Post false)) ∧ (r_8 = false → (w_X11_isBack  I J (fun (r_9 : Bool) => ((r_9 = true → (Post false)) ∧ (r_9 = false → (Post true))))))))))))))))))))))))))))))))))))))))
set_option maxHeartbeats 4000000 in
set_option maxRecDepth 20000 in
theorem we_X11_isName (g : kf_G) (hg : kf_g g) {x : kf_X} (hx : kf_ok g x RX11 cX11_isName 1 2 47)  (I : HI) (J : HJ) (Post : Bool → Prop) (hret : ∀ (pc : Nat) (lv : List (Nat × Value)) (v : Bool), decode cX11_isName pc = .ok (.ireturn, 1) → Post v → kf_M g x 1 pc lv [.int (kb v)] I J) (h : w_X11_isName  I J Post) : kf_M g x 1 0 [(0, .ref (g.2.2.2 72))] [] I J := by
  unfold w_X11_isName at h
  refine kf_aload_n hx dX11_isName_0 rfl 0 rfl ?_
  refine kf_getI hx sl_72_14 fl_RX11_151 dX11_isName_1 ?_
  refine kf_iconst (v := 1) hx dX11_isName_4 (by decide) ?_
  refine kf_icmp_ne hx 84 dX11_isName_5 (by decide) (fun c => ?_) (fun c => ?_)
  · replace h := h.1 c
    refine kf_iconst (v := 0) hx dX11_isName_84 (by decide) ?_
    exact hret _ _ false  dX11_isName_85 h
  · replace h := h.2 c
    refine kf_aload_n hx dX11_isName_8 rfl 0 rfl ?_
    refine kf_getI hx sl_72_18 fl_RX11_164 dX11_isName_9 ?_
    refine kf_bipush (v := 8) hx dX11_isName_12 (by decide) ?_
    refine kf_icmp_gt hx 84 dX11_isName_14 (by decide) (fun c => ?_) (fun c => ?_)
    · replace h := h.1 c
      refine kf_iconst (v := 0) hx dX11_isName_84 (by decide) ?_
      exact hret _ _ false  dX11_isName_85 h
    · replace h := h.2 c
      refine kf_aload_n hx dX11_isName_17 rfl 0 rfl ?_
      refine kf_callViP (st := []) hx (m_X11_trait g hg  I J _ h) lk_RX11_183 km_X11_trait ob_72 rfl (by decide) rfl (Nat.le_of_ble_eq_true rfl) dX11_isName_18 (fun r_1 h => ?_)
      refine kf_if_ge hx 84 dX11_isName_21 (by decide) (fun c => ?_) (fun c => ?_)
      · replace h := h.1 c
        refine kf_iconst (v := 0) hx dX11_isName_84 (by decide) ?_
        exact hret _ _ false  dX11_isName_85 h
      · replace h := h.2 c
        refine kf_aload_n hx dX11_isName_24 rfl 0 rfl ?_
        refine kf_callVbP (st := []) hx (m_X11_isPerson g hg  I J _ h) lk_RX11_187 km_X11_isPerson ob_72 rfl (by decide) rfl (Nat.le_of_ble_eq_true rfl) dX11_isName_25 (fun r_2 h => ?_)
        refine kf_ifB_ne hx 84 dX11_isName_28 (by decide) (fun c => ?_) (fun c => ?_)
        · replace h := h.1 c
          refine kf_iconst (v := 0) hx dX11_isName_84 (by decide) ?_
          exact hret _ _ false  dX11_isName_85 h
        · replace h := h.2 c
          refine kf_aload_n hx dX11_isName_31 rfl 0 rfl ?_
          refine kf_callVbP (st := []) hx (m_X11_isTie g hg  I J _ h) lk_RX11_191 km_X11_isTie ob_72 rfl (by decide) rfl (Nat.le_of_ble_eq_true rfl) dX11_isName_32 (fun r_3 h => ?_)
          refine kf_ifB_ne hx 84 dX11_isName_35 (by decide) (fun c => ?_) (fun c => ?_)
          · replace h := h.1 c
            refine kf_iconst (v := 0) hx dX11_isName_84 (by decide) ?_
            exact hret _ _ false  dX11_isName_85 h
          · replace h := h.2 c
            refine kf_aload_n hx dX11_isName_38 rfl 0 rfl ?_
            refine kf_callVbP (st := []) hx (m_X11_isTo g hg  I J _ h) lk_RX11_194 km_X11_isTo ob_72 rfl (by decide) rfl (Nat.le_of_ble_eq_true rfl) dX11_isName_39 (fun r_4 h => ?_)
            refine kf_ifB_ne hx 84 dX11_isName_42 (by decide) (fun c => ?_) (fun c => ?_)
            · replace h := h.1 c
              refine kf_iconst (v := 0) hx dX11_isName_84 (by decide) ?_
              exact hret _ _ false  dX11_isName_85 h
            · replace h := h.2 c
              refine kf_aload_n hx dX11_isName_45 rfl 0 rfl ?_
              refine kf_callVbP (st := []) hx (m_X11_isOdds g hg  I J _ h) lk_RX11_197 km_X11_isOdds ob_72 rfl (by decide) rfl (Nat.le_of_ble_eq_true rfl) dX11_isName_46 (fun r_5 h => ?_)
              refine kf_ifB_ne hx 84 dX11_isName_49 (by decide) (fun c => ?_) (fun c => ?_)
              · replace h := h.1 c
                refine kf_iconst (v := 0) hx dX11_isName_84 (by decide) ?_
                exact hret _ _ false  dX11_isName_85 h
              · replace h := h.2 c
                refine kf_aload_n hx dX11_isName_52 rfl 0 rfl ?_
                refine kf_callVbP (st := []) hx (m_X11_isValley g hg  I J _ h) lk_RX11_200 km_X11_isValley ob_72 rfl (by decide) rfl (Nat.le_of_ble_eq_true rfl) dX11_isName_53 (fun r_6 h => ?_)
                refine kf_ifB_ne hx 84 dX11_isName_56 (by decide) (fun c => ?_) (fun c => ?_)
                · replace h := h.1 c
                  refine kf_iconst (v := 0) hx dX11_isName_84 (by decide) ?_
                  exact hret _ _ false  dX11_isName_85 h
                · replace h := h.2 c
                  refine kf_aload_n hx dX11_isName_59 rfl 0 rfl ?_
                  refine kf_callVbP (st := []) hx (m_X11_isMost g hg  I J _ h) lk_RX11_203 km_X11_isMost ob_72 rfl (by decide) rfl (Nat.le_of_ble_eq_true rfl) dX11_isName_60 (fun r_7 h => ?_)
                  refine kf_ifB_ne hx 84 dX11_isName_63 (by decide) (fun c => ?_) (fun c => ?_)
                  · replace h := h.1 c
                    refine kf_iconst (v := 0) hx dX11_isName_84 (by decide) ?_
                    exact hret _ _ false  dX11_isName_85 h
                  · replace h := h.2 c
                    refine kf_aload_n hx dX11_isName_66 rfl 0 rfl ?_
                    refine kf_callVbP (st := []) hx (m_X11_isHours g hg  I J _ h) lk_RX11_206 km_X11_isHours ob_72 rfl (by decide) rfl (Nat.le_of_ble_eq_true rfl) dX11_isName_67 (fun r_8 h => ?_)
                    refine kf_ifB_ne hx 84 dX11_isName_70 (by decide) (fun c => ?_) (fun c => ?_)
                    · replace h := h.1 c
                      refine kf_iconst (v := 0) hx dX11_isName_84 (by decide) ?_
                      exact hret _ _ false  dX11_isName_85 h
                    · replace h := h.2 c
                      refine kf_aload_n hx dX11_isName_73 rfl 0 rfl ?_
                      refine kf_callVbP (st := []) hx (m_X11_isBack g hg  I J _ h) lk_RX11_209 km_X11_isBack ob_72 rfl (by decide) rfl (Nat.le_of_ble_eq_true rfl) dX11_isName_74 (fun r_9 h => ?_)
                      refine kf_ifB_ne hx 84 dX11_isName_77 (by decide) (fun c => ?_) (fun c => ?_)
                      · replace h := h.1 c
                        refine kf_iconst (v := 0) hx dX11_isName_84 (by decide) ?_
                        exact hret _ _ false  dX11_isName_85 h
                      · replace h := h.2 c
                        refine kf_iconst (v := 1) hx dX11_isName_80 (by decide) ?_
                        refine kf_goto hx 85 dX11_isName_81 (by decide) ?_
                        exact hret _ _ true  dX11_isName_85 h
set_option maxHeartbeats 4000000 in
set_option maxRecDepth 20000 in
theorem m_X11_isName (g : kf_G) (hg : kf_g g)  (I : HI) (J : HJ) (Post : Bool → Prop) (h : w_X11_isName  I J Post) : kf_Mb g yX11_isName (kf_W yX11_isName cX11_isName 1 (Option.some Jvm.ClassFile.FieldType.boolean)) 2 47 [.ref (g.2.2.2 72)] I J (fun v I' J' => Post v ∧ I' = I ∧ J' = J) :=
  kf_entb hg (by decide) (Nat.le_of_ble_eq_true rfl) rfl (fun x hx hr => we_X11_isName g hg hx  I J Post (fun pc lv v hd hP => hr pc lv v I J hd ⟨hP, rfl, rfl⟩) h)
theorem dX11_fail_0 : decode cX11_fail 0 = .ok (.aload_n 0, 1) := by decide +kernel
theorem dX11_fail_1 : decode cX11_fail 1 = .ok (.getfield 212, 3) := by decide +kernel
theorem dX11_fail_4 : decode cX11_fail 4 = .ok (.ifCond .le 4, 3) := by decide +kernel
theorem dX11_fail_7 : decode cX11_fail 7 = .ok (.return_, 1) := by decide +kernel
theorem dX11_fail_8 : decode cX11_fail 8 = .ok (.aload_n 0, 1) := by decide +kernel
theorem dX11_fail_9 : decode cX11_fail 9 = .ok (.iload_n 1, 1) := by decide +kernel
theorem dX11_fail_10 : decode cX11_fail 10 = .ok (.putfield 212, 3) := by decide +kernel
theorem dX11_fail_13 : decode cX11_fail 13 = .ok (.aload_n 0, 1) := by decide +kernel
theorem dX11_fail_14 : decode cX11_fail 14 = .ok (.iload_n 2, 1) := by decide +kernel
theorem dX11_fail_15 : decode cX11_fail 15 = .ok (.putfield 215, 3) := by decide +kernel
theorem dX11_fail_18 : decode cX11_fail 18 = .ok (.return_, 1) := by decide +kernel
def w_X11_fail (x1 : Int32) (x2 : Int32) (I : HI) (J : HJ) (Post : HI → Prop) : Prop :=
  ((I 72 12) ≤ 0 → (∀ I_1 : HI, I_1 = hI I 72 12 x1 → (∀ I_2 : HI, I_2 = hI I_1 72 13 x2 → (Post I_2)))) ∧ (¬ (I 72 12) ≤ 0 → (Post I))
set_option maxHeartbeats 4000000 in
set_option maxRecDepth 20000 in
theorem we_X11_fail (g : kf_G) (hg : kf_g g) {x : kf_X} (hx : kf_ok g x RX11 cX11_fail 3 0 0) (x1 : Int32) (x2 : Int32) (I : HI) (J : HJ) (Post : HI → Prop) (hret : ∀ (pc : Nat) (lv : List (Nat × Value)) (Iy : HI), decode cX11_fail pc = .ok (.return_, 1) → Post Iy → kf_M g x 3 pc lv [] Iy J) (h : w_X11_fail x1 x2 I J Post) : kf_M g x 3 0 [(0, .ref (g.2.2.2 72)), (1, .int x1), (2, .int x2)] [] I J := by
  unfold w_X11_fail at h
  refine kf_aload_n hx dX11_fail_0 rfl 0 rfl ?_
  refine kf_getI hx sl_72_12 fl_RX11_212 dX11_fail_1 ?_
  refine kf_if_le hx 8 dX11_fail_4 (by decide) (fun c => ?_) (fun c => ?_)
  · replace h := h.1 c
    refine kf_aload_n hx dX11_fail_8 rfl 0 rfl ?_
    refine kf_iload_n hx dX11_fail_9 rfl 1 rfl ?_
    refine kf_putI hx sl_72_12 fl_RX11_212 fp_11_12 dX11_fail_10 ?_
    refine kf_nmI (fun I_1 eI_1 => ?_)
    replace h := h I_1 eI_1
    refine kf_aload_n hx dX11_fail_13 rfl 0 rfl ?_
    refine kf_iload_n hx dX11_fail_14 rfl 2 rfl ?_
    refine kf_putI hx sl_72_13 fl_RX11_215 fp_11_13 dX11_fail_15 ?_
    refine kf_nmI (fun I_2 eI_2 => ?_)
    replace h := h I_2 eI_2
    exact hret _ _ _ dX11_fail_18 h
  · replace h := h.2 c
    exact hret _ _ _ dX11_fail_7 h
set_option maxHeartbeats 4000000 in
set_option maxRecDepth 20000 in
theorem m_X11_fail (g : kf_G) (hg : kf_g g) (x1 : Int32) (x2 : Int32) (I : HI) (J : HJ) (Post : HI → Prop) (h : w_X11_fail x1 x2 I J Post) : kf_Mv g yX11_fail (kf_W yX11_fail cX11_fail 3 (Option.none : Option Jvm.ClassFile.FieldType)) 0 0 [.ref (g.2.2.2 72), .int x1, .int x2] I J (fun I' J' => Post I' ∧ J' = J) :=
  kf_entv hg (by decide) (Nat.le_of_ble_eq_true rfl) rfl (fun x hx hr => we_X11_fail g hg hx x1 x2 I J Post (fun pc lv I' hd hP => hr pc lv I' J hd ⟨hP, rfl⟩) h)
theorem dX11_wrong_0 : decode cX11_wrong 0 = .ok (.aload_n 0, 1) := by decide +kernel
theorem dX11_wrong_1 : decode cX11_wrong 1 = .ok (.aload_n 0, 1) := by decide +kernel
theorem dX11_wrong_2 : decode cX11_wrong 2 = .ok (.getfield 151, 3) := by decide +kernel
theorem dX11_wrong_5 : decode cX11_wrong 5 = .ok (.iconst 4, 1) := by decide +kernel
theorem dX11_wrong_6 : decode cX11_wrong 6 = .ok (.if_icmp .ne 7, 3) := by decide +kernel
theorem dX11_wrong_9 : decode cX11_wrong 9 = .ok (.iconst 1, 1) := by decide +kernel
theorem dX11_wrong_10 : decode cX11_wrong 10 = .ok (.goto 4, 3) := by decide +kernel
theorem dX11_wrong_13 : decode cX11_wrong 13 = .ok (.iconst 2, 1) := by decide +kernel
theorem dX11_wrong_14 : decode cX11_wrong 14 = .ok (.aload_n 0, 1) := by decide +kernel
theorem dX11_wrong_15 : decode cX11_wrong 15 = .ok (.getfield 145, 3) := by decide +kernel
theorem dX11_wrong_18 : decode cX11_wrong 18 = .ok (.invokevirtual 218, 3) := by decide +kernel
theorem dX11_wrong_21 : decode cX11_wrong 21 = .ok (.return_, 1) := by decide +kernel
def wj_X11_wrong_14 (I : HI) (J : HJ) (t0 : Int32) (Post : HI → Prop) : Prop :=
  w_X11_fail t0 (I 72 15) I J (fun (I_1 : HI) => (Post I_1))
set_option maxHeartbeats 4000000 in
set_option maxRecDepth 20000 in
theorem wk_X11_wrong_14 (g : kf_G) (hg : kf_g g) {x : kf_X} (hx : kf_ok g x RX11 cX11_wrong 1 1 22) (I : HI) (J : HJ) (t0 : Int32) (Post : HI → Prop) (hret : ∀ (pc : Nat) (lv : List (Nat × Value)) (Iy : HI), decode cX11_wrong pc = .ok (.return_, 1) → Post Iy → kf_M g x 1 pc lv [] Iy J) (h : wj_X11_wrong_14 I J t0 Post) : kf_M g x 1 14 [(0, .ref (g.2.2.2 72))] [.int t0, .ref (g.2.2.2 72)] I J := by
  unfold wj_X11_wrong_14 at h
  refine kf_aload_n hx dX11_wrong_14 rfl 0 rfl ?_
  refine kf_getI hx sl_72_15 fl_RX11_145 dX11_wrong_15 ?_
  refine kf_callVvI (st := []) hx (m_X11_fail g hg t0 (I 72 15) I J _ h) lk_RX11_218 km_X11_fail ob_72 rfl (by decide) rfl (Nat.le_of_ble_eq_true rfl) dX11_wrong_18 (fun I_1 h => ?_)
  exact hret _ _ _ dX11_wrong_21 h
def w_X11_wrong  (I : HI) (J : HJ) (Post : HI → Prop) : Prop :=
  (¬ (I 72 14) = 4 → (wj_X11_wrong_14 I J 2 Post)) ∧ ((I 72 14) = 4 → (wj_X11_wrong_14 I J 1 Post))
set_option maxHeartbeats 4000000 in
set_option maxRecDepth 20000 in
theorem we_X11_wrong (g : kf_G) (hg : kf_g g) {x : kf_X} (hx : kf_ok g x RX11 cX11_wrong 1 1 22)  (I : HI) (J : HJ) (Post : HI → Prop) (hret : ∀ (pc : Nat) (lv : List (Nat × Value)) (Iy : HI), decode cX11_wrong pc = .ok (.return_, 1) → Post Iy → kf_M g x 1 pc lv [] Iy J) (h : w_X11_wrong  I J Post) : kf_M g x 1 0 [(0, .ref (g.2.2.2 72))] [] I J := by
  unfold w_X11_wrong at h
  refine kf_aload_n hx dX11_wrong_0 rfl 0 rfl ?_
  refine kf_aload_n hx dX11_wrong_1 rfl 0 rfl ?_
  refine kf_getI hx sl_72_14 fl_RX11_151 dX11_wrong_2 ?_
  refine kf_iconst (v := 4) hx dX11_wrong_5 (by decide) ?_
  refine kf_icmp_ne hx 13 dX11_wrong_6 (by decide) (fun c => ?_) (fun c => ?_)
  · replace h := h.1 c
    refine kf_iconst (v := 2) hx dX11_wrong_13 (by decide) ?_
    exact wk_X11_wrong_14 g hg hx I J 2 _ hret h
  · replace h := h.2 c
    refine kf_iconst (v := 1) hx dX11_wrong_9 (by decide) ?_
    refine kf_goto hx 14 dX11_wrong_10 (by decide) ?_
    exact wk_X11_wrong_14 g hg hx I J 1 _ hret h
set_option maxHeartbeats 4000000 in
set_option maxRecDepth 20000 in
theorem m_X11_wrong (g : kf_G) (hg : kf_g g)  (I : HI) (J : HJ) (Post : HI → Prop) (h : w_X11_wrong  I J Post) : kf_Mv g yX11_wrong (kf_W yX11_wrong cX11_wrong 1 (Option.none : Option Jvm.ClassFile.FieldType)) 1 22 [.ref (g.2.2.2 72)] I J (fun I' J' => Post I' ∧ J' = J) :=
  kf_entv hg (by decide) (Nat.le_of_ble_eq_true rfl) rfl (fun x hx hr => we_X11_wrong g hg hx  I J Post (fun pc lv I' hd hP => hr pc lv I' J hd ⟨hP, rfl⟩) h)
theorem dX11_must_0 : decode cX11_must 0 = .ok (.aload_n 0, 1) := by decide +kernel
theorem dX11_must_1 : decode cX11_must 1 = .ok (.getfield 212, 3) := by decide +kernel
theorem dX11_must_4 : decode cX11_must 4 = .ok (.ifCond .le 4, 3) := by decide +kernel
theorem dX11_must_7 : decode cX11_must 7 = .ok (.return_, 1) := by decide +kernel
theorem dX11_must_8 : decode cX11_must 8 = .ok (.iload_n 1, 1) := by decide +kernel
theorem dX11_must_9 : decode cX11_must 9 = .ok (.ifCond .eq 10, 3) := by decide +kernel
theorem dX11_must_12 : decode cX11_must 12 = .ok (.aload_n 0, 1) := by decide +kernel
theorem dX11_must_13 : decode cX11_must 13 = .ok (.invokevirtual 222, 3) := by decide +kernel
theorem dX11_must_16 : decode cX11_must 16 = .ok (.goto 7, 3) := by decide +kernel
theorem dX11_must_19 : decode cX11_must 19 = .ok (.aload_n 0, 1) := by decide +kernel
theorem dX11_must_20 : decode cX11_must 20 = .ok (.invokevirtual 225, 3) := by decide +kernel
theorem dX11_must_23 : decode cX11_must 23 = .ok (.return_, 1) := by decide +kernel
def w_X11_must (x1 : Int32) (I : HI) (J : HJ) (Post : HI → HJ → Prop) : Prop :=
  ((I 72 12) ≤ 0 → ((x1 = 0 → (w_X11_wrong  I J (fun (I_1 : HI) => (Post I_1 J)))) ∧ (¬ x1 = 0 → (w_X11_next  I J (fun (I_2 : HI) (J_3 : HJ) => (Post I_2 J_3)))))) ∧ (¬ (I 72 12) ≤ 0 → (Post I J))
set_option maxHeartbeats 4000000 in
set_option maxRecDepth 20000 in
theorem we_X11_must (g : kf_G) (hg : kf_g g) {x : kf_X} (hx : kf_ok g x RX11 cX11_must 2 2 42) (x1 : Int32) (I : HI) (J : HJ) (Post : HI → HJ → Prop) (hret : ∀ (pc : Nat) (lv : List (Nat × Value)) (Iy : HI) (Jy : HJ), decode cX11_must pc = .ok (.return_, 1) → Post Iy Jy → kf_M g x 2 pc lv [] Iy Jy) (h : w_X11_must x1 I J Post) : kf_M g x 2 0 [(0, .ref (g.2.2.2 72)), (1, .int x1)] [] I J := by
  unfold w_X11_must at h
  refine kf_aload_n hx dX11_must_0 rfl 0 rfl ?_
  refine kf_getI hx sl_72_12 fl_RX11_212 dX11_must_1 ?_
  refine kf_if_le hx 8 dX11_must_4 (by decide) (fun c => ?_) (fun c => ?_)
  · replace h := h.1 c
    refine kf_iload_n hx dX11_must_8 rfl 1 rfl ?_
    refine kf_if_eq hx 19 dX11_must_9 (by decide) (fun c => ?_) (fun c => ?_)
    · replace h := h.1 c
      refine kf_aload_n hx dX11_must_19 rfl 0 rfl ?_
      refine kf_callVvI (st := []) hx (m_X11_wrong g hg  I J _ h) lk_RX11_225 km_X11_wrong ob_72 rfl (by decide) rfl (Nat.le_of_ble_eq_true rfl) dX11_must_20 (fun I_1 h => ?_)
      exact hret _ _ _ _ dX11_must_23 h
    · replace h := h.2 c
      refine kf_aload_n hx dX11_must_12 rfl 0 rfl ?_
      refine kf_callVv (st := []) hx (m_X11_next g hg  I J _ h) lk_RX11_222 km_X11_next ob_72 rfl (by decide) rfl (Nat.le_of_ble_eq_true rfl) dX11_must_13 (fun I_2 J_3 h => ?_)
      refine kf_goto hx 23 dX11_must_16 (by decide) ?_
      exact hret _ _ _ _ dX11_must_23 h
  · replace h := h.2 c
    exact hret _ _ _ _ dX11_must_7 h
set_option maxHeartbeats 4000000 in
set_option maxRecDepth 20000 in
theorem m_X11_must (g : kf_G) (hg : kf_g g) (x1 : Int32) (I : HI) (J : HJ) (Post : HI → HJ → Prop) (h : w_X11_must x1 I J Post) : kf_Mv g yX11_must (kf_W yX11_must cX11_must 2 (Option.none : Option Jvm.ClassFile.FieldType)) 2 42 [.ref (g.2.2.2 72), .int x1] I J Post :=
  kf_entv hg (by decide) (Nat.le_of_ble_eq_true rfl) rfl (fun x hx hr => we_X11_must g hg hx x1 I J Post (fun pc lv I' J' hd hP => hr pc lv I' J' hd hP) h)
theorem dX11_seen_0 : decode cX11_seen 0 = .ok (.aload_n 0, 1) := by decide +kernel
theorem dX11_seen_1 : decode cX11_seen 1 = .ok (.getfield 212, 3) := by decide +kernel
theorem dX11_seen_4 : decode cX11_seen 4 = .ok (.ifCond .ne 15, 3) := by decide +kernel
theorem dX11_seen_7 : decode cX11_seen 7 = .ok (.aload_n 0, 1) := by decide +kernel
theorem dX11_seen_8 : decode cX11_seen 8 = .ok (.getfield 151, 3) := by decide +kernel
theorem dX11_seen_11 : decode cX11_seen 11 = .ok (.iconst 2, 1) := by decide +kernel
theorem dX11_seen_12 : decode cX11_seen 12 = .ok (.if_icmp .eq 7, 3) := by decide +kernel
theorem dX11_seen_15 : decode cX11_seen 15 = .ok (.aload_n 0, 1) := by decide +kernel
theorem dX11_seen_16 : decode cX11_seen 16 = .ok (.invokevirtual 225, 3) := by decide +kernel
theorem dX11_seen_19 : decode cX11_seen 19 = .ok (.aload_n 0, 1) := by decide +kernel
theorem dX11_seen_20 : decode cX11_seen 20 = .ok (.getfield 212, 3) := by decide +kernel
theorem dX11_seen_23 : decode cX11_seen 23 = .ok (.ifCond .ne 27, 3) := by decide +kernel
theorem dX11_seen_26 : decode cX11_seen 26 = .ok (.aload_n 0, 1) := by decide +kernel
theorem dX11_seen_27 : decode cX11_seen 27 = .ok (.getfield 170, 3) := by decide +kernel
theorem dX11_seen_30 : decode cX11_seen 30 = .ok (.i2l, 1) := by decide +kernel
theorem dX11_seen_31 : decode cX11_seen 31 = .ok (.iload_n 1, 1) := by decide +kernel
theorem dX11_seen_32 : decode cX11_seen 32 = .ok (.i2l, 1) := by decide +kernel
theorem dX11_seen_33 : decode cX11_seen 33 = .ok (.iload_n 2, 1) := by decide +kernel
theorem dX11_seen_34 : decode cX11_seen 34 = .ok (.i2l, 1) := by decide +kernel
theorem dX11_seen_35 : decode cX11_seen 35 = .ok (.invokestatic 228, 3) := by decide +kernel
theorem dX11_seen_38 : decode cX11_seen 38 = .ok (.ifCond .ne 12, 3) := by decide +kernel
theorem dX11_seen_41 : decode cX11_seen 41 = .ok (.aload_n 0, 1) := by decide +kernel
theorem dX11_seen_42 : decode cX11_seen 42 = .ok (.iconst 4, 1) := by decide +kernel
theorem dX11_seen_43 : decode cX11_seen 43 = .ok (.aload_n 0, 1) := by decide +kernel
theorem dX11_seen_44 : decode cX11_seen 44 = .ok (.getfield 145, 3) := by decide +kernel
theorem dX11_seen_47 : decode cX11_seen 47 = .ok (.invokevirtual 218, 3) := by decide +kernel
theorem dX11_seen_50 : decode cX11_seen 50 = .ok (.aload_n 0, 1) := by decide +kernel
theorem dX11_seen_51 : decode cX11_seen 51 = .ok (.getfield 212, 3) := by decide +kernel
theorem dX11_seen_54 : decode cX11_seen 54 = .ok (.ifCond .ne 10, 3) := by decide +kernel
theorem dX11_seen_57 : decode cX11_seen 57 = .ok (.aload_n 0, 1) := by decide +kernel
theorem dX11_seen_58 : decode cX11_seen 58 = .ok (.getfield 170, 3) := by decide +kernel
theorem dX11_seen_61 : decode cX11_seen 61 = .ok (.goto 4, 3) := by decide +kernel
theorem dX11_seen_64 : decode cX11_seen 64 = .ok (.iconst 0, 1) := by decide +kernel
theorem dX11_seen_65 : decode cX11_seen 65 = .ok (.ireturn, 1) := by decide +kernel
def wj_X11_seen_50 (I : HI) (J : HJ)  (Post : Int32 → HI → Prop) : Prop :=
  (¬ (I 72 12) = 0 → (Post 0 I)) ∧ ((I 72 12) = 0 → (Post (I 72 17) I))
set_option maxHeartbeats 4000000 in
set_option maxRecDepth 20000 in
theorem wk_X11_seen_50 (g : kf_G) (hg : kf_g g) {x : kf_X} (hx : kf_ok g x RX11 cX11_seen 3 2 42) (I : HI) (J : HJ)  (Post : Int32 → HI → Prop) (hret : ∀ (pc : Nat) (lv : List (Nat × Value)) (v : Int32) (Iy : HI), decode cX11_seen pc = .ok (.ireturn, 1) → Post v Iy → kf_M g x 3 pc lv [.int v] Iy J) (h : wj_X11_seen_50 I J  Post) : kf_M g x 3 50 [(0, .ref (g.2.2.2 72))] [] I J := by
  unfold wj_X11_seen_50 at h
  refine kf_aload_n hx dX11_seen_50 rfl 0 rfl ?_
  refine kf_getI hx sl_72_12 fl_RX11_212 dX11_seen_51 ?_
  refine kf_if_ne hx 64 dX11_seen_54 (by decide) (fun c => ?_) (fun c => ?_)
  · replace h := h.1 c
    refine kf_iconst (v := 0) hx dX11_seen_64 (by decide) ?_
    exact hret _ _ 0 _ dX11_seen_65 h
  · replace h := h.2 c
    refine kf_aload_n hx dX11_seen_57 rfl 0 rfl ?_
    refine kf_getI hx sl_72_17 fl_RX11_170 dX11_seen_58 ?_
    refine kf_goto hx 65 dX11_seen_61 (by decide) ?_
    exact hret _ _ (I 72 17) _ dX11_seen_65 h
def wj_X11_seen_19 (I : HI) (J : HJ) (x1 : Int32) (x2 : Int32) (Post : Int32 → HI → Prop) : Prop :=
  (¬ (I 72 12) = 0 → (wj_X11_seen_50 I J Post)) ∧ ((I 72 12) = 0 → (w_X11_isIn (Int32.toInt64 (I 72 17)) (Int32.toInt64 x1) (Int32.toInt64 x2) (fun (r_1 : Bool) => ((r_1 = true → (wj_X11_seen_50 I J Post)) ∧ (r_1 = false → (w_X11_fail 4 (I 72 15) I J (fun (I_2 : HI) => (wj_X11_seen_50 I_2 J Post))))))))
set_option maxHeartbeats 4000000 in
set_option maxRecDepth 20000 in
theorem wk_X11_seen_19 (g : kf_G) (hg : kf_g g) {x : kf_X} (hx : kf_ok g x RX11 cX11_seen 3 2 42) (I : HI) (J : HJ) (x1 : Int32) (x2 : Int32) (Post : Int32 → HI → Prop) (hret : ∀ (pc : Nat) (lv : List (Nat × Value)) (v : Int32) (Iy : HI), decode cX11_seen pc = .ok (.ireturn, 1) → Post v Iy → kf_M g x 3 pc lv [.int v] Iy J) (h : wj_X11_seen_19 I J x1 x2 Post) : kf_M g x 3 19 [(0, .ref (g.2.2.2 72)), (1, .int x1), (2, .int x2)] [] I J := by
  unfold wj_X11_seen_19 at h
  refine kf_aload_n hx dX11_seen_19 rfl 0 rfl ?_
  refine kf_getI hx sl_72_12 fl_RX11_212 dX11_seen_20 ?_
  refine kf_if_ne hx 50 dX11_seen_23 (by decide) (fun c => ?_) (fun c => ?_)
  · replace h := h.1 c
    refine kf_sub [0] rfl ?_
    exact wk_X11_seen_50 g hg hx I J  _ hret h
  · replace h := h.2 c
    refine kf_aload_n hx dX11_seen_26 rfl 0 rfl ?_
    refine kf_getI hx sl_72_17 fl_RX11_170 dX11_seen_27 ?_
    refine kf_i2l hx dX11_seen_30 ?_
    refine kf_iload_n hx dX11_seen_31 rfl 1 rfl ?_
    refine kf_i2l hx dX11_seen_32 ?_
    refine kf_iload_n hx dX11_seen_33 rfl 2 rfl ?_
    refine kf_i2l hx dX11_seen_34 ?_
    refine kf_callSbP (st := []) hx (m_X11_isIn g hg (Int32.toInt64 (I 72 17)) (Int32.toInt64 x1) (Int32.toInt64 x2) I J _ h) lk_RX11_228 km_X11_isIn rfl (by decide) rfl (Nat.le_of_ble_eq_true rfl) dX11_seen_35 (fun r_1 h => ?_)
    refine kf_ifB_ne hx 50 dX11_seen_38 (by decide) (fun c => ?_) (fun c => ?_)
    · replace h := h.1 c
      refine kf_sub [0] rfl ?_
      exact wk_X11_seen_50 g hg hx I J  _ hret h
    · replace h := h.2 c
      refine kf_aload_n hx dX11_seen_41 rfl 0 rfl ?_
      refine kf_iconst (v := 4) hx dX11_seen_42 (by decide) ?_
      refine kf_aload_n hx dX11_seen_43 rfl 0 rfl ?_
      refine kf_getI hx sl_72_15 fl_RX11_145 dX11_seen_44 ?_
      refine kf_callVvI (st := []) hx (m_X11_fail g hg 4 (I 72 15) I J _ h) lk_RX11_218 km_X11_fail ob_72 rfl (by decide) rfl (Nat.le_of_ble_eq_true rfl) dX11_seen_47 (fun I_2 h => ?_)
      refine kf_sub [0] rfl ?_
      exact wk_X11_seen_50 g hg hx I_2 J  _ hret h
def w_X11_seen (x1 : Int32) (x2 : Int32) (I : HI) (J : HJ) (Post : Int32 → HI → Prop) : Prop :=
  (¬ (I 72 12) = 0 → (wj_X11_seen_19 I J x1 x2 Post)) ∧ ((I 72 12) = 0 → (((I 72 14) = 2 → (wj_X11_seen_19 I J x1 x2 Post)) ∧ (¬ (I 72 14) = 2 → (w_X11_wrong  I J (fun (I_3 : HI) => (wj_X11_seen_19 I_3 J x1 x2 Post))))))
set_option maxHeartbeats 4000000 in
set_option maxRecDepth 20000 in
theorem we_X11_seen (g : kf_G) (hg : kf_g g) {x : kf_X} (hx : kf_ok g x RX11 cX11_seen 3 2 42) (x1 : Int32) (x2 : Int32) (I : HI) (J : HJ) (Post : Int32 → HI → Prop) (hret : ∀ (pc : Nat) (lv : List (Nat × Value)) (v : Int32) (Iy : HI), decode cX11_seen pc = .ok (.ireturn, 1) → Post v Iy → kf_M g x 3 pc lv [.int v] Iy J) (h : w_X11_seen x1 x2 I J Post) : kf_M g x 3 0 [(0, .ref (g.2.2.2 72)), (1, .int x1), (2, .int x2)] [] I J := by
  unfold w_X11_seen at h
  refine kf_aload_n hx dX11_seen_0 rfl 0 rfl ?_
  refine kf_getI hx sl_72_12 fl_RX11_212 dX11_seen_1 ?_
  refine kf_if_ne hx 19 dX11_seen_4 (by decide) (fun c => ?_) (fun c => ?_)
  · replace h := h.1 c
    exact wk_X11_seen_19 g hg hx I J x1 x2 _ hret h
  · replace h := h.2 c
    refine kf_aload_n hx dX11_seen_7 rfl 0 rfl ?_
    refine kf_getI hx sl_72_14 fl_RX11_151 dX11_seen_8 ?_
    refine kf_iconst (v := 2) hx dX11_seen_11 (by decide) ?_
    refine kf_icmp_eq hx 19 dX11_seen_12 (by decide) (fun c => ?_) (fun c => ?_)
    · replace h := h.1 c
      exact wk_X11_seen_19 g hg hx I J x1 x2 _ hret h
    · replace h := h.2 c
      refine kf_aload_n hx dX11_seen_15 rfl 0 rfl ?_
      refine kf_callVvI (st := []) hx (m_X11_wrong g hg  I J _ h) lk_RX11_225 km_X11_wrong ob_72 rfl (by decide) rfl (Nat.le_of_ble_eq_true rfl) dX11_seen_16 (fun I_3 h => ?_)
      exact wk_X11_seen_19 g hg hx I_3 J x1 x2 _ hret h
set_option maxHeartbeats 4000000 in
set_option maxRecDepth 20000 in
theorem m_X11_seen (g : kf_G) (hg : kf_g g) (x1 : Int32) (x2 : Int32) (I : HI) (J : HJ) (Post : Int32 → HI → Prop) (h : w_X11_seen x1 x2 I J Post) : kf_Mi g yX11_seen (kf_W yX11_seen cX11_seen 3 (Option.some Jvm.ClassFile.FieldType.int)) 2 42 [.ref (g.2.2.2 72), .int x1, .int x2] I J (fun v I' J' => Post v I' ∧ J' = J) :=
  kf_enti hg (by decide) (Nat.le_of_ble_eq_true rfl) rfl (fun x hx hr => we_X11_seen g hg hx x1 x2 I J Post (fun pc lv v I' hd hP => hr pc lv v I' J hd ⟨hP, rfl⟩) h)
theorem dX11_count_0 : decode cX11_count 0 = .ok (.aload_n 0, 1) := by decide +kernel
theorem dX11_count_1 : decode cX11_count 1 = .ok (.iload_n 1, 1) := by decide +kernel
theorem dX11_count_2 : decode cX11_count 2 = .ok (.iload_n 2, 1) := by decide +kernel
theorem dX11_count_3 : decode cX11_count 3 = .ok (.invokevirtual 232, 3) := by decide +kernel
theorem dX11_count_6 : decode cX11_count 6 = .ok (.istore_n 3, 1) := by decide +kernel
theorem dX11_count_7 : decode cX11_count 7 = .ok (.aload_n 0, 1) := by decide +kernel
theorem dX11_count_8 : decode cX11_count 8 = .ok (.getfield 212, 3) := by decide +kernel
theorem dX11_count_11 : decode cX11_count 11 = .ok (.ifCond .ne 7, 3) := by decide +kernel
theorem dX11_count_14 : decode cX11_count 14 = .ok (.aload_n 0, 1) := by decide +kernel
theorem dX11_count_15 : decode cX11_count 15 = .ok (.invokevirtual 222, 3) := by decide +kernel
theorem dX11_count_18 : decode cX11_count 18 = .ok (.iload_n 3, 1) := by decide +kernel
theorem dX11_count_19 : decode cX11_count 19 = .ok (.ireturn, 1) := by decide +kernel
def w_X11_count (x1 : Int32) (x2 : Int32) (I : HI) (J : HJ) (Post : Int32 → HI → HJ → Prop) : Prop :=
  w_X11_seen x1 x2 I J (fun (r_1 : Int32) (I_2 : HI) => ((¬ (I_2 72 12) = 0 → (Post r_1 I_2 J)) ∧ ((I_2 72 12) = 0 → (w_X11_next  I_2 J (fun (I_3 : HI) (J_4 : HJ) => (Post r_1 I_3 J_4))))))
set_option maxHeartbeats 4000000 in
set_option maxRecDepth 20000 in
theorem we_X11_count (g : kf_G) (hg : kf_g g) {x : kf_X} (hx : kf_ok g x RX11 cX11_count 4 3 64) (x1 : Int32) (x2 : Int32) (I : HI) (J : HJ) (Post : Int32 → HI → HJ → Prop) (hret : ∀ (pc : Nat) (lv : List (Nat × Value)) (v : Int32) (Iy : HI) (Jy : HJ), decode cX11_count pc = .ok (.ireturn, 1) → Post v Iy Jy → kf_M g x 4 pc lv [.int v] Iy Jy) (h : w_X11_count x1 x2 I J Post) : kf_M g x 4 0 [(0, .ref (g.2.2.2 72)), (1, .int x1), (2, .int x2)] [] I J := by
  unfold w_X11_count at h
  refine kf_aload_n hx dX11_count_0 rfl 0 rfl ?_
  refine kf_iload_n hx dX11_count_1 rfl 1 rfl ?_
  refine kf_iload_n hx dX11_count_2 rfl 2 rfl ?_
  refine kf_callViI (st := []) hx (m_X11_seen g hg x1 x2 I J _ h) lk_RX11_232 km_X11_seen ob_72 rfl (by decide) rfl (Nat.le_of_ble_eq_true rfl) dX11_count_3 (fun r_1 I_2 h => ?_)
  refine kf_istore_n (lv' := [(3, .int r_1), (0, .ref (g.2.2.2 72)), (1, .int x1), (2, .int x2)]) hx dX11_count_6 rfl (by decide) rfl ?_
  refine kf_aload_n hx dX11_count_7 rfl 1 rfl ?_
  refine kf_getI hx sl_72_12 fl_RX11_212 dX11_count_8 ?_
  refine kf_if_ne hx 18 dX11_count_11 (by decide) (fun c => ?_) (fun c => ?_)
  · replace h := h.1 c
    refine kf_iload_n hx dX11_count_18 rfl 0 rfl ?_
    exact hret _ _ r_1 _ _ dX11_count_19 h
  · replace h := h.2 c
    refine kf_aload_n hx dX11_count_14 rfl 1 rfl ?_
    refine kf_callVv (st := []) hx (m_X11_next g hg  I_2 J _ h) lk_RX11_222 km_X11_next ob_72 rfl (by decide) rfl (Nat.le_of_ble_eq_true rfl) dX11_count_15 (fun I_3 J_4 h => ?_)
    refine kf_iload_n hx dX11_count_18 rfl 0 rfl ?_
    exact hret _ _ r_1 _ _ dX11_count_19 h
set_option maxHeartbeats 4000000 in
set_option maxRecDepth 20000 in
theorem m_X11_count (g : kf_G) (hg : kf_g g) (x1 : Int32) (x2 : Int32) (I : HI) (J : HJ) (Post : Int32 → HI → HJ → Prop) (h : w_X11_count x1 x2 I J Post) : kf_Mi g yX11_count (kf_W yX11_count cX11_count 4 (Option.some Jvm.ClassFile.FieldType.int)) 3 64 [.ref (g.2.2.2 72), .int x1, .int x2] I J Post :=
  kf_enti hg (by decide) (Nat.le_of_ble_eq_true rfl) rfl (fun x hx hr => we_X11_count g hg hx x1 x2 I J Post (fun pc lv v I' J' hd hP => hr pc lv v I' J' hd hP) h)
theorem dX11_named_0 : decode cX11_named 0 = .ok (.iconst 0, 1) := by decide +kernel
theorem dX11_named_1 : decode cX11_named 1 = .ok (.istore_n 1, 1) := by decide +kernel
theorem dX11_named_2 : decode cX11_named 2 = .ok (.iload_n 1, 1) := by decide +kernel
theorem dX11_named_3 : decode cX11_named 3 = .ok (.aload_n 0, 1) := by decide +kernel
theorem dX11_named_4 : decode cX11_named 4 = .ok (.getfield 235, 3) := by decide +kernel
theorem dX11_named_7 : decode cX11_named 7 = .ok (.if_icmp .ge 25, 3) := by decide +kernel
theorem dX11_named_10 : decode cX11_named 10 = .ok (.aload_n 0, 1) := by decide +kernel
theorem dX11_named_11 : decode cX11_named 11 = .ok (.getfield 71, 3) := by decide +kernel
theorem dX11_named_14 : decode cX11_named 14 = .ok (.iload_n 1, 1) := by decide +kernel
theorem dX11_named_15 : decode cX11_named 15 = .ok (.laload, 1) := by decide +kernel
theorem dX11_named_16 : decode cX11_named 16 = .ok (.aload_n 0, 1) := by decide +kernel
theorem dX11_named_17 : decode cX11_named 17 = .ok (.getfield 157, 3) := by decide +kernel
theorem dX11_named_20 : decode cX11_named 20 = .ok (.lcmp, 1) := by decide +kernel
theorem dX11_named_21 : decode cX11_named 21 = .ok (.ifCond .ne 5, 3) := by decide +kernel
theorem dX11_named_24 : decode cX11_named 24 = .ok (.iload_n 1, 1) := by decide +kernel
theorem dX11_named_25 : decode cX11_named 25 = .ok (.ireturn, 1) := by decide +kernel
theorem dX11_named_26 : decode cX11_named 26 = .ok (.iinc 1 1, 3) := by decide +kernel
theorem dX11_named_29 : decode cX11_named 29 = .ok (.goto (-27), 3) := by decide +kernel
theorem dX11_named_32 : decode cX11_named 32 = .ok (.iconst (-1), 1) := by decide +kernel
theorem dX11_named_33 : decode cX11_named 33 = .ok (.ireturn, 1) := by decide +kernel
def wb_X11_named_2 (I : HI) (J : HJ) (Post : Int32 → Prop) (E2 : Prop) (K2 : Int32 → Prop) (x1 : Int32) : Prop :=
  ((I 72 22) ≤ x1 → E2) ∧ (¬ (I 72 22) ≤ x1 → (vp_in x1 12 ∧ ((¬ (J 89 (Int32.toNatClampNeg x1)) = (J 72 19) → (K2 (x1 + 1))) ∧ ((J 89 (Int32.toNatClampNeg x1)) = (J 72 19) → (Post x1)))))
set_option maxHeartbeats 4000000 in
set_option maxRecDepth 20000 in
theorem ws_X11_named_2 (g : kf_G) (hg : kf_g g) {x : kf_X} (hx : kf_ok g x RX11 cX11_named 2 0 0) (I : HI) (J : HJ) (Post : Int32 → Prop) (hret : ∀ (pc : Nat) (lv : List (Nat × Value)) (v : Int32), decode cX11_named pc = .ok (.ireturn, 1) → Post v → kf_M g x 2 pc lv [.int v] I J) (E2 : Prop) (hE2 : E2 → kf_M g x 2 32 [] [] I J) (K2 : Int32 → Prop) (hK2 : ∀ (y1 : Int32), K2 y1 → kf_M g x 2 2 [(0, .ref (g.2.2.2 72)), (1, .int y1)] [] I J) (x1 : Int32) (h : wb_X11_named_2 I J Post E2 K2 x1) : kf_M g x 2 2 [(0, .ref (g.2.2.2 72)), (1, .int x1)] [] I J := by
  unfold wb_X11_named_2 at h
  refine kf_iload_n hx dX11_named_2 rfl 1 rfl ?_
  refine kf_aload_n hx dX11_named_3 rfl 0 rfl ?_
  refine kf_getI hx sl_72_22 fl_RX11_235 dX11_named_4 ?_
  refine kf_icmp_ge hx 32 dX11_named_7 (by decide) (fun c => ?_) (fun c => ?_)
  · replace h := h.1 c
    refine kf_sub [] rfl ?_
    exact hE2  h
  · replace h := h.2 c
    refine kf_aload_n hx dX11_named_10 rfl 0 rfl ?_
    refine kf_getR (n := 89) hx sl_72_36 fl_RX11_71 dX11_named_11 ?_
    refine kf_iload_n hx dX11_named_14 rfl 1 rfl ?_
    refine kf_lald hx ar_89 h.1 dX11_named_15 ?_
    replace h := h.2
    refine kf_aload_n hx dX11_named_16 rfl 0 rfl ?_
    refine kf_getJ hx sl_72_19 fl_RX11_157 dX11_named_17 ?_
    refine kf_l_ne hx 26 dX11_named_20 dX11_named_21 (by decide) (fun c => ?_) (fun c => ?_)
    · replace h := h.1 c
      refine kf_iinc (w := (x1 + 1)) (lv' := [(1, .int (x1 + 1)), (0, .ref (g.2.2.2 72))]) hx dX11_named_26 1 rfl rfl (by decide) rfl ?_
      refine kf_goto hx 2 dX11_named_29 (by decide) ?_
      refine kf_sub [1, 0] rfl ?_
      exact hK2 _ h
    · replace h := h.2 c
      refine kf_iload_n hx dX11_named_24 rfl 1 rfl ?_
      exact hret _ _ x1  dX11_named_25 h
theorem wl_X11_named_2 (g : kf_G) (hg : kf_g g) {x : kf_X} (hx : kf_ok g x RX11 cX11_named 2 0 0) (I : HI) (J : HJ) (Post : Int32 → Prop) (hret : ∀ (pc : Nat) (lv : List (Nat × Value)) (v : Int32), decode cX11_named pc = .ok (.ireturn, 1) → Post v → kf_M g x 2 pc lv [.int v] I J) (E2 : Prop) (hE2 : E2 → kf_M g x 2 32 [] [] I J) : ∀ (n : Nat) (x1 : Int32), lp (wb_X11_named_2 I J Post E2) n x1 → kf_M g x 2 2 [(0, .ref (g.2.2.2 72)), (1, .int x1)] [] I J := by
  intro n
  induction n with
  | zero => intro x1 h; exact h.elim
  | succ n ih => intro x1 h; exact ws_X11_named_2 g hg hx I J Post hret E2 hE2 (lp (wb_X11_named_2 I J Post E2) n) ih x1 h
def w_X11_named  (I : HI) (J : HJ) (Post : Int32 → Prop) : Prop :=
  ∃ n, lp (wb_X11_named_2 I J Post (Post (-1))) n 0
set_option maxHeartbeats 4000000 in
set_option maxRecDepth 20000 in
theorem we_X11_named (g : kf_G) (hg : kf_g g) {x : kf_X} (hx : kf_ok g x RX11 cX11_named 2 0 0)  (I : HI) (J : HJ) (Post : Int32 → Prop) (hret : ∀ (pc : Nat) (lv : List (Nat × Value)) (v : Int32), decode cX11_named pc = .ok (.ireturn, 1) → Post v → kf_M g x 2 pc lv [.int v] I J) (h : w_X11_named  I J Post) : kf_M g x 2 0 [(0, .ref (g.2.2.2 72))] [] I J := by
  unfold w_X11_named at h
  refine kf_iconst (v := 0) hx dX11_named_0 (by decide) ?_
  refine kf_istore_n (lv' := [(1, .int 0), (0, .ref (g.2.2.2 72))]) hx dX11_named_1 rfl (by decide) rfl ?_
  obtain ⟨n, h⟩ := h
  refine kf_sub [1, 0] rfl ?_
  refine wl_X11_named_2 g hg hx I J  _ hret _ (fun h => ?_) n _ h
  refine kf_iconst (v := (-1)) hx dX11_named_32 (by decide) ?_
  exact hret _ _ (-1)  dX11_named_33 h
set_option maxHeartbeats 4000000 in
set_option maxRecDepth 20000 in
theorem m_X11_named (g : kf_G) (hg : kf_g g)  (I : HI) (J : HJ) (Post : Int32 → Prop) (h : w_X11_named  I J Post) : kf_Mi g yX11_named (kf_W yX11_named cX11_named 2 (Option.some Jvm.ClassFile.FieldType.int)) 0 0 [.ref (g.2.2.2 72)] I J (fun v I' J' => Post v ∧ I' = I ∧ J' = J) :=
  kf_enti hg (by decide) (Nat.le_of_ble_eq_true rfl) rfl (fun x hx hr => we_X11_named g hg hx  I J Post (fun pc lv v hd hP => hr pc lv v I J hd ⟨hP, rfl, rfl⟩) h)
theorem dX11_readPerson_0 : decode cX11_readPerson 0 = .ok (.aload_n 0, 1) := by decide +kernel
theorem dX11_readPerson_1 : decode cX11_readPerson 1 = .ok (.invokevirtual 222, 3) := by decide +kernel
theorem dX11_readPerson_4 : decode cX11_readPerson 4 = .ok (.aload_n 0, 1) := by decide +kernel
theorem dX11_readPerson_5 : decode cX11_readPerson 5 = .ok (.invokevirtual 238, 3) := by decide +kernel
theorem dX11_readPerson_8 : decode cX11_readPerson 8 = .ok (.ifCond .ne 7, 3) := by decide +kernel
theorem dX11_readPerson_11 : decode cX11_readPerson 11 = .ok (.aload_n 0, 1) := by decide +kernel
theorem dX11_readPerson_12 : decode cX11_readPerson 12 = .ok (.invokevirtual 225, 3) := by decide +kernel
theorem dX11_readPerson_15 : decode cX11_readPerson 15 = .ok (.aload_n 0, 1) := by decide +kernel
theorem dX11_readPerson_16 : decode cX11_readPerson 16 = .ok (.getfield 212, 3) := by decide +kernel
theorem dX11_readPerson_19 : decode cX11_readPerson 19 = .ok (.ifCond .ne 19, 3) := by decide +kernel
theorem dX11_readPerson_22 : decode cX11_readPerson 22 = .ok (.aload_n 0, 1) := by decide +kernel
theorem dX11_readPerson_23 : decode cX11_readPerson 23 = .ok (.invokevirtual 241, 3) := by decide +kernel
theorem dX11_readPerson_26 : decode cX11_readPerson 26 = .ok (.ifCond .lt 12, 3) := by decide +kernel
theorem dX11_readPerson_29 : decode cX11_readPerson 29 = .ok (.aload_n 0, 1) := by decide +kernel
theorem dX11_readPerson_30 : decode cX11_readPerson 30 = .ok (.iconst 3, 1) := by decide +kernel
theorem dX11_readPerson_31 : decode cX11_readPerson 31 = .ok (.aload_n 0, 1) := by decide +kernel
theorem dX11_readPerson_32 : decode cX11_readPerson 32 = .ok (.getfield 145, 3) := by decide +kernel
theorem dX11_readPerson_35 : decode cX11_readPerson 35 = .ok (.invokevirtual 218, 3) := by decide +kernel
theorem dX11_readPerson_38 : decode cX11_readPerson 38 = .ok (.aload_n 0, 1) := by decide +kernel
theorem dX11_readPerson_39 : decode cX11_readPerson 39 = .ok (.getfield 212, 3) := by decide +kernel
theorem dX11_readPerson_42 : decode cX11_readPerson 42 = .ok (.ifCond .ne 22, 3) := by decide +kernel
theorem dX11_readPerson_45 : decode cX11_readPerson 45 = .ok (.aload_n 0, 1) := by decide +kernel
theorem dX11_readPerson_46 : decode cX11_readPerson 46 = .ok (.getfield 235, 3) := by decide +kernel
theorem dX11_readPerson_49 : decode cX11_readPerson 49 = .ok (.bipush 12, 2) := by decide +kernel
theorem dX11_readPerson_51 : decode cX11_readPerson 51 = .ok (.if_icmp .ne 13, 3) := by decide +kernel
theorem dX11_readPerson_54 : decode cX11_readPerson 54 = .ok (.aload_n 0, 1) := by decide +kernel
theorem dX11_readPerson_55 : decode cX11_readPerson 55 = .ok (.bipush 6, 2) := by decide +kernel
theorem dX11_readPerson_57 : decode cX11_readPerson 57 = .ok (.aload_n 0, 1) := by decide +kernel
theorem dX11_readPerson_58 : decode cX11_readPerson 58 = .ok (.getfield 145, 3) := by decide +kernel
theorem dX11_readPerson_61 : decode cX11_readPerson 61 = .ok (.invokevirtual 218, 3) := by decide +kernel
theorem dX11_readPerson_64 : decode cX11_readPerson 64 = .ok (.aload_n 0, 1) := by decide +kernel
theorem dX11_readPerson_65 : decode cX11_readPerson 65 = .ok (.getfield 212, 3) := by decide +kernel
theorem dX11_readPerson_68 : decode cX11_readPerson 68 = .ok (.ifCond .le 4, 3) := by decide +kernel
theorem dX11_readPerson_71 : decode cX11_readPerson 71 = .ok (.return_, 1) := by decide +kernel
theorem dX11_readPerson_72 : decode cX11_readPerson 72 = .ok (.aload_n 0, 1) := by decide +kernel
theorem dX11_readPerson_73 : decode cX11_readPerson 73 = .ok (.getfield 235, 3) := by decide +kernel
theorem dX11_readPerson_76 : decode cX11_readPerson 76 = .ok (.istore_n 1, 1) := by decide +kernel
theorem dX11_readPerson_77 : decode cX11_readPerson 77 = .ok (.aload_n 0, 1) := by decide +kernel
theorem dX11_readPerson_78 : decode cX11_readPerson 78 = .ok (.getfield 71, 3) := by decide +kernel
theorem dX11_readPerson_81 : decode cX11_readPerson 81 = .ok (.iload_n 1, 1) := by decide +kernel
theorem dX11_readPerson_82 : decode cX11_readPerson 82 = .ok (.aload_n 0, 1) := by decide +kernel
theorem dX11_readPerson_83 : decode cX11_readPerson 83 = .ok (.getfield 157, 3) := by decide +kernel
theorem dX11_readPerson_86 : decode cX11_readPerson 86 = .ok (.lastore, 1) := by decide +kernel
theorem dX11_readPerson_87 : decode cX11_readPerson 87 = .ok (.aload_n 0, 1) := by decide +kernel
theorem dX11_readPerson_88 : decode cX11_readPerson 88 = .ok (.getfield 38, 3) := by decide +kernel
theorem dX11_readPerson_91 : decode cX11_readPerson 91 = .ok (.iconst 5, 1) := by decide +kernel
theorem dX11_readPerson_92 : decode cX11_readPerson 92 = .ok (.iload_n 1, 1) := by decide +kernel
theorem dX11_readPerson_93 : decode cX11_readPerson 93 = .ok (.imul, 1) := by decide +kernel
theorem dX11_readPerson_94 : decode cX11_readPerson 94 = .ok (.iconst 0, 1) := by decide +kernel
theorem dX11_readPerson_95 : decode cX11_readPerson 95 = .ok (.iastore, 1) := by decide +kernel
theorem dX11_readPerson_96 : decode cX11_readPerson 96 = .ok (.aload_n 0, 1) := by decide +kernel
theorem dX11_readPerson_97 : decode cX11_readPerson 97 = .ok (.getfield 38, 3) := by decide +kernel
theorem dX11_readPerson_100 : decode cX11_readPerson 100 = .ok (.iconst 5, 1) := by decide +kernel
theorem dX11_readPerson_101 : decode cX11_readPerson 101 = .ok (.iload_n 1, 1) := by decide +kernel
theorem dX11_readPerson_102 : decode cX11_readPerson 102 = .ok (.imul, 1) := by decide +kernel
theorem dX11_readPerson_103 : decode cX11_readPerson 103 = .ok (.iconst 1, 1) := by decide +kernel
theorem dX11_readPerson_104 : decode cX11_readPerson 104 = .ok (.iadd, 1) := by decide +kernel
theorem dX11_readPerson_105 : decode cX11_readPerson 105 = .ok (.iconst 1, 1) := by decide +kernel
theorem dX11_readPerson_106 : decode cX11_readPerson 106 = .ok (.iastore, 1) := by decide +kernel
theorem dX11_readPerson_107 : decode cX11_readPerson 107 = .ok (.aload_n 0, 1) := by decide +kernel
theorem dX11_readPerson_108 : decode cX11_readPerson 108 = .ok (.getfield 38, 3) := by decide +kernel
theorem dX11_readPerson_111 : decode cX11_readPerson 111 = .ok (.iconst 5, 1) := by decide +kernel
theorem dX11_readPerson_112 : decode cX11_readPerson 112 = .ok (.iload_n 1, 1) := by decide +kernel
theorem dX11_readPerson_113 : decode cX11_readPerson 113 = .ok (.imul, 1) := by decide +kernel
theorem dX11_readPerson_114 : decode cX11_readPerson 114 = .ok (.iconst 2, 1) := by decide +kernel
theorem dX11_readPerson_115 : decode cX11_readPerson 115 = .ok (.iadd, 1) := by decide +kernel
theorem dX11_readPerson_116 : decode cX11_readPerson 116 = .ok (.iconst 0, 1) := by decide +kernel
theorem dX11_readPerson_117 : decode cX11_readPerson 117 = .ok (.iastore, 1) := by decide +kernel
theorem dX11_readPerson_118 : decode cX11_readPerson 118 = .ok (.aload_n 0, 1) := by decide +kernel
theorem dX11_readPerson_119 : decode cX11_readPerson 119 = .ok (.getfield 38, 3) := by decide +kernel
theorem dX11_readPerson_122 : decode cX11_readPerson 122 = .ok (.iconst 5, 1) := by decide +kernel
theorem dX11_readPerson_123 : decode cX11_readPerson 123 = .ok (.iload_n 1, 1) := by decide +kernel
theorem dX11_readPerson_124 : decode cX11_readPerson 124 = .ok (.imul, 1) := by decide +kernel
theorem dX11_readPerson_125 : decode cX11_readPerson 125 = .ok (.iconst 3, 1) := by decide +kernel
theorem dX11_readPerson_126 : decode cX11_readPerson 126 = .ok (.iadd, 1) := by decide +kernel
theorem dX11_readPerson_127 : decode cX11_readPerson 127 = .ok (.iconst 0, 1) := by decide +kernel
theorem dX11_readPerson_128 : decode cX11_readPerson 128 = .ok (.iastore, 1) := by decide +kernel
theorem dX11_readPerson_129 : decode cX11_readPerson 129 = .ok (.aload_n 0, 1) := by decide +kernel
theorem dX11_readPerson_130 : decode cX11_readPerson 130 = .ok (.getfield 38, 3) := by decide +kernel
theorem dX11_readPerson_133 : decode cX11_readPerson 133 = .ok (.iconst 5, 1) := by decide +kernel
theorem dX11_readPerson_134 : decode cX11_readPerson 134 = .ok (.iload_n 1, 1) := by decide +kernel
theorem dX11_readPerson_135 : decode cX11_readPerson 135 = .ok (.imul, 1) := by decide +kernel
theorem dX11_readPerson_136 : decode cX11_readPerson 136 = .ok (.iconst 4, 1) := by decide +kernel
theorem dX11_readPerson_137 : decode cX11_readPerson 137 = .ok (.iadd, 1) := by decide +kernel
theorem dX11_readPerson_138 : decode cX11_readPerson 138 = .ok (.iconst 1, 1) := by decide +kernel
theorem dX11_readPerson_139 : decode cX11_readPerson 139 = .ok (.iastore, 1) := by decide +kernel
theorem dX11_readPerson_140 : decode cX11_readPerson 140 = .ok (.aload_n 0, 1) := by decide +kernel
theorem dX11_readPerson_141 : decode cX11_readPerson 141 = .ok (.invokevirtual 222, 3) := by decide +kernel
theorem dX11_readPerson_144 : decode cX11_readPerson 144 = .ok (.iconst 0, 1) := by decide +kernel
theorem dX11_readPerson_145 : decode cX11_readPerson 145 = .ok (.istore_n 2, 1) := by decide +kernel
theorem dX11_readPerson_146 : decode cX11_readPerson 146 = .ok (.aload_n 0, 1) := by decide +kernel
theorem dX11_readPerson_147 : decode cX11_readPerson 147 = .ok (.getfield 212, 3) := by decide +kernel
theorem dX11_readPerson_150 : decode cX11_readPerson 150 = .ok (.ifCond .ne 121, 3) := by decide +kernel
theorem dX11_readPerson_153 : decode cX11_readPerson 153 = .ok (.aload_n 0, 1) := by decide +kernel
theorem dX11_readPerson_154 : decode cX11_readPerson 154 = .ok (.invokevirtual 183, 3) := by decide +kernel
theorem dX11_readPerson_157 : decode cX11_readPerson 157 = .ok (.ifCond .lt 114, 3) := by decide +kernel
theorem dX11_readPerson_160 : decode cX11_readPerson 160 = .ok (.aload_n 0, 1) := by decide +kernel
theorem dX11_readPerson_161 : decode cX11_readPerson 161 = .ok (.invokevirtual 183, 3) := by decide +kernel
theorem dX11_readPerson_164 : decode cX11_readPerson 164 = .ok (.istore_n 3, 1) := by decide +kernel
theorem dX11_readPerson_165 : decode cX11_readPerson 165 = .ok (.iload_n 2, 1) := by decide +kernel
theorem dX11_readPerson_166 : decode cX11_readPerson 166 = .ok (.iload_n 3, 1) := by decide +kernel
theorem dX11_readPerson_167 : decode cX11_readPerson 167 = .ok (.ishr, 1) := by decide +kernel
theorem dX11_readPerson_168 : decode cX11_readPerson 168 = .ok (.iconst 1, 1) := by decide +kernel
theorem dX11_readPerson_169 : decode cX11_readPerson 169 = .ok (.iand, 1) := by decide +kernel
theorem dX11_readPerson_170 : decode cX11_readPerson 170 = .ok (.iconst 1, 1) := by decide +kernel
theorem dX11_readPerson_171 : decode cX11_readPerson 171 = .ok (.if_icmp .ne 12, 3) := by decide +kernel
theorem dX11_readPerson_174 : decode cX11_readPerson 174 = .ok (.aload_n 0, 1) := by decide +kernel
theorem dX11_readPerson_175 : decode cX11_readPerson 175 = .ok (.iconst 5, 1) := by decide +kernel
theorem dX11_readPerson_176 : decode cX11_readPerson 176 = .ok (.aload_n 0, 1) := by decide +kernel
theorem dX11_readPerson_177 : decode cX11_readPerson 177 = .ok (.getfield 145, 3) := by decide +kernel
theorem dX11_readPerson_180 : decode cX11_readPerson 180 = .ok (.invokevirtual 218, 3) := by decide +kernel
theorem dX11_readPerson_183 : decode cX11_readPerson 183 = .ok (.aload_n 0, 1) := by decide +kernel
theorem dX11_readPerson_184 : decode cX11_readPerson 184 = .ok (.getfield 212, 3) := by decide +kernel
theorem dX11_readPerson_187 : decode cX11_readPerson 187 = .ok (.ifCond .le 4, 3) := by decide +kernel
theorem dX11_readPerson_190 : decode cX11_readPerson 190 = .ok (.return_, 1) := by decide +kernel
theorem dX11_readPerson_191 : decode cX11_readPerson 191 = .ok (.iload_n 2, 1) := by decide +kernel
theorem dX11_readPerson_192 : decode cX11_readPerson 192 = .ok (.iconst 1, 1) := by decide +kernel
theorem dX11_readPerson_193 : decode cX11_readPerson 193 = .ok (.iload_n 3, 1) := by decide +kernel
theorem dX11_readPerson_194 : decode cX11_readPerson 194 = .ok (.ishl, 1) := by decide +kernel
theorem dX11_readPerson_195 : decode cX11_readPerson 195 = .ok (.ior, 1) := by decide +kernel
theorem dX11_readPerson_196 : decode cX11_readPerson 196 = .ok (.istore_n 2, 1) := by decide +kernel
theorem dX11_readPerson_197 : decode cX11_readPerson 197 = .ok (.aload_n 0, 1) := by decide +kernel
theorem dX11_readPerson_198 : decode cX11_readPerson 198 = .ok (.invokevirtual 222, 3) := by decide +kernel
theorem dX11_readPerson_201 : decode cX11_readPerson 201 = .ok (.aload_n 0, 1) := by decide +kernel
theorem dX11_readPerson_202 : decode cX11_readPerson 202 = .ok (.getfield 38, 3) := by decide +kernel
theorem dX11_readPerson_205 : decode cX11_readPerson 205 = .ok (.iconst 5, 1) := by decide +kernel
theorem dX11_readPerson_206 : decode cX11_readPerson 206 = .ok (.iload_n 1, 1) := by decide +kernel
theorem dX11_readPerson_207 : decode cX11_readPerson 207 = .ok (.imul, 1) := by decide +kernel
theorem dX11_readPerson_208 : decode cX11_readPerson 208 = .ok (.iload_n 3, 1) := by decide +kernel
theorem dX11_readPerson_209 : decode cX11_readPerson 209 = .ok (.iadd, 1) := by decide +kernel
theorem dX11_readPerson_210 : decode cX11_readPerson 210 = .ok (.iload_n 3, 1) := by decide +kernel
theorem dX11_readPerson_211 : decode cX11_readPerson 211 = .ok (.iconst 3, 1) := by decide +kernel
theorem dX11_readPerson_212 : decode cX11_readPerson 212 = .ok (.if_icmp .ne 7, 3) := by decide +kernel
theorem dX11_readPerson_215 : decode cX11_readPerson 215 = .ok (.iconst 1, 1) := by decide +kernel
theorem dX11_readPerson_216 : decode cX11_readPerson 216 = .ok (.goto 51, 3) := by decide +kernel
theorem dX11_readPerson_219 : decode cX11_readPerson 219 = .ok (.iload_n 3, 1) := by decide +kernel
theorem dX11_readPerson_220 : decode cX11_readPerson 220 = .ok (.ifCond .ne 12, 3) := by decide +kernel
theorem dX11_readPerson_223 : decode cX11_readPerson 223 = .ok (.aload_n 0, 1) := by decide +kernel
theorem dX11_readPerson_224 : decode cX11_readPerson 224 = .ok (.iconst 0, 1) := by decide +kernel
theorem dX11_readPerson_225 : decode cX11_readPerson 225 = .ok (.iconst 3, 1) := by decide +kernel
theorem dX11_readPerson_226 : decode cX11_readPerson 226 = .ok (.invokevirtual 244, 3) := by decide +kernel
theorem dX11_readPerson_229 : decode cX11_readPerson 229 = .ok (.goto 38, 3) := by decide +kernel
theorem dX11_readPerson_232 : decode cX11_readPerson 232 = .ok (.iload_n 3, 1) := by decide +kernel
theorem dX11_readPerson_233 : decode cX11_readPerson 233 = .ok (.iconst 1, 1) := by decide +kernel
theorem dX11_readPerson_234 : decode cX11_readPerson 234 = .ok (.if_icmp .ne 12, 3) := by decide +kernel
theorem dX11_readPerson_237 : decode cX11_readPerson 237 = .ok (.aload_n 0, 1) := by decide +kernel
theorem dX11_readPerson_238 : decode cX11_readPerson 238 = .ok (.iconst 1, 1) := by decide +kernel
theorem dX11_readPerson_239 : decode cX11_readPerson 239 = .ok (.iconst 3, 1) := by decide +kernel
theorem dX11_readPerson_240 : decode cX11_readPerson 240 = .ok (.invokevirtual 244, 3) := by decide +kernel
theorem dX11_readPerson_243 : decode cX11_readPerson 243 = .ok (.goto 24, 3) := by decide +kernel
theorem dX11_readPerson_246 : decode cX11_readPerson 246 = .ok (.iload_n 3, 1) := by decide +kernel
theorem dX11_readPerson_247 : decode cX11_readPerson 247 = .ok (.iconst 2, 1) := by decide +kernel
theorem dX11_readPerson_248 : decode cX11_readPerson 248 = .ok (.if_icmp .ne 12, 3) := by decide +kernel
theorem dX11_readPerson_251 : decode cX11_readPerson 251 = .ok (.aload_n 0, 1) := by decide +kernel
theorem dX11_readPerson_252 : decode cX11_readPerson 252 = .ok (.iconst 0, 1) := by decide +kernel
theorem dX11_readPerson_253 : decode cX11_readPerson 253 = .ok (.iconst 5, 1) := by decide +kernel
theorem dX11_readPerson_254 : decode cX11_readPerson 254 = .ok (.invokevirtual 244, 3) := by decide +kernel
theorem dX11_readPerson_257 : decode cX11_readPerson 257 = .ok (.goto 10, 3) := by decide +kernel
theorem dX11_readPerson_260 : decode cX11_readPerson 260 = .ok (.aload_n 0, 1) := by decide +kernel
theorem dX11_readPerson_261 : decode cX11_readPerson 261 = .ok (.iconst 0, 1) := by decide +kernel
theorem dX11_readPerson_262 : decode cX11_readPerson 262 = .ok (.bipush 99, 2) := by decide +kernel
theorem dX11_readPerson_264 : decode cX11_readPerson 264 = .ok (.invokevirtual 244, 3) := by decide +kernel
theorem dX11_readPerson_267 : decode cX11_readPerson 267 = .ok (.iastore, 1) := by decide +kernel
theorem dX11_readPerson_268 : decode cX11_readPerson 268 = .ok (.goto (-122), 3) := by decide +kernel
theorem dX11_readPerson_271 : decode cX11_readPerson 271 = .ok (.aload_n 0, 1) := by decide +kernel
theorem dX11_readPerson_272 : decode cX11_readPerson 272 = .ok (.aload_n 0, 1) := by decide +kernel
theorem dX11_readPerson_273 : decode cX11_readPerson 273 = .ok (.getfield 151, 3) := by decide +kernel
theorem dX11_readPerson_276 : decode cX11_readPerson 276 = .ok (.iconst 3, 1) := by decide +kernel
theorem dX11_readPerson_277 : decode cX11_readPerson 277 = .ok (.if_icmp .ne 7, 3) := by decide +kernel
theorem dX11_readPerson_280 : decode cX11_readPerson 280 = .ok (.iconst 1, 1) := by decide +kernel
theorem dX11_readPerson_281 : decode cX11_readPerson 281 = .ok (.goto 4, 3) := by decide +kernel
theorem dX11_readPerson_284 : decode cX11_readPerson 284 = .ok (.iconst 0, 1) := by decide +kernel
theorem dX11_readPerson_285 : decode cX11_readPerson 285 = .ok (.invokevirtual 247, 3) := by decide +kernel
theorem dX11_readPerson_288 : decode cX11_readPerson 288 = .ok (.aload_n 0, 1) := by decide +kernel
theorem dX11_readPerson_289 : decode cX11_readPerson 289 = .ok (.getfield 212, 3) := by decide +kernel
theorem dX11_readPerson_292 : decode cX11_readPerson 292 = .ok (.ifCond .ne 13, 3) := by decide +kernel
theorem dX11_readPerson_295 : decode cX11_readPerson 295 = .ok (.aload_n 0, 1) := by decide +kernel
theorem dX11_readPerson_296 : decode cX11_readPerson 296 = .ok (.dup, 1) := by decide +kernel
theorem dX11_readPerson_297 : decode cX11_readPerson 297 = .ok (.getfield 235, 3) := by decide +kernel
theorem dX11_readPerson_300 : decode cX11_readPerson 300 = .ok (.iconst 1, 1) := by decide +kernel
theorem dX11_readPerson_301 : decode cX11_readPerson 301 = .ok (.iadd, 1) := by decide +kernel
theorem dX11_readPerson_302 : decode cX11_readPerson 302 = .ok (.putfield 235, 3) := by decide +kernel
theorem dX11_readPerson_305 : decode cX11_readPerson 305 = .ok (.return_, 1) := by decide +kernel
def wj_X11_readPerson_183 (I : HI) (J : HJ) (x1 : Int32) (x2 : Int32) (x3 : Int32) (E146 : HI → HJ → Prop) (K146 : Int32 × HI × HJ → Prop) (Post : HI → HJ → Prop) : Prop :=
  ((I 72 12) ≤ 0 → (w_X11_next  I J (fun (I_14 : HI) (J_15 : HJ) => ((¬ x3 = 3 → ((¬ x3 = 0 → ((¬ x3 = 1 → ((¬ x3 = 2 → (w_X11_count 0 99 I_14 J_15 (fun (r_16 : Int32) (I_17 : HI) (J_18 : HJ) => (vp_in ((5 * x1) + x3) 60 ∧ (∀ I_19 : HI, I_19 = hI I_17 78 (Int32.toNatClampNeg ((5 * x1) + x3)) r_16 → (K146 ((x2 ||| (1 <<< (x3 &&& 31))), I_19, J_18))))))) ∧ (x3 = 2 → (w_X11_count 0 5 I_14 J_15 (fun (r_20 : Int32) (I_21 : HI) (J_22 : HJ) => (vp_in ((5 * x1) + x3) 60 ∧ (∀ I_23 : HI, I_23 = hI I_21 78 (Int32.toNatClampNeg ((5 * x1) + x3)) r_20 → (K146 ((x2 ||| (1 <<< (x3 &&& 31))), I_23, J_22))))))))) ∧ (x3 = 1 → (w_X11_count 1 3 I_14 J_15 (fun (r_24 : Int32) (I_25 : HI) (J_26 : HJ) => (vp_in ((5 * x1) + x3) 60 ∧ (∀ I_27 : HI, I_27 = hI I_25 78 (Int32.toNatClampNeg ((5 * x1) + x3)) r_24 → (K146 ((x2 ||| (1 <<< (x3 &&& 31))), I_27, J_26))))))))) ∧ (x3 = 0 → (w_X11_count 0 3 I_14 J_15 (fun (r_28 : Int32) (I_29 : HI) (J_30 : HJ) => (vp_in ((5 * x1) + x3) 60 ∧ (∀ I_31 : HI, I_31 = hI I_29 78 (Int32.toNatClampNeg ((5 * x1) + x3)) r_28 → (K146 ((x2 ||| (1 <<< (x3 &&& 31))), I_31, J_30))))))))) ∧ (x3 = 3 → (vp_in ((5 * x1) + x3) 60 ∧ (∀ I_32 : HI, I_32 = hI I_14 78 (Int32.toNatClampNeg ((5 * x1) + x3)) 1 → (K146 ((x2 ||| (1 <<< (x3 &&& 31))), I_32, J_15))))))))) ∧ (¬ (I 72 12) ≤ 0 → (Post I J))
set_option maxHeartbeats 4000000 in
set_option maxRecDepth 20000 in
theorem wk_X11_readPerson_183 (g : kf_G) (hg : kf_g g) {x : kf_X} (hx : kf_ok g x RX11 cX11_readPerson 4 4 87) (I : HI) (J : HJ) (x1 : Int32) (x2 : Int32) (x3 : Int32) (E146 : HI → HJ → Prop) (K146 : Int32 × HI × HJ → Prop) (hE146 : ∀ (Iy : HI) (Jy : HJ), E146 Iy Jy → kf_M g x 4 271 [(0, .ref (g.2.2.2 72))] [] Iy Jy) (hK146 : ∀ (y2 : Int32) (Iy : HI) (Jy : HJ), K146 (y2, Iy, Jy) → kf_M g x 4 146 [(0, .ref (g.2.2.2 72)), (1, .int x1), (2, .int y2)] [] Iy Jy) (Post : HI → HJ → Prop) (hret : ∀ (pc : Nat) (lv : List (Nat × Value)) (Iy : HI) (Jy : HJ), decode cX11_readPerson pc = .ok (.return_, 1) → Post Iy Jy → kf_M g x 4 pc lv [] Iy Jy) (h : wj_X11_readPerson_183 I J x1 x2 x3 E146 K146 Post) : kf_M g x 4 183 [(0, .ref (g.2.2.2 72)), (1, .int x1), (2, .int x2), (3, .int x3)] [] I J := by
  unfold wj_X11_readPerson_183 at h
  refine kf_aload_n hx dX11_readPerson_183 rfl 0 rfl ?_
  refine kf_getI hx sl_72_12 fl_RX11_212 dX11_readPerson_184 ?_
  refine kf_if_le hx 191 dX11_readPerson_187 (by decide) (fun c => ?_) (fun c => ?_)
  · replace h := h.1 c
    refine kf_iload_n hx dX11_readPerson_191 rfl 2 rfl ?_
    refine kf_iconst (v := 1) hx dX11_readPerson_192 (by decide) ?_
    refine kf_iload_n hx dX11_readPerson_193 rfl 3 rfl ?_
    refine kf_ishl hx dX11_readPerson_194 ?_
    refine kf_ior hx dX11_readPerson_195 ?_
    refine kf_istore_n (lv' := [(2, .int (x2 ||| (1 <<< (x3 &&& 31)))), (0, .ref (g.2.2.2 72)), (1, .int x1), (3, .int x3)]) hx dX11_readPerson_196 rfl (by decide) rfl ?_
    refine kf_aload_n hx dX11_readPerson_197 rfl 1 rfl ?_
    refine kf_callVv (st := []) hx (m_X11_next g hg  I J _ h) lk_RX11_222 km_X11_next ob_72 rfl (by decide) rfl (Nat.le_of_ble_eq_true rfl) dX11_readPerson_198 (fun I_14 J_15 h => ?_)
    refine kf_aload_n hx dX11_readPerson_201 rfl 1 rfl ?_
    refine kf_getR (n := 78) hx sl_72_25 fl_RX11_38 dX11_readPerson_202 ?_
    refine kf_iconst (v := 5) hx dX11_readPerson_205 (by decide) ?_
    refine kf_iload_n hx dX11_readPerson_206 rfl 2 rfl ?_
    refine kf_imul hx dX11_readPerson_207 ?_
    refine kf_iload_n hx dX11_readPerson_208 rfl 3 rfl ?_
    refine kf_iadd hx dX11_readPerson_209 ?_
    refine kf_iload_n hx dX11_readPerson_210 rfl 3 rfl ?_
    refine kf_iconst (v := 3) hx dX11_readPerson_211 (by decide) ?_
    refine kf_icmp_ne hx 219 dX11_readPerson_212 (by decide) (fun c => ?_) (fun c => ?_)
    · replace h := h.1 c
      refine kf_iload_n hx dX11_readPerson_219 rfl 3 rfl ?_
      refine kf_if_ne hx 232 dX11_readPerson_220 (by decide) (fun c => ?_) (fun c => ?_)
      · replace h := h.1 c
        refine kf_iload_n hx dX11_readPerson_232 rfl 3 rfl ?_
        refine kf_iconst (v := 1) hx dX11_readPerson_233 (by decide) ?_
        refine kf_icmp_ne hx 246 dX11_readPerson_234 (by decide) (fun c => ?_) (fun c => ?_)
        · replace h := h.1 c
          refine kf_iload_n hx dX11_readPerson_246 rfl 3 rfl ?_
          refine kf_iconst (v := 2) hx dX11_readPerson_247 (by decide) ?_
          refine kf_icmp_ne hx 260 dX11_readPerson_248 (by decide) (fun c => ?_) (fun c => ?_)
          · replace h := h.1 c
            refine kf_aload_n hx dX11_readPerson_260 rfl 1 rfl ?_
            refine kf_iconst (v := 0) hx dX11_readPerson_261 (by decide) ?_
            refine kf_bipush (v := 99) hx dX11_readPerson_262 (by decide) ?_
            refine kf_callVi (st := [.int ((5 * x1) + x3), .ref (g.2.2.2 78)]) hx (m_X11_count g hg 0 99 I_14 J_15 _ h) lk_RX11_244 km_X11_count ob_72 rfl (by decide) rfl (Nat.le_of_ble_eq_true rfl) dX11_readPerson_264 (fun r_16 I_17 J_18 h => ?_)
            refine kf_iast hx ar_78 h.1 dX11_readPerson_267 ?_
            replace h := h.2
            refine kf_nmI (fun I_19 eI_19 => ?_)
            replace h := h I_19 eI_19
            refine kf_goto hx 146 dX11_readPerson_268 (by decide) ?_
            refine kf_sub [1, 2, 0] rfl ?_
            exact hK146 _ _ _ h
          · replace h := h.2 c
            refine kf_aload_n hx dX11_readPerson_251 rfl 1 rfl ?_
            refine kf_iconst (v := 0) hx dX11_readPerson_252 (by decide) ?_
            refine kf_iconst (v := 5) hx dX11_readPerson_253 (by decide) ?_
            refine kf_callVi (st := [.int ((5 * x1) + x3), .ref (g.2.2.2 78)]) hx (m_X11_count g hg 0 5 I_14 J_15 _ h) lk_RX11_244 km_X11_count ob_72 rfl (by decide) rfl (Nat.le_of_ble_eq_true rfl) dX11_readPerson_254 (fun r_20 I_21 J_22 h => ?_)
            refine kf_goto hx 267 dX11_readPerson_257 (by decide) ?_
            refine kf_iast hx ar_78 h.1 dX11_readPerson_267 ?_
            replace h := h.2
            refine kf_nmI (fun I_23 eI_23 => ?_)
            replace h := h I_23 eI_23
            refine kf_goto hx 146 dX11_readPerson_268 (by decide) ?_
            refine kf_sub [1, 2, 0] rfl ?_
            exact hK146 _ _ _ h
        · replace h := h.2 c
          refine kf_aload_n hx dX11_readPerson_237 rfl 1 rfl ?_
          refine kf_iconst (v := 1) hx dX11_readPerson_238 (by decide) ?_
          refine kf_iconst (v := 3) hx dX11_readPerson_239 (by decide) ?_
          refine kf_callVi (st := [.int ((5 * x1) + x3), .ref (g.2.2.2 78)]) hx (m_X11_count g hg 1 3 I_14 J_15 _ h) lk_RX11_244 km_X11_count ob_72 rfl (by decide) rfl (Nat.le_of_ble_eq_true rfl) dX11_readPerson_240 (fun r_24 I_25 J_26 h => ?_)
          refine kf_goto hx 267 dX11_readPerson_243 (by decide) ?_
          refine kf_iast hx ar_78 h.1 dX11_readPerson_267 ?_
          replace h := h.2
          refine kf_nmI (fun I_27 eI_27 => ?_)
          replace h := h I_27 eI_27
          refine kf_goto hx 146 dX11_readPerson_268 (by decide) ?_
          refine kf_sub [1, 2, 0] rfl ?_
          exact hK146 _ _ _ h
      · replace h := h.2 c
        refine kf_aload_n hx dX11_readPerson_223 rfl 1 rfl ?_
        refine kf_iconst (v := 0) hx dX11_readPerson_224 (by decide) ?_
        refine kf_iconst (v := 3) hx dX11_readPerson_225 (by decide) ?_
        refine kf_callVi (st := [.int ((5 * x1) + x3), .ref (g.2.2.2 78)]) hx (m_X11_count g hg 0 3 I_14 J_15 _ h) lk_RX11_244 km_X11_count ob_72 rfl (by decide) rfl (Nat.le_of_ble_eq_true rfl) dX11_readPerson_226 (fun r_28 I_29 J_30 h => ?_)
        refine kf_goto hx 267 dX11_readPerson_229 (by decide) ?_
        refine kf_iast hx ar_78 h.1 dX11_readPerson_267 ?_
        replace h := h.2
        refine kf_nmI (fun I_31 eI_31 => ?_)
        replace h := h I_31 eI_31
        refine kf_goto hx 146 dX11_readPerson_268 (by decide) ?_
        refine kf_sub [1, 2, 0] rfl ?_
        exact hK146 _ _ _ h
    · replace h := h.2 c
      refine kf_iconst (v := 1) hx dX11_readPerson_215 (by decide) ?_
      refine kf_goto hx 267 dX11_readPerson_216 (by decide) ?_
      refine kf_iast hx ar_78 h.1 dX11_readPerson_267 ?_
      replace h := h.2
      refine kf_nmI (fun I_32 eI_32 => ?_)
      replace h := h I_32 eI_32
      refine kf_goto hx 146 dX11_readPerson_268 (by decide) ?_
      refine kf_sub [1, 2, 0] rfl ?_
      exact hK146 _ _ _ h
  · replace h := h.2 c
    exact hret _ _ _ _ dX11_readPerson_190 h
def wb_X11_readPerson_146 (x1 : Int32) (Post : HI → HJ → Prop) (E146 : HI → HJ → Prop) (K146 : (Int32 × HI × HJ) → Prop) (s : Int32 × HI × HJ) : Prop :=
  match s with
  | (x2, I, J) => (¬ (I 72 12) = 0 → (E146 I J)) ∧ ((I 72 12) = 0 → (w_X11_trait  I J (fun (r_12 : Int32) => ((r_12 < 0 → (E146 I J)) ∧ (¬ r_12 < 0 → (w_X11_trait  I J (fun (r_13 : Int32) => ((¬ ((x2 >>> (r_13 &&& 31)) &&& 1) = 1 → (wj_X11_readPerson_183 I J x1 x2 r_13 E146 K146 Post)) ∧ (((x2 >>> (r_13 &&& 31)) &&& 1) = 1 → (w_X11_fail 5 (I 72 15) I J (fun (I_33 : HI) => (wj_X11_readPerson_183 I_33 J x1 x2 r_13 E146 K146 Post))))))))))))
set_option maxHeartbeats 4000000 in
set_option maxRecDepth 20000 in
theorem ws_X11_readPerson_146 (g : kf_G) (hg : kf_g g) {x : kf_X} (hx : kf_ok g x RX11 cX11_readPerson 4 4 87) (x1 : Int32) (Post : HI → HJ → Prop) (hret : ∀ (pc : Nat) (lv : List (Nat × Value)) (Iy : HI) (Jy : HJ), decode cX11_readPerson pc = .ok (.return_, 1) → Post Iy Jy → kf_M g x 4 pc lv [] Iy Jy) (E146 : HI → HJ → Prop) (hE146 : ∀ (Iy : HI) (Jy : HJ), E146 Iy Jy → kf_M g x 4 271 [(0, .ref (g.2.2.2 72))] [] Iy Jy) (K146 : (Int32 × HI × HJ) → Prop) (hK146 : ∀ (y2 : Int32) (Iy : HI) (Jy : HJ), K146 (y2, Iy, Jy) → kf_M g x 4 146 [(0, .ref (g.2.2.2 72)), (1, .int x1), (2, .int y2)] [] Iy Jy) (x2 : Int32) (I : HI) (J : HJ) (h : wb_X11_readPerson_146 x1 Post E146 K146 (x2, I, J)) : kf_M g x 4 146 [(0, .ref (g.2.2.2 72)), (1, .int x1), (2, .int x2)] [] I J := by
  unfold wb_X11_readPerson_146 at h
  refine kf_aload_n hx dX11_readPerson_146 rfl 0 rfl ?_
  refine kf_getI hx sl_72_12 fl_RX11_212 dX11_readPerson_147 ?_
  refine kf_if_ne hx 271 dX11_readPerson_150 (by decide) (fun c => ?_) (fun c => ?_)
  · replace h := h.1 c
    refine kf_sub [0] rfl ?_
    exact hE146 _ _ h
  · replace h := h.2 c
    refine kf_aload_n hx dX11_readPerson_153 rfl 0 rfl ?_
    refine kf_callViP (st := []) hx (m_X11_trait g hg  I J _ h) lk_RX11_183 km_X11_trait ob_72 rfl (by decide) rfl (Nat.le_of_ble_eq_true rfl) dX11_readPerson_154 (fun r_12 h => ?_)
    refine kf_if_lt hx 271 dX11_readPerson_157 (by decide) (fun c => ?_) (fun c => ?_)
    · replace h := h.1 c
      refine kf_sub [0] rfl ?_
      exact hE146 _ _ h
    · replace h := h.2 c
      refine kf_aload_n hx dX11_readPerson_160 rfl 0 rfl ?_
      refine kf_callViP (st := []) hx (m_X11_trait g hg  I J _ h) lk_RX11_183 km_X11_trait ob_72 rfl (by decide) rfl (Nat.le_of_ble_eq_true rfl) dX11_readPerson_161 (fun r_13 h => ?_)
      refine kf_istore_n (lv' := [(3, .int r_13), (0, .ref (g.2.2.2 72)), (1, .int x1), (2, .int x2)]) hx dX11_readPerson_164 rfl (by decide) rfl ?_
      refine kf_iload_n hx dX11_readPerson_165 rfl 3 rfl ?_
      refine kf_iload_n hx dX11_readPerson_166 rfl 0 rfl ?_
      refine kf_ishr hx dX11_readPerson_167 ?_
      refine kf_iconst (v := 1) hx dX11_readPerson_168 (by decide) ?_
      refine kf_iand hx dX11_readPerson_169 ?_
      refine kf_iconst (v := 1) hx dX11_readPerson_170 (by decide) ?_
      refine kf_icmp_ne hx 183 dX11_readPerson_171 (by decide) (fun c => ?_) (fun c => ?_)
      · replace h := h.1 c
        refine kf_sub [1, 2, 3, 0] rfl ?_
        exact wk_X11_readPerson_183 g hg hx I J x1 x2 r_13 _ _ hE146 hK146 _ hret h
      · replace h := h.2 c
        refine kf_aload_n hx dX11_readPerson_174 rfl 1 rfl ?_
        refine kf_iconst (v := 5) hx dX11_readPerson_175 (by decide) ?_
        refine kf_aload_n hx dX11_readPerson_176 rfl 1 rfl ?_
        refine kf_getI hx sl_72_15 fl_RX11_145 dX11_readPerson_177 ?_
        refine kf_callVvI (st := []) hx (m_X11_fail g hg 5 (I 72 15) I J _ h) lk_RX11_218 km_X11_fail ob_72 rfl (by decide) rfl (Nat.le_of_ble_eq_true rfl) dX11_readPerson_180 (fun I_33 h => ?_)
        refine kf_sub [1, 2, 3, 0] rfl ?_
        exact wk_X11_readPerson_183 g hg hx I_33 J x1 x2 r_13 _ _ hE146 hK146 _ hret h
theorem wl_X11_readPerson_146 (g : kf_G) (hg : kf_g g) {x : kf_X} (hx : kf_ok g x RX11 cX11_readPerson 4 4 87) (x1 : Int32) (Post : HI → HJ → Prop) (hret : ∀ (pc : Nat) (lv : List (Nat × Value)) (Iy : HI) (Jy : HJ), decode cX11_readPerson pc = .ok (.return_, 1) → Post Iy Jy → kf_M g x 4 pc lv [] Iy Jy) (E146 : HI → HJ → Prop) (hE146 : ∀ (Iy : HI) (Jy : HJ), E146 Iy Jy → kf_M g x 4 271 [(0, .ref (g.2.2.2 72))] [] Iy Jy) : ∀ (n : Nat) (x2 : Int32) (I : HI) (J : HJ), lp (wb_X11_readPerson_146 x1 Post E146) n (x2, I, J) → kf_M g x 4 146 [(0, .ref (g.2.2.2 72)), (1, .int x1), (2, .int x2)] [] I J := by
  intro n
  induction n with
  | zero => intro x2 I J h; exact h.elim
  | succ n ih => intro x2 I J h; exact ws_X11_readPerson_146 g hg hx x1 Post hret E146 hE146 (lp (wb_X11_readPerson_146 x1 Post E146) n) ih x2 I J h
def wj_X11_readPerson_285 (I : HI) (J : HJ) (t0 : Int32) (Post : HI → HJ → Prop) : Prop :=
  w_X11_must t0 I J (fun (I_36 : HI) (J_37 : HJ) => ((¬ (I_36 72 12) = 0 → (Post I_36 J_37)) ∧ ((I_36 72 12) = 0 → (∀ I_38 : HI, I_38 = hI I_36 72 22 ((I_36 72 22) + 1) → (Post I_38 J_37)))))
set_option maxHeartbeats 4000000 in
set_option maxRecDepth 20000 in
theorem wk_X11_readPerson_285 (g : kf_G) (hg : kf_g g) {x : kf_X} (hx : kf_ok g x RX11 cX11_readPerson 4 4 87) (I : HI) (J : HJ) (t0 : Int32) (Post : HI → HJ → Prop) (hret : ∀ (pc : Nat) (lv : List (Nat × Value)) (Iy : HI) (Jy : HJ), decode cX11_readPerson pc = .ok (.return_, 1) → Post Iy Jy → kf_M g x 4 pc lv [] Iy Jy) (h : wj_X11_readPerson_285 I J t0 Post) : kf_M g x 4 285 [(0, .ref (g.2.2.2 72))] [.int t0, .ref (g.2.2.2 72)] I J := by
  unfold wj_X11_readPerson_285 at h
  refine kf_callVv (st := []) hx (m_X11_must g hg t0 I J _ h) lk_RX11_247 km_X11_must ob_72 rfl (by decide) rfl (Nat.le_of_ble_eq_true rfl) dX11_readPerson_285 (fun I_36 J_37 h => ?_)
  refine kf_aload_n hx dX11_readPerson_288 rfl 0 rfl ?_
  refine kf_getI hx sl_72_12 fl_RX11_212 dX11_readPerson_289 ?_
  refine kf_if_ne hx 305 dX11_readPerson_292 (by decide) (fun c => ?_) (fun c => ?_)
  · replace h := h.1 c
    exact hret _ _ _ _ dX11_readPerson_305 h
  · replace h := h.2 c
    refine kf_aload_n hx dX11_readPerson_295 rfl 0 rfl ?_
    refine kf_dup hx dX11_readPerson_296 rfl ?_
    refine kf_getI hx sl_72_22 fl_RX11_235 dX11_readPerson_297 ?_
    refine kf_iconst (v := 1) hx dX11_readPerson_300 (by decide) ?_
    refine kf_iadd hx dX11_readPerson_301 ?_
    refine kf_putI hx sl_72_22 fl_RX11_235 fp_11_22 dX11_readPerson_302 ?_
    refine kf_nmI (fun I_38 eI_38 => ?_)
    replace h := h I_38 eI_38
    exact hret _ _ _ _ dX11_readPerson_305 h
def wj_X11_readPerson_64 (I : HI) (J : HJ)  (Post : HI → HJ → Prop) : Prop :=
  ((I 72 12) ≤ 0 → (vp_in (I 72 22) 12 ∧ (∀ J_4 : HJ, J_4 = hJ J 89 (Int32.toNatClampNeg (I 72 22)) (J 72 19) → (vp_in (5 * (I 72 22)) 60 ∧ (∀ I_5 : HI, I_5 = hI I 78 (Int32.toNatClampNeg (5 * (I 72 22))) 0 → (vp_in ((5 * (I 72 22)) + 1) 60 ∧ (∀ I_6 : HI, I_6 = hI I_5 78 (Int32.toNatClampNeg ((5 * (I 72 22)) + 1)) 1 → (vp_in ((5 * (I 72 22)) + 2) 60 ∧ (∀ I_7 : HI, I_7 = hI I_6 78 (Int32.toNatClampNeg ((5 * (I 72 22)) + 2)) 0 → (vp_in ((5 * (I 72 22)) + 3) 60 ∧ (∀ I_8 : HI, I_8 = hI I_7 78 (Int32.toNatClampNeg ((5 * (I 72 22)) + 3)) 0 → (vp_in ((5 * (I 72 22)) + 4) 60 ∧ (∀ I_9 : HI, I_9 = hI I_8 78 (Int32.toNatClampNeg ((5 * (I 72 22)) + 4)) 1 → (w_X11_next  I_9 J_4 (fun (I_10 : HI) (J_11 : HJ) => (∃ n, lp (wb_X11_readPerson_146 (I 72 22) Post (fun (I_34 : HI) (J_35 : HJ) => (¬ (I_34 72 14) = 3 → (wj_X11_readPerson_285 I_34 J_35 0 Post)) ∧ ((I_34 72 14) = 3 → (wj_X11_readPerson_285 I_34 J_35 1 Post)))) n (0, I_10, J_11))))))))))))))))) ∧ (¬ (I 72 12) ≤ 0 → (Post I J))
set_option maxHeartbeats 4000000 in
set_option maxRecDepth 20000 in
theorem wk_X11_readPerson_64 (g : kf_G) (hg : kf_g g) {x : kf_X} (hx : kf_ok g x RX11 cX11_readPerson 4 4 87) (I : HI) (J : HJ)  (Post : HI → HJ → Prop) (hret : ∀ (pc : Nat) (lv : List (Nat × Value)) (Iy : HI) (Jy : HJ), decode cX11_readPerson pc = .ok (.return_, 1) → Post Iy Jy → kf_M g x 4 pc lv [] Iy Jy) (h : wj_X11_readPerson_64 I J  Post) : kf_M g x 4 64 [(0, .ref (g.2.2.2 72))] [] I J := by
  unfold wj_X11_readPerson_64 at h
  refine kf_aload_n hx dX11_readPerson_64 rfl 0 rfl ?_
  refine kf_getI hx sl_72_12 fl_RX11_212 dX11_readPerson_65 ?_
  refine kf_if_le hx 72 dX11_readPerson_68 (by decide) (fun c => ?_) (fun c => ?_)
  · replace h := h.1 c
    refine kf_aload_n hx dX11_readPerson_72 rfl 0 rfl ?_
    refine kf_getI hx sl_72_22 fl_RX11_235 dX11_readPerson_73 ?_
    refine kf_istore_n (lv' := [(1, .int (I 72 22)), (0, .ref (g.2.2.2 72))]) hx dX11_readPerson_76 rfl (by decide) rfl ?_
    refine kf_aload_n hx dX11_readPerson_77 rfl 1 rfl ?_
    refine kf_getR (n := 89) hx sl_72_36 fl_RX11_71 dX11_readPerson_78 ?_
    refine kf_iload_n hx dX11_readPerson_81 rfl 0 rfl ?_
    refine kf_aload_n hx dX11_readPerson_82 rfl 1 rfl ?_
    refine kf_getJ hx sl_72_19 fl_RX11_157 dX11_readPerson_83 ?_
    refine kf_last hx ar_89 h.1 dX11_readPerson_86 ?_
    replace h := h.2
    refine kf_nmJ (fun J_4 eJ_4 => ?_)
    replace h := h J_4 eJ_4
    refine kf_aload_n hx dX11_readPerson_87 rfl 1 rfl ?_
    refine kf_getR (n := 78) hx sl_72_25 fl_RX11_38 dX11_readPerson_88 ?_
    refine kf_iconst (v := 5) hx dX11_readPerson_91 (by decide) ?_
    refine kf_iload_n hx dX11_readPerson_92 rfl 0 rfl ?_
    refine kf_imul hx dX11_readPerson_93 ?_
    refine kf_iconst (v := 0) hx dX11_readPerson_94 (by decide) ?_
    refine kf_iast hx ar_78 h.1 dX11_readPerson_95 ?_
    replace h := h.2
    refine kf_nmI (fun I_5 eI_5 => ?_)
    replace h := h I_5 eI_5
    refine kf_aload_n hx dX11_readPerson_96 rfl 1 rfl ?_
    refine kf_getR (n := 78) hx sl_72_25 fl_RX11_38 dX11_readPerson_97 ?_
    refine kf_iconst (v := 5) hx dX11_readPerson_100 (by decide) ?_
    refine kf_iload_n hx dX11_readPerson_101 rfl 0 rfl ?_
    refine kf_imul hx dX11_readPerson_102 ?_
    refine kf_iconst (v := 1) hx dX11_readPerson_103 (by decide) ?_
    refine kf_iadd hx dX11_readPerson_104 ?_
    refine kf_iconst (v := 1) hx dX11_readPerson_105 (by decide) ?_
    refine kf_iast hx ar_78 h.1 dX11_readPerson_106 ?_
    replace h := h.2
    refine kf_nmI (fun I_6 eI_6 => ?_)
    replace h := h I_6 eI_6
    refine kf_aload_n hx dX11_readPerson_107 rfl 1 rfl ?_
    refine kf_getR (n := 78) hx sl_72_25 fl_RX11_38 dX11_readPerson_108 ?_
    refine kf_iconst (v := 5) hx dX11_readPerson_111 (by decide) ?_
    refine kf_iload_n hx dX11_readPerson_112 rfl 0 rfl ?_
    refine kf_imul hx dX11_readPerson_113 ?_
    refine kf_iconst (v := 2) hx dX11_readPerson_114 (by decide) ?_
    refine kf_iadd hx dX11_readPerson_115 ?_
    refine kf_iconst (v := 0) hx dX11_readPerson_116 (by decide) ?_
    refine kf_iast hx ar_78 h.1 dX11_readPerson_117 ?_
    replace h := h.2
    refine kf_nmI (fun I_7 eI_7 => ?_)
    replace h := h I_7 eI_7
    refine kf_aload_n hx dX11_readPerson_118 rfl 1 rfl ?_
    refine kf_getR (n := 78) hx sl_72_25 fl_RX11_38 dX11_readPerson_119 ?_
    refine kf_iconst (v := 5) hx dX11_readPerson_122 (by decide) ?_
    refine kf_iload_n hx dX11_readPerson_123 rfl 0 rfl ?_
    refine kf_imul hx dX11_readPerson_124 ?_
    refine kf_iconst (v := 3) hx dX11_readPerson_125 (by decide) ?_
    refine kf_iadd hx dX11_readPerson_126 ?_
    refine kf_iconst (v := 0) hx dX11_readPerson_127 (by decide) ?_
    refine kf_iast hx ar_78 h.1 dX11_readPerson_128 ?_
    replace h := h.2
    refine kf_nmI (fun I_8 eI_8 => ?_)
    replace h := h I_8 eI_8
    refine kf_aload_n hx dX11_readPerson_129 rfl 1 rfl ?_
    refine kf_getR (n := 78) hx sl_72_25 fl_RX11_38 dX11_readPerson_130 ?_
    refine kf_iconst (v := 5) hx dX11_readPerson_133 (by decide) ?_
    refine kf_iload_n hx dX11_readPerson_134 rfl 0 rfl ?_
    refine kf_imul hx dX11_readPerson_135 ?_
    refine kf_iconst (v := 4) hx dX11_readPerson_136 (by decide) ?_
    refine kf_iadd hx dX11_readPerson_137 ?_
    refine kf_iconst (v := 1) hx dX11_readPerson_138 (by decide) ?_
    refine kf_iast hx ar_78 h.1 dX11_readPerson_139 ?_
    replace h := h.2
    refine kf_nmI (fun I_9 eI_9 => ?_)
    replace h := h I_9 eI_9
    refine kf_aload_n hx dX11_readPerson_140 rfl 1 rfl ?_
    refine kf_callVv (st := []) hx (m_X11_next g hg  I_9 J_4 _ h) lk_RX11_222 km_X11_next ob_72 rfl (by decide) rfl (Nat.le_of_ble_eq_true rfl) dX11_readPerson_141 (fun I_10 J_11 h => ?_)
    refine kf_iconst (v := 0) hx dX11_readPerson_144 (by decide) ?_
    refine kf_istore_n (lv' := [(2, .int 0), (1, .int (I 72 22)), (0, .ref (g.2.2.2 72))]) hx dX11_readPerson_145 rfl (by decide) rfl ?_
    obtain ⟨n, h⟩ := h
    refine kf_sub [2, 1, 0] rfl ?_
    refine wl_X11_readPerson_146 g hg hx  (I 72 22) _ hret _ (fun I_34 J_35 h => ?_) n _ _ _ h
    refine kf_aload_n hx dX11_readPerson_271 rfl 0 rfl ?_
    refine kf_aload_n hx dX11_readPerson_272 rfl 0 rfl ?_
    refine kf_getI hx sl_72_14 fl_RX11_151 dX11_readPerson_273 ?_
    refine kf_iconst (v := 3) hx dX11_readPerson_276 (by decide) ?_
    refine kf_icmp_ne hx 284 dX11_readPerson_277 (by decide) (fun c => ?_) (fun c => ?_)
    · replace h := h.1 c
      refine kf_iconst (v := 0) hx dX11_readPerson_284 (by decide) ?_
      exact wk_X11_readPerson_285 g hg hx I_34 J_35 0 _ hret h
    · replace h := h.2 c
      refine kf_iconst (v := 1) hx dX11_readPerson_280 (by decide) ?_
      refine kf_goto hx 285 dX11_readPerson_281 (by decide) ?_
      exact wk_X11_readPerson_285 g hg hx I_34 J_35 1 _ hret h
  · replace h := h.2 c
    exact hret _ _ _ _ dX11_readPerson_71 h
def wj_X11_readPerson_38 (I : HI) (J : HJ)  (Post : HI → HJ → Prop) : Prop :=
  (¬ (I 72 12) = 0 → (wj_X11_readPerson_64 I J Post)) ∧ ((I 72 12) = 0 → ((¬ (I 72 22) = 12 → (wj_X11_readPerson_64 I J Post)) ∧ ((I 72 22) = 12 → (w_X11_fail 6 (I 72 15) I J (fun (I_39 : HI) => (wj_X11_readPerson_64 I_39 J Post))))))
set_option maxHeartbeats 4000000 in
set_option maxRecDepth 20000 in
theorem wk_X11_readPerson_38 (g : kf_G) (hg : kf_g g) {x : kf_X} (hx : kf_ok g x RX11 cX11_readPerson 4 4 87) (I : HI) (J : HJ)  (Post : HI → HJ → Prop) (hret : ∀ (pc : Nat) (lv : List (Nat × Value)) (Iy : HI) (Jy : HJ), decode cX11_readPerson pc = .ok (.return_, 1) → Post Iy Jy → kf_M g x 4 pc lv [] Iy Jy) (h : wj_X11_readPerson_38 I J  Post) : kf_M g x 4 38 [(0, .ref (g.2.2.2 72))] [] I J := by
  unfold wj_X11_readPerson_38 at h
  refine kf_aload_n hx dX11_readPerson_38 rfl 0 rfl ?_
  refine kf_getI hx sl_72_12 fl_RX11_212 dX11_readPerson_39 ?_
  refine kf_if_ne hx 64 dX11_readPerson_42 (by decide) (fun c => ?_) (fun c => ?_)
  · replace h := h.1 c
    exact wk_X11_readPerson_64 g hg hx I J  _ hret h
  · replace h := h.2 c
    refine kf_aload_n hx dX11_readPerson_45 rfl 0 rfl ?_
    refine kf_getI hx sl_72_22 fl_RX11_235 dX11_readPerson_46 ?_
    refine kf_bipush (v := 12) hx dX11_readPerson_49 (by decide) ?_
    refine kf_icmp_ne hx 64 dX11_readPerson_51 (by decide) (fun c => ?_) (fun c => ?_)
    · replace h := h.1 c
      exact wk_X11_readPerson_64 g hg hx I J  _ hret h
    · replace h := h.2 c
      refine kf_aload_n hx dX11_readPerson_54 rfl 0 rfl ?_
      refine kf_bipush (v := 6) hx dX11_readPerson_55 (by decide) ?_
      refine kf_aload_n hx dX11_readPerson_57 rfl 0 rfl ?_
      refine kf_getI hx sl_72_15 fl_RX11_145 dX11_readPerson_58 ?_
      refine kf_callVvI (st := []) hx (m_X11_fail g hg 6 (I 72 15) I J _ h) lk_RX11_218 km_X11_fail ob_72 rfl (by decide) rfl (Nat.le_of_ble_eq_true rfl) dX11_readPerson_61 (fun I_39 h => ?_)
      exact wk_X11_readPerson_64 g hg hx I_39 J  _ hret h
def wj_X11_readPerson_15 (I : HI) (J : HJ)  (Post : HI → HJ → Prop) : Prop :=
  (¬ (I 72 12) = 0 → (wj_X11_readPerson_38 I J Post)) ∧ ((I 72 12) = 0 → (w_X11_named  I J (fun (r_40 : Int32) => ((r_40 < 0 → (wj_X11_readPerson_38 I J Post)) ∧ (¬ r_40 < 0 → (w_X11_fail 3 (I 72 15) I J (fun (I_41 : HI) => (wj_X11_readPerson_38 I_41 J Post))))))))
set_option maxHeartbeats 4000000 in
set_option maxRecDepth 20000 in
theorem wk_X11_readPerson_15 (g : kf_G) (hg : kf_g g) {x : kf_X} (hx : kf_ok g x RX11 cX11_readPerson 4 4 87) (I : HI) (J : HJ)  (Post : HI → HJ → Prop) (hret : ∀ (pc : Nat) (lv : List (Nat × Value)) (Iy : HI) (Jy : HJ), decode cX11_readPerson pc = .ok (.return_, 1) → Post Iy Jy → kf_M g x 4 pc lv [] Iy Jy) (h : wj_X11_readPerson_15 I J  Post) : kf_M g x 4 15 [(0, .ref (g.2.2.2 72))] [] I J := by
  unfold wj_X11_readPerson_15 at h
  refine kf_aload_n hx dX11_readPerson_15 rfl 0 rfl ?_
  refine kf_getI hx sl_72_12 fl_RX11_212 dX11_readPerson_16 ?_
  refine kf_if_ne hx 38 dX11_readPerson_19 (by decide) (fun c => ?_) (fun c => ?_)
  · replace h := h.1 c
    exact wk_X11_readPerson_38 g hg hx I J  _ hret h
  · replace h := h.2 c
    refine kf_aload_n hx dX11_readPerson_22 rfl 0 rfl ?_
    refine kf_callViP (st := []) hx (m_X11_named g hg  I J _ h) lk_RX11_241 km_X11_named ob_72 rfl (by decide) rfl (Nat.le_of_ble_eq_true rfl) dX11_readPerson_23 (fun r_40 h => ?_)
    refine kf_if_lt hx 38 dX11_readPerson_26 (by decide) (fun c => ?_) (fun c => ?_)
    · replace h := h.1 c
      exact wk_X11_readPerson_38 g hg hx I J  _ hret h
    · replace h := h.2 c
      refine kf_aload_n hx dX11_readPerson_29 rfl 0 rfl ?_
      refine kf_iconst (v := 3) hx dX11_readPerson_30 (by decide) ?_
      refine kf_aload_n hx dX11_readPerson_31 rfl 0 rfl ?_
      refine kf_getI hx sl_72_15 fl_RX11_145 dX11_readPerson_32 ?_
      refine kf_callVvI (st := []) hx (m_X11_fail g hg 3 (I 72 15) I J _ h) lk_RX11_218 km_X11_fail ob_72 rfl (by decide) rfl (Nat.le_of_ble_eq_true rfl) dX11_readPerson_35 (fun I_41 h => ?_)
      exact wk_X11_readPerson_38 g hg hx I_41 J  _ hret h
def w_X11_readPerson  (I : HI) (J : HJ) (Post : HI → HJ → Prop) : Prop :=
  w_X11_next  I J (fun (I_1 : HI) (J_2 : HJ) => (w_X11_isName  I_1 J_2 (fun (r_3 : Bool) => ((r_3 = true → (wj_X11_readPerson_15 I_1 J_2 Post)) ∧ (r_3 = false → (w_X11_wrong  I_1 J_2 (fun (I_42 : HI) => (wj_X11_readPerson_15 I_42 J_2 Post))))))))
set_option maxHeartbeats 4000000 in
set_option maxRecDepth 20000 in
theorem we_X11_readPerson (g : kf_G) (hg : kf_g g) {x : kf_X} (hx : kf_ok g x RX11 cX11_readPerson 4 4 87)  (I : HI) (J : HJ) (Post : HI → HJ → Prop) (hret : ∀ (pc : Nat) (lv : List (Nat × Value)) (Iy : HI) (Jy : HJ), decode cX11_readPerson pc = .ok (.return_, 1) → Post Iy Jy → kf_M g x 4 pc lv [] Iy Jy) (h : w_X11_readPerson  I J Post) : kf_M g x 4 0 [(0, .ref (g.2.2.2 72))] [] I J := by
  unfold w_X11_readPerson at h
  refine kf_aload_n hx dX11_readPerson_0 rfl 0 rfl ?_
  refine kf_callVv (st := []) hx (m_X11_next g hg  I J _ h) lk_RX11_222 km_X11_next ob_72 rfl (by decide) rfl (Nat.le_of_ble_eq_true rfl) dX11_readPerson_1 (fun I_1 J_2 h => ?_)
  refine kf_aload_n hx dX11_readPerson_4 rfl 0 rfl ?_
  refine kf_callVbP (st := []) hx (m_X11_isName g hg  I_1 J_2 _ h) lk_RX11_238 km_X11_isName ob_72 rfl (by decide) rfl (Nat.le_of_ble_eq_true rfl) dX11_readPerson_5 (fun r_3 h => ?_)
  refine kf_ifB_ne hx 15 dX11_readPerson_8 (by decide) (fun c => ?_) (fun c => ?_)
  · replace h := h.1 c
    exact wk_X11_readPerson_15 g hg hx I_1 J_2  _ hret h
  · replace h := h.2 c
    refine kf_aload_n hx dX11_readPerson_11 rfl 0 rfl ?_
    refine kf_callVvI (st := []) hx (m_X11_wrong g hg  I_1 J_2 _ h) lk_RX11_225 km_X11_wrong ob_72 rfl (by decide) rfl (Nat.le_of_ble_eq_true rfl) dX11_readPerson_12 (fun I_42 h => ?_)
    exact wk_X11_readPerson_15 g hg hx I_42 J_2  _ hret h
set_option maxHeartbeats 4000000 in
set_option maxRecDepth 20000 in
theorem m_X11_readPerson (g : kf_G) (hg : kf_g g)  (I : HI) (J : HJ) (Post : HI → HJ → Prop) (h : w_X11_readPerson  I J Post) : kf_Mv g yX11_readPerson (kf_W yX11_readPerson cX11_readPerson 4 (Option.none : Option Jvm.ClassFile.FieldType)) 4 87 [.ref (g.2.2.2 72)] I J Post :=
  kf_entv hg (by decide) (Nat.le_of_ble_eq_true rfl) rfl (fun x hx hr => we_X11_readPerson g hg hx  I J Post (fun pc lv I' J' hd hP => hr pc lv I' J' hd hP) h)
theorem dX11_told_0 : decode cX11_told 0 = .ok (.aload_n 0, 1) := by decide +kernel
theorem dX11_told_1 : decode cX11_told 1 = .ok (.getfield 212, 3) := by decide +kernel
theorem dX11_told_4 : decode cX11_told 4 = .ok (.ifCond .ne 14, 3) := by decide +kernel
theorem dX11_told_7 : decode cX11_told 7 = .ok (.aload_n 0, 1) := by decide +kernel
theorem dX11_told_8 : decode cX11_told 8 = .ok (.invokevirtual 238, 3) := by decide +kernel
theorem dX11_told_11 : decode cX11_told 11 = .ok (.ifCond .ne 7, 3) := by decide +kernel
theorem dX11_told_14 : decode cX11_told 14 = .ok (.aload_n 0, 1) := by decide +kernel
theorem dX11_told_15 : decode cX11_told 15 = .ok (.invokevirtual 225, 3) := by decide +kernel
theorem dX11_told_18 : decode cX11_told 18 = .ok (.aload_n 0, 1) := by decide +kernel
theorem dX11_told_19 : decode cX11_told 19 = .ok (.getfield 212, 3) := by decide +kernel
theorem dX11_told_22 : decode cX11_told 22 = .ok (.ifCond .ne 19, 3) := by decide +kernel
theorem dX11_told_25 : decode cX11_told 25 = .ok (.aload_n 0, 1) := by decide +kernel
theorem dX11_told_26 : decode cX11_told 26 = .ok (.invokevirtual 241, 3) := by decide +kernel
theorem dX11_told_29 : decode cX11_told 29 = .ok (.ifCond .ge 12, 3) := by decide +kernel
theorem dX11_told_32 : decode cX11_told 32 = .ok (.aload_n 0, 1) := by decide +kernel
theorem dX11_told_33 : decode cX11_told 33 = .ok (.iconst 3, 1) := by decide +kernel
theorem dX11_told_34 : decode cX11_told 34 = .ok (.aload_n 0, 1) := by decide +kernel
theorem dX11_told_35 : decode cX11_told 35 = .ok (.getfield 145, 3) := by decide +kernel
theorem dX11_told_38 : decode cX11_told 38 = .ok (.invokevirtual 218, 3) := by decide +kernel
theorem dX11_told_41 : decode cX11_told 41 = .ok (.aload_n 0, 1) := by decide +kernel
theorem dX11_told_42 : decode cX11_told 42 = .ok (.getfield 212, 3) := by decide +kernel
theorem dX11_told_45 : decode cX11_told 45 = .ok (.ifCond .ne 10, 3) := by decide +kernel
theorem dX11_told_48 : decode cX11_told 48 = .ok (.aload_n 0, 1) := by decide +kernel
theorem dX11_told_49 : decode cX11_told 49 = .ok (.invokevirtual 241, 3) := by decide +kernel
theorem dX11_told_52 : decode cX11_told 52 = .ok (.goto 4, 3) := by decide +kernel
theorem dX11_told_55 : decode cX11_told 55 = .ok (.iconst 0, 1) := by decide +kernel
theorem dX11_told_56 : decode cX11_told 56 = .ok (.ireturn, 1) := by decide +kernel
def wj_X11_told_41 (I : HI) (J : HJ)  (Post : Int32 → HI → Prop) : Prop :=
  (¬ (I 72 12) = 0 → (Post 0 I)) ∧ ((I 72 12) = 0 → (w_X11_named  I J (fun (r_1 : Int32) => (Post r_1 I))))
set_option maxHeartbeats 4000000 in
set_option maxRecDepth 20000 in
theorem wk_X11_told_41 (g : kf_G) (hg : kf_g g) {x : kf_X} (hx : kf_ok g x RX11 cX11_told 1 3 67) (I : HI) (J : HJ)  (Post : Int32 → HI → Prop) (hret : ∀ (pc : Nat) (lv : List (Nat × Value)) (v : Int32) (Iy : HI), decode cX11_told pc = .ok (.ireturn, 1) → Post v Iy → kf_M g x 1 pc lv [.int v] Iy J) (h : wj_X11_told_41 I J  Post) : kf_M g x 1 41 [(0, .ref (g.2.2.2 72))] [] I J := by
  unfold wj_X11_told_41 at h
  refine kf_aload_n hx dX11_told_41 rfl 0 rfl ?_
  refine kf_getI hx sl_72_12 fl_RX11_212 dX11_told_42 ?_
  refine kf_if_ne hx 55 dX11_told_45 (by decide) (fun c => ?_) (fun c => ?_)
  · replace h := h.1 c
    refine kf_iconst (v := 0) hx dX11_told_55 (by decide) ?_
    exact hret _ _ 0 _ dX11_told_56 h
  · replace h := h.2 c
    refine kf_aload_n hx dX11_told_48 rfl 0 rfl ?_
    refine kf_callViP (st := []) hx (m_X11_named g hg  I J _ h) lk_RX11_241 km_X11_named ob_72 rfl (by decide) rfl (Nat.le_of_ble_eq_true rfl) dX11_told_49 (fun r_1 h => ?_)
    refine kf_goto hx 56 dX11_told_52 (by decide) ?_
    exact hret _ _ r_1 _ dX11_told_56 h
def wj_X11_told_18 (I : HI) (J : HJ)  (Post : Int32 → HI → Prop) : Prop :=
  (¬ (I 72 12) = 0 → (wj_X11_told_41 I J Post)) ∧ ((I 72 12) = 0 → (w_X11_named  I J (fun (r_2 : Int32) => ((0 ≤ r_2 → (wj_X11_told_41 I J Post)) ∧ (¬ 0 ≤ r_2 → (w_X11_fail 3 (I 72 15) I J (fun (I_3 : HI) => (wj_X11_told_41 I_3 J Post))))))))
set_option maxHeartbeats 4000000 in
set_option maxRecDepth 20000 in
theorem wk_X11_told_18 (g : kf_G) (hg : kf_g g) {x : kf_X} (hx : kf_ok g x RX11 cX11_told 1 3 67) (I : HI) (J : HJ)  (Post : Int32 → HI → Prop) (hret : ∀ (pc : Nat) (lv : List (Nat × Value)) (v : Int32) (Iy : HI), decode cX11_told pc = .ok (.ireturn, 1) → Post v Iy → kf_M g x 1 pc lv [.int v] Iy J) (h : wj_X11_told_18 I J  Post) : kf_M g x 1 18 [(0, .ref (g.2.2.2 72))] [] I J := by
  unfold wj_X11_told_18 at h
  refine kf_aload_n hx dX11_told_18 rfl 0 rfl ?_
  refine kf_getI hx sl_72_12 fl_RX11_212 dX11_told_19 ?_
  refine kf_if_ne hx 41 dX11_told_22 (by decide) (fun c => ?_) (fun c => ?_)
  · replace h := h.1 c
    exact wk_X11_told_41 g hg hx I J  _ hret h
  · replace h := h.2 c
    refine kf_aload_n hx dX11_told_25 rfl 0 rfl ?_
    refine kf_callViP (st := []) hx (m_X11_named g hg  I J _ h) lk_RX11_241 km_X11_named ob_72 rfl (by decide) rfl (Nat.le_of_ble_eq_true rfl) dX11_told_26 (fun r_2 h => ?_)
    refine kf_if_ge hx 41 dX11_told_29 (by decide) (fun c => ?_) (fun c => ?_)
    · replace h := h.1 c
      exact wk_X11_told_41 g hg hx I J  _ hret h
    · replace h := h.2 c
      refine kf_aload_n hx dX11_told_32 rfl 0 rfl ?_
      refine kf_iconst (v := 3) hx dX11_told_33 (by decide) ?_
      refine kf_aload_n hx dX11_told_34 rfl 0 rfl ?_
      refine kf_getI hx sl_72_15 fl_RX11_145 dX11_told_35 ?_
      refine kf_callVvI (st := []) hx (m_X11_fail g hg 3 (I 72 15) I J _ h) lk_RX11_218 km_X11_fail ob_72 rfl (by decide) rfl (Nat.le_of_ble_eq_true rfl) dX11_told_38 (fun I_3 h => ?_)
      exact wk_X11_told_41 g hg hx I_3 J  _ hret h
def w_X11_told  (I : HI) (J : HJ) (Post : Int32 → HI → Prop) : Prop :=
  (¬ (I 72 12) = 0 → (wj_X11_told_18 I J Post)) ∧ ((I 72 12) = 0 → (w_X11_isName  I J (fun (r_4 : Bool) => ((r_4 = true → (wj_X11_told_18 I J Post)) ∧ (r_4 = false → (w_X11_wrong  I J (fun (I_5 : HI) => (wj_X11_told_18 I_5 J Post))))))))
set_option maxHeartbeats 4000000 in
set_option maxRecDepth 20000 in
theorem we_X11_told (g : kf_G) (hg : kf_g g) {x : kf_X} (hx : kf_ok g x RX11 cX11_told 1 3 67)  (I : HI) (J : HJ) (Post : Int32 → HI → Prop) (hret : ∀ (pc : Nat) (lv : List (Nat × Value)) (v : Int32) (Iy : HI), decode cX11_told pc = .ok (.ireturn, 1) → Post v Iy → kf_M g x 1 pc lv [.int v] Iy J) (h : w_X11_told  I J Post) : kf_M g x 1 0 [(0, .ref (g.2.2.2 72))] [] I J := by
  unfold w_X11_told at h
  refine kf_aload_n hx dX11_told_0 rfl 0 rfl ?_
  refine kf_getI hx sl_72_12 fl_RX11_212 dX11_told_1 ?_
  refine kf_if_ne hx 18 dX11_told_4 (by decide) (fun c => ?_) (fun c => ?_)
  · replace h := h.1 c
    exact wk_X11_told_18 g hg hx I J  _ hret h
  · replace h := h.2 c
    refine kf_aload_n hx dX11_told_7 rfl 0 rfl ?_
    refine kf_callVbP (st := []) hx (m_X11_isName g hg  I J _ h) lk_RX11_238 km_X11_isName ob_72 rfl (by decide) rfl (Nat.le_of_ble_eq_true rfl) dX11_told_8 (fun r_4 h => ?_)
    refine kf_ifB_ne hx 18 dX11_told_11 (by decide) (fun c => ?_) (fun c => ?_)
    · replace h := h.1 c
      exact wk_X11_told_18 g hg hx I J  _ hret h
    · replace h := h.2 c
      refine kf_aload_n hx dX11_told_14 rfl 0 rfl ?_
      refine kf_callVvI (st := []) hx (m_X11_wrong g hg  I J _ h) lk_RX11_225 km_X11_wrong ob_72 rfl (by decide) rfl (Nat.le_of_ble_eq_true rfl) dX11_told_15 (fun I_5 h => ?_)
      exact wk_X11_told_18 g hg hx I_5 J  _ hret h
set_option maxHeartbeats 4000000 in
set_option maxRecDepth 20000 in
theorem m_X11_told (g : kf_G) (hg : kf_g g)  (I : HI) (J : HJ) (Post : Int32 → HI → Prop) (h : w_X11_told  I J Post) : kf_Mi g yX11_told (kf_W yX11_told cX11_told 1 (Option.some Jvm.ClassFile.FieldType.int)) 3 67 [.ref (g.2.2.2 72)] I J (fun v I' J' => Post v I' ∧ J' = J) :=
  kf_enti hg (by decide) (Nat.le_of_ble_eq_true rfl) rfl (fun x hx hr => we_X11_told g hg hx  I J Post (fun pc lv v I' hd hP => hr pc lv v I' J hd ⟨hP, rfl⟩) h)
theorem dX11_isThere_0 : decode cX11_isThere 0 = .ok (.iconst 0, 1) := by decide +kernel
theorem dX11_isThere_1 : decode cX11_isThere 1 = .ok (.istore_n 3, 1) := by decide +kernel
theorem dX11_isThere_2 : decode cX11_isThere 2 = .ok (.iload_n 3, 1) := by decide +kernel
theorem dX11_isThere_3 : decode cX11_isThere 3 = .ok (.aload_n 0, 1) := by decide +kernel
theorem dX11_isThere_4 : decode cX11_isThere 4 = .ok (.getfield 251, 3) := by decide +kernel
theorem dX11_isThere_7 : decode cX11_isThere 7 = .ok (.if_icmp .ge 31, 3) := by decide +kernel
theorem dX11_isThere_10 : decode cX11_isThere 10 = .ok (.aload_n 0, 1) := by decide +kernel
theorem dX11_isThere_11 : decode cX11_isThere 11 = .ok (.getfield 53, 3) := by decide +kernel
theorem dX11_isThere_14 : decode cX11_isThere 14 = .ok (.iload_n 3, 1) := by decide +kernel
theorem dX11_isThere_15 : decode cX11_isThere 15 = .ok (.iaload, 1) := by decide +kernel
theorem dX11_isThere_16 : decode cX11_isThere 16 = .ok (.iload_n 1, 1) := by decide +kernel
theorem dX11_isThere_17 : decode cX11_isThere 17 = .ok (.if_icmp .ne 15, 3) := by decide +kernel
theorem dX11_isThere_20 : decode cX11_isThere 20 = .ok (.aload_n 0, 1) := by decide +kernel
theorem dX11_isThere_21 : decode cX11_isThere 21 = .ok (.getfield 56, 3) := by decide +kernel
theorem dX11_isThere_24 : decode cX11_isThere 24 = .ok (.iload_n 3, 1) := by decide +kernel
theorem dX11_isThere_25 : decode cX11_isThere 25 = .ok (.iaload, 1) := by decide +kernel
theorem dX11_isThere_26 : decode cX11_isThere 26 = .ok (.iload_n 2, 1) := by decide +kernel
theorem dX11_isThere_27 : decode cX11_isThere 27 = .ok (.if_icmp .ne 5, 3) := by decide +kernel
theorem dX11_isThere_30 : decode cX11_isThere 30 = .ok (.iconst 1, 1) := by decide +kernel
theorem dX11_isThere_31 : decode cX11_isThere 31 = .ok (.ireturn, 1) := by decide +kernel
theorem dX11_isThere_32 : decode cX11_isThere 32 = .ok (.iinc 3 1, 3) := by decide +kernel
theorem dX11_isThere_35 : decode cX11_isThere 35 = .ok (.goto (-33), 3) := by decide +kernel
theorem dX11_isThere_38 : decode cX11_isThere 38 = .ok (.iconst 0, 1) := by decide +kernel
theorem dX11_isThere_39 : decode cX11_isThere 39 = .ok (.ireturn, 1) := by decide +kernel
def wb_X11_isThere_2 (I : HI) (J : HJ) (x1 : Int32) (x2 : Int32) (Post : Bool → Prop) (E2 : Prop) (K2 : Int32 → Prop) (x3 : Int32) : Prop :=
  ((I 72 23) ≤ x3 → E2) ∧ (¬ (I 72 23) ≤ x3 → (vp_in x3 10 ∧ ((¬ (I 83 (Int32.toNatClampNeg x3)) = x1 → (K2 (x3 + 1))) ∧ ((I 83 (Int32.toNatClampNeg x3)) = x1 → (vp_in x3 10 ∧ ((¬ (I 84 (Int32.toNatClampNeg x3)) = x2 → (K2 (x3 + 1))) ∧ ((I 84 (Int32.toNatClampNeg x3)) = x2 → (Post true))))))))
set_option maxHeartbeats 4000000 in
set_option maxRecDepth 20000 in
theorem ws_X11_isThere_2 (g : kf_G) (hg : kf_g g) {x : kf_X} (hx : kf_ok g x RX11 cX11_isThere 4 0 0) (I : HI) (J : HJ) (x1 : Int32) (x2 : Int32) (Post : Bool → Prop) (hret : ∀ (pc : Nat) (lv : List (Nat × Value)) (v : Bool), decode cX11_isThere pc = .ok (.ireturn, 1) → Post v → kf_M g x 4 pc lv [.int (kb v)] I J) (E2 : Prop) (hE2 : E2 → kf_M g x 4 38 [] [] I J) (K2 : Int32 → Prop) (hK2 : ∀ (y3 : Int32), K2 y3 → kf_M g x 4 2 [(0, .ref (g.2.2.2 72)), (1, .int x1), (2, .int x2), (3, .int y3)] [] I J) (x3 : Int32) (h : wb_X11_isThere_2 I J x1 x2 Post E2 K2 x3) : kf_M g x 4 2 [(0, .ref (g.2.2.2 72)), (1, .int x1), (2, .int x2), (3, .int x3)] [] I J := by
  unfold wb_X11_isThere_2 at h
  refine kf_iload_n hx dX11_isThere_2 rfl 3 rfl ?_
  refine kf_aload_n hx dX11_isThere_3 rfl 0 rfl ?_
  refine kf_getI hx sl_72_23 fl_RX11_251 dX11_isThere_4 ?_
  refine kf_icmp_ge hx 38 dX11_isThere_7 (by decide) (fun c => ?_) (fun c => ?_)
  · replace h := h.1 c
    refine kf_sub [] rfl ?_
    exact hE2  h
  · replace h := h.2 c
    refine kf_aload_n hx dX11_isThere_10 rfl 0 rfl ?_
    refine kf_getR (n := 83) hx sl_72_30 fl_RX11_53 dX11_isThere_11 ?_
    refine kf_iload_n hx dX11_isThere_14 rfl 3 rfl ?_
    refine kf_iald hx ar_83 h.1 dX11_isThere_15 ?_
    replace h := h.2
    refine kf_iload_n hx dX11_isThere_16 rfl 1 rfl ?_
    refine kf_icmp_ne hx 32 dX11_isThere_17 (by decide) (fun c => ?_) (fun c => ?_)
    · replace h := h.1 c
      refine kf_iinc (w := (x3 + 1)) (lv' := [(3, .int (x3 + 1)), (0, .ref (g.2.2.2 72)), (1, .int x1), (2, .int x2)]) hx dX11_isThere_32 3 rfl rfl (by decide) rfl ?_
      refine kf_goto hx 2 dX11_isThere_35 (by decide) ?_
      refine kf_sub [1, 2, 3, 0] rfl ?_
      exact hK2 _ h
    · replace h := h.2 c
      refine kf_aload_n hx dX11_isThere_20 rfl 0 rfl ?_
      refine kf_getR (n := 84) hx sl_72_31 fl_RX11_56 dX11_isThere_21 ?_
      refine kf_iload_n hx dX11_isThere_24 rfl 3 rfl ?_
      refine kf_iald hx ar_84 h.1 dX11_isThere_25 ?_
      replace h := h.2
      refine kf_iload_n hx dX11_isThere_26 rfl 2 rfl ?_
      refine kf_icmp_ne hx 32 dX11_isThere_27 (by decide) (fun c => ?_) (fun c => ?_)
      · replace h := h.1 c
        refine kf_iinc (w := (x3 + 1)) (lv' := [(3, .int (x3 + 1)), (0, .ref (g.2.2.2 72)), (1, .int x1), (2, .int x2)]) hx dX11_isThere_32 3 rfl rfl (by decide) rfl ?_
        refine kf_goto hx 2 dX11_isThere_35 (by decide) ?_
        refine kf_sub [1, 2, 3, 0] rfl ?_
        exact hK2 _ h
      · replace h := h.2 c
        refine kf_iconst (v := 1) hx dX11_isThere_30 (by decide) ?_
        exact hret _ _ true  dX11_isThere_31 h
theorem wl_X11_isThere_2 (g : kf_G) (hg : kf_g g) {x : kf_X} (hx : kf_ok g x RX11 cX11_isThere 4 0 0) (I : HI) (J : HJ) (x1 : Int32) (x2 : Int32) (Post : Bool → Prop) (hret : ∀ (pc : Nat) (lv : List (Nat × Value)) (v : Bool), decode cX11_isThere pc = .ok (.ireturn, 1) → Post v → kf_M g x 4 pc lv [.int (kb v)] I J) (E2 : Prop) (hE2 : E2 → kf_M g x 4 38 [] [] I J) : ∀ (n : Nat) (x3 : Int32), lp (wb_X11_isThere_2 I J x1 x2 Post E2) n x3 → kf_M g x 4 2 [(0, .ref (g.2.2.2 72)), (1, .int x1), (2, .int x2), (3, .int x3)] [] I J := by
  intro n
  induction n with
  | zero => intro x3 h; exact h.elim
  | succ n ih => intro x3 h; exact ws_X11_isThere_2 g hg hx I J x1 x2 Post hret E2 hE2 (lp (wb_X11_isThere_2 I J x1 x2 Post E2) n) ih x3 h
def w_X11_isThere (x1 : Int32) (x2 : Int32) (I : HI) (J : HJ) (Post : Bool → Prop) : Prop :=
  ∃ n, lp (wb_X11_isThere_2 I J x1 x2 Post (Post false)) n 0
set_option maxHeartbeats 4000000 in
set_option maxRecDepth 20000 in
theorem we_X11_isThere (g : kf_G) (hg : kf_g g) {x : kf_X} (hx : kf_ok g x RX11 cX11_isThere 4 0 0) (x1 : Int32) (x2 : Int32) (I : HI) (J : HJ) (Post : Bool → Prop) (hret : ∀ (pc : Nat) (lv : List (Nat × Value)) (v : Bool), decode cX11_isThere pc = .ok (.ireturn, 1) → Post v → kf_M g x 4 pc lv [.int (kb v)] I J) (h : w_X11_isThere x1 x2 I J Post) : kf_M g x 4 0 [(0, .ref (g.2.2.2 72)), (1, .int x1), (2, .int x2)] [] I J := by
  unfold w_X11_isThere at h
  refine kf_iconst (v := 0) hx dX11_isThere_0 (by decide) ?_
  refine kf_istore_n (lv' := [(3, .int 0), (0, .ref (g.2.2.2 72)), (1, .int x1), (2, .int x2)]) hx dX11_isThere_1 rfl (by decide) rfl ?_
  obtain ⟨n, h⟩ := h
  refine kf_sub [1, 2, 3, 0] rfl ?_
  refine wl_X11_isThere_2 g hg hx I J x1 x2 _ hret _ (fun h => ?_) n _ h
  refine kf_iconst (v := 0) hx dX11_isThere_38 (by decide) ?_
  exact hret _ _ false  dX11_isThere_39 h
set_option maxHeartbeats 4000000 in
set_option maxRecDepth 20000 in
theorem m_X11_isThere (g : kf_G) (hg : kf_g g) (x1 : Int32) (x2 : Int32) (I : HI) (J : HJ) (Post : Bool → Prop) (h : w_X11_isThere x1 x2 I J Post) : kf_Mb g yX11_isThere (kf_W yX11_isThere cX11_isThere 4 (Option.some Jvm.ClassFile.FieldType.boolean)) 0 0 [.ref (g.2.2.2 72), .int x1, .int x2] I J (fun v I' J' => Post v ∧ I' = I ∧ J' = J) :=
  kf_entb hg (by decide) (Nat.le_of_ble_eq_true rfl) rfl (fun x hx hr => we_X11_isThere g hg hx x1 x2 I J Post (fun pc lv v hd hP => hr pc lv v I J hd ⟨hP, rfl, rfl⟩) h)
theorem dX11_tie_0 : decode cX11_tie 0 = .ok (.aload_n 0, 1) := by decide +kernel
theorem dX11_tie_1 : decode cX11_tie 1 = .ok (.getfield 53, 3) := by decide +kernel
theorem dX11_tie_4 : decode cX11_tie 4 = .ok (.aload_n 0, 1) := by decide +kernel
theorem dX11_tie_5 : decode cX11_tie 5 = .ok (.getfield 251, 3) := by decide +kernel
theorem dX11_tie_8 : decode cX11_tie 8 = .ok (.iload_n 1, 1) := by decide +kernel
theorem dX11_tie_9 : decode cX11_tie 9 = .ok (.iastore, 1) := by decide +kernel
theorem dX11_tie_10 : decode cX11_tie 10 = .ok (.aload_n 0, 1) := by decide +kernel
theorem dX11_tie_11 : decode cX11_tie 11 = .ok (.getfield 56, 3) := by decide +kernel
theorem dX11_tie_14 : decode cX11_tie 14 = .ok (.aload_n 0, 1) := by decide +kernel
theorem dX11_tie_15 : decode cX11_tie 15 = .ok (.getfield 251, 3) := by decide +kernel
theorem dX11_tie_18 : decode cX11_tie 18 = .ok (.iload_n 2, 1) := by decide +kernel
theorem dX11_tie_19 : decode cX11_tie 19 = .ok (.iastore, 1) := by decide +kernel
theorem dX11_tie_20 : decode cX11_tie 20 = .ok (.aload_n 0, 1) := by decide +kernel
theorem dX11_tie_21 : decode cX11_tie 21 = .ok (.getfield 59, 3) := by decide +kernel
theorem dX11_tie_24 : decode cX11_tie 24 = .ok (.aload_n 0, 1) := by decide +kernel
theorem dX11_tie_25 : decode cX11_tie 25 = .ok (.getfield 251, 3) := by decide +kernel
theorem dX11_tie_28 : decode cX11_tie 28 = .ok (.iload_n 3, 1) := by decide +kernel
theorem dX11_tie_29 : decode cX11_tie 29 = .ok (.iastore, 1) := by decide +kernel
theorem dX11_tie_30 : decode cX11_tie 30 = .ok (.aload_n 0, 1) := by decide +kernel
theorem dX11_tie_31 : decode cX11_tie 31 = .ok (.getfield 62, 3) := by decide +kernel
theorem dX11_tie_34 : decode cX11_tie 34 = .ok (.aload_n 0, 1) := by decide +kernel
theorem dX11_tie_35 : decode cX11_tie 35 = .ok (.getfield 251, 3) := by decide +kernel
theorem dX11_tie_38 : decode cX11_tie 38 = .ok (.iload 4, 2) := by decide +kernel
theorem dX11_tie_40 : decode cX11_tie 40 = .ok (.iastore, 1) := by decide +kernel
theorem dX11_tie_41 : decode cX11_tie 41 = .ok (.aload_n 0, 1) := by decide +kernel
theorem dX11_tie_42 : decode cX11_tie 42 = .ok (.dup, 1) := by decide +kernel
theorem dX11_tie_43 : decode cX11_tie 43 = .ok (.getfield 251, 3) := by decide +kernel
theorem dX11_tie_46 : decode cX11_tie 46 = .ok (.iconst 1, 1) := by decide +kernel
theorem dX11_tie_47 : decode cX11_tie 47 = .ok (.iadd, 1) := by decide +kernel
theorem dX11_tie_48 : decode cX11_tie 48 = .ok (.putfield 251, 3) := by decide +kernel
theorem dX11_tie_51 : decode cX11_tie 51 = .ok (.return_, 1) := by decide +kernel
def w_X11_tie (x1 : Int32) (x2 : Int32) (x3 : Int32) (x4 : Int32) (I : HI) (J : HJ) (Post : HI → Prop) : Prop :=
  vp_in (I 72 23) 10 ∧ (∀ I_1 : HI, I_1 = hI I 83 (Int32.toNatClampNeg (I 72 23)) x1 → (vp_in (I_1 72 23) 10 ∧ (∀ I_2 : HI, I_2 = hI I_1 84 (Int32.toNatClampNeg (I_1 72 23)) x2 → (vp_in (I_2 72 23) 10 ∧ (∀ I_3 : HI, I_3 = hI I_2 85 (Int32.toNatClampNeg (I_2 72 23)) x3 → (vp_in (I_3 72 23) 10 ∧ (∀ I_4 : HI, I_4 = hI I_3 86 (Int32.toNatClampNeg (I_3 72 23)) x4 → (∀ I_5 : HI, I_5 = hI I_4 72 23 ((I_4 72 23) + 1) → (Post I_5)))))))))
set_option maxHeartbeats 4000000 in
set_option maxRecDepth 20000 in
theorem we_X11_tie (g : kf_G) (hg : kf_g g) {x : kf_X} (hx : kf_ok g x RX11 cX11_tie 5 0 0) (x1 : Int32) (x2 : Int32) (x3 : Int32) (x4 : Int32) (I : HI) (J : HJ) (Post : HI → Prop) (hret : ∀ (pc : Nat) (lv : List (Nat × Value)) (Iy : HI), decode cX11_tie pc = .ok (.return_, 1) → Post Iy → kf_M g x 5 pc lv [] Iy J) (h : w_X11_tie x1 x2 x3 x4 I J Post) : kf_M g x 5 0 [(0, .ref (g.2.2.2 72)), (1, .int x1), (2, .int x2), (3, .int x3), (4, .int x4)] [] I J := by
  unfold w_X11_tie at h
  refine kf_aload_n hx dX11_tie_0 rfl 0 rfl ?_
  refine kf_getR (n := 83) hx sl_72_30 fl_RX11_53 dX11_tie_1 ?_
  refine kf_aload_n hx dX11_tie_4 rfl 0 rfl ?_
  refine kf_getI hx sl_72_23 fl_RX11_251 dX11_tie_5 ?_
  refine kf_iload_n hx dX11_tie_8 rfl 1 rfl ?_
  refine kf_iast hx ar_83 h.1 dX11_tie_9 ?_
  replace h := h.2
  refine kf_nmI (fun I_1 eI_1 => ?_)
  replace h := h I_1 eI_1
  refine kf_aload_n hx dX11_tie_10 rfl 0 rfl ?_
  refine kf_getR (n := 84) hx sl_72_31 fl_RX11_56 dX11_tie_11 ?_
  refine kf_aload_n hx dX11_tie_14 rfl 0 rfl ?_
  refine kf_getI hx sl_72_23 fl_RX11_251 dX11_tie_15 ?_
  refine kf_iload_n hx dX11_tie_18 rfl 2 rfl ?_
  refine kf_iast hx ar_84 h.1 dX11_tie_19 ?_
  replace h := h.2
  refine kf_nmI (fun I_2 eI_2 => ?_)
  replace h := h I_2 eI_2
  refine kf_aload_n hx dX11_tie_20 rfl 0 rfl ?_
  refine kf_getR (n := 85) hx sl_72_32 fl_RX11_59 dX11_tie_21 ?_
  refine kf_aload_n hx dX11_tie_24 rfl 0 rfl ?_
  refine kf_getI hx sl_72_23 fl_RX11_251 dX11_tie_25 ?_
  refine kf_iload_n hx dX11_tie_28 rfl 3 rfl ?_
  refine kf_iast hx ar_85 h.1 dX11_tie_29 ?_
  replace h := h.2
  refine kf_nmI (fun I_3 eI_3 => ?_)
  replace h := h I_3 eI_3
  refine kf_aload_n hx dX11_tie_30 rfl 0 rfl ?_
  refine kf_getR (n := 86) hx sl_72_33 fl_RX11_62 dX11_tie_31 ?_
  refine kf_aload_n hx dX11_tie_34 rfl 0 rfl ?_
  refine kf_getI hx sl_72_23 fl_RX11_251 dX11_tie_35 ?_
  refine kf_iload hx dX11_tie_38 4 rfl ?_
  refine kf_iast hx ar_86 h.1 dX11_tie_40 ?_
  replace h := h.2
  refine kf_nmI (fun I_4 eI_4 => ?_)
  replace h := h I_4 eI_4
  refine kf_aload_n hx dX11_tie_41 rfl 0 rfl ?_
  refine kf_dup hx dX11_tie_42 rfl ?_
  refine kf_getI hx sl_72_23 fl_RX11_251 dX11_tie_43 ?_
  refine kf_iconst (v := 1) hx dX11_tie_46 (by decide) ?_
  refine kf_iadd hx dX11_tie_47 ?_
  refine kf_putI hx sl_72_23 fl_RX11_251 fp_11_23 dX11_tie_48 ?_
  refine kf_nmI (fun I_5 eI_5 => ?_)
  replace h := h I_5 eI_5
  exact hret _ _ _ dX11_tie_51 h
set_option maxHeartbeats 4000000 in
set_option maxRecDepth 20000 in
theorem m_X11_tie (g : kf_G) (hg : kf_g g) (x1 : Int32) (x2 : Int32) (x3 : Int32) (x4 : Int32) (I : HI) (J : HJ) (Post : HI → Prop) (h : w_X11_tie x1 x2 x3 x4 I J Post) : kf_Mv g yX11_tie (kf_W yX11_tie cX11_tie 5 (Option.none : Option Jvm.ClassFile.FieldType)) 0 0 [.ref (g.2.2.2 72), .int x1, .int x2, .int x3, .int x4] I J (fun I' J' => Post I' ∧ J' = J) :=
  kf_entv hg (by decide) (Nat.le_of_ble_eq_true rfl) rfl (fun x hx hr => we_X11_tie g hg hx x1 x2 x3 x4 I J Post (fun pc lv I' hd hP => hr pc lv I' J hd ⟨hP, rfl⟩) h)
theorem dX11_readTie_0 : decode cX11_readTie 0 = .ok (.aload_n 0, 1) := by decide +kernel
theorem dX11_readTie_1 : decode cX11_readTie 1 = .ok (.getfield 251, 3) := by decide +kernel
theorem dX11_readTie_4 : decode cX11_readTie 4 = .ok (.bipush 10, 2) := by decide +kernel
theorem dX11_readTie_6 : decode cX11_readTie 6 = .ok (.if_icmp .ne 13, 3) := by decide +kernel
theorem dX11_readTie_9 : decode cX11_readTie 9 = .ok (.aload_n 0, 1) := by decide +kernel
theorem dX11_readTie_10 : decode cX11_readTie 10 = .ok (.bipush 6, 2) := by decide +kernel
theorem dX11_readTie_12 : decode cX11_readTie 12 = .ok (.aload_n 0, 1) := by decide +kernel
theorem dX11_readTie_13 : decode cX11_readTie 13 = .ok (.getfield 145, 3) := by decide +kernel
theorem dX11_readTie_16 : decode cX11_readTie 16 = .ok (.invokevirtual 218, 3) := by decide +kernel
theorem dX11_readTie_19 : decode cX11_readTie 19 = .ok (.aload_n 0, 1) := by decide +kernel
theorem dX11_readTie_20 : decode cX11_readTie 20 = .ok (.getfield 212, 3) := by decide +kernel
theorem dX11_readTie_23 : decode cX11_readTie 23 = .ok (.ifCond .le 4, 3) := by decide +kernel
theorem dX11_readTie_26 : decode cX11_readTie 26 = .ok (.return_, 1) := by decide +kernel
theorem dX11_readTie_27 : decode cX11_readTie 27 = .ok (.aload_n 0, 1) := by decide +kernel
theorem dX11_readTie_28 : decode cX11_readTie 28 = .ok (.invokevirtual 222, 3) := by decide +kernel
theorem dX11_readTie_31 : decode cX11_readTie 31 = .ok (.aload_n 0, 1) := by decide +kernel
theorem dX11_readTie_32 : decode cX11_readTie 32 = .ok (.invokevirtual 254, 3) := by decide +kernel
theorem dX11_readTie_35 : decode cX11_readTie 35 = .ok (.istore_n 1, 1) := by decide +kernel
theorem dX11_readTie_36 : decode cX11_readTie 36 = .ok (.aload_n 0, 1) := by decide +kernel
theorem dX11_readTie_37 : decode cX11_readTie 37 = .ok (.getfield 212, 3) := by decide +kernel
theorem dX11_readTie_40 : decode cX11_readTie 40 = .ok (.ifCond .ne 7, 3) := by decide +kernel
theorem dX11_readTie_43 : decode cX11_readTie 43 = .ok (.aload_n 0, 1) := by decide +kernel
theorem dX11_readTie_44 : decode cX11_readTie 44 = .ok (.invokevirtual 222, 3) := by decide +kernel
theorem dX11_readTie_47 : decode cX11_readTie 47 = .ok (.aload_n 0, 1) := by decide +kernel
theorem dX11_readTie_48 : decode cX11_readTie 48 = .ok (.aload_n 0, 1) := by decide +kernel
theorem dX11_readTie_49 : decode cX11_readTie 49 = .ok (.invokevirtual 194, 3) := by decide +kernel
theorem dX11_readTie_52 : decode cX11_readTie 52 = .ok (.invokevirtual 247, 3) := by decide +kernel
theorem dX11_readTie_55 : decode cX11_readTie 55 = .ok (.aload_n 0, 1) := by decide +kernel
theorem dX11_readTie_56 : decode cX11_readTie 56 = .ok (.invokevirtual 254, 3) := by decide +kernel
theorem dX11_readTie_59 : decode cX11_readTie 59 = .ok (.istore_n 2, 1) := by decide +kernel
theorem dX11_readTie_60 : decode cX11_readTie 60 = .ok (.aload_n 0, 1) := by decide +kernel
theorem dX11_readTie_61 : decode cX11_readTie 61 = .ok (.getfield 212, 3) := by decide +kernel
theorem dX11_readTie_64 : decode cX11_readTie 64 = .ok (.ifCond .ne 17, 3) := by decide +kernel
theorem dX11_readTie_67 : decode cX11_readTie 67 = .ok (.iload_n 1, 1) := by decide +kernel
theorem dX11_readTie_68 : decode cX11_readTie 68 = .ok (.iload_n 2, 1) := by decide +kernel
theorem dX11_readTie_69 : decode cX11_readTie 69 = .ok (.if_icmp .ne 12, 3) := by decide +kernel
theorem dX11_readTie_72 : decode cX11_readTie 72 = .ok (.aload_n 0, 1) := by decide +kernel
theorem dX11_readTie_73 : decode cX11_readTie 73 = .ok (.iconst 5, 1) := by decide +kernel
theorem dX11_readTie_74 : decode cX11_readTie 74 = .ok (.aload_n 0, 1) := by decide +kernel
theorem dX11_readTie_75 : decode cX11_readTie 75 = .ok (.getfield 145, 3) := by decide +kernel
theorem dX11_readTie_78 : decode cX11_readTie 78 = .ok (.invokevirtual 218, 3) := by decide +kernel
theorem dX11_readTie_81 : decode cX11_readTie 81 = .ok (.aload_n 0, 1) := by decide +kernel
theorem dX11_readTie_82 : decode cX11_readTie 82 = .ok (.getfield 212, 3) := by decide +kernel
theorem dX11_readTie_85 : decode cX11_readTie 85 = .ok (.ifCond .ne 22, 3) := by decide +kernel
theorem dX11_readTie_88 : decode cX11_readTie 88 = .ok (.aload_n 0, 1) := by decide +kernel
theorem dX11_readTie_89 : decode cX11_readTie 89 = .ok (.iload_n 1, 1) := by decide +kernel
theorem dX11_readTie_90 : decode cX11_readTie 90 = .ok (.iload_n 2, 1) := by decide +kernel
theorem dX11_readTie_91 : decode cX11_readTie 91 = .ok (.invokevirtual 257, 3) := by decide +kernel
theorem dX11_readTie_94 : decode cX11_readTie 94 = .ok (.ifCond .eq 13, 3) := by decide +kernel
theorem dX11_readTie_97 : decode cX11_readTie 97 = .ok (.aload_n 0, 1) := by decide +kernel
theorem dX11_readTie_98 : decode cX11_readTie 98 = .ok (.bipush 6, 2) := by decide +kernel
theorem dX11_readTie_100 : decode cX11_readTie 100 = .ok (.aload_n 0, 1) := by decide +kernel
theorem dX11_readTie_101 : decode cX11_readTie 101 = .ok (.getfield 145, 3) := by decide +kernel
theorem dX11_readTie_104 : decode cX11_readTie 104 = .ok (.invokevirtual 218, 3) := by decide +kernel
theorem dX11_readTie_107 : decode cX11_readTie 107 = .ok (.aload_n 0, 1) := by decide +kernel
theorem dX11_readTie_108 : decode cX11_readTie 108 = .ok (.getfield 212, 3) := by decide +kernel
theorem dX11_readTie_111 : decode cX11_readTie 111 = .ok (.ifCond .ne 7, 3) := by decide +kernel
theorem dX11_readTie_114 : decode cX11_readTie 114 = .ok (.aload_n 0, 1) := by decide +kernel
theorem dX11_readTie_115 : decode cX11_readTie 115 = .ok (.invokevirtual 222, 3) := by decide +kernel
theorem dX11_readTie_118 : decode cX11_readTie 118 = .ok (.aload_n 0, 1) := by decide +kernel
theorem dX11_readTie_119 : decode cX11_readTie 119 = .ok (.aload_n 0, 1) := by decide +kernel
theorem dX11_readTie_120 : decode cX11_readTie 120 = .ok (.invokevirtual 197, 3) := by decide +kernel
theorem dX11_readTie_123 : decode cX11_readTie 123 = .ok (.invokevirtual 247, 3) := by decide +kernel
theorem dX11_readTie_126 : decode cX11_readTie 126 = .ok (.aload_n 0, 1) := by decide +kernel
theorem dX11_readTie_127 : decode cX11_readTie 127 = .ok (.iconst 0, 1) := by decide +kernel
theorem dX11_readTie_128 : decode cX11_readTie 128 = .ok (.bipush 16, 2) := by decide +kernel
theorem dX11_readTie_130 : decode cX11_readTie 130 = .ok (.invokevirtual 244, 3) := by decide +kernel
theorem dX11_readTie_133 : decode cX11_readTie 133 = .ok (.istore_n 3, 1) := by decide +kernel
theorem dX11_readTie_134 : decode cX11_readTie 134 = .ok (.iconst (-1), 1) := by decide +kernel
theorem dX11_readTie_135 : decode cX11_readTie 135 = .ok (.istore 4, 2) := by decide +kernel
theorem dX11_readTie_137 : decode cX11_readTie 137 = .ok (.iconst 0, 1) := by decide +kernel
theorem dX11_readTie_138 : decode cX11_readTie 138 = .ok (.istore 5, 2) := by decide +kernel
theorem dX11_readTie_140 : decode cX11_readTie 140 = .ok (.aload_n 0, 1) := by decide +kernel
theorem dX11_readTie_141 : decode cX11_readTie 141 = .ok (.getfield 212, 3) := by decide +kernel
theorem dX11_readTie_144 : decode cX11_readTie 144 = .ok (.ifCond .ne 130, 3) := by decide +kernel
theorem dX11_readTie_147 : decode cX11_readTie 147 = .ok (.aload_n 0, 1) := by decide +kernel
theorem dX11_readTie_148 : decode cX11_readTie 148 = .ok (.invokevirtual 206, 3) := by decide +kernel
theorem dX11_readTie_151 : decode cX11_readTie 151 = .ok (.ifCond .ne 10, 3) := by decide +kernel
theorem dX11_readTie_154 : decode cX11_readTie 154 = .ok (.aload_n 0, 1) := by decide +kernel
theorem dX11_readTie_155 : decode cX11_readTie 155 = .ok (.invokevirtual 209, 3) := by decide +kernel
theorem dX11_readTie_158 : decode cX11_readTie 158 = .ok (.ifCond .eq 116, 3) := by decide +kernel
theorem dX11_readTie_161 : decode cX11_readTie 161 = .ok (.aload_n 0, 1) := by decide +kernel
theorem dX11_readTie_162 : decode cX11_readTie 162 = .ok (.invokevirtual 206, 3) := by decide +kernel
theorem dX11_readTie_165 : decode cX11_readTie 165 = .ok (.ifCond .eq 11, 3) := by decide +kernel
theorem dX11_readTie_168 : decode cX11_readTie 168 = .ok (.iload 4, 2) := by decide +kernel
theorem dX11_readTie_170 : decode cX11_readTie 170 = .ok (.ifCond .lt 20, 3) := by decide +kernel
theorem dX11_readTie_173 : decode cX11_readTie 173 = .ok (.goto 8, 3) := by decide +kernel
theorem dX11_readTie_176 : decode cX11_readTie 176 = .ok (.iload 5, 2) := by decide +kernel
theorem dX11_readTie_178 : decode cX11_readTie 178 = .ok (.ifCond .eq 12, 3) := by decide +kernel
theorem dX11_readTie_181 : decode cX11_readTie 181 = .ok (.aload_n 0, 1) := by decide +kernel
theorem dX11_readTie_182 : decode cX11_readTie 182 = .ok (.iconst 5, 1) := by decide +kernel
theorem dX11_readTie_183 : decode cX11_readTie 183 = .ok (.aload_n 0, 1) := by decide +kernel
theorem dX11_readTie_184 : decode cX11_readTie 184 = .ok (.getfield 145, 3) := by decide +kernel
theorem dX11_readTie_187 : decode cX11_readTie 187 = .ok (.invokevirtual 218, 3) := by decide +kernel
theorem dX11_readTie_190 : decode cX11_readTie 190 = .ok (.aload_n 0, 1) := by decide +kernel
theorem dX11_readTie_191 : decode cX11_readTie 191 = .ok (.getfield 212, 3) := by decide +kernel
theorem dX11_readTie_194 : decode cX11_readTie 194 = .ok (.ifCond .ne 40, 3) := by decide +kernel
theorem dX11_readTie_197 : decode cX11_readTie 197 = .ok (.aload_n 0, 1) := by decide +kernel
theorem dX11_readTie_198 : decode cX11_readTie 198 = .ok (.invokevirtual 209, 3) := by decide +kernel
theorem dX11_readTie_201 : decode cX11_readTie 201 = .ok (.ifCond .eq 33, 3) := by decide +kernel
theorem dX11_readTie_204 : decode cX11_readTie 204 = .ok (.aload_n 0, 1) := by decide +kernel
theorem dX11_readTie_205 : decode cX11_readTie 205 = .ok (.getfield 251, 3) := by decide +kernel
theorem dX11_readTie_208 : decode cX11_readTie 208 = .ok (.iconst 1, 1) := by decide +kernel
theorem dX11_readTie_209 : decode cX11_readTie 209 = .ok (.iadd, 1) := by decide +kernel
theorem dX11_readTie_210 : decode cX11_readTie 210 = .ok (.bipush 10, 2) := by decide +kernel
theorem dX11_readTie_212 : decode cX11_readTie 212 = .ok (.if_icmp .eq 12, 3) := by decide +kernel
theorem dX11_readTie_215 : decode cX11_readTie 215 = .ok (.aload_n 0, 1) := by decide +kernel
theorem dX11_readTie_216 : decode cX11_readTie 216 = .ok (.iload_n 2, 1) := by decide +kernel
theorem dX11_readTie_217 : decode cX11_readTie 217 = .ok (.iload_n 1, 1) := by decide +kernel
theorem dX11_readTie_218 : decode cX11_readTie 218 = .ok (.invokevirtual 257, 3) := by decide +kernel
theorem dX11_readTie_221 : decode cX11_readTie 221 = .ok (.ifCond .eq 13, 3) := by decide +kernel
theorem dX11_readTie_224 : decode cX11_readTie 224 = .ok (.aload_n 0, 1) := by decide +kernel
theorem dX11_readTie_225 : decode cX11_readTie 225 = .ok (.bipush 6, 2) := by decide +kernel
theorem dX11_readTie_227 : decode cX11_readTie 227 = .ok (.aload_n 0, 1) := by decide +kernel
theorem dX11_readTie_228 : decode cX11_readTie 228 = .ok (.getfield 145, 3) := by decide +kernel
theorem dX11_readTie_231 : decode cX11_readTie 231 = .ok (.invokevirtual 218, 3) := by decide +kernel
theorem dX11_readTie_234 : decode cX11_readTie 234 = .ok (.aload_n 0, 1) := by decide +kernel
theorem dX11_readTie_235 : decode cX11_readTie 235 = .ok (.getfield 212, 3) := by decide +kernel
theorem dX11_readTie_238 : decode cX11_readTie 238 = .ok (.ifCond .le 4, 3) := by decide +kernel
theorem dX11_readTie_241 : decode cX11_readTie 241 = .ok (.return_, 1) := by decide +kernel
theorem dX11_readTie_242 : decode cX11_readTie 242 = .ok (.aload_n 0, 1) := by decide +kernel
theorem dX11_readTie_243 : decode cX11_readTie 243 = .ok (.invokevirtual 206, 3) := by decide +kernel
theorem dX11_readTie_246 : decode cX11_readTie 246 = .ok (.istore 6, 2) := by decide +kernel
theorem dX11_readTie_248 : decode cX11_readTie 248 = .ok (.aload_n 0, 1) := by decide +kernel
theorem dX11_readTie_249 : decode cX11_readTie 249 = .ok (.invokevirtual 222, 3) := by decide +kernel
theorem dX11_readTie_252 : decode cX11_readTie 252 = .ok (.iload 6, 2) := by decide +kernel
theorem dX11_readTie_254 : decode cX11_readTie 254 = .ok (.ifCond .eq 14, 3) := by decide +kernel
theorem dX11_readTie_257 : decode cX11_readTie 257 = .ok (.aload_n 0, 1) := by decide +kernel
theorem dX11_readTie_258 : decode cX11_readTie 258 = .ok (.iconst 1, 1) := by decide +kernel
theorem dX11_readTie_259 : decode cX11_readTie 259 = .ok (.iconst 5, 1) := by decide +kernel
theorem dX11_readTie_260 : decode cX11_readTie 260 = .ok (.invokevirtual 244, 3) := by decide +kernel
theorem dX11_readTie_263 : decode cX11_readTie 263 = .ok (.istore 4, 2) := by decide +kernel
theorem dX11_readTie_265 : decode cX11_readTie 265 = .ok (.goto 6, 3) := by decide +kernel
theorem dX11_readTie_268 : decode cX11_readTie 268 = .ok (.iconst 1, 1) := by decide +kernel
theorem dX11_readTie_269 : decode cX11_readTie 269 = .ok (.istore 5, 2) := by decide +kernel
theorem dX11_readTie_271 : decode cX11_readTie 271 = .ok (.goto (-131), 3) := by decide +kernel
theorem dX11_readTie_274 : decode cX11_readTie 274 = .ok (.aload_n 0, 1) := by decide +kernel
theorem dX11_readTie_275 : decode cX11_readTie 275 = .ok (.aload_n 0, 1) := by decide +kernel
theorem dX11_readTie_276 : decode cX11_readTie 276 = .ok (.getfield 151, 3) := by decide +kernel
theorem dX11_readTie_279 : decode cX11_readTie 279 = .ok (.iconst 3, 1) := by decide +kernel
theorem dX11_readTie_280 : decode cX11_readTie 280 = .ok (.if_icmp .ne 7, 3) := by decide +kernel
theorem dX11_readTie_283 : decode cX11_readTie 283 = .ok (.iconst 1, 1) := by decide +kernel
theorem dX11_readTie_284 : decode cX11_readTie 284 = .ok (.goto 4, 3) := by decide +kernel
theorem dX11_readTie_287 : decode cX11_readTie 287 = .ok (.iconst 0, 1) := by decide +kernel
theorem dX11_readTie_288 : decode cX11_readTie 288 = .ok (.invokevirtual 247, 3) := by decide +kernel
theorem dX11_readTie_291 : decode cX11_readTie 291 = .ok (.aload_n 0, 1) := by decide +kernel
theorem dX11_readTie_292 : decode cX11_readTie 292 = .ok (.getfield 212, 3) := by decide +kernel
theorem dX11_readTie_295 : decode cX11_readTie 295 = .ok (.ifCond .le 4, 3) := by decide +kernel
theorem dX11_readTie_298 : decode cX11_readTie 298 = .ok (.return_, 1) := by decide +kernel
theorem dX11_readTie_299 : decode cX11_readTie 299 = .ok (.aload_n 0, 1) := by decide +kernel
theorem dX11_readTie_300 : decode cX11_readTie 300 = .ok (.iload_n 1, 1) := by decide +kernel
theorem dX11_readTie_301 : decode cX11_readTie 301 = .ok (.iload_n 2, 1) := by decide +kernel
theorem dX11_readTie_302 : decode cX11_readTie 302 = .ok (.iload_n 3, 1) := by decide +kernel
theorem dX11_readTie_303 : decode cX11_readTie 303 = .ok (.iload 4, 2) := by decide +kernel
theorem dX11_readTie_305 : decode cX11_readTie 305 = .ok (.ifCond .ge 7, 3) := by decide +kernel
theorem dX11_readTie_308 : decode cX11_readTie 308 = .ok (.iconst 1, 1) := by decide +kernel
theorem dX11_readTie_309 : decode cX11_readTie 309 = .ok (.goto 5, 3) := by decide +kernel
theorem dX11_readTie_312 : decode cX11_readTie 312 = .ok (.iload 4, 2) := by decide +kernel
theorem dX11_readTie_314 : decode cX11_readTie 314 = .ok (.invokevirtual 261, 3) := by decide +kernel
theorem dX11_readTie_317 : decode cX11_readTie 317 = .ok (.iload 5, 2) := by decide +kernel
theorem dX11_readTie_319 : decode cX11_readTie 319 = .ok (.ifCond .eq 21, 3) := by decide +kernel
theorem dX11_readTie_322 : decode cX11_readTie 322 = .ok (.aload_n 0, 1) := by decide +kernel
theorem dX11_readTie_323 : decode cX11_readTie 323 = .ok (.iload_n 2, 1) := by decide +kernel
theorem dX11_readTie_324 : decode cX11_readTie 324 = .ok (.iload_n 1, 1) := by decide +kernel
theorem dX11_readTie_325 : decode cX11_readTie 325 = .ok (.iload_n 3, 1) := by decide +kernel
theorem dX11_readTie_326 : decode cX11_readTie 326 = .ok (.iload 4, 2) := by decide +kernel
theorem dX11_readTie_328 : decode cX11_readTie 328 = .ok (.ifCond .ge 7, 3) := by decide +kernel
theorem dX11_readTie_331 : decode cX11_readTie 331 = .ok (.iconst 1, 1) := by decide +kernel
theorem dX11_readTie_332 : decode cX11_readTie 332 = .ok (.goto 5, 3) := by decide +kernel
theorem dX11_readTie_335 : decode cX11_readTie 335 = .ok (.iload 4, 2) := by decide +kernel
theorem dX11_readTie_337 : decode cX11_readTie 337 = .ok (.invokevirtual 261, 3) := by decide +kernel
theorem dX11_readTie_340 : decode cX11_readTie 340 = .ok (.return_, 1) := by decide +kernel
def wj_X11_readTie_234 (I : HI) (J : HJ) (x1 : Int32) (x2 : Int32) (x3 : Int32) (x4 : Int32) (x5 : Int32) (E140 : Int32 → Int32 → HI → HJ → Prop) (K140 : Int32 × Int32 × HI × HJ → Prop) (Post : HI → HJ → Prop) : Prop :=
  ((I 72 12) ≤ 0 → (w_X11_isHours  I J (fun (r_18 : Bool) => (w_X11_next  I J (fun (I_19 : HI) (J_20 : HJ) => ((r_18 = false → (K140 (x4, 1, I_19, J_20))) ∧ (r_18 = true → (w_X11_count 1 5 I_19 J_20 (fun (r_21 : Int32) (I_22 : HI) (J_23 : HJ) => (K140 (r_21, x5, I_22, J_23))))))))))) ∧ (¬ (I 72 12) ≤ 0 → (Post I J))
set_option maxHeartbeats 4000000 in
set_option maxRecDepth 20000 in
theorem wk_X11_readTie_234 (g : kf_G) (hg : kf_g g) {x : kf_X} (hx : kf_ok g x RX11 cX11_readTie 7 4 87) (I : HI) (J : HJ) (x1 : Int32) (x2 : Int32) (x3 : Int32) (x4 : Int32) (x5 : Int32) (E140 : Int32 → Int32 → HI → HJ → Prop) (K140 : Int32 × Int32 × HI × HJ → Prop) (hE140 : ∀ (y4 : Int32) (y5 : Int32) (Iy : HI) (Jy : HJ), E140 y4 y5 Iy Jy → kf_M g x 7 274 [(0, .ref (g.2.2.2 72)), (1, .int x1), (2, .int x2), (3, .int x3), (4, .int y4), (5, .int y5)] [] Iy Jy) (hK140 : ∀ (y4 : Int32) (y5 : Int32) (Iy : HI) (Jy : HJ), K140 (y4, y5, Iy, Jy) → kf_M g x 7 140 [(0, .ref (g.2.2.2 72)), (1, .int x1), (2, .int x2), (3, .int x3), (4, .int y4), (5, .int y5)] [] Iy Jy) (Post : HI → HJ → Prop) (hret : ∀ (pc : Nat) (lv : List (Nat × Value)) (Iy : HI) (Jy : HJ), decode cX11_readTie pc = .ok (.return_, 1) → Post Iy Jy → kf_M g x 7 pc lv [] Iy Jy) (h : wj_X11_readTie_234 I J x1 x2 x3 x4 x5 E140 K140 Post) : kf_M g x 7 234 [(0, .ref (g.2.2.2 72)), (1, .int x1), (2, .int x2), (3, .int x3), (4, .int x4), (5, .int x5)] [] I J := by
  unfold wj_X11_readTie_234 at h
  refine kf_aload_n hx dX11_readTie_234 rfl 0 rfl ?_
  refine kf_getI hx sl_72_12 fl_RX11_212 dX11_readTie_235 ?_
  refine kf_if_le hx 242 dX11_readTie_238 (by decide) (fun c => ?_) (fun c => ?_)
  · replace h := h.1 c
    refine kf_aload_n hx dX11_readTie_242 rfl 0 rfl ?_
    refine kf_callVbP (st := []) hx (m_X11_isHours g hg  I J _ h) lk_RX11_206 km_X11_isHours ob_72 rfl (by decide) rfl (Nat.le_of_ble_eq_true rfl) dX11_readTie_243 (fun r_18 h => ?_)
    refine kf_istore (lv' := [(6, .int (kb r_18)), (0, .ref (g.2.2.2 72)), (1, .int x1), (2, .int x2), (3, .int x3), (4, .int x4), (5, .int x5)]) hx dX11_readTie_246 (by decide) rfl ?_
    refine kf_aload_n hx dX11_readTie_248 rfl 1 rfl ?_
    refine kf_callVv (st := []) hx (m_X11_next g hg  I J _ h) lk_RX11_222 km_X11_next ob_72 rfl (by decide) rfl (Nat.le_of_ble_eq_true rfl) dX11_readTie_249 (fun I_19 J_20 h => ?_)
    refine kf_iload hx dX11_readTie_252 0 rfl ?_
    refine kf_ifB_eq hx 268 dX11_readTie_254 (by decide) (fun c => ?_) (fun c => ?_)
    · replace h := h.1 c
      refine kf_iconst (v := 1) hx dX11_readTie_268 (by decide) ?_
      refine kf_istore (lv' := [(5, .int 1), (6, .int (kb r_18)), (0, .ref (g.2.2.2 72)), (1, .int x1), (2, .int x2), (3, .int x3), (4, .int x4)]) hx dX11_readTie_269 (by decide) rfl ?_
      refine kf_goto hx 140 dX11_readTie_271 (by decide) ?_
      refine kf_sub [2, 3, 4, 5, 6, 0] rfl ?_
      exact hK140 _ _ _ _ h
    · replace h := h.2 c
      refine kf_aload_n hx dX11_readTie_257 rfl 1 rfl ?_
      refine kf_iconst (v := 1) hx dX11_readTie_258 (by decide) ?_
      refine kf_iconst (v := 5) hx dX11_readTie_259 (by decide) ?_
      refine kf_callVi (st := []) hx (m_X11_count g hg 1 5 I_19 J_20 _ h) lk_RX11_244 km_X11_count ob_72 rfl (by decide) rfl (Nat.le_of_ble_eq_true rfl) dX11_readTie_260 (fun r_21 I_22 J_23 h => ?_)
      refine kf_istore (lv' := [(4, .int r_21), (6, .int (kb r_18)), (0, .ref (g.2.2.2 72)), (1, .int x1), (2, .int x2), (3, .int x3), (5, .int x5)]) hx dX11_readTie_263 (by decide) rfl ?_
      refine kf_goto hx 271 dX11_readTie_265 (by decide) ?_
      refine kf_goto hx 140 dX11_readTie_271 (by decide) ?_
      refine kf_sub [2, 3, 4, 5, 0, 6] rfl ?_
      exact hK140 _ _ _ _ h
  · replace h := h.2 c
    exact hret _ _ _ _ dX11_readTie_241 h
def wj_X11_readTie_224 (I : HI) (J : HJ) (x1 : Int32) (x2 : Int32) (x3 : Int32) (x4 : Int32) (x5 : Int32) (E140 : Int32 → Int32 → HI → HJ → Prop) (K140 : Int32 × Int32 × HI × HJ → Prop) (Post : HI → HJ → Prop) : Prop :=
  w_X11_fail 6 (I 72 15) I J (fun (I_25 : HI) => (wj_X11_readTie_234 I_25 J x1 x2 x3 x4 x5 E140 K140 Post))
set_option maxHeartbeats 4000000 in
set_option maxRecDepth 20000 in
theorem wk_X11_readTie_224 (g : kf_G) (hg : kf_g g) {x : kf_X} (hx : kf_ok g x RX11 cX11_readTie 7 4 87) (I : HI) (J : HJ) (x1 : Int32) (x2 : Int32) (x3 : Int32) (x4 : Int32) (x5 : Int32) (E140 : Int32 → Int32 → HI → HJ → Prop) (K140 : Int32 × Int32 × HI × HJ → Prop) (hE140 : ∀ (y4 : Int32) (y5 : Int32) (Iy : HI) (Jy : HJ), E140 y4 y5 Iy Jy → kf_M g x 7 274 [(0, .ref (g.2.2.2 72)), (1, .int x1), (2, .int x2), (3, .int x3), (4, .int y4), (5, .int y5)] [] Iy Jy) (hK140 : ∀ (y4 : Int32) (y5 : Int32) (Iy : HI) (Jy : HJ), K140 (y4, y5, Iy, Jy) → kf_M g x 7 140 [(0, .ref (g.2.2.2 72)), (1, .int x1), (2, .int x2), (3, .int x3), (4, .int y4), (5, .int y5)] [] Iy Jy) (Post : HI → HJ → Prop) (hret : ∀ (pc : Nat) (lv : List (Nat × Value)) (Iy : HI) (Jy : HJ), decode cX11_readTie pc = .ok (.return_, 1) → Post Iy Jy → kf_M g x 7 pc lv [] Iy Jy) (h : wj_X11_readTie_224 I J x1 x2 x3 x4 x5 E140 K140 Post) : kf_M g x 7 224 [(0, .ref (g.2.2.2 72)), (1, .int x1), (2, .int x2), (3, .int x3), (4, .int x4), (5, .int x5)] [] I J := by
  unfold wj_X11_readTie_224 at h
  refine kf_aload_n hx dX11_readTie_224 rfl 0 rfl ?_
  refine kf_bipush (v := 6) hx dX11_readTie_225 (by decide) ?_
  refine kf_aload_n hx dX11_readTie_227 rfl 0 rfl ?_
  refine kf_getI hx sl_72_15 fl_RX11_145 dX11_readTie_228 ?_
  refine kf_callVvI (st := []) hx (m_X11_fail g hg 6 (I 72 15) I J _ h) lk_RX11_218 km_X11_fail ob_72 rfl (by decide) rfl (Nat.le_of_ble_eq_true rfl) dX11_readTie_231 (fun I_25 h => ?_)
  exact wk_X11_readTie_234 g hg hx I_25 J x1 x2 x3 x4 x5 _ _ hE140 hK140 _ hret h
def wj_X11_readTie_190 (I : HI) (J : HJ) (x1 : Int32) (x2 : Int32) (x3 : Int32) (x4 : Int32) (x5 : Int32) (E140 : Int32 → Int32 → HI → HJ → Prop) (K140 : Int32 × Int32 × HI × HJ → Prop) (Post : HI → HJ → Prop) : Prop :=
  (¬ (I 72 12) = 0 → (wj_X11_readTie_234 I J x1 x2 x3 x4 x5 E140 K140 Post)) ∧ ((I 72 12) = 0 → (w_X11_isBack  I J (fun (r_24 : Bool) => ((r_24 = false → (wj_X11_readTie_234 I J x1 x2 x3 x4 x5 E140 K140 Post)) ∧ (r_24 = true → ((((I 72 23) + 1) = 10 → (wj_X11_readTie_224 I J x1 x2 x3 x4 x5 E140 K140 Post)) ∧ (¬ ((I 72 23) + 1) = 10 → (w_X11_isThere x2 x1 I J (fun (r_26 : Bool) => ((r_26 = false → (wj_X11_readTie_234 I J x1 x2 x3 x4 x5 E140 K140 Post)) ∧ (r_26 = true → (wj_X11_readTie_224 I J x1 x2 x3 x4 x5 E140 K140 Post))))))))))))
set_option maxHeartbeats 4000000 in
set_option maxRecDepth 20000 in
theorem wk_X11_readTie_190 (g : kf_G) (hg : kf_g g) {x : kf_X} (hx : kf_ok g x RX11 cX11_readTie 7 4 87) (I : HI) (J : HJ) (x1 : Int32) (x2 : Int32) (x3 : Int32) (x4 : Int32) (x5 : Int32) (E140 : Int32 → Int32 → HI → HJ → Prop) (K140 : Int32 × Int32 × HI × HJ → Prop) (hE140 : ∀ (y4 : Int32) (y5 : Int32) (Iy : HI) (Jy : HJ), E140 y4 y5 Iy Jy → kf_M g x 7 274 [(0, .ref (g.2.2.2 72)), (1, .int x1), (2, .int x2), (3, .int x3), (4, .int y4), (5, .int y5)] [] Iy Jy) (hK140 : ∀ (y4 : Int32) (y5 : Int32) (Iy : HI) (Jy : HJ), K140 (y4, y5, Iy, Jy) → kf_M g x 7 140 [(0, .ref (g.2.2.2 72)), (1, .int x1), (2, .int x2), (3, .int x3), (4, .int y4), (5, .int y5)] [] Iy Jy) (Post : HI → HJ → Prop) (hret : ∀ (pc : Nat) (lv : List (Nat × Value)) (Iy : HI) (Jy : HJ), decode cX11_readTie pc = .ok (.return_, 1) → Post Iy Jy → kf_M g x 7 pc lv [] Iy Jy) (h : wj_X11_readTie_190 I J x1 x2 x3 x4 x5 E140 K140 Post) : kf_M g x 7 190 [(0, .ref (g.2.2.2 72)), (1, .int x1), (2, .int x2), (3, .int x3), (4, .int x4), (5, .int x5)] [] I J := by
  unfold wj_X11_readTie_190 at h
  refine kf_aload_n hx dX11_readTie_190 rfl 0 rfl ?_
  refine kf_getI hx sl_72_12 fl_RX11_212 dX11_readTie_191 ?_
  refine kf_if_ne hx 234 dX11_readTie_194 (by decide) (fun c => ?_) (fun c => ?_)
  · replace h := h.1 c
    exact wk_X11_readTie_234 g hg hx I J x1 x2 x3 x4 x5 _ _ hE140 hK140 _ hret h
  · replace h := h.2 c
    refine kf_aload_n hx dX11_readTie_197 rfl 0 rfl ?_
    refine kf_callVbP (st := []) hx (m_X11_isBack g hg  I J _ h) lk_RX11_209 km_X11_isBack ob_72 rfl (by decide) rfl (Nat.le_of_ble_eq_true rfl) dX11_readTie_198 (fun r_24 h => ?_)
    refine kf_ifB_eq hx 234 dX11_readTie_201 (by decide) (fun c => ?_) (fun c => ?_)
    · replace h := h.1 c
      exact wk_X11_readTie_234 g hg hx I J x1 x2 x3 x4 x5 _ _ hE140 hK140 _ hret h
    · replace h := h.2 c
      refine kf_aload_n hx dX11_readTie_204 rfl 0 rfl ?_
      refine kf_getI hx sl_72_23 fl_RX11_251 dX11_readTie_205 ?_
      refine kf_iconst (v := 1) hx dX11_readTie_208 (by decide) ?_
      refine kf_iadd hx dX11_readTie_209 ?_
      refine kf_bipush (v := 10) hx dX11_readTie_210 (by decide) ?_
      refine kf_icmp_eq hx 224 dX11_readTie_212 (by decide) (fun c => ?_) (fun c => ?_)
      · replace h := h.1 c
        exact wk_X11_readTie_224 g hg hx I J x1 x2 x3 x4 x5 _ _ hE140 hK140 _ hret h
      · replace h := h.2 c
        refine kf_aload_n hx dX11_readTie_215 rfl 0 rfl ?_
        refine kf_iload_n hx dX11_readTie_216 rfl 2 rfl ?_
        refine kf_iload_n hx dX11_readTie_217 rfl 1 rfl ?_
        refine kf_callVbP (st := []) hx (m_X11_isThere g hg x2 x1 I J _ h) lk_RX11_257 km_X11_isThere ob_72 rfl (by decide) rfl (Nat.le_of_ble_eq_true rfl) dX11_readTie_218 (fun r_26 h => ?_)
        refine kf_ifB_eq hx 234 dX11_readTie_221 (by decide) (fun c => ?_) (fun c => ?_)
        · replace h := h.1 c
          exact wk_X11_readTie_234 g hg hx I J x1 x2 x3 x4 x5 _ _ hE140 hK140 _ hret h
        · replace h := h.2 c
          exact wk_X11_readTie_224 g hg hx I J x1 x2 x3 x4 x5 _ _ hE140 hK140 _ hret h
def wj_X11_readTie_181 (I : HI) (J : HJ) (x1 : Int32) (x2 : Int32) (x3 : Int32) (x4 : Int32) (x5 : Int32) (E140 : Int32 → Int32 → HI → HJ → Prop) (K140 : Int32 × Int32 × HI × HJ → Prop) (Post : HI → HJ → Prop) : Prop :=
  w_X11_fail 5 (I 72 15) I J (fun (I_27 : HI) => (wj_X11_readTie_190 I_27 J x1 x2 x3 x4 x5 E140 K140 Post))
set_option maxHeartbeats 4000000 in
set_option maxRecDepth 20000 in
theorem wk_X11_readTie_181 (g : kf_G) (hg : kf_g g) {x : kf_X} (hx : kf_ok g x RX11 cX11_readTie 7 4 87) (I : HI) (J : HJ) (x1 : Int32) (x2 : Int32) (x3 : Int32) (x4 : Int32) (x5 : Int32) (E140 : Int32 → Int32 → HI → HJ → Prop) (K140 : Int32 × Int32 × HI × HJ → Prop) (hE140 : ∀ (y4 : Int32) (y5 : Int32) (Iy : HI) (Jy : HJ), E140 y4 y5 Iy Jy → kf_M g x 7 274 [(0, .ref (g.2.2.2 72)), (1, .int x1), (2, .int x2), (3, .int x3), (4, .int y4), (5, .int y5)] [] Iy Jy) (hK140 : ∀ (y4 : Int32) (y5 : Int32) (Iy : HI) (Jy : HJ), K140 (y4, y5, Iy, Jy) → kf_M g x 7 140 [(0, .ref (g.2.2.2 72)), (1, .int x1), (2, .int x2), (3, .int x3), (4, .int y4), (5, .int y5)] [] Iy Jy) (Post : HI → HJ → Prop) (hret : ∀ (pc : Nat) (lv : List (Nat × Value)) (Iy : HI) (Jy : HJ), decode cX11_readTie pc = .ok (.return_, 1) → Post Iy Jy → kf_M g x 7 pc lv [] Iy Jy) (h : wj_X11_readTie_181 I J x1 x2 x3 x4 x5 E140 K140 Post) : kf_M g x 7 181 [(0, .ref (g.2.2.2 72)), (1, .int x1), (2, .int x2), (3, .int x3), (4, .int x4), (5, .int x5)] [] I J := by
  unfold wj_X11_readTie_181 at h
  refine kf_aload_n hx dX11_readTie_181 rfl 0 rfl ?_
  refine kf_iconst (v := 5) hx dX11_readTie_182 (by decide) ?_
  refine kf_aload_n hx dX11_readTie_183 rfl 0 rfl ?_
  refine kf_getI hx sl_72_15 fl_RX11_145 dX11_readTie_184 ?_
  refine kf_callVvI (st := []) hx (m_X11_fail g hg 5 (I 72 15) I J _ h) lk_RX11_218 km_X11_fail ob_72 rfl (by decide) rfl (Nat.le_of_ble_eq_true rfl) dX11_readTie_187 (fun I_27 h => ?_)
  exact wk_X11_readTie_190 g hg hx I_27 J x1 x2 x3 x4 x5 _ _ hE140 hK140 _ hret h
def wj_X11_readTie_161 (I : HI) (J : HJ) (x1 : Int32) (x2 : Int32) (x3 : Int32) (x4 : Int32) (x5 : Int32) (E140 : Int32 → Int32 → HI → HJ → Prop) (K140 : Int32 × Int32 × HI × HJ → Prop) (Post : HI → HJ → Prop) : Prop :=
  w_X11_isHours  I J (fun (r_17 : Bool) => ((r_17 = false → ((x5 = 0 → (wj_X11_readTie_190 I J x1 x2 x3 x4 x5 E140 K140 Post)) ∧ (¬ x5 = 0 → (wj_X11_readTie_181 I J x1 x2 x3 x4 x5 E140 K140 Post)))) ∧ (r_17 = true → ((x4 < 0 → (wj_X11_readTie_190 I J x1 x2 x3 x4 x5 E140 K140 Post)) ∧ (¬ x4 < 0 → (wj_X11_readTie_181 I J x1 x2 x3 x4 x5 E140 K140 Post))))))
set_option maxHeartbeats 4000000 in
set_option maxRecDepth 20000 in
theorem wk_X11_readTie_161 (g : kf_G) (hg : kf_g g) {x : kf_X} (hx : kf_ok g x RX11 cX11_readTie 7 4 87) (I : HI) (J : HJ) (x1 : Int32) (x2 : Int32) (x3 : Int32) (x4 : Int32) (x5 : Int32) (E140 : Int32 → Int32 → HI → HJ → Prop) (K140 : Int32 × Int32 × HI × HJ → Prop) (hE140 : ∀ (y4 : Int32) (y5 : Int32) (Iy : HI) (Jy : HJ), E140 y4 y5 Iy Jy → kf_M g x 7 274 [(0, .ref (g.2.2.2 72)), (1, .int x1), (2, .int x2), (3, .int x3), (4, .int y4), (5, .int y5)] [] Iy Jy) (hK140 : ∀ (y4 : Int32) (y5 : Int32) (Iy : HI) (Jy : HJ), K140 (y4, y5, Iy, Jy) → kf_M g x 7 140 [(0, .ref (g.2.2.2 72)), (1, .int x1), (2, .int x2), (3, .int x3), (4, .int y4), (5, .int y5)] [] Iy Jy) (Post : HI → HJ → Prop) (hret : ∀ (pc : Nat) (lv : List (Nat × Value)) (Iy : HI) (Jy : HJ), decode cX11_readTie pc = .ok (.return_, 1) → Post Iy Jy → kf_M g x 7 pc lv [] Iy Jy) (h : wj_X11_readTie_161 I J x1 x2 x3 x4 x5 E140 K140 Post) : kf_M g x 7 161 [(0, .ref (g.2.2.2 72)), (1, .int x1), (2, .int x2), (3, .int x3), (4, .int x4), (5, .int x5)] [] I J := by
  unfold wj_X11_readTie_161 at h
  refine kf_aload_n hx dX11_readTie_161 rfl 0 rfl ?_
  refine kf_callVbP (st := []) hx (m_X11_isHours g hg  I J _ h) lk_RX11_206 km_X11_isHours ob_72 rfl (by decide) rfl (Nat.le_of_ble_eq_true rfl) dX11_readTie_162 (fun r_17 h => ?_)
  refine kf_ifB_eq hx 176 dX11_readTie_165 (by decide) (fun c => ?_) (fun c => ?_)
  · replace h := h.1 c
    refine kf_iload hx dX11_readTie_176 5 rfl ?_
    refine kf_if_eq hx 190 dX11_readTie_178 (by decide) (fun c => ?_) (fun c => ?_)
    · replace h := h.1 c
      exact wk_X11_readTie_190 g hg hx I J x1 x2 x3 x4 x5 _ _ hE140 hK140 _ hret h
    · replace h := h.2 c
      exact wk_X11_readTie_181 g hg hx I J x1 x2 x3 x4 x5 _ _ hE140 hK140 _ hret h
  · replace h := h.2 c
    refine kf_iload hx dX11_readTie_168 4 rfl ?_
    refine kf_if_lt hx 190 dX11_readTie_170 (by decide) (fun c => ?_) (fun c => ?_)
    · replace h := h.1 c
      exact wk_X11_readTie_190 g hg hx I J x1 x2 x3 x4 x5 _ _ hE140 hK140 _ hret h
    · replace h := h.2 c
      refine kf_goto hx 181 dX11_readTie_173 (by decide) ?_
      exact wk_X11_readTie_181 g hg hx I J x1 x2 x3 x4 x5 _ _ hE140 hK140 _ hret h
def wb_X11_readTie_140 (x1 : Int32) (x2 : Int32) (x3 : Int32) (Post : HI → HJ → Prop) (E140 : Int32 → Int32 → HI → HJ → Prop) (K140 : (Int32 × Int32 × HI × HJ) → Prop) (s : Int32 × Int32 × HI × HJ) : Prop :=
  match s with
  | (x4, x5, I, J) => (¬ (I 72 12) = 0 → (E140 x4 x5 I J)) ∧ ((I 72 12) = 0 → (w_X11_isHours  I J (fun (r_16 : Bool) => ((r_16 = true → (wj_X11_readTie_161 I J x1 x2 x3 x4 x5 E140 K140 Post)) ∧ (r_16 = false → (w_X11_isBack  I J (fun (r_28 : Bool) => ((r_28 = false → (E140 x4 x5 I J)) ∧ (r_28 = true → (wj_X11_readTie_161 I J x1 x2 x3 x4 x5 E140 K140 Post))))))))))
set_option maxHeartbeats 4000000 in
set_option maxRecDepth 20000 in
theorem ws_X11_readTie_140 (g : kf_G) (hg : kf_g g) {x : kf_X} (hx : kf_ok g x RX11 cX11_readTie 7 4 87) (x1 : Int32) (x2 : Int32) (x3 : Int32) (Post : HI → HJ → Prop) (hret : ∀ (pc : Nat) (lv : List (Nat × Value)) (Iy : HI) (Jy : HJ), decode cX11_readTie pc = .ok (.return_, 1) → Post Iy Jy → kf_M g x 7 pc lv [] Iy Jy) (E140 : Int32 → Int32 → HI → HJ → Prop) (hE140 : ∀ (y4 : Int32) (y5 : Int32) (Iy : HI) (Jy : HJ), E140 y4 y5 Iy Jy → kf_M g x 7 274 [(0, .ref (g.2.2.2 72)), (1, .int x1), (2, .int x2), (3, .int x3), (4, .int y4), (5, .int y5)] [] Iy Jy) (K140 : (Int32 × Int32 × HI × HJ) → Prop) (hK140 : ∀ (y4 : Int32) (y5 : Int32) (Iy : HI) (Jy : HJ), K140 (y4, y5, Iy, Jy) → kf_M g x 7 140 [(0, .ref (g.2.2.2 72)), (1, .int x1), (2, .int x2), (3, .int x3), (4, .int y4), (5, .int y5)] [] Iy Jy) (x4 : Int32) (x5 : Int32) (I : HI) (J : HJ) (h : wb_X11_readTie_140 x1 x2 x3 Post E140 K140 (x4, x5, I, J)) : kf_M g x 7 140 [(0, .ref (g.2.2.2 72)), (1, .int x1), (2, .int x2), (3, .int x3), (4, .int x4), (5, .int x5)] [] I J := by
  unfold wb_X11_readTie_140 at h
  refine kf_aload_n hx dX11_readTie_140 rfl 0 rfl ?_
  refine kf_getI hx sl_72_12 fl_RX11_212 dX11_readTie_141 ?_
  refine kf_if_ne hx 274 dX11_readTie_144 (by decide) (fun c => ?_) (fun c => ?_)
  · replace h := h.1 c
    exact hE140 _ _ _ _ h
  · replace h := h.2 c
    refine kf_aload_n hx dX11_readTie_147 rfl 0 rfl ?_
    refine kf_callVbP (st := []) hx (m_X11_isHours g hg  I J _ h) lk_RX11_206 km_X11_isHours ob_72 rfl (by decide) rfl (Nat.le_of_ble_eq_true rfl) dX11_readTie_148 (fun r_16 h => ?_)
    refine kf_ifB_ne hx 161 dX11_readTie_151 (by decide) (fun c => ?_) (fun c => ?_)
    · replace h := h.1 c
      exact wk_X11_readTie_161 g hg hx I J x1 x2 x3 x4 x5 _ _ hE140 hK140 _ hret h
    · replace h := h.2 c
      refine kf_aload_n hx dX11_readTie_154 rfl 0 rfl ?_
      refine kf_callVbP (st := []) hx (m_X11_isBack g hg  I J _ h) lk_RX11_209 km_X11_isBack ob_72 rfl (by decide) rfl (Nat.le_of_ble_eq_true rfl) dX11_readTie_155 (fun r_28 h => ?_)
      refine kf_ifB_eq hx 274 dX11_readTie_158 (by decide) (fun c => ?_) (fun c => ?_)
      · replace h := h.1 c
        exact hE140 _ _ _ _ h
      · replace h := h.2 c
        exact wk_X11_readTie_161 g hg hx I J x1 x2 x3 x4 x5 _ _ hE140 hK140 _ hret h
theorem wl_X11_readTie_140 (g : kf_G) (hg : kf_g g) {x : kf_X} (hx : kf_ok g x RX11 cX11_readTie 7 4 87) (x1 : Int32) (x2 : Int32) (x3 : Int32) (Post : HI → HJ → Prop) (hret : ∀ (pc : Nat) (lv : List (Nat × Value)) (Iy : HI) (Jy : HJ), decode cX11_readTie pc = .ok (.return_, 1) → Post Iy Jy → kf_M g x 7 pc lv [] Iy Jy) (E140 : Int32 → Int32 → HI → HJ → Prop) (hE140 : ∀ (y4 : Int32) (y5 : Int32) (Iy : HI) (Jy : HJ), E140 y4 y5 Iy Jy → kf_M g x 7 274 [(0, .ref (g.2.2.2 72)), (1, .int x1), (2, .int x2), (3, .int x3), (4, .int y4), (5, .int y5)] [] Iy Jy) : ∀ (n : Nat) (x4 : Int32) (x5 : Int32) (I : HI) (J : HJ), lp (wb_X11_readTie_140 x1 x2 x3 Post E140) n (x4, x5, I, J) → kf_M g x 7 140 [(0, .ref (g.2.2.2 72)), (1, .int x1), (2, .int x2), (3, .int x3), (4, .int x4), (5, .int x5)] [] I J := by
  intro n
  induction n with
  | zero => intro x4 x5 I J h; exact h.elim
  | succ n ih => intro x4 x5 I J h; exact ws_X11_readTie_140 g hg hx x1 x2 x3 Post hret E140 hE140 (lp (wb_X11_readTie_140 x1 x2 x3 Post E140) n) ih x4 x5 I J h
def wj_X11_readTie_337 (I : HI) (J : HJ) (t0 : Int32) (t1 : Int32) (t2 : Int32) (t3 : Int32) (Post : HI → HJ → Prop) : Prop :=
  w_X11_tie t3 t2 t1 t0 I J (fun (I_36 : HI) => (Post I_36 J))
set_option maxHeartbeats 4000000 in
set_option maxRecDepth 20000 in
theorem wk_X11_readTie_337 (g : kf_G) (hg : kf_g g) {x : kf_X} (hx : kf_ok g x RX11 cX11_readTie 7 4 87) (I : HI) (J : HJ) (t0 : Int32) (t1 : Int32) (t2 : Int32) (t3 : Int32) (Post : HI → HJ → Prop) (hret : ∀ (pc : Nat) (lv : List (Nat × Value)) (Iy : HI) (Jy : HJ), decode cX11_readTie pc = .ok (.return_, 1) → Post Iy Jy → kf_M g x 7 pc lv [] Iy Jy) (h : wj_X11_readTie_337 I J t0 t1 t2 t3 Post) : kf_M g x 7 337 [] [.int t0, .int t1, .int t2, .int t3, .ref (g.2.2.2 72)] I J := by
  unfold wj_X11_readTie_337 at h
  refine kf_callVvI (st := []) hx (m_X11_tie g hg t3 t2 t1 t0 I J _ h) lk_RX11_261 km_X11_tie ob_72 rfl (by decide) rfl (Nat.le_of_ble_eq_true rfl) dX11_readTie_337 (fun I_36 h => ?_)
  exact hret _ _ _ _ dX11_readTie_340 h
def wj_X11_readTie_314 (I : HI) (J : HJ) (x1 : Int32) (x2 : Int32) (x3 : Int32) (x4 : Int32) (x5 : Int32) (t0 : Int32) (t1 : Int32) (t2 : Int32) (t3 : Int32) (Post : HI → HJ → Prop) : Prop :=
  w_X11_tie t3 t2 t1 t0 I J (fun (I_35 : HI) => ((x5 = 0 → (Post I_35 J)) ∧ (¬ x5 = 0 → ((0 ≤ x4 → (wj_X11_readTie_337 I_35 J x4 x3 x1 x2 Post)) ∧ (¬ 0 ≤ x4 → (wj_X11_readTie_337 I_35 J 1 x3 x1 x2 Post))))))
set_option maxHeartbeats 4000000 in
set_option maxRecDepth 20000 in
theorem wk_X11_readTie_314 (g : kf_G) (hg : kf_g g) {x : kf_X} (hx : kf_ok g x RX11 cX11_readTie 7 4 87) (I : HI) (J : HJ) (x1 : Int32) (x2 : Int32) (x3 : Int32) (x4 : Int32) (x5 : Int32) (t0 : Int32) (t1 : Int32) (t2 : Int32) (t3 : Int32) (Post : HI → HJ → Prop) (hret : ∀ (pc : Nat) (lv : List (Nat × Value)) (Iy : HI) (Jy : HJ), decode cX11_readTie pc = .ok (.return_, 1) → Post Iy Jy → kf_M g x 7 pc lv [] Iy Jy) (h : wj_X11_readTie_314 I J x1 x2 x3 x4 x5 t0 t1 t2 t3 Post) : kf_M g x 7 314 [(0, .ref (g.2.2.2 72)), (1, .int x1), (2, .int x2), (3, .int x3), (4, .int x4), (5, .int x5)] [.int t0, .int t1, .int t2, .int t3, .ref (g.2.2.2 72)] I J := by
  unfold wj_X11_readTie_314 at h
  refine kf_callVvI (st := []) hx (m_X11_tie g hg t3 t2 t1 t0 I J _ h) lk_RX11_261 km_X11_tie ob_72 rfl (by decide) rfl (Nat.le_of_ble_eq_true rfl) dX11_readTie_314 (fun I_35 h => ?_)
  refine kf_iload hx dX11_readTie_317 5 rfl ?_
  refine kf_if_eq hx 340 dX11_readTie_319 (by decide) (fun c => ?_) (fun c => ?_)
  · replace h := h.1 c
    exact hret _ _ _ _ dX11_readTie_340 h
  · replace h := h.2 c
    refine kf_aload_n hx dX11_readTie_322 rfl 0 rfl ?_
    refine kf_iload_n hx dX11_readTie_323 rfl 2 rfl ?_
    refine kf_iload_n hx dX11_readTie_324 rfl 1 rfl ?_
    refine kf_iload_n hx dX11_readTie_325 rfl 3 rfl ?_
    refine kf_iload hx dX11_readTie_326 4 rfl ?_
    refine kf_if_ge hx 335 dX11_readTie_328 (by decide) (fun c => ?_) (fun c => ?_)
    · replace h := h.1 c
      refine kf_iload hx dX11_readTie_335 4 rfl ?_
      refine kf_sub [] rfl ?_
      exact wk_X11_readTie_337 g hg hx I_35 J x4 x3 x1 x2 _ hret h
    · replace h := h.2 c
      refine kf_iconst (v := 1) hx dX11_readTie_331 (by decide) ?_
      refine kf_goto hx 337 dX11_readTie_332 (by decide) ?_
      refine kf_sub [] rfl ?_
      exact wk_X11_readTie_337 g hg hx I_35 J 1 x3 x1 x2 _ hret h
def wj_X11_readTie_288 (I : HI) (J : HJ) (x1 : Int32) (x2 : Int32) (x3 : Int32) (x4 : Int32) (x5 : Int32) (t0 : Int32) (Post : HI → HJ → Prop) : Prop :=
  w_X11_must t0 I J (fun (I_33 : HI) (J_34 : HJ) => (((I_33 72 12) ≤ 0 → ((0 ≤ x4 → (wj_X11_readTie_314 I_33 J_34 x1 x2 x3 x4 x5 x4 x3 x2 x1 Post)) ∧ (¬ 0 ≤ x4 → (wj_X11_readTie_314 I_33 J_34 x1 x2 x3 x4 x5 1 x3 x2 x1 Post)))) ∧ (¬ (I_33 72 12) ≤ 0 → (Post I_33 J_34))))
set_option maxHeartbeats 4000000 in
set_option maxRecDepth 20000 in
theorem wk_X11_readTie_288 (g : kf_G) (hg : kf_g g) {x : kf_X} (hx : kf_ok g x RX11 cX11_readTie 7 4 87) (I : HI) (J : HJ) (x1 : Int32) (x2 : Int32) (x3 : Int32) (x4 : Int32) (x5 : Int32) (t0 : Int32) (Post : HI → HJ → Prop) (hret : ∀ (pc : Nat) (lv : List (Nat × Value)) (Iy : HI) (Jy : HJ), decode cX11_readTie pc = .ok (.return_, 1) → Post Iy Jy → kf_M g x 7 pc lv [] Iy Jy) (h : wj_X11_readTie_288 I J x1 x2 x3 x4 x5 t0 Post) : kf_M g x 7 288 [(0, .ref (g.2.2.2 72)), (1, .int x1), (2, .int x2), (3, .int x3), (4, .int x4), (5, .int x5)] [.int t0, .ref (g.2.2.2 72)] I J := by
  unfold wj_X11_readTie_288 at h
  refine kf_callVv (st := []) hx (m_X11_must g hg t0 I J _ h) lk_RX11_247 km_X11_must ob_72 rfl (by decide) rfl (Nat.le_of_ble_eq_true rfl) dX11_readTie_288 (fun I_33 J_34 h => ?_)
  refine kf_aload_n hx dX11_readTie_291 rfl 0 rfl ?_
  refine kf_getI hx sl_72_12 fl_RX11_212 dX11_readTie_292 ?_
  refine kf_if_le hx 299 dX11_readTie_295 (by decide) (fun c => ?_) (fun c => ?_)
  · replace h := h.1 c
    refine kf_aload_n hx dX11_readTie_299 rfl 0 rfl ?_
    refine kf_iload_n hx dX11_readTie_300 rfl 1 rfl ?_
    refine kf_iload_n hx dX11_readTie_301 rfl 2 rfl ?_
    refine kf_iload_n hx dX11_readTie_302 rfl 3 rfl ?_
    refine kf_iload hx dX11_readTie_303 4 rfl ?_
    refine kf_if_ge hx 312 dX11_readTie_305 (by decide) (fun c => ?_) (fun c => ?_)
    · replace h := h.1 c
      refine kf_iload hx dX11_readTie_312 4 rfl ?_
      exact wk_X11_readTie_314 g hg hx I_33 J_34 x1 x2 x3 x4 x5 x4 x3 x2 x1 _ hret h
    · replace h := h.2 c
      refine kf_iconst (v := 1) hx dX11_readTie_308 (by decide) ?_
      refine kf_goto hx 314 dX11_readTie_309 (by decide) ?_
      exact wk_X11_readTie_314 g hg hx I_33 J_34 x1 x2 x3 x4 x5 1 x3 x2 x1 _ hret h
  · replace h := h.2 c
    exact hret _ _ _ _ dX11_readTie_298 h
def wj_X11_readTie_118 (I : HI) (J : HJ) (x1 : Int32) (x2 : Int32) (Post : HI → HJ → Prop) : Prop :=
  w_X11_isOdds  I J (fun (r_10 : Bool) => (w_X11_must (kb r_10) I J (fun (I_11 : HI) (J_12 : HJ) => (w_X11_count 0 16 I_11 J_12 (fun (r_13 : Int32) (I_14 : HI) (J_15 : HJ) => (∃ n, lp (wb_X11_readTie_140 x1 x2 r_13 Post (fun (x4_29 : Int32) (x5_30 : Int32) (I_31 : HI) (J_32 : HJ) => (¬ (I_31 72 14) = 3 → (wj_X11_readTie_288 I_31 J_32 x1 x2 r_13 x4_29 x5_30 0 Post)) ∧ ((I_31 72 14) = 3 → (wj_X11_readTie_288 I_31 J_32 x1 x2 r_13 x4_29 x5_30 1 Post)))) n ((-1), 0, I_14, J_15)))))))
set_option maxHeartbeats 4000000 in
set_option maxRecDepth 20000 in
theorem wk_X11_readTie_118 (g : kf_G) (hg : kf_g g) {x : kf_X} (hx : kf_ok g x RX11 cX11_readTie 7 4 87) (I : HI) (J : HJ) (x1 : Int32) (x2 : Int32) (Post : HI → HJ → Prop) (hret : ∀ (pc : Nat) (lv : List (Nat × Value)) (Iy : HI) (Jy : HJ), decode cX11_readTie pc = .ok (.return_, 1) → Post Iy Jy → kf_M g x 7 pc lv [] Iy Jy) (h : wj_X11_readTie_118 I J x1 x2 Post) : kf_M g x 7 118 [(0, .ref (g.2.2.2 72)), (1, .int x1), (2, .int x2)] [] I J := by
  unfold wj_X11_readTie_118 at h
  refine kf_aload_n hx dX11_readTie_118 rfl 0 rfl ?_
  refine kf_aload_n hx dX11_readTie_119 rfl 0 rfl ?_
  refine kf_callVbP (st := [.ref (g.2.2.2 72)]) hx (m_X11_isOdds g hg  I J _ h) lk_RX11_197 km_X11_isOdds ob_72 rfl (by decide) rfl (Nat.le_of_ble_eq_true rfl) dX11_readTie_120 (fun r_10 h => ?_)
  refine kf_callVv (st := []) hx (m_X11_must g hg (kb r_10) I J _ h) lk_RX11_247 km_X11_must ob_72 rfl (by decide) rfl (Nat.le_of_ble_eq_true rfl) dX11_readTie_123 (fun I_11 J_12 h => ?_)
  refine kf_aload_n hx dX11_readTie_126 rfl 0 rfl ?_
  refine kf_iconst (v := 0) hx dX11_readTie_127 (by decide) ?_
  refine kf_bipush (v := 16) hx dX11_readTie_128 (by decide) ?_
  refine kf_callVi (st := []) hx (m_X11_count g hg 0 16 I_11 J_12 _ h) lk_RX11_244 km_X11_count ob_72 rfl (by decide) rfl (Nat.le_of_ble_eq_true rfl) dX11_readTie_130 (fun r_13 I_14 J_15 h => ?_)
  refine kf_istore_n (lv' := [(3, .int r_13), (0, .ref (g.2.2.2 72)), (1, .int x1), (2, .int x2)]) hx dX11_readTie_133 rfl (by decide) rfl ?_
  refine kf_iconst (v := (-1)) hx dX11_readTie_134 (by decide) ?_
  refine kf_istore (lv' := [(4, .int (-1)), (3, .int r_13), (0, .ref (g.2.2.2 72)), (1, .int x1), (2, .int x2)]) hx dX11_readTie_135 (by decide) rfl ?_
  refine kf_iconst (v := 0) hx dX11_readTie_137 (by decide) ?_
  refine kf_istore (lv' := [(5, .int 0), (4, .int (-1)), (3, .int r_13), (0, .ref (g.2.2.2 72)), (1, .int x1), (2, .int x2)]) hx dX11_readTie_138 (by decide) rfl ?_
  obtain ⟨n, h⟩ := h
  refine kf_sub [3, 4, 5, 2, 1, 0] rfl ?_
  refine wl_X11_readTie_140 g hg hx  x1 x2 r_13 _ hret _ (fun x4_29 x5_30 I_31 J_32 h => ?_) n _ _ _ _ h
  refine kf_aload_n hx dX11_readTie_274 rfl 0 rfl ?_
  refine kf_aload_n hx dX11_readTie_275 rfl 0 rfl ?_
  refine kf_getI hx sl_72_14 fl_RX11_151 dX11_readTie_276 ?_
  refine kf_iconst (v := 3) hx dX11_readTie_279 (by decide) ?_
  refine kf_icmp_ne hx 287 dX11_readTie_280 (by decide) (fun c => ?_) (fun c => ?_)
  · replace h := h.1 c
    refine kf_iconst (v := 0) hx dX11_readTie_287 (by decide) ?_
    exact wk_X11_readTie_288 g hg hx I_31 J_32 x1 x2 r_13 x4_29 x5_30 0 _ hret h
  · replace h := h.2 c
    refine kf_iconst (v := 1) hx dX11_readTie_283 (by decide) ?_
    refine kf_goto hx 288 dX11_readTie_284 (by decide) ?_
    exact wk_X11_readTie_288 g hg hx I_31 J_32 x1 x2 r_13 x4_29 x5_30 1 _ hret h
def wj_X11_readTie_107 (I : HI) (J : HJ) (x1 : Int32) (x2 : Int32) (Post : HI → HJ → Prop) : Prop :=
  (¬ (I 72 12) = 0 → (wj_X11_readTie_118 I J x1 x2 Post)) ∧ ((I 72 12) = 0 → (w_X11_next  I J (fun (I_37 : HI) (J_38 : HJ) => (wj_X11_readTie_118 I_37 J_38 x1 x2 Post))))
set_option maxHeartbeats 4000000 in
set_option maxRecDepth 20000 in
theorem wk_X11_readTie_107 (g : kf_G) (hg : kf_g g) {x : kf_X} (hx : kf_ok g x RX11 cX11_readTie 7 4 87) (I : HI) (J : HJ) (x1 : Int32) (x2 : Int32) (Post : HI → HJ → Prop) (hret : ∀ (pc : Nat) (lv : List (Nat × Value)) (Iy : HI) (Jy : HJ), decode cX11_readTie pc = .ok (.return_, 1) → Post Iy Jy → kf_M g x 7 pc lv [] Iy Jy) (h : wj_X11_readTie_107 I J x1 x2 Post) : kf_M g x 7 107 [(0, .ref (g.2.2.2 72)), (1, .int x1), (2, .int x2)] [] I J := by
  unfold wj_X11_readTie_107 at h
  refine kf_aload_n hx dX11_readTie_107 rfl 0 rfl ?_
  refine kf_getI hx sl_72_12 fl_RX11_212 dX11_readTie_108 ?_
  refine kf_if_ne hx 118 dX11_readTie_111 (by decide) (fun c => ?_) (fun c => ?_)
  · replace h := h.1 c
    exact wk_X11_readTie_118 g hg hx I J x1 x2 _ hret h
  · replace h := h.2 c
    refine kf_aload_n hx dX11_readTie_114 rfl 0 rfl ?_
    refine kf_callVv (st := []) hx (m_X11_next g hg  I J _ h) lk_RX11_222 km_X11_next ob_72 rfl (by decide) rfl (Nat.le_of_ble_eq_true rfl) dX11_readTie_115 (fun I_37 J_38 h => ?_)
    exact wk_X11_readTie_118 g hg hx I_37 J_38 x1 x2 _ hret h
def wj_X11_readTie_81 (I : HI) (J : HJ) (x1 : Int32) (x2 : Int32) (Post : HI → HJ → Prop) : Prop :=
  (¬ (I 72 12) = 0 → (wj_X11_readTie_107 I J x1 x2 Post)) ∧ ((I 72 12) = 0 → (w_X11_isThere x1 x2 I J (fun (r_39 : Bool) => ((r_39 = false → (wj_X11_readTie_107 I J x1 x2 Post)) ∧ (r_39 = true → (w_X11_fail 6 (I 72 15) I J (fun (I_40 : HI) => (wj_X11_readTie_107 I_40 J x1 x2 Post))))))))
set_option maxHeartbeats 4000000 in
set_option maxRecDepth 20000 in
theorem wk_X11_readTie_81 (g : kf_G) (hg : kf_g g) {x : kf_X} (hx : kf_ok g x RX11 cX11_readTie 7 4 87) (I : HI) (J : HJ) (x1 : Int32) (x2 : Int32) (Post : HI → HJ → Prop) (hret : ∀ (pc : Nat) (lv : List (Nat × Value)) (Iy : HI) (Jy : HJ), decode cX11_readTie pc = .ok (.return_, 1) → Post Iy Jy → kf_M g x 7 pc lv [] Iy Jy) (h : wj_X11_readTie_81 I J x1 x2 Post) : kf_M g x 7 81 [(0, .ref (g.2.2.2 72)), (1, .int x1), (2, .int x2)] [] I J := by
  unfold wj_X11_readTie_81 at h
  refine kf_aload_n hx dX11_readTie_81 rfl 0 rfl ?_
  refine kf_getI hx sl_72_12 fl_RX11_212 dX11_readTie_82 ?_
  refine kf_if_ne hx 107 dX11_readTie_85 (by decide) (fun c => ?_) (fun c => ?_)
  · replace h := h.1 c
    exact wk_X11_readTie_107 g hg hx I J x1 x2 _ hret h
  · replace h := h.2 c
    refine kf_aload_n hx dX11_readTie_88 rfl 0 rfl ?_
    refine kf_iload_n hx dX11_readTie_89 rfl 1 rfl ?_
    refine kf_iload_n hx dX11_readTie_90 rfl 2 rfl ?_
    refine kf_callVbP (st := []) hx (m_X11_isThere g hg x1 x2 I J _ h) lk_RX11_257 km_X11_isThere ob_72 rfl (by decide) rfl (Nat.le_of_ble_eq_true rfl) dX11_readTie_91 (fun r_39 h => ?_)
    refine kf_ifB_eq hx 107 dX11_readTie_94 (by decide) (fun c => ?_) (fun c => ?_)
    · replace h := h.1 c
      exact wk_X11_readTie_107 g hg hx I J x1 x2 _ hret h
    · replace h := h.2 c
      refine kf_aload_n hx dX11_readTie_97 rfl 0 rfl ?_
      refine kf_bipush (v := 6) hx dX11_readTie_98 (by decide) ?_
      refine kf_aload_n hx dX11_readTie_100 rfl 0 rfl ?_
      refine kf_getI hx sl_72_15 fl_RX11_145 dX11_readTie_101 ?_
      refine kf_callVvI (st := []) hx (m_X11_fail g hg 6 (I 72 15) I J _ h) lk_RX11_218 km_X11_fail ob_72 rfl (by decide) rfl (Nat.le_of_ble_eq_true rfl) dX11_readTie_104 (fun I_40 h => ?_)
      exact wk_X11_readTie_107 g hg hx I_40 J x1 x2 _ hret h
def wj_X11_readTie_47 (I : HI) (J : HJ) (x1 : Int32) (Post : HI → HJ → Prop) : Prop :=
  w_X11_isTo  I J (fun (r_5 : Bool) => (w_X11_must (kb r_5) I J (fun (I_6 : HI) (J_7 : HJ) => (w_X11_told  I_6 J_7 (fun (r_8 : Int32) (I_9 : HI) => ((¬ (I_9 72 12) = 0 → (wj_X11_readTie_81 I_9 J_7 x1 r_8 Post)) ∧ ((I_9 72 12) = 0 → ((¬ x1 = r_8 → (wj_X11_readTie_81 I_9 J_7 x1 r_8 Post)) ∧ (x1 = r_8 → (w_X11_fail 5 (I_9 72 15) I_9 J_7 (fun (I_41 : HI) => (wj_X11_readTie_81 I_41 J_7 x1 r_8 Post))))))))))))
set_option maxHeartbeats 4000000 in
set_option maxRecDepth 20000 in
theorem wk_X11_readTie_47 (g : kf_G) (hg : kf_g g) {x : kf_X} (hx : kf_ok g x RX11 cX11_readTie 7 4 87) (I : HI) (J : HJ) (x1 : Int32) (Post : HI → HJ → Prop) (hret : ∀ (pc : Nat) (lv : List (Nat × Value)) (Iy : HI) (Jy : HJ), decode cX11_readTie pc = .ok (.return_, 1) → Post Iy Jy → kf_M g x 7 pc lv [] Iy Jy) (h : wj_X11_readTie_47 I J x1 Post) : kf_M g x 7 47 [(0, .ref (g.2.2.2 72)), (1, .int x1)] [] I J := by
  unfold wj_X11_readTie_47 at h
  refine kf_aload_n hx dX11_readTie_47 rfl 0 rfl ?_
  refine kf_aload_n hx dX11_readTie_48 rfl 0 rfl ?_
  refine kf_callVbP (st := [.ref (g.2.2.2 72)]) hx (m_X11_isTo g hg  I J _ h) lk_RX11_194 km_X11_isTo ob_72 rfl (by decide) rfl (Nat.le_of_ble_eq_true rfl) dX11_readTie_49 (fun r_5 h => ?_)
  refine kf_callVv (st := []) hx (m_X11_must g hg (kb r_5) I J _ h) lk_RX11_247 km_X11_must ob_72 rfl (by decide) rfl (Nat.le_of_ble_eq_true rfl) dX11_readTie_52 (fun I_6 J_7 h => ?_)
  refine kf_aload_n hx dX11_readTie_55 rfl 0 rfl ?_
  refine kf_callViI (st := []) hx (m_X11_told g hg  I_6 J_7 _ h) lk_RX11_254 km_X11_told ob_72 rfl (by decide) rfl (Nat.le_of_ble_eq_true rfl) dX11_readTie_56 (fun r_8 I_9 h => ?_)
  refine kf_istore_n (lv' := [(2, .int r_8), (0, .ref (g.2.2.2 72)), (1, .int x1)]) hx dX11_readTie_59 rfl (by decide) rfl ?_
  refine kf_aload_n hx dX11_readTie_60 rfl 1 rfl ?_
  refine kf_getI hx sl_72_12 fl_RX11_212 dX11_readTie_61 ?_
  refine kf_if_ne hx 81 dX11_readTie_64 (by decide) (fun c => ?_) (fun c => ?_)
  · replace h := h.1 c
    refine kf_sub [1, 2, 0] rfl ?_
    exact wk_X11_readTie_81 g hg hx I_9 J_7 x1 r_8 _ hret h
  · replace h := h.2 c
    refine kf_iload_n hx dX11_readTie_67 rfl 2 rfl ?_
    refine kf_iload_n hx dX11_readTie_68 rfl 0 rfl ?_
    refine kf_icmp_ne hx 81 dX11_readTie_69 (by decide) (fun c => ?_) (fun c => ?_)
    · replace h := h.1 c
      refine kf_sub [1, 2, 0] rfl ?_
      exact wk_X11_readTie_81 g hg hx I_9 J_7 x1 r_8 _ hret h
    · replace h := h.2 c
      refine kf_aload_n hx dX11_readTie_72 rfl 1 rfl ?_
      refine kf_iconst (v := 5) hx dX11_readTie_73 (by decide) ?_
      refine kf_aload_n hx dX11_readTie_74 rfl 1 rfl ?_
      refine kf_getI hx sl_72_15 fl_RX11_145 dX11_readTie_75 ?_
      refine kf_callVvI (st := []) hx (m_X11_fail g hg 5 (I_9 72 15) I_9 J_7 _ h) lk_RX11_218 km_X11_fail ob_72 rfl (by decide) rfl (Nat.le_of_ble_eq_true rfl) dX11_readTie_78 (fun I_41 h => ?_)
      refine kf_sub [1, 2, 0] rfl ?_
      exact wk_X11_readTie_81 g hg hx I_41 J_7 x1 r_8 _ hret h
def wj_X11_readTie_19 (I : HI) (J : HJ)  (Post : HI → HJ → Prop) : Prop :=
  ((I 72 12) ≤ 0 → (w_X11_next  I J (fun (I_1 : HI) (J_2 : HJ) => (w_X11_told  I_1 J_2 (fun (r_3 : Int32) (I_4 : HI) => ((¬ (I_4 72 12) = 0 → (wj_X11_readTie_47 I_4 J_2 r_3 Post)) ∧ ((I_4 72 12) = 0 → (w_X11_next  I_4 J_2 (fun (I_42 : HI) (J_43 : HJ) => (wj_X11_readTie_47 I_42 J_43 r_3 Post)))))))))) ∧ (¬ (I 72 12) ≤ 0 → (Post I J))
set_option maxHeartbeats 4000000 in
set_option maxRecDepth 20000 in
theorem wk_X11_readTie_19 (g : kf_G) (hg : kf_g g) {x : kf_X} (hx : kf_ok g x RX11 cX11_readTie 7 4 87) (I : HI) (J : HJ)  (Post : HI → HJ → Prop) (hret : ∀ (pc : Nat) (lv : List (Nat × Value)) (Iy : HI) (Jy : HJ), decode cX11_readTie pc = .ok (.return_, 1) → Post Iy Jy → kf_M g x 7 pc lv [] Iy Jy) (h : wj_X11_readTie_19 I J  Post) : kf_M g x 7 19 [(0, .ref (g.2.2.2 72))] [] I J := by
  unfold wj_X11_readTie_19 at h
  refine kf_aload_n hx dX11_readTie_19 rfl 0 rfl ?_
  refine kf_getI hx sl_72_12 fl_RX11_212 dX11_readTie_20 ?_
  refine kf_if_le hx 27 dX11_readTie_23 (by decide) (fun c => ?_) (fun c => ?_)
  · replace h := h.1 c
    refine kf_aload_n hx dX11_readTie_27 rfl 0 rfl ?_
    refine kf_callVv (st := []) hx (m_X11_next g hg  I J _ h) lk_RX11_222 km_X11_next ob_72 rfl (by decide) rfl (Nat.le_of_ble_eq_true rfl) dX11_readTie_28 (fun I_1 J_2 h => ?_)
    refine kf_aload_n hx dX11_readTie_31 rfl 0 rfl ?_
    refine kf_callViI (st := []) hx (m_X11_told g hg  I_1 J_2 _ h) lk_RX11_254 km_X11_told ob_72 rfl (by decide) rfl (Nat.le_of_ble_eq_true rfl) dX11_readTie_32 (fun r_3 I_4 h => ?_)
    refine kf_istore_n (lv' := [(1, .int r_3), (0, .ref (g.2.2.2 72))]) hx dX11_readTie_35 rfl (by decide) rfl ?_
    refine kf_aload_n hx dX11_readTie_36 rfl 1 rfl ?_
    refine kf_getI hx sl_72_12 fl_RX11_212 dX11_readTie_37 ?_
    refine kf_if_ne hx 47 dX11_readTie_40 (by decide) (fun c => ?_) (fun c => ?_)
    · replace h := h.1 c
      refine kf_sub [1, 0] rfl ?_
      exact wk_X11_readTie_47 g hg hx I_4 J_2 r_3 _ hret h
    · replace h := h.2 c
      refine kf_aload_n hx dX11_readTie_43 rfl 1 rfl ?_
      refine kf_callVv (st := []) hx (m_X11_next g hg  I_4 J_2 _ h) lk_RX11_222 km_X11_next ob_72 rfl (by decide) rfl (Nat.le_of_ble_eq_true rfl) dX11_readTie_44 (fun I_42 J_43 h => ?_)
      refine kf_sub [1, 0] rfl ?_
      exact wk_X11_readTie_47 g hg hx I_42 J_43 r_3 _ hret h
  · replace h := h.2 c
    exact hret _ _ _ _ dX11_readTie_26 h
def w_X11_readTie  (I : HI) (J : HJ) (Post : HI → HJ → Prop) : Prop :=
  (¬ (I 72 23) = 10 → (wj_X11_readTie_19 I J Post)) ∧ ((I 72 23) = 10 → (w_X11_fail 6 (I 72 15) I J (fun (I_44 : HI) => (wj_X11_readTie_19 I_44 J Post))))
set_option maxHeartbeats 4000000 in
set_option maxRecDepth 20000 in
theorem we_X11_readTie (g : kf_G) (hg : kf_g g) {x : kf_X} (hx : kf_ok g x RX11 cX11_readTie 7 4 87)  (I : HI) (J : HJ) (Post : HI → HJ → Prop) (hret : ∀ (pc : Nat) (lv : List (Nat × Value)) (Iy : HI) (Jy : HJ), decode cX11_readTie pc = .ok (.return_, 1) → Post Iy Jy → kf_M g x 7 pc lv [] Iy Jy) (h : w_X11_readTie  I J Post) : kf_M g x 7 0 [(0, .ref (g.2.2.2 72))] [] I J := by
  unfold w_X11_readTie at h
  refine kf_aload_n hx dX11_readTie_0 rfl 0 rfl ?_
  refine kf_getI hx sl_72_23 fl_RX11_251 dX11_readTie_1 ?_
  refine kf_bipush (v := 10) hx dX11_readTie_4 (by decide) ?_
  refine kf_icmp_ne hx 19 dX11_readTie_6 (by decide) (fun c => ?_) (fun c => ?_)
  · replace h := h.1 c
    exact wk_X11_readTie_19 g hg hx I J  _ hret h
  · replace h := h.2 c
    refine kf_aload_n hx dX11_readTie_9 rfl 0 rfl ?_
    refine kf_bipush (v := 6) hx dX11_readTie_10 (by decide) ?_
    refine kf_aload_n hx dX11_readTie_12 rfl 0 rfl ?_
    refine kf_getI hx sl_72_15 fl_RX11_145 dX11_readTie_13 ?_
    refine kf_callVvI (st := []) hx (m_X11_fail g hg 6 (I 72 15) I J _ h) lk_RX11_218 km_X11_fail ob_72 rfl (by decide) rfl (Nat.le_of_ble_eq_true rfl) dX11_readTie_16 (fun I_44 h => ?_)
    exact wk_X11_readTie_19 g hg hx I_44 J  _ hret h
set_option maxHeartbeats 4000000 in
set_option maxRecDepth 20000 in
theorem m_X11_readTie (g : kf_G) (hg : kf_g g)  (I : HI) (J : HJ) (Post : HI → HJ → Prop) (h : w_X11_readTie  I J Post) : kf_Mv g yX11_readTie (kf_W yX11_readTie cX11_readTie 7 (Option.none : Option Jvm.ClassFile.FieldType)) 4 87 [.ref (g.2.2.2 72)] I J Post :=
  kf_entv hg (by decide) (Nat.le_of_ble_eq_true rfl) rfl (fun x hx hr => we_X11_readTie g hg hx  I J Post (fun pc lv I' J' hd hP => hr pc lv I' J' hd hP) h)
theorem dX11_readValley_0 : decode cX11_readValley 0 = .ok (.aload_n 0, 1) := by decide +kernel
theorem dX11_readValley_1 : decode cX11_readValley 1 = .ok (.invokevirtual 222, 3) := by decide +kernel
theorem dX11_readValley_4 : decode cX11_readValley 4 = .ok (.aload_n 0, 1) := by decide +kernel
theorem dX11_readValley_5 : decode cX11_readValley 5 = .ok (.iconst 0, 1) := by decide +kernel
theorem dX11_readValley_6 : decode cX11_readValley 6 = .ok (.iconst 3, 1) := by decide +kernel
theorem dX11_readValley_7 : decode cX11_readValley 7 = .ok (.invokevirtual 232, 3) := by decide +kernel
theorem dX11_readValley_10 : decode cX11_readValley 10 = .ok (.istore_n 1, 1) := by decide +kernel
theorem dX11_readValley_11 : decode cX11_readValley 11 = .ok (.aload_n 0, 1) := by decide +kernel
theorem dX11_readValley_12 : decode cX11_readValley 12 = .ok (.getfield 212, 3) := by decide +kernel
theorem dX11_readValley_15 : decode cX11_readValley 15 = .ok (.ifCond .ne 21, 3) := by decide +kernel
theorem dX11_readValley_18 : decode cX11_readValley 18 = .ok (.aload_n 0, 1) := by decide +kernel
theorem dX11_readValley_19 : decode cX11_readValley 19 = .ok (.getfield 74, 3) := by decide +kernel
theorem dX11_readValley_22 : decode cX11_readValley 22 = .ok (.iload_n 1, 1) := by decide +kernel
theorem dX11_readValley_23 : decode cX11_readValley 23 = .ok (.baload, 1) := by decide +kernel
theorem dX11_readValley_24 : decode cX11_readValley 24 = .ok (.ifCond .eq 12, 3) := by decide +kernel
theorem dX11_readValley_27 : decode cX11_readValley 27 = .ok (.aload_n 0, 1) := by decide +kernel
theorem dX11_readValley_28 : decode cX11_readValley 28 = .ok (.iconst 5, 1) := by decide +kernel
theorem dX11_readValley_29 : decode cX11_readValley 29 = .ok (.aload_n 0, 1) := by decide +kernel
theorem dX11_readValley_30 : decode cX11_readValley 30 = .ok (.getfield 145, 3) := by decide +kernel
theorem dX11_readValley_33 : decode cX11_readValley 33 = .ok (.invokevirtual 218, 3) := by decide +kernel
theorem dX11_readValley_36 : decode cX11_readValley 36 = .ok (.aload_n 0, 1) := by decide +kernel
theorem dX11_readValley_37 : decode cX11_readValley 37 = .ok (.getfield 212, 3) := by decide +kernel
theorem dX11_readValley_40 : decode cX11_readValley 40 = .ok (.ifCond .ne 7, 3) := by decide +kernel
theorem dX11_readValley_43 : decode cX11_readValley 43 = .ok (.aload_n 0, 1) := by decide +kernel
theorem dX11_readValley_44 : decode cX11_readValley 44 = .ok (.invokevirtual 222, 3) := by decide +kernel
theorem dX11_readValley_47 : decode cX11_readValley 47 = .ok (.aload_n 0, 1) := by decide +kernel
theorem dX11_readValley_48 : decode cX11_readValley 48 = .ok (.aload_n 0, 1) := by decide +kernel
theorem dX11_readValley_49 : decode cX11_readValley 49 = .ok (.invokevirtual 203, 3) := by decide +kernel
theorem dX11_readValley_52 : decode cX11_readValley 52 = .ok (.invokevirtual 247, 3) := by decide +kernel
theorem dX11_readValley_55 : decode cX11_readValley 55 = .ok (.aload_n 0, 1) := by decide +kernel
theorem dX11_readValley_56 : decode cX11_readValley 56 = .ok (.iconst 0, 1) := by decide +kernel
theorem dX11_readValley_57 : decode cX11_readValley 57 = .ok (.bipush 12, 2) := by decide +kernel
theorem dX11_readValley_59 : decode cX11_readValley 59 = .ok (.invokevirtual 244, 3) := by decide +kernel
theorem dX11_readValley_62 : decode cX11_readValley 62 = .ok (.istore_n 2, 1) := by decide +kernel
theorem dX11_readValley_63 : decode cX11_readValley 63 = .ok (.aload_n 0, 1) := by decide +kernel
theorem dX11_readValley_64 : decode cX11_readValley 64 = .ok (.aload_n 0, 1) := by decide +kernel
theorem dX11_readValley_65 : decode cX11_readValley 65 = .ok (.getfield 151, 3) := by decide +kernel
theorem dX11_readValley_68 : decode cX11_readValley 68 = .ok (.iconst 3, 1) := by decide +kernel
theorem dX11_readValley_69 : decode cX11_readValley 69 = .ok (.if_icmp .ne 7, 3) := by decide +kernel
theorem dX11_readValley_72 : decode cX11_readValley 72 = .ok (.iconst 1, 1) := by decide +kernel
theorem dX11_readValley_73 : decode cX11_readValley 73 = .ok (.goto 4, 3) := by decide +kernel
theorem dX11_readValley_76 : decode cX11_readValley 76 = .ok (.iconst 0, 1) := by decide +kernel
theorem dX11_readValley_77 : decode cX11_readValley 77 = .ok (.invokevirtual 247, 3) := by decide +kernel
theorem dX11_readValley_80 : decode cX11_readValley 80 = .ok (.aload_n 0, 1) := by decide +kernel
theorem dX11_readValley_81 : decode cX11_readValley 81 = .ok (.getfield 212, 3) := by decide +kernel
theorem dX11_readValley_84 : decode cX11_readValley 84 = .ok (.ifCond .le 4, 3) := by decide +kernel
theorem dX11_readValley_87 : decode cX11_readValley 87 = .ok (.return_, 1) := by decide +kernel
theorem dX11_readValley_88 : decode cX11_readValley 88 = .ok (.aload_n 0, 1) := by decide +kernel
theorem dX11_readValley_89 : decode cX11_readValley 89 = .ok (.getfield 74, 3) := by decide +kernel
theorem dX11_readValley_92 : decode cX11_readValley 92 = .ok (.iload_n 1, 1) := by decide +kernel
theorem dX11_readValley_93 : decode cX11_readValley 93 = .ok (.iconst 1, 1) := by decide +kernel
theorem dX11_readValley_94 : decode cX11_readValley 94 = .ok (.bastore, 1) := by decide +kernel
theorem dX11_readValley_95 : decode cX11_readValley 95 = .ok (.aload_n 0, 1) := by decide +kernel
theorem dX11_readValley_96 : decode cX11_readValley 96 = .ok (.getfield 68, 3) := by decide +kernel
theorem dX11_readValley_99 : decode cX11_readValley 99 = .ok (.iload_n 1, 1) := by decide +kernel
theorem dX11_readValley_100 : decode cX11_readValley 100 = .ok (.iload_n 2, 1) := by decide +kernel
theorem dX11_readValley_101 : decode cX11_readValley 101 = .ok (.iastore, 1) := by decide +kernel
theorem dX11_readValley_102 : decode cX11_readValley 102 = .ok (.return_, 1) := by decide +kernel
def wj_X11_readValley_77 (I : HI) (J : HJ) (x1 : Int32) (x2 : Int32) (t0 : Int32) (Post : HI → HJ → Prop) : Prop :=
  w_X11_must t0 I J (fun (I_11 : HI) (J_12 : HJ) => (((I_11 72 12) ≤ 0 → (vp_in x1 4 ∧ (∀ I_13 : HI, I_13 = hI I_11 90 (Int32.toNatClampNeg x1) (vp_nar .boolean 1) → (vp_in x1 4 ∧ (∀ I_14 : HI, I_14 = hI I_13 88 (Int32.toNatClampNeg x1) x2 → (Post I_14 J_12)))))) ∧ (¬ (I_11 72 12) ≤ 0 → (Post I_11 J_12))))
set_option maxHeartbeats 4000000 in
set_option maxRecDepth 20000 in
theorem wk_X11_readValley_77 (g : kf_G) (hg : kf_g g) {x : kf_X} (hx : kf_ok g x RX11 cX11_readValley 3 4 87) (I : HI) (J : HJ) (x1 : Int32) (x2 : Int32) (t0 : Int32) (Post : HI → HJ → Prop) (hret : ∀ (pc : Nat) (lv : List (Nat × Value)) (Iy : HI) (Jy : HJ), decode cX11_readValley pc = .ok (.return_, 1) → Post Iy Jy → kf_M g x 3 pc lv [] Iy Jy) (h : wj_X11_readValley_77 I J x1 x2 t0 Post) : kf_M g x 3 77 [(0, .ref (g.2.2.2 72)), (1, .int x1), (2, .int x2)] [.int t0, .ref (g.2.2.2 72)] I J := by
  unfold wj_X11_readValley_77 at h
  refine kf_callVv (st := []) hx (m_X11_must g hg t0 I J _ h) lk_RX11_247 km_X11_must ob_72 rfl (by decide) rfl (Nat.le_of_ble_eq_true rfl) dX11_readValley_77 (fun I_11 J_12 h => ?_)
  refine kf_aload_n hx dX11_readValley_80 rfl 0 rfl ?_
  refine kf_getI hx sl_72_12 fl_RX11_212 dX11_readValley_81 ?_
  refine kf_if_le hx 88 dX11_readValley_84 (by decide) (fun c => ?_) (fun c => ?_)
  · replace h := h.1 c
    refine kf_aload_n hx dX11_readValley_88 rfl 0 rfl ?_
    refine kf_getR (n := 90) hx sl_72_37 fl_RX11_74 dX11_readValley_89 ?_
    refine kf_iload_n hx dX11_readValley_92 rfl 1 rfl ?_
    refine kf_iconst (v := 1) hx dX11_readValley_93 (by decide) ?_
    refine kf_zast hx ar_90 h.1 dX11_readValley_94 ?_
    replace h := h.2
    refine kf_nmI (fun I_13 eI_13 => ?_)
    replace h := h I_13 eI_13
    refine kf_aload_n hx dX11_readValley_95 rfl 0 rfl ?_
    refine kf_getR (n := 88) hx sl_72_35 fl_RX11_68 dX11_readValley_96 ?_
    refine kf_iload_n hx dX11_readValley_99 rfl 1 rfl ?_
    refine kf_iload_n hx dX11_readValley_100 rfl 2 rfl ?_
    refine kf_iast hx ar_88 h.1 dX11_readValley_101 ?_
    replace h := h.2
    refine kf_nmI (fun I_14 eI_14 => ?_)
    replace h := h I_14 eI_14
    exact hret _ _ _ _ dX11_readValley_102 h
  · replace h := h.2 c
    exact hret _ _ _ _ dX11_readValley_87 h
def wj_X11_readValley_47 (I : HI) (J : HJ) (x1 : Int32) (Post : HI → HJ → Prop) : Prop :=
  w_X11_isMost  I J (fun (r_5 : Bool) => (w_X11_must (kb r_5) I J (fun (I_6 : HI) (J_7 : HJ) => (w_X11_count 0 12 I_6 J_7 (fun (r_8 : Int32) (I_9 : HI) (J_10 : HJ) => ((¬ (I_9 72 14) = 3 → (wj_X11_readValley_77 I_9 J_10 x1 r_8 0 Post)) ∧ ((I_9 72 14) = 3 → (wj_X11_readValley_77 I_9 J_10 x1 r_8 1 Post))))))))
set_option maxHeartbeats 4000000 in
set_option maxRecDepth 20000 in
theorem wk_X11_readValley_47 (g : kf_G) (hg : kf_g g) {x : kf_X} (hx : kf_ok g x RX11 cX11_readValley 3 4 87) (I : HI) (J : HJ) (x1 : Int32) (Post : HI → HJ → Prop) (hret : ∀ (pc : Nat) (lv : List (Nat × Value)) (Iy : HI) (Jy : HJ), decode cX11_readValley pc = .ok (.return_, 1) → Post Iy Jy → kf_M g x 3 pc lv [] Iy Jy) (h : wj_X11_readValley_47 I J x1 Post) : kf_M g x 3 47 [(0, .ref (g.2.2.2 72)), (1, .int x1)] [] I J := by
  unfold wj_X11_readValley_47 at h
  refine kf_aload_n hx dX11_readValley_47 rfl 0 rfl ?_
  refine kf_aload_n hx dX11_readValley_48 rfl 0 rfl ?_
  refine kf_callVbP (st := [.ref (g.2.2.2 72)]) hx (m_X11_isMost g hg  I J _ h) lk_RX11_203 km_X11_isMost ob_72 rfl (by decide) rfl (Nat.le_of_ble_eq_true rfl) dX11_readValley_49 (fun r_5 h => ?_)
  refine kf_callVv (st := []) hx (m_X11_must g hg (kb r_5) I J _ h) lk_RX11_247 km_X11_must ob_72 rfl (by decide) rfl (Nat.le_of_ble_eq_true rfl) dX11_readValley_52 (fun I_6 J_7 h => ?_)
  refine kf_aload_n hx dX11_readValley_55 rfl 0 rfl ?_
  refine kf_iconst (v := 0) hx dX11_readValley_56 (by decide) ?_
  refine kf_bipush (v := 12) hx dX11_readValley_57 (by decide) ?_
  refine kf_callVi (st := []) hx (m_X11_count g hg 0 12 I_6 J_7 _ h) lk_RX11_244 km_X11_count ob_72 rfl (by decide) rfl (Nat.le_of_ble_eq_true rfl) dX11_readValley_59 (fun r_8 I_9 J_10 h => ?_)
  refine kf_istore_n (lv' := [(2, .int r_8), (0, .ref (g.2.2.2 72)), (1, .int x1)]) hx dX11_readValley_62 rfl (by decide) rfl ?_
  refine kf_aload_n hx dX11_readValley_63 rfl 1 rfl ?_
  refine kf_aload_n hx dX11_readValley_64 rfl 1 rfl ?_
  refine kf_getI hx sl_72_14 fl_RX11_151 dX11_readValley_65 ?_
  refine kf_iconst (v := 3) hx dX11_readValley_68 (by decide) ?_
  refine kf_icmp_ne hx 76 dX11_readValley_69 (by decide) (fun c => ?_) (fun c => ?_)
  · replace h := h.1 c
    refine kf_iconst (v := 0) hx dX11_readValley_76 (by decide) ?_
    refine kf_sub [1, 2, 0] rfl ?_
    exact wk_X11_readValley_77 g hg hx I_9 J_10 x1 r_8 0 _ hret h
  · replace h := h.2 c
    refine kf_iconst (v := 1) hx dX11_readValley_72 (by decide) ?_
    refine kf_goto hx 77 dX11_readValley_73 (by decide) ?_
    refine kf_sub [1, 2, 0] rfl ?_
    exact wk_X11_readValley_77 g hg hx I_9 J_10 x1 r_8 1 _ hret h
def wj_X11_readValley_36 (I : HI) (J : HJ) (x1 : Int32) (Post : HI → HJ → Prop) : Prop :=
  (¬ (I 72 12) = 0 → (wj_X11_readValley_47 I J x1 Post)) ∧ ((I 72 12) = 0 → (w_X11_next  I J (fun (I_15 : HI) (J_16 : HJ) => (wj_X11_readValley_47 I_15 J_16 x1 Post))))
set_option maxHeartbeats 4000000 in
set_option maxRecDepth 20000 in
theorem wk_X11_readValley_36 (g : kf_G) (hg : kf_g g) {x : kf_X} (hx : kf_ok g x RX11 cX11_readValley 3 4 87) (I : HI) (J : HJ) (x1 : Int32) (Post : HI → HJ → Prop) (hret : ∀ (pc : Nat) (lv : List (Nat × Value)) (Iy : HI) (Jy : HJ), decode cX11_readValley pc = .ok (.return_, 1) → Post Iy Jy → kf_M g x 3 pc lv [] Iy Jy) (h : wj_X11_readValley_36 I J x1 Post) : kf_M g x 3 36 [(0, .ref (g.2.2.2 72)), (1, .int x1)] [] I J := by
  unfold wj_X11_readValley_36 at h
  refine kf_aload_n hx dX11_readValley_36 rfl 0 rfl ?_
  refine kf_getI hx sl_72_12 fl_RX11_212 dX11_readValley_37 ?_
  refine kf_if_ne hx 47 dX11_readValley_40 (by decide) (fun c => ?_) (fun c => ?_)
  · replace h := h.1 c
    exact wk_X11_readValley_47 g hg hx I J x1 _ hret h
  · replace h := h.2 c
    refine kf_aload_n hx dX11_readValley_43 rfl 0 rfl ?_
    refine kf_callVv (st := []) hx (m_X11_next g hg  I J _ h) lk_RX11_222 km_X11_next ob_72 rfl (by decide) rfl (Nat.le_of_ble_eq_true rfl) dX11_readValley_44 (fun I_15 J_16 h => ?_)
    exact wk_X11_readValley_47 g hg hx I_15 J_16 x1 _ hret h
def w_X11_readValley  (I : HI) (J : HJ) (Post : HI → HJ → Prop) : Prop :=
  w_X11_next  I J (fun (I_1 : HI) (J_2 : HJ) => (w_X11_seen 0 3 I_1 J_2 (fun (r_3 : Int32) (I_4 : HI) => ((¬ (I_4 72 12) = 0 → (wj_X11_readValley_36 I_4 J_2 r_3 Post)) ∧ ((I_4 72 12) = 0 → (vp_in r_3 4 ∧ (((I_4 90 (Int32.toNatClampNeg r_3)) = 0 → (wj_X11_readValley_36 I_4 J_2 r_3 Post)) ∧ (¬ (I_4 90 (Int32.toNatClampNeg r_3)) = 0 → (w_X11_fail 5 (I_4 72 15) I_4 J_2 (fun (I_17 : HI) => (wj_X11_readValley_36 I_17 J_2 r_3 Post)))))))))))
set_option maxHeartbeats 4000000 in
set_option maxRecDepth 20000 in
theorem we_X11_readValley (g : kf_G) (hg : kf_g g) {x : kf_X} (hx : kf_ok g x RX11 cX11_readValley 3 4 87)  (I : HI) (J : HJ) (Post : HI → HJ → Prop) (hret : ∀ (pc : Nat) (lv : List (Nat × Value)) (Iy : HI) (Jy : HJ), decode cX11_readValley pc = .ok (.return_, 1) → Post Iy Jy → kf_M g x 3 pc lv [] Iy Jy) (h : w_X11_readValley  I J Post) : kf_M g x 3 0 [(0, .ref (g.2.2.2 72))] [] I J := by
  unfold w_X11_readValley at h
  refine kf_aload_n hx dX11_readValley_0 rfl 0 rfl ?_
  refine kf_callVv (st := []) hx (m_X11_next g hg  I J _ h) lk_RX11_222 km_X11_next ob_72 rfl (by decide) rfl (Nat.le_of_ble_eq_true rfl) dX11_readValley_1 (fun I_1 J_2 h => ?_)
  refine kf_aload_n hx dX11_readValley_4 rfl 0 rfl ?_
  refine kf_iconst (v := 0) hx dX11_readValley_5 (by decide) ?_
  refine kf_iconst (v := 3) hx dX11_readValley_6 (by decide) ?_
  refine kf_callViI (st := []) hx (m_X11_seen g hg 0 3 I_1 J_2 _ h) lk_RX11_232 km_X11_seen ob_72 rfl (by decide) rfl (Nat.le_of_ble_eq_true rfl) dX11_readValley_7 (fun r_3 I_4 h => ?_)
  refine kf_istore_n (lv' := [(1, .int r_3), (0, .ref (g.2.2.2 72))]) hx dX11_readValley_10 rfl (by decide) rfl ?_
  refine kf_aload_n hx dX11_readValley_11 rfl 1 rfl ?_
  refine kf_getI hx sl_72_12 fl_RX11_212 dX11_readValley_12 ?_
  refine kf_if_ne hx 36 dX11_readValley_15 (by decide) (fun c => ?_) (fun c => ?_)
  · replace h := h.1 c
    refine kf_sub [1, 0] rfl ?_
    exact wk_X11_readValley_36 g hg hx I_4 J_2 r_3 _ hret h
  · replace h := h.2 c
    refine kf_aload_n hx dX11_readValley_18 rfl 1 rfl ?_
    refine kf_getR (n := 90) hx sl_72_37 fl_RX11_74 dX11_readValley_19 ?_
    refine kf_iload_n hx dX11_readValley_22 rfl 0 rfl ?_
    refine kf_zald hx ar_90 h.1 dX11_readValley_23 ?_
    replace h := h.2
    refine kf_if_eq hx 36 dX11_readValley_24 (by decide) (fun c => ?_) (fun c => ?_)
    · replace h := h.1 c
      refine kf_sub [1, 0] rfl ?_
      exact wk_X11_readValley_36 g hg hx I_4 J_2 r_3 _ hret h
    · replace h := h.2 c
      refine kf_aload_n hx dX11_readValley_27 rfl 1 rfl ?_
      refine kf_iconst (v := 5) hx dX11_readValley_28 (by decide) ?_
      refine kf_aload_n hx dX11_readValley_29 rfl 1 rfl ?_
      refine kf_getI hx sl_72_15 fl_RX11_145 dX11_readValley_30 ?_
      refine kf_callVvI (st := []) hx (m_X11_fail g hg 5 (I_4 72 15) I_4 J_2 _ h) lk_RX11_218 km_X11_fail ob_72 rfl (by decide) rfl (Nat.le_of_ble_eq_true rfl) dX11_readValley_33 (fun I_17 h => ?_)
      refine kf_sub [1, 0] rfl ?_
      exact wk_X11_readValley_36 g hg hx I_17 J_2 r_3 _ hret h
set_option maxHeartbeats 4000000 in
set_option maxRecDepth 20000 in
theorem m_X11_readValley (g : kf_G) (hg : kf_g g)  (I : HI) (J : HJ) (Post : HI → HJ → Prop) (h : w_X11_readValley  I J Post) : kf_Mv g yX11_readValley (kf_W yX11_readValley cX11_readValley 3 (Option.none : Option Jvm.ClassFile.FieldType)) 4 87 [.ref (g.2.2.2 72)] I J Post :=
  kf_entv hg (by decide) (Nat.le_of_ble_eq_true rfl) rfl (fun x hx hr => we_X11_readValley g hg hx  I J Post (fun pc lv I' J' hd hP => hr pc lv I' J' hd hP) h)
theorem dX11_lay_0 : decode cX11_lay 0 = .ok (.iconst 3, 1) := by decide +kernel
theorem dX11_lay_1 : decode cX11_lay 1 = .ok (.istore_n 2, 1) := by decide +kernel
theorem dX11_lay_2 : decode cX11_lay 2 = .ok (.iload_n 2, 1) := by decide +kernel
theorem dX11_lay_3 : decode cX11_lay 3 = .ok (.ifCond .lt 35, 3) := by decide +kernel
theorem dX11_lay_6 : decode cX11_lay 6 = .ok (.aload_n 0, 1) := by decide +kernel
theorem dX11_lay_7 : decode cX11_lay 7 = .ok (.getfield 24, 3) := by decide +kernel
theorem dX11_lay_10 : decode cX11_lay 10 = .ok (.aload_n 0, 1) := by decide +kernel
theorem dX11_lay_11 : decode cX11_lay 11 = .ok (.getfield 265, 3) := by decide +kernel
theorem dX11_lay_14 : decode cX11_lay 14 = .ok (.iload_n 1, 1) := by decide +kernel
theorem dX11_lay_15 : decode cX11_lay 15 = .ok (.bipush 8, 2) := by decide +kernel
theorem dX11_lay_17 : decode cX11_lay 17 = .ok (.iload_n 2, 1) := by decide +kernel
theorem dX11_lay_18 : decode cX11_lay 18 = .ok (.imul, 1) := by decide +kernel
theorem dX11_lay_19 : decode cX11_lay 19 = .ok (.ishr, 1) := by decide +kernel
theorem dX11_lay_20 : decode cX11_lay 20 = .ok (.i2b, 1) := by decide +kernel
theorem dX11_lay_21 : decode cX11_lay 21 = .ok (.bastore, 1) := by decide +kernel
theorem dX11_lay_22 : decode cX11_lay 22 = .ok (.aload_n 0, 1) := by decide +kernel
theorem dX11_lay_23 : decode cX11_lay 23 = .ok (.dup, 1) := by decide +kernel
theorem dX11_lay_24 : decode cX11_lay 24 = .ok (.getfield 265, 3) := by decide +kernel
theorem dX11_lay_27 : decode cX11_lay 27 = .ok (.iconst 1, 1) := by decide +kernel
theorem dX11_lay_28 : decode cX11_lay 28 = .ok (.iadd, 1) := by decide +kernel
theorem dX11_lay_29 : decode cX11_lay 29 = .ok (.putfield 265, 3) := by decide +kernel
theorem dX11_lay_32 : decode cX11_lay 32 = .ok (.iinc 2 (-1), 3) := by decide +kernel
theorem dX11_lay_35 : decode cX11_lay 35 = .ok (.goto (-33), 3) := by decide +kernel
theorem dX11_lay_38 : decode cX11_lay 38 = .ok (.return_, 1) := by decide +kernel
def wb_X11_lay_2 (J : HJ) (x1 : Int32) (Post : HI → Prop) (E2 : HI → Prop) (K2 : (Int32 × HI) → Prop) (s : Int32 × HI) : Prop :=
  match s with
  | (x2, I) => (x2 < 0 → (E2 I)) ∧ (¬ x2 < 0 → (vp_in (I 72 8) 600 ∧ (∀ I_1 : HI, I_1 = hI I 76 (Int32.toNatClampNeg (I 72 8)) (vp_nar .byte (Int8.toInt32 (Int32.toInt8 (x1 >>> ((8 * x2) &&& 31))))) → (∀ I_2 : HI, I_2 = hI I_1 72 8 ((I_1 72 8) + 1) → (K2 ((x2 + (-1)), I_2))))))
set_option maxHeartbeats 4000000 in
set_option maxRecDepth 20000 in
theorem ws_X11_lay_2 (g : kf_G) (hg : kf_g g) {x : kf_X} (hx : kf_ok g x RX11 cX11_lay 3 0 0) (J : HJ) (x1 : Int32) (Post : HI → Prop) (hret : ∀ (pc : Nat) (lv : List (Nat × Value)) (Iy : HI), decode cX11_lay pc = .ok (.return_, 1) → Post Iy → kf_M g x 3 pc lv [] Iy J) (E2 : HI → Prop) (hE2 : ∀ (Iy : HI), E2 Iy → kf_M g x 3 38 [] [] Iy J) (K2 : (Int32 × HI) → Prop) (hK2 : ∀ (y2 : Int32) (Iy : HI), K2 (y2, Iy) → kf_M g x 3 2 [(0, .ref (g.2.2.2 72)), (1, .int x1), (2, .int y2)] [] Iy J) (x2 : Int32) (I : HI) (h : wb_X11_lay_2 J x1 Post E2 K2 (x2, I)) : kf_M g x 3 2 [(0, .ref (g.2.2.2 72)), (1, .int x1), (2, .int x2)] [] I J := by
  unfold wb_X11_lay_2 at h
  refine kf_iload_n hx dX11_lay_2 rfl 2 rfl ?_
  refine kf_if_lt hx 38 dX11_lay_3 (by decide) (fun c => ?_) (fun c => ?_)
  · replace h := h.1 c
    refine kf_sub [] rfl ?_
    exact hE2 _ h
  · replace h := h.2 c
    refine kf_aload_n hx dX11_lay_6 rfl 0 rfl ?_
    refine kf_getR (n := 76) hx sl_72_7 fl_RX11_24 dX11_lay_7 ?_
    refine kf_aload_n hx dX11_lay_10 rfl 0 rfl ?_
    refine kf_getI hx sl_72_8 fl_RX11_265 dX11_lay_11 ?_
    refine kf_iload_n hx dX11_lay_14 rfl 1 rfl ?_
    refine kf_bipush (v := 8) hx dX11_lay_15 (by decide) ?_
    refine kf_iload_n hx dX11_lay_17 rfl 2 rfl ?_
    refine kf_imul hx dX11_lay_18 ?_
    refine kf_ishr hx dX11_lay_19 ?_
    refine kf_i2b hx dX11_lay_20 ?_
    refine kf_bast hx ar_76 h.1 dX11_lay_21 ?_
    replace h := h.2
    refine kf_nmI (fun I_1 eI_1 => ?_)
    replace h := h I_1 eI_1
    refine kf_aload_n hx dX11_lay_22 rfl 0 rfl ?_
    refine kf_dup hx dX11_lay_23 rfl ?_
    refine kf_getI hx sl_72_8 fl_RX11_265 dX11_lay_24 ?_
    refine kf_iconst (v := 1) hx dX11_lay_27 (by decide) ?_
    refine kf_iadd hx dX11_lay_28 ?_
    refine kf_putI hx sl_72_8 fl_RX11_265 fp_11_8 dX11_lay_29 ?_
    refine kf_nmI (fun I_2 eI_2 => ?_)
    replace h := h I_2 eI_2
    refine kf_iinc (w := (x2 + (-1))) (lv' := [(2, .int (x2 + (-1))), (0, .ref (g.2.2.2 72)), (1, .int x1)]) hx dX11_lay_32 2 rfl rfl (by decide) rfl ?_
    refine kf_goto hx 2 dX11_lay_35 (by decide) ?_
    refine kf_sub [1, 2, 0] rfl ?_
    exact hK2 _ _ h
theorem wl_X11_lay_2 (g : kf_G) (hg : kf_g g) {x : kf_X} (hx : kf_ok g x RX11 cX11_lay 3 0 0) (J : HJ) (x1 : Int32) (Post : HI → Prop) (hret : ∀ (pc : Nat) (lv : List (Nat × Value)) (Iy : HI), decode cX11_lay pc = .ok (.return_, 1) → Post Iy → kf_M g x 3 pc lv [] Iy J) (E2 : HI → Prop) (hE2 : ∀ (Iy : HI), E2 Iy → kf_M g x 3 38 [] [] Iy J) : ∀ (n : Nat) (x2 : Int32) (I : HI), lp (wb_X11_lay_2 J x1 Post E2) n (x2, I) → kf_M g x 3 2 [(0, .ref (g.2.2.2 72)), (1, .int x1), (2, .int x2)] [] I J := by
  intro n
  induction n with
  | zero => intro x2 I h; exact h.elim
  | succ n ih => intro x2 I h; exact ws_X11_lay_2 g hg hx J x1 Post hret E2 hE2 (lp (wb_X11_lay_2 J x1 Post E2) n) ih x2 I h
def w_X11_lay (x1 : Int32) (I : HI) (J : HJ) (Post : HI → Prop) : Prop :=
  ∃ n, lp (wb_X11_lay_2 J x1 Post (fun (I_3 : HI) => Post I_3)) n (3, I)
set_option maxHeartbeats 4000000 in
set_option maxRecDepth 20000 in
theorem we_X11_lay (g : kf_G) (hg : kf_g g) {x : kf_X} (hx : kf_ok g x RX11 cX11_lay 3 0 0) (x1 : Int32) (I : HI) (J : HJ) (Post : HI → Prop) (hret : ∀ (pc : Nat) (lv : List (Nat × Value)) (Iy : HI), decode cX11_lay pc = .ok (.return_, 1) → Post Iy → kf_M g x 3 pc lv [] Iy J) (h : w_X11_lay x1 I J Post) : kf_M g x 3 0 [(0, .ref (g.2.2.2 72)), (1, .int x1)] [] I J := by
  unfold w_X11_lay at h
  refine kf_iconst (v := 3) hx dX11_lay_0 (by decide) ?_
  refine kf_istore_n (lv' := [(2, .int 3), (0, .ref (g.2.2.2 72)), (1, .int x1)]) hx dX11_lay_1 rfl (by decide) rfl ?_
  obtain ⟨n, h⟩ := h
  refine kf_sub [1, 2, 0] rfl ?_
  refine wl_X11_lay_2 g hg hx J x1 _ hret _ (fun I_3 h => ?_) n _ _ h
  exact hret _ _ _ dX11_lay_38 h
set_option maxHeartbeats 4000000 in
set_option maxRecDepth 20000 in
theorem m_X11_lay (g : kf_G) (hg : kf_g g) (x1 : Int32) (I : HI) (J : HJ) (Post : HI → Prop) (h : w_X11_lay x1 I J Post) : kf_Mv g yX11_lay (kf_W yX11_lay cX11_lay 3 (Option.none : Option Jvm.ClassFile.FieldType)) 0 0 [.ref (g.2.2.2 72), .int x1] I J (fun I' J' => Post I' ∧ J' = J) :=
  kf_entv hg (by decide) (Nat.le_of_ble_eq_true rfl) rfl (fun x hx hr => we_X11_lay g hg hx x1 I J Post (fun pc lv I' hd hP => hr pc lv I' J hd ⟨hP, rfl⟩) h)
theorem dX11_feed_0 : decode cX11_feed 0 = .ok (.aload_n 0, 1) := by decide +kernel
theorem dX11_feed_1 : decode cX11_feed 1 = .ok (.iconst 0, 1) := by decide +kernel
theorem dX11_feed_2 : decode cX11_feed 2 = .ok (.putfield 106, 3) := by decide +kernel
theorem dX11_feed_5 : decode cX11_feed 5 = .ok (.aload_n 0, 1) := by decide +kernel
theorem dX11_feed_6 : decode cX11_feed 6 = .ok (.getfield 265, 3) := by decide +kernel
theorem dX11_feed_9 : decode cX11_feed 9 = .ok (.bipush 20, 2) := by decide +kernel
theorem dX11_feed_11 : decode cX11_feed 11 = .ok (.iadd, 1) := by decide +kernel
theorem dX11_feed_12 : decode cX11_feed 12 = .ok (.sipush 600, 3) := by decide +kernel
theorem dX11_feed_15 : decode cX11_feed 15 = .ok (.if_icmp .le 5, 3) := by decide +kernel
theorem dX11_feed_18 : decode cX11_feed 18 = .ok (.iconst (-1), 1) := by decide +kernel
theorem dX11_feed_19 : decode cX11_feed 19 = .ok (.ireturn, 1) := by decide +kernel
theorem dX11_feed_20 : decode cX11_feed 20 = .ok (.aload_n 0, 1) := by decide +kernel
theorem dX11_feed_21 : decode cX11_feed 21 = .ok (.iload_n 1, 1) := by decide +kernel
theorem dX11_feed_22 : decode cX11_feed 22 = .ok (.invokevirtual 268, 3) := by decide +kernel
theorem dX11_feed_25 : decode cX11_feed 25 = .ok (.aload_n 0, 1) := by decide +kernel
theorem dX11_feed_26 : decode cX11_feed 26 = .ok (.iload_n 2, 1) := by decide +kernel
theorem dX11_feed_27 : decode cX11_feed 27 = .ok (.invokevirtual 268, 3) := by decide +kernel
theorem dX11_feed_30 : decode cX11_feed 30 = .ok (.aload_n 0, 1) := by decide +kernel
theorem dX11_feed_31 : decode cX11_feed 31 = .ok (.iload_n 3, 1) := by decide +kernel
theorem dX11_feed_32 : decode cX11_feed 32 = .ok (.invokevirtual 268, 3) := by decide +kernel
theorem dX11_feed_35 : decode cX11_feed 35 = .ok (.aload_n 0, 1) := by decide +kernel
theorem dX11_feed_36 : decode cX11_feed 36 = .ok (.iload 4, 2) := by decide +kernel
theorem dX11_feed_38 : decode cX11_feed 38 = .ok (.invokevirtual 268, 3) := by decide +kernel
theorem dX11_feed_41 : decode cX11_feed 41 = .ok (.aload_n 0, 1) := by decide +kernel
theorem dX11_feed_42 : decode cX11_feed 42 = .ok (.iload 5, 2) := by decide +kernel
theorem dX11_feed_44 : decode cX11_feed 44 = .ok (.invokevirtual 268, 3) := by decide +kernel
theorem dX11_feed_47 : decode cX11_feed 47 = .ok (.aload_n 0, 1) := by decide +kernel
theorem dX11_feed_48 : decode cX11_feed 48 = .ok (.getfield 265, 3) := by decide +kernel
theorem dX11_feed_51 : decode cX11_feed 51 = .ok (.ireturn, 1) := by decide +kernel
def w_X11_feed (x1 : Int32) (x2 : Int32) (x3 : Int32) (x4 : Int32) (x5 : Int32) (I : HI) (J : HJ) (Post : Int32 → HI → Prop) : Prop :=
  ∀ I_1 : HI, I_1 = hI I 72 1 0 → ((((I_1 72 8) + 20) ≤ 600 → (w_X11_lay x1 I_1 J (fun (I_2 : HI) => (w_X11_lay x2 I_2 J (fun (I_3 : HI) => (w_X11_lay x3 I_3 J (fun (I_4 : HI) => (w_X11_lay x4 I_4 J (fun (I_5 : HI) => (w_X11_lay x5 I_5 J (fun (I_6 : HI) => (Post (I_6 72 8) I_6)))))))))))) ∧ (¬ ((I_1 72 8) + 20) ≤ 600 → (Post (-1) I_1)))
set_option maxHeartbeats 4000000 in
set_option maxRecDepth 20000 in
theorem we_X11_feed (g : kf_G) (hg : kf_g g) {x : kf_X} (hx : kf_ok g x RX11 cX11_feed 6 1 22) (x1 : Int32) (x2 : Int32) (x3 : Int32) (x4 : Int32) (x5 : Int32) (I : HI) (J : HJ) (Post : Int32 → HI → Prop) (hret : ∀ (pc : Nat) (lv : List (Nat × Value)) (v : Int32) (Iy : HI), decode cX11_feed pc = .ok (.ireturn, 1) → Post v Iy → kf_M g x 6 pc lv [.int v] Iy J) (h : w_X11_feed x1 x2 x3 x4 x5 I J Post) : kf_M g x 6 0 [(0, .ref (g.2.2.2 72)), (1, .int x1), (2, .int x2), (3, .int x3), (4, .int x4), (5, .int x5)] [] I J := by
  unfold w_X11_feed at h
  refine kf_aload_n hx dX11_feed_0 rfl 0 rfl ?_
  refine kf_iconst (v := 0) hx dX11_feed_1 (by decide) ?_
  refine kf_putI hx sl_72_1 fl_RX11_106 fp_11_1 dX11_feed_2 ?_
  refine kf_nmI (fun I_1 eI_1 => ?_)
  replace h := h I_1 eI_1
  refine kf_aload_n hx dX11_feed_5 rfl 0 rfl ?_
  refine kf_getI hx sl_72_8 fl_RX11_265 dX11_feed_6 ?_
  refine kf_bipush (v := 20) hx dX11_feed_9 (by decide) ?_
  refine kf_iadd hx dX11_feed_11 ?_
  refine kf_sipush (v := 600) hx dX11_feed_12 (by decide) ?_
  refine kf_icmp_le hx 20 dX11_feed_15 (by decide) (fun c => ?_) (fun c => ?_)
  · replace h := h.1 c
    refine kf_aload_n hx dX11_feed_20 rfl 0 rfl ?_
    refine kf_iload_n hx dX11_feed_21 rfl 1 rfl ?_
    refine kf_callVvI (st := []) hx (m_X11_lay g hg x1 I_1 J _ h) lk_RX11_268 km_X11_lay ob_72 rfl (by decide) rfl (Nat.le_of_ble_eq_true rfl) dX11_feed_22 (fun I_2 h => ?_)
    refine kf_aload_n hx dX11_feed_25 rfl 0 rfl ?_
    refine kf_iload_n hx dX11_feed_26 rfl 2 rfl ?_
    refine kf_callVvI (st := []) hx (m_X11_lay g hg x2 I_2 J _ h) lk_RX11_268 km_X11_lay ob_72 rfl (by decide) rfl (Nat.le_of_ble_eq_true rfl) dX11_feed_27 (fun I_3 h => ?_)
    refine kf_aload_n hx dX11_feed_30 rfl 0 rfl ?_
    refine kf_iload_n hx dX11_feed_31 rfl 3 rfl ?_
    refine kf_callVvI (st := []) hx (m_X11_lay g hg x3 I_3 J _ h) lk_RX11_268 km_X11_lay ob_72 rfl (by decide) rfl (Nat.le_of_ble_eq_true rfl) dX11_feed_32 (fun I_4 h => ?_)
    refine kf_aload_n hx dX11_feed_35 rfl 0 rfl ?_
    refine kf_iload hx dX11_feed_36 4 rfl ?_
    refine kf_callVvI (st := []) hx (m_X11_lay g hg x4 I_4 J _ h) lk_RX11_268 km_X11_lay ob_72 rfl (by decide) rfl (Nat.le_of_ble_eq_true rfl) dX11_feed_38 (fun I_5 h => ?_)
    refine kf_aload_n hx dX11_feed_41 rfl 0 rfl ?_
    refine kf_iload hx dX11_feed_42 5 rfl ?_
    refine kf_callVvI (st := []) hx (m_X11_lay g hg x5 I_5 J _ h) lk_RX11_268 km_X11_lay ob_72 rfl (by decide) rfl (Nat.le_of_ble_eq_true rfl) dX11_feed_44 (fun I_6 h => ?_)
    refine kf_aload_n hx dX11_feed_47 rfl 0 rfl ?_
    refine kf_getI hx sl_72_8 fl_RX11_265 dX11_feed_48 ?_
    exact hret _ _ (I_6 72 8) _ dX11_feed_51 h
  · replace h := h.2 c
    refine kf_iconst (v := (-1)) hx dX11_feed_18 (by decide) ?_
    exact hret _ _ (-1) _ dX11_feed_19 h
set_option maxHeartbeats 4000000 in
set_option maxRecDepth 20000 in
theorem m_X11_feed (g : kf_G) (hg : kf_g g) (x1 : Int32) (x2 : Int32) (x3 : Int32) (x4 : Int32) (x5 : Int32) (I : HI) (J : HJ) (Post : Int32 → HI → Prop) (h : w_X11_feed x1 x2 x3 x4 x5 I J Post) : kf_Mi g yX11_feed (kf_W yX11_feed cX11_feed 6 (Option.some Jvm.ClassFile.FieldType.int)) 1 22 [.ref (g.2.2.2 72), .int x1, .int x2, .int x3, .int x4, .int x5] I J (fun v I' J' => Post v I' ∧ J' = J) :=
  kf_enti hg (by decide) (Nat.le_of_ble_eq_true rfl) rfl (fun x hx hr => we_X11_feed g hg hx x1 x2 x3 x4 x5 I J Post (fun pc lv v I' hd hP => hr pc lv v I' J hd ⟨hP, rfl⟩) h)
theorem dX11_taken_0 : decode cX11_taken 0 = .ok (.aload_n 0, 1) := by decide +kernel
theorem dX11_taken_1 : decode cX11_taken 1 = .ok (.aload_n 0, 1) := by decide +kernel
theorem dX11_taken_2 : decode cX11_taken 2 = .ok (.getfield 235, 3) := by decide +kernel
theorem dX11_taken_5 : decode cX11_taken 5 = .ok (.putfield 287, 3) := by decide +kernel
theorem dX11_taken_8 : decode cX11_taken 8 = .ok (.aload_n 0, 1) := by decide +kernel
theorem dX11_taken_9 : decode cX11_taken 9 = .ok (.aload_n 0, 1) := by decide +kernel
theorem dX11_taken_10 : decode cX11_taken 10 = .ok (.getfield 251, 3) := by decide +kernel
theorem dX11_taken_13 : decode cX11_taken 13 = .ok (.putfield 290, 3) := by decide +kernel
theorem dX11_taken_16 : decode cX11_taken 16 = .ok (.iconst 0, 1) := by decide +kernel
theorem dX11_taken_17 : decode cX11_taken 17 = .ok (.istore_n 1, 1) := by decide +kernel
theorem dX11_taken_18 : decode cX11_taken 18 = .ok (.iload_n 1, 1) := by decide +kernel
theorem dX11_taken_19 : decode cX11_taken 19 = .ok (.bipush 60, 2) := by decide +kernel
theorem dX11_taken_21 : decode cX11_taken 21 = .ok (.if_icmp .ge 21, 3) := by decide +kernel
theorem dX11_taken_24 : decode cX11_taken 24 = .ok (.aload_n 0, 1) := by decide +kernel
theorem dX11_taken_25 : decode cX11_taken 25 = .ok (.getfield 35, 3) := by decide +kernel
theorem dX11_taken_28 : decode cX11_taken 28 = .ok (.iload_n 1, 1) := by decide +kernel
theorem dX11_taken_29 : decode cX11_taken 29 = .ok (.aload_n 0, 1) := by decide +kernel
theorem dX11_taken_30 : decode cX11_taken 30 = .ok (.getfield 38, 3) := by decide +kernel
theorem dX11_taken_33 : decode cX11_taken 33 = .ok (.iload_n 1, 1) := by decide +kernel
theorem dX11_taken_34 : decode cX11_taken 34 = .ok (.iaload, 1) := by decide +kernel
theorem dX11_taken_35 : decode cX11_taken 35 = .ok (.iastore, 1) := by decide +kernel
theorem dX11_taken_36 : decode cX11_taken 36 = .ok (.iinc 1 1, 3) := by decide +kernel
theorem dX11_taken_39 : decode cX11_taken 39 = .ok (.goto (-21), 3) := by decide +kernel
theorem dX11_taken_42 : decode cX11_taken 42 = .ok (.iconst 0, 1) := by decide +kernel
theorem dX11_taken_43 : decode cX11_taken 43 = .ok (.istore_n 1, 1) := by decide +kernel
theorem dX11_taken_44 : decode cX11_taken 44 = .ok (.iload_n 1, 1) := by decide +kernel
theorem dX11_taken_45 : decode cX11_taken 45 = .ok (.aload_n 0, 1) := by decide +kernel
theorem dX11_taken_46 : decode cX11_taken 46 = .ok (.getfield 290, 3) := by decide +kernel
theorem dX11_taken_49 : decode cX11_taken 49 = .ok (.if_icmp .ge 57, 3) := by decide +kernel
theorem dX11_taken_52 : decode cX11_taken 52 = .ok (.aload_n 0, 1) := by decide +kernel
theorem dX11_taken_53 : decode cX11_taken 53 = .ok (.getfield 41, 3) := by decide +kernel
theorem dX11_taken_56 : decode cX11_taken 56 = .ok (.iload_n 1, 1) := by decide +kernel
theorem dX11_taken_57 : decode cX11_taken 57 = .ok (.aload_n 0, 1) := by decide +kernel
theorem dX11_taken_58 : decode cX11_taken 58 = .ok (.getfield 53, 3) := by decide +kernel
theorem dX11_taken_61 : decode cX11_taken 61 = .ok (.iload_n 1, 1) := by decide +kernel
theorem dX11_taken_62 : decode cX11_taken 62 = .ok (.iaload, 1) := by decide +kernel
theorem dX11_taken_63 : decode cX11_taken 63 = .ok (.iastore, 1) := by decide +kernel
theorem dX11_taken_64 : decode cX11_taken 64 = .ok (.aload_n 0, 1) := by decide +kernel
theorem dX11_taken_65 : decode cX11_taken 65 = .ok (.getfield 44, 3) := by decide +kernel
theorem dX11_taken_68 : decode cX11_taken 68 = .ok (.iload_n 1, 1) := by decide +kernel
theorem dX11_taken_69 : decode cX11_taken 69 = .ok (.aload_n 0, 1) := by decide +kernel
theorem dX11_taken_70 : decode cX11_taken 70 = .ok (.getfield 56, 3) := by decide +kernel
theorem dX11_taken_73 : decode cX11_taken 73 = .ok (.iload_n 1, 1) := by decide +kernel
theorem dX11_taken_74 : decode cX11_taken 74 = .ok (.iaload, 1) := by decide +kernel
theorem dX11_taken_75 : decode cX11_taken 75 = .ok (.iastore, 1) := by decide +kernel
theorem dX11_taken_76 : decode cX11_taken 76 = .ok (.aload_n 0, 1) := by decide +kernel
theorem dX11_taken_77 : decode cX11_taken 77 = .ok (.getfield 47, 3) := by decide +kernel
theorem dX11_taken_80 : decode cX11_taken 80 = .ok (.iload_n 1, 1) := by decide +kernel
theorem dX11_taken_81 : decode cX11_taken 81 = .ok (.aload_n 0, 1) := by decide +kernel
theorem dX11_taken_82 : decode cX11_taken 82 = .ok (.getfield 59, 3) := by decide +kernel
theorem dX11_taken_85 : decode cX11_taken 85 = .ok (.iload_n 1, 1) := by decide +kernel
theorem dX11_taken_86 : decode cX11_taken 86 = .ok (.iaload, 1) := by decide +kernel
theorem dX11_taken_87 : decode cX11_taken 87 = .ok (.iastore, 1) := by decide +kernel
theorem dX11_taken_88 : decode cX11_taken 88 = .ok (.aload_n 0, 1) := by decide +kernel
theorem dX11_taken_89 : decode cX11_taken 89 = .ok (.getfield 50, 3) := by decide +kernel
theorem dX11_taken_92 : decode cX11_taken 92 = .ok (.iload_n 1, 1) := by decide +kernel
theorem dX11_taken_93 : decode cX11_taken 93 = .ok (.aload_n 0, 1) := by decide +kernel
theorem dX11_taken_94 : decode cX11_taken 94 = .ok (.getfield 62, 3) := by decide +kernel
theorem dX11_taken_97 : decode cX11_taken 97 = .ok (.iload_n 1, 1) := by decide +kernel
theorem dX11_taken_98 : decode cX11_taken 98 = .ok (.iaload, 1) := by decide +kernel
theorem dX11_taken_99 : decode cX11_taken 99 = .ok (.iastore, 1) := by decide +kernel
theorem dX11_taken_100 : decode cX11_taken 100 = .ok (.iinc 1 1, 3) := by decide +kernel
theorem dX11_taken_103 : decode cX11_taken 103 = .ok (.goto (-59), 3) := by decide +kernel
theorem dX11_taken_106 : decode cX11_taken 106 = .ok (.iconst 0, 1) := by decide +kernel
theorem dX11_taken_107 : decode cX11_taken 107 = .ok (.istore_n 1, 1) := by decide +kernel
theorem dX11_taken_108 : decode cX11_taken 108 = .ok (.iload_n 1, 1) := by decide +kernel
theorem dX11_taken_109 : decode cX11_taken 109 = .ok (.iconst 4, 1) := by decide +kernel
theorem dX11_taken_110 : decode cX11_taken 110 = .ok (.if_icmp .ge 21, 3) := by decide +kernel
theorem dX11_taken_113 : decode cX11_taken 113 = .ok (.aload_n 0, 1) := by decide +kernel
theorem dX11_taken_114 : decode cX11_taken 114 = .ok (.getfield 65, 3) := by decide +kernel
theorem dX11_taken_117 : decode cX11_taken 117 = .ok (.iload_n 1, 1) := by decide +kernel
theorem dX11_taken_118 : decode cX11_taken 118 = .ok (.aload_n 0, 1) := by decide +kernel
theorem dX11_taken_119 : decode cX11_taken 119 = .ok (.getfield 68, 3) := by decide +kernel
theorem dX11_taken_122 : decode cX11_taken 122 = .ok (.iload_n 1, 1) := by decide +kernel
theorem dX11_taken_123 : decode cX11_taken 123 = .ok (.iaload, 1) := by decide +kernel
theorem dX11_taken_124 : decode cX11_taken 124 = .ok (.iastore, 1) := by decide +kernel
theorem dX11_taken_125 : decode cX11_taken 125 = .ok (.iinc 1 1, 3) := by decide +kernel
theorem dX11_taken_128 : decode cX11_taken 128 = .ok (.goto (-20), 3) := by decide +kernel
theorem dX11_taken_131 : decode cX11_taken 131 = .ok (.aload_n 0, 1) := by decide +kernel
theorem dX11_taken_132 : decode cX11_taken 132 = .ok (.iconst 0, 1) := by decide +kernel
theorem dX11_taken_133 : decode cX11_taken 133 = .ok (.putfield 293, 3) := by decide +kernel
theorem dX11_taken_136 : decode cX11_taken 136 = .ok (.aload_n 0, 1) := by decide +kernel
theorem dX11_taken_137 : decode cX11_taken 137 = .ok (.getfield 287, 3) := by decide +kernel
theorem dX11_taken_140 : decode cX11_taken 140 = .ok (.ireturn, 1) := by decide +kernel
def wb_X11_taken_18 (J : HJ) (Post : Int32 → HI → Prop) (E18 : HI → Prop) (K18 : (Int32 × HI) → Prop) (s : Int32 × HI) : Prop :=
  match s with
  | (x1, I) => (60 ≤ x1 → (E18 I)) ∧ (¬ 60 ≤ x1 → (vp_in x1 60 ∧ (vp_in x1 60 ∧ (∀ I_3 : HI, I_3 = hI I 77 (Int32.toNatClampNeg x1) (I 78 (Int32.toNatClampNeg x1)) → (K18 ((x1 + 1), I_3))))))
set_option maxHeartbeats 4000000 in
set_option maxRecDepth 20000 in
theorem ws_X11_taken_18 (g : kf_G) (hg : kf_g g) {x : kf_X} (hx : kf_ok g x RX11 cX11_taken 2 0 0) (J : HJ) (Post : Int32 → HI → Prop) (hret : ∀ (pc : Nat) (lv : List (Nat × Value)) (v : Int32) (Iy : HI), decode cX11_taken pc = .ok (.ireturn, 1) → Post v Iy → kf_M g x 2 pc lv [.int v] Iy J) (E18 : HI → Prop) (hE18 : ∀ (Iy : HI), E18 Iy → kf_M g x 2 42 [(0, .ref (g.2.2.2 72))] [] Iy J) (K18 : (Int32 × HI) → Prop) (hK18 : ∀ (y1 : Int32) (Iy : HI), K18 (y1, Iy) → kf_M g x 2 18 [(0, .ref (g.2.2.2 72)), (1, .int y1)] [] Iy J) (x1 : Int32) (I : HI) (h : wb_X11_taken_18 J Post E18 K18 (x1, I)) : kf_M g x 2 18 [(0, .ref (g.2.2.2 72)), (1, .int x1)] [] I J := by
  unfold wb_X11_taken_18 at h
  refine kf_iload_n hx dX11_taken_18 rfl 1 rfl ?_
  refine kf_bipush (v := 60) hx dX11_taken_19 (by decide) ?_
  refine kf_icmp_ge hx 42 dX11_taken_21 (by decide) (fun c => ?_) (fun c => ?_)
  · replace h := h.1 c
    refine kf_sub [0] rfl ?_
    exact hE18 _ h
  · replace h := h.2 c
    refine kf_aload_n hx dX11_taken_24 rfl 0 rfl ?_
    refine kf_getR (n := 77) hx sl_72_24 fl_RX11_35 dX11_taken_25 ?_
    refine kf_iload_n hx dX11_taken_28 rfl 1 rfl ?_
    refine kf_aload_n hx dX11_taken_29 rfl 0 rfl ?_
    refine kf_getR (n := 78) hx sl_72_25 fl_RX11_38 dX11_taken_30 ?_
    refine kf_iload_n hx dX11_taken_33 rfl 1 rfl ?_
    refine kf_iald hx ar_78 h.1 dX11_taken_34 ?_
    replace h := h.2
    refine kf_iast hx ar_77 h.1 dX11_taken_35 ?_
    replace h := h.2
    refine kf_nmI (fun I_3 eI_3 => ?_)
    replace h := h I_3 eI_3
    refine kf_iinc (w := (x1 + 1)) (lv' := [(1, .int (x1 + 1)), (0, .ref (g.2.2.2 72))]) hx dX11_taken_36 1 rfl rfl (by decide) rfl ?_
    refine kf_goto hx 18 dX11_taken_39 (by decide) ?_
    refine kf_sub [1, 0] rfl ?_
    exact hK18 _ _ h
theorem wl_X11_taken_18 (g : kf_G) (hg : kf_g g) {x : kf_X} (hx : kf_ok g x RX11 cX11_taken 2 0 0) (J : HJ) (Post : Int32 → HI → Prop) (hret : ∀ (pc : Nat) (lv : List (Nat × Value)) (v : Int32) (Iy : HI), decode cX11_taken pc = .ok (.ireturn, 1) → Post v Iy → kf_M g x 2 pc lv [.int v] Iy J) (E18 : HI → Prop) (hE18 : ∀ (Iy : HI), E18 Iy → kf_M g x 2 42 [(0, .ref (g.2.2.2 72))] [] Iy J) : ∀ (n : Nat) (x1 : Int32) (I : HI), lp (wb_X11_taken_18 J Post E18) n (x1, I) → kf_M g x 2 18 [(0, .ref (g.2.2.2 72)), (1, .int x1)] [] I J := by
  intro n
  induction n with
  | zero => intro x1 I h; exact h.elim
  | succ n ih => intro x1 I h; exact ws_X11_taken_18 g hg hx J Post hret E18 hE18 (lp (wb_X11_taken_18 J Post E18) n) ih x1 I h
def wb_X11_taken_44 (J : HJ) (Post : Int32 → HI → Prop) (E44 : HI → Prop) (K44 : (Int32 × HI) → Prop) (s : Int32 × HI) : Prop :=
  match s with
  | (x1, I) => ((I 72 21) ≤ x1 → (E44 I)) ∧ (¬ (I 72 21) ≤ x1 → (vp_in x1 10 ∧ (vp_in x1 10 ∧ (∀ I_5 : HI, I_5 = hI I 79 (Int32.toNatClampNeg x1) (I 83 (Int32.toNatClampNeg x1)) → (vp_in x1 10 ∧ (vp_in x1 10 ∧ (∀ I_6 : HI, I_6 = hI I_5 80 (Int32.toNatClampNeg x1) (I_5 84 (Int32.toNatClampNeg x1)) → (vp_in x1 10 ∧ (vp_in x1 10 ∧ (∀ I_7 : HI, I_7 = hI I_6 81 (Int32.toNatClampNeg x1) (I_6 85 (Int32.toNatClampNeg x1)) → (vp_in x1 10 ∧ (vp_in x1 10 ∧ (∀ I_8 : HI, I_8 = hI I_7 82 (Int32.toNatClampNeg x1) (I_7 86 (Int32.toNatClampNeg x1)) → (K44 ((x1 + 1), I_8)))))))))))))))
set_option maxHeartbeats 4000000 in
set_option maxRecDepth 20000 in
theorem ws_X11_taken_44 (g : kf_G) (hg : kf_g g) {x : kf_X} (hx : kf_ok g x RX11 cX11_taken 2 0 0) (J : HJ) (Post : Int32 → HI → Prop) (hret : ∀ (pc : Nat) (lv : List (Nat × Value)) (v : Int32) (Iy : HI), decode cX11_taken pc = .ok (.ireturn, 1) → Post v Iy → kf_M g x 2 pc lv [.int v] Iy J) (E44 : HI → Prop) (hE44 : ∀ (Iy : HI), E44 Iy → kf_M g x 2 106 [(0, .ref (g.2.2.2 72))] [] Iy J) (K44 : (Int32 × HI) → Prop) (hK44 : ∀ (y1 : Int32) (Iy : HI), K44 (y1, Iy) → kf_M g x 2 44 [(0, .ref (g.2.2.2 72)), (1, .int y1)] [] Iy J) (x1 : Int32) (I : HI) (h : wb_X11_taken_44 J Post E44 K44 (x1, I)) : kf_M g x 2 44 [(0, .ref (g.2.2.2 72)), (1, .int x1)] [] I J := by
  unfold wb_X11_taken_44 at h
  refine kf_iload_n hx dX11_taken_44 rfl 1 rfl ?_
  refine kf_aload_n hx dX11_taken_45 rfl 0 rfl ?_
  refine kf_getI hx sl_72_21 fl_RX11_290 dX11_taken_46 ?_
  refine kf_icmp_ge hx 106 dX11_taken_49 (by decide) (fun c => ?_) (fun c => ?_)
  · replace h := h.1 c
    refine kf_sub [0] rfl ?_
    exact hE44 _ h
  · replace h := h.2 c
    refine kf_aload_n hx dX11_taken_52 rfl 0 rfl ?_
    refine kf_getR (n := 79) hx sl_72_26 fl_RX11_41 dX11_taken_53 ?_
    refine kf_iload_n hx dX11_taken_56 rfl 1 rfl ?_
    refine kf_aload_n hx dX11_taken_57 rfl 0 rfl ?_
    refine kf_getR (n := 83) hx sl_72_30 fl_RX11_53 dX11_taken_58 ?_
    refine kf_iload_n hx dX11_taken_61 rfl 1 rfl ?_
    refine kf_iald hx ar_83 h.1 dX11_taken_62 ?_
    replace h := h.2
    refine kf_iast hx ar_79 h.1 dX11_taken_63 ?_
    replace h := h.2
    refine kf_nmI (fun I_5 eI_5 => ?_)
    replace h := h I_5 eI_5
    refine kf_aload_n hx dX11_taken_64 rfl 0 rfl ?_
    refine kf_getR (n := 80) hx sl_72_27 fl_RX11_44 dX11_taken_65 ?_
    refine kf_iload_n hx dX11_taken_68 rfl 1 rfl ?_
    refine kf_aload_n hx dX11_taken_69 rfl 0 rfl ?_
    refine kf_getR (n := 84) hx sl_72_31 fl_RX11_56 dX11_taken_70 ?_
    refine kf_iload_n hx dX11_taken_73 rfl 1 rfl ?_
    refine kf_iald hx ar_84 h.1 dX11_taken_74 ?_
    replace h := h.2
    refine kf_iast hx ar_80 h.1 dX11_taken_75 ?_
    replace h := h.2
    refine kf_nmI (fun I_6 eI_6 => ?_)
    replace h := h I_6 eI_6
    refine kf_aload_n hx dX11_taken_76 rfl 0 rfl ?_
    refine kf_getR (n := 81) hx sl_72_28 fl_RX11_47 dX11_taken_77 ?_
    refine kf_iload_n hx dX11_taken_80 rfl 1 rfl ?_
    refine kf_aload_n hx dX11_taken_81 rfl 0 rfl ?_
    refine kf_getR (n := 85) hx sl_72_32 fl_RX11_59 dX11_taken_82 ?_
    refine kf_iload_n hx dX11_taken_85 rfl 1 rfl ?_
    refine kf_iald hx ar_85 h.1 dX11_taken_86 ?_
    replace h := h.2
    refine kf_iast hx ar_81 h.1 dX11_taken_87 ?_
    replace h := h.2
    refine kf_nmI (fun I_7 eI_7 => ?_)
    replace h := h I_7 eI_7
    refine kf_aload_n hx dX11_taken_88 rfl 0 rfl ?_
    refine kf_getR (n := 82) hx sl_72_29 fl_RX11_50 dX11_taken_89 ?_
    refine kf_iload_n hx dX11_taken_92 rfl 1 rfl ?_
    refine kf_aload_n hx dX11_taken_93 rfl 0 rfl ?_
    refine kf_getR (n := 86) hx sl_72_33 fl_RX11_62 dX11_taken_94 ?_
    refine kf_iload_n hx dX11_taken_97 rfl 1 rfl ?_
    refine kf_iald hx ar_86 h.1 dX11_taken_98 ?_
    replace h := h.2
    refine kf_iast hx ar_82 h.1 dX11_taken_99 ?_
    replace h := h.2
    refine kf_nmI (fun I_8 eI_8 => ?_)
    replace h := h I_8 eI_8
    refine kf_iinc (w := (x1 + 1)) (lv' := [(1, .int (x1 + 1)), (0, .ref (g.2.2.2 72))]) hx dX11_taken_100 1 rfl rfl (by decide) rfl ?_
    refine kf_goto hx 44 dX11_taken_103 (by decide) ?_
    refine kf_sub [1, 0] rfl ?_
    exact hK44 _ _ h
theorem wl_X11_taken_44 (g : kf_G) (hg : kf_g g) {x : kf_X} (hx : kf_ok g x RX11 cX11_taken 2 0 0) (J : HJ) (Post : Int32 → HI → Prop) (hret : ∀ (pc : Nat) (lv : List (Nat × Value)) (v : Int32) (Iy : HI), decode cX11_taken pc = .ok (.ireturn, 1) → Post v Iy → kf_M g x 2 pc lv [.int v] Iy J) (E44 : HI → Prop) (hE44 : ∀ (Iy : HI), E44 Iy → kf_M g x 2 106 [(0, .ref (g.2.2.2 72))] [] Iy J) : ∀ (n : Nat) (x1 : Int32) (I : HI), lp (wb_X11_taken_44 J Post E44) n (x1, I) → kf_M g x 2 44 [(0, .ref (g.2.2.2 72)), (1, .int x1)] [] I J := by
  intro n
  induction n with
  | zero => intro x1 I h; exact h.elim
  | succ n ih => intro x1 I h; exact ws_X11_taken_44 g hg hx J Post hret E44 hE44 (lp (wb_X11_taken_44 J Post E44) n) ih x1 I h
def wb_X11_taken_108 (J : HJ) (Post : Int32 → HI → Prop) (E108 : HI → Prop) (K108 : (Int32 × HI) → Prop) (s : Int32 × HI) : Prop :=
  match s with
  | (x1, I) => (4 ≤ x1 → (E108 I)) ∧ (¬ 4 ≤ x1 → (vp_in x1 4 ∧ (vp_in x1 4 ∧ (∀ I_10 : HI, I_10 = hI I 87 (Int32.toNatClampNeg x1) (I 88 (Int32.toNatClampNeg x1)) → (K108 ((x1 + 1), I_10))))))
set_option maxHeartbeats 4000000 in
set_option maxRecDepth 20000 in
theorem ws_X11_taken_108 (g : kf_G) (hg : kf_g g) {x : kf_X} (hx : kf_ok g x RX11 cX11_taken 2 0 0) (J : HJ) (Post : Int32 → HI → Prop) (hret : ∀ (pc : Nat) (lv : List (Nat × Value)) (v : Int32) (Iy : HI), decode cX11_taken pc = .ok (.ireturn, 1) → Post v Iy → kf_M g x 2 pc lv [.int v] Iy J) (E108 : HI → Prop) (hE108 : ∀ (Iy : HI), E108 Iy → kf_M g x 2 131 [(0, .ref (g.2.2.2 72))] [] Iy J) (K108 : (Int32 × HI) → Prop) (hK108 : ∀ (y1 : Int32) (Iy : HI), K108 (y1, Iy) → kf_M g x 2 108 [(0, .ref (g.2.2.2 72)), (1, .int y1)] [] Iy J) (x1 : Int32) (I : HI) (h : wb_X11_taken_108 J Post E108 K108 (x1, I)) : kf_M g x 2 108 [(0, .ref (g.2.2.2 72)), (1, .int x1)] [] I J := by
  unfold wb_X11_taken_108 at h
  refine kf_iload_n hx dX11_taken_108 rfl 1 rfl ?_
  refine kf_iconst (v := 4) hx dX11_taken_109 (by decide) ?_
  refine kf_icmp_ge hx 131 dX11_taken_110 (by decide) (fun c => ?_) (fun c => ?_)
  · replace h := h.1 c
    refine kf_sub [0] rfl ?_
    exact hE108 _ h
  · replace h := h.2 c
    refine kf_aload_n hx dX11_taken_113 rfl 0 rfl ?_
    refine kf_getR (n := 87) hx sl_72_34 fl_RX11_65 dX11_taken_114 ?_
    refine kf_iload_n hx dX11_taken_117 rfl 1 rfl ?_
    refine kf_aload_n hx dX11_taken_118 rfl 0 rfl ?_
    refine kf_getR (n := 88) hx sl_72_35 fl_RX11_68 dX11_taken_119 ?_
    refine kf_iload_n hx dX11_taken_122 rfl 1 rfl ?_
    refine kf_iald hx ar_88 h.1 dX11_taken_123 ?_
    replace h := h.2
    refine kf_iast hx ar_87 h.1 dX11_taken_124 ?_
    replace h := h.2
    refine kf_nmI (fun I_10 eI_10 => ?_)
    replace h := h I_10 eI_10
    refine kf_iinc (w := (x1 + 1)) (lv' := [(1, .int (x1 + 1)), (0, .ref (g.2.2.2 72))]) hx dX11_taken_125 1 rfl rfl (by decide) rfl ?_
    refine kf_goto hx 108 dX11_taken_128 (by decide) ?_
    refine kf_sub [1, 0] rfl ?_
    exact hK108 _ _ h
theorem wl_X11_taken_108 (g : kf_G) (hg : kf_g g) {x : kf_X} (hx : kf_ok g x RX11 cX11_taken 2 0 0) (J : HJ) (Post : Int32 → HI → Prop) (hret : ∀ (pc : Nat) (lv : List (Nat × Value)) (v : Int32) (Iy : HI), decode cX11_taken pc = .ok (.ireturn, 1) → Post v Iy → kf_M g x 2 pc lv [.int v] Iy J) (E108 : HI → Prop) (hE108 : ∀ (Iy : HI), E108 Iy → kf_M g x 2 131 [(0, .ref (g.2.2.2 72))] [] Iy J) : ∀ (n : Nat) (x1 : Int32) (I : HI), lp (wb_X11_taken_108 J Post E108) n (x1, I) → kf_M g x 2 108 [(0, .ref (g.2.2.2 72)), (1, .int x1)] [] I J := by
  intro n
  induction n with
  | zero => intro x1 I h; exact h.elim
  | succ n ih => intro x1 I h; exact ws_X11_taken_108 g hg hx J Post hret E108 hE108 (lp (wb_X11_taken_108 J Post E108) n) ih x1 I h
def w_X11_taken  (I : HI) (J : HJ) (Post : Int32 → HI → Prop) : Prop :=
  ∀ I_1 : HI, I_1 = hI I 72 20 (I 72 22) → (∀ I_2 : HI, I_2 = hI I_1 72 21 (I_1 72 23) → (∃ n, lp (wb_X11_taken_18 J Post (fun (I_4 : HI) => ∃ n, lp (wb_X11_taken_44 J Post (fun (I_9 : HI) => ∃ n, lp (wb_X11_taken_108 J Post (fun (I_11 : HI) => ∀ I_12 : HI, I_12 = hI I_11 72 38 0 → (Post (I_12 72 20) I_12))) n (0, I_9))) n (0, I_4))) n (0, I_2)))
set_option maxHeartbeats 4000000 in
set_option maxRecDepth 20000 in
theorem we_X11_taken (g : kf_G) (hg : kf_g g) {x : kf_X} (hx : kf_ok g x RX11 cX11_taken 2 0 0)  (I : HI) (J : HJ) (Post : Int32 → HI → Prop) (hret : ∀ (pc : Nat) (lv : List (Nat × Value)) (v : Int32) (Iy : HI), decode cX11_taken pc = .ok (.ireturn, 1) → Post v Iy → kf_M g x 2 pc lv [.int v] Iy J) (h : w_X11_taken  I J Post) : kf_M g x 2 0 [(0, .ref (g.2.2.2 72))] [] I J := by
  unfold w_X11_taken at h
  refine kf_aload_n hx dX11_taken_0 rfl 0 rfl ?_
  refine kf_aload_n hx dX11_taken_1 rfl 0 rfl ?_
  refine kf_getI hx sl_72_22 fl_RX11_235 dX11_taken_2 ?_
  refine kf_putI hx sl_72_20 fl_RX11_287 fp_11_20 dX11_taken_5 ?_
  refine kf_nmI (fun I_1 eI_1 => ?_)
  replace h := h I_1 eI_1
  refine kf_aload_n hx dX11_taken_8 rfl 0 rfl ?_
  refine kf_aload_n hx dX11_taken_9 rfl 0 rfl ?_
  refine kf_getI hx sl_72_23 fl_RX11_251 dX11_taken_10 ?_
  refine kf_putI hx sl_72_21 fl_RX11_290 fp_11_21 dX11_taken_13 ?_
  refine kf_nmI (fun I_2 eI_2 => ?_)
  replace h := h I_2 eI_2
  refine kf_iconst (v := 0) hx dX11_taken_16 (by decide) ?_
  refine kf_istore_n (lv' := [(1, .int 0), (0, .ref (g.2.2.2 72))]) hx dX11_taken_17 rfl (by decide) rfl ?_
  obtain ⟨n, h⟩ := h
  refine kf_sub [1, 0] rfl ?_
  refine wl_X11_taken_18 g hg hx J  _ hret _ (fun I_4 h => ?_) n _ _ h
  refine kf_iconst (v := 0) hx dX11_taken_42 (by decide) ?_
  refine kf_istore_n (lv' := [(1, .int 0), (0, .ref (g.2.2.2 72))]) hx dX11_taken_43 rfl (by decide) rfl ?_
  obtain ⟨n, h⟩ := h
  refine kf_sub [1, 0] rfl ?_
  refine wl_X11_taken_44 g hg hx J  _ hret _ (fun I_9 h => ?_) n _ _ h
  refine kf_iconst (v := 0) hx dX11_taken_106 (by decide) ?_
  refine kf_istore_n (lv' := [(1, .int 0), (0, .ref (g.2.2.2 72))]) hx dX11_taken_107 rfl (by decide) rfl ?_
  obtain ⟨n, h⟩ := h
  refine kf_sub [1, 0] rfl ?_
  refine wl_X11_taken_108 g hg hx J  _ hret _ (fun I_11 h => ?_) n _ _ h
  refine kf_aload_n hx dX11_taken_131 rfl 0 rfl ?_
  refine kf_iconst (v := 0) hx dX11_taken_132 (by decide) ?_
  refine kf_putI hx sl_72_38 fl_RX11_293 fp_11_38 dX11_taken_133 ?_
  refine kf_nmI (fun I_12 eI_12 => ?_)
  replace h := h I_12 eI_12
  refine kf_aload_n hx dX11_taken_136 rfl 0 rfl ?_
  refine kf_getI hx sl_72_20 fl_RX11_287 dX11_taken_137 ?_
  exact hret _ _ (I_12 72 20) _ dX11_taken_140 h
set_option maxHeartbeats 4000000 in
set_option maxRecDepth 20000 in
theorem m_X11_taken (g : kf_G) (hg : kf_g g)  (I : HI) (J : HJ) (Post : Int32 → HI → Prop) (h : w_X11_taken  I J Post) : kf_Mi g yX11_taken (kf_W yX11_taken cX11_taken 2 (Option.some Jvm.ClassFile.FieldType.int)) 0 0 [.ref (g.2.2.2 72)] I J (fun v I' J' => Post v I' ∧ J' = J) :=
  kf_enti hg (by decide) (Nat.le_of_ble_eq_true rfl) rfl (fun x hx hr => we_X11_taken g hg hx  I J Post (fun pc lv v I' hd hP => hr pc lv v I' J hd ⟨hP, rfl⟩) h)
theorem dX11_net_0 : decode cX11_net 0 = .ok (.aload_n 0, 1) := by decide +kernel
theorem dX11_net_1 : decode cX11_net 1 = .ok (.iconst 0, 1) := by decide +kernel
theorem dX11_net_2 : decode cX11_net 2 = .ok (.putfield 106, 3) := by decide +kernel
theorem dX11_net_5 : decode cX11_net 5 = .ok (.aload_n 0, 1) := by decide +kernel
theorem dX11_net_6 : decode cX11_net 6 = .ok (.iconst 0, 1) := by decide +kernel
theorem dX11_net_7 : decode cX11_net 7 = .ok (.putfield 109, 3) := by decide +kernel
theorem dX11_net_10 : decode cX11_net 10 = .ok (.iload_n 1, 1) := by decide +kernel
theorem dX11_net_11 : decode cX11_net 11 = .ok (.ifCond .lt 11, 3) := by decide +kernel
theorem dX11_net_14 : decode cX11_net 14 = .ok (.iload_n 1, 1) := by decide +kernel
theorem dX11_net_15 : decode cX11_net 15 = .ok (.aload_n 0, 1) := by decide +kernel
theorem dX11_net_16 : decode cX11_net 16 = .ok (.getfield 265, 3) := by decide +kernel
theorem dX11_net_19 : decode cX11_net 19 = .ok (.if_icmp .le 9, 3) := by decide +kernel
theorem dX11_net_22 : decode cX11_net 22 = .ok (.aload_n 0, 1) := by decide +kernel
theorem dX11_net_23 : decode cX11_net 23 = .ok (.iconst 5, 1) := by decide +kernel
theorem dX11_net_24 : decode cX11_net 24 = .ok (.invokevirtual 272, 3) := by decide +kernel
theorem dX11_net_27 : decode cX11_net 27 = .ok (.ireturn, 1) := by decide +kernel
theorem dX11_net_28 : decode cX11_net 28 = .ok (.aload_n 0, 1) := by decide +kernel
theorem dX11_net_29 : decode cX11_net 29 = .ok (.iload_n 1, 1) := by decide +kernel
theorem dX11_net_30 : decode cX11_net 30 = .ok (.putfield 139, 3) := by decide +kernel
theorem dX11_net_33 : decode cX11_net 33 = .ok (.aload_n 0, 1) := by decide +kernel
theorem dX11_net_34 : decode cX11_net 34 = .ok (.iconst 0, 1) := by decide +kernel
theorem dX11_net_35 : decode cX11_net 35 = .ok (.putfield 265, 3) := by decide +kernel
theorem dX11_net_38 : decode cX11_net 38 = .ok (.aload_n 0, 1) := by decide +kernel
theorem dX11_net_39 : decode cX11_net 39 = .ok (.iconst 0, 1) := by decide +kernel
theorem dX11_net_40 : decode cX11_net 40 = .ok (.putfield 142, 3) := by decide +kernel
theorem dX11_net_43 : decode cX11_net 43 = .ok (.aload_n 0, 1) := by decide +kernel
theorem dX11_net_44 : decode cX11_net 44 = .ok (.iconst 0, 1) := by decide +kernel
theorem dX11_net_45 : decode cX11_net 45 = .ok (.putfield 212, 3) := by decide +kernel
theorem dX11_net_48 : decode cX11_net 48 = .ok (.aload_n 0, 1) := by decide +kernel
theorem dX11_net_49 : decode cX11_net 49 = .ok (.iconst 0, 1) := by decide +kernel
theorem dX11_net_50 : decode cX11_net 50 = .ok (.putfield 235, 3) := by decide +kernel
theorem dX11_net_53 : decode cX11_net 53 = .ok (.aload_n 0, 1) := by decide +kernel
theorem dX11_net_54 : decode cX11_net 54 = .ok (.iconst 0, 1) := by decide +kernel
theorem dX11_net_55 : decode cX11_net 55 = .ok (.putfield 251, 3) := by decide +kernel
theorem dX11_net_58 : decode cX11_net 58 = .ok (.iconst 0, 1) := by decide +kernel
theorem dX11_net_59 : decode cX11_net 59 = .ok (.istore_n 2, 1) := by decide +kernel
theorem dX11_net_60 : decode cX11_net 60 = .ok (.iload_n 2, 1) := by decide +kernel
theorem dX11_net_61 : decode cX11_net 61 = .ok (.iconst 4, 1) := by decide +kernel
theorem dX11_net_62 : decode cX11_net 62 = .ok (.if_icmp .ge 24, 3) := by decide +kernel
theorem dX11_net_65 : decode cX11_net 65 = .ok (.aload_n 0, 1) := by decide +kernel
theorem dX11_net_66 : decode cX11_net 66 = .ok (.getfield 74, 3) := by decide +kernel
theorem dX11_net_69 : decode cX11_net 69 = .ok (.iload_n 2, 1) := by decide +kernel
theorem dX11_net_70 : decode cX11_net 70 = .ok (.iconst 0, 1) := by decide +kernel
theorem dX11_net_71 : decode cX11_net 71 = .ok (.bastore, 1) := by decide +kernel
theorem dX11_net_72 : decode cX11_net 72 = .ok (.aload_n 0, 1) := by decide +kernel
theorem dX11_net_73 : decode cX11_net 73 = .ok (.getfield 68, 3) := by decide +kernel
theorem dX11_net_76 : decode cX11_net 76 = .ok (.iload_n 2, 1) := by decide +kernel
theorem dX11_net_77 : decode cX11_net 77 = .ok (.bipush 12, 2) := by decide +kernel
theorem dX11_net_79 : decode cX11_net 79 = .ok (.iastore, 1) := by decide +kernel
theorem dX11_net_80 : decode cX11_net 80 = .ok (.iinc 2 1, 3) := by decide +kernel
theorem dX11_net_83 : decode cX11_net 83 = .ok (.goto (-23), 3) := by decide +kernel
theorem dX11_net_86 : decode cX11_net 86 = .ok (.aload_n 0, 1) := by decide +kernel
theorem dX11_net_87 : decode cX11_net 87 = .ok (.invokevirtual 222, 3) := by decide +kernel
theorem dX11_net_90 : decode cX11_net 90 = .ok (.aload_n 0, 1) := by decide +kernel
theorem dX11_net_91 : decode cX11_net 91 = .ok (.getfield 212, 3) := by decide +kernel
theorem dX11_net_94 : decode cX11_net 94 = .ok (.ifCond .ne 59, 3) := by decide +kernel
theorem dX11_net_97 : decode cX11_net 97 = .ok (.aload_n 0, 1) := by decide +kernel
theorem dX11_net_98 : decode cX11_net 98 = .ok (.getfield 151, 3) := by decide +kernel
theorem dX11_net_101 : decode cX11_net 101 = .ok (.ifCond .eq 52, 3) := by decide +kernel
theorem dX11_net_104 : decode cX11_net 104 = .ok (.aload_n 0, 1) := by decide +kernel
theorem dX11_net_105 : decode cX11_net 105 = .ok (.invokevirtual 187, 3) := by decide +kernel
theorem dX11_net_108 : decode cX11_net 108 = .ok (.ifCond .eq 10, 3) := by decide +kernel
theorem dX11_net_111 : decode cX11_net 111 = .ok (.aload_n 0, 1) := by decide +kernel
theorem dX11_net_112 : decode cX11_net 112 = .ok (.invokevirtual 275, 3) := by decide +kernel
theorem dX11_net_115 : decode cX11_net 115 = .ok (.goto (-25), 3) := by decide +kernel
theorem dX11_net_118 : decode cX11_net 118 = .ok (.aload_n 0, 1) := by decide +kernel
theorem dX11_net_119 : decode cX11_net 119 = .ok (.invokevirtual 191, 3) := by decide +kernel
theorem dX11_net_122 : decode cX11_net 122 = .ok (.ifCond .eq 10, 3) := by decide +kernel
theorem dX11_net_125 : decode cX11_net 125 = .ok (.aload_n 0, 1) := by decide +kernel
theorem dX11_net_126 : decode cX11_net 126 = .ok (.invokevirtual 278, 3) := by decide +kernel
theorem dX11_net_129 : decode cX11_net 129 = .ok (.goto (-39), 3) := by decide +kernel
theorem dX11_net_132 : decode cX11_net 132 = .ok (.aload_n 0, 1) := by decide +kernel
theorem dX11_net_133 : decode cX11_net 133 = .ok (.invokevirtual 200, 3) := by decide +kernel
theorem dX11_net_136 : decode cX11_net 136 = .ok (.ifCond .eq 10, 3) := by decide +kernel
theorem dX11_net_139 : decode cX11_net 139 = .ok (.aload_n 0, 1) := by decide +kernel
theorem dX11_net_140 : decode cX11_net 140 = .ok (.invokevirtual 281, 3) := by decide +kernel
theorem dX11_net_143 : decode cX11_net 143 = .ok (.goto (-53), 3) := by decide +kernel
theorem dX11_net_146 : decode cX11_net 146 = .ok (.aload_n 0, 1) := by decide +kernel
theorem dX11_net_147 : decode cX11_net 147 = .ok (.invokevirtual 225, 3) := by decide +kernel
theorem dX11_net_150 : decode cX11_net 150 = .ok (.goto (-60), 3) := by decide +kernel
theorem dX11_net_153 : decode cX11_net 153 = .ok (.aload_n 0, 1) := by decide +kernel
theorem dX11_net_154 : decode cX11_net 154 = .ok (.aload_n 0, 1) := by decide +kernel
theorem dX11_net_155 : decode cX11_net 155 = .ok (.getfield 212, 3) := by decide +kernel
theorem dX11_net_158 : decode cX11_net 158 = .ok (.putfield 28, 3) := by decide +kernel
theorem dX11_net_161 : decode cX11_net 161 = .ok (.aload_n 0, 1) := by decide +kernel
theorem dX11_net_162 : decode cX11_net 162 = .ok (.aload_n 0, 1) := by decide +kernel
theorem dX11_net_163 : decode cX11_net 163 = .ok (.getfield 212, 3) := by decide +kernel
theorem dX11_net_166 : decode cX11_net 166 = .ok (.ifCond .ne 7, 3) := by decide +kernel
theorem dX11_net_169 : decode cX11_net 169 = .ok (.iconst (-1), 1) := by decide +kernel
theorem dX11_net_170 : decode cX11_net 170 = .ok (.goto 7, 3) := by decide +kernel
theorem dX11_net_173 : decode cX11_net 173 = .ok (.aload_n 0, 1) := by decide +kernel
theorem dX11_net_174 : decode cX11_net 174 = .ok (.getfield 215, 3) := by decide +kernel
theorem dX11_net_177 : decode cX11_net 177 = .ok (.putfield 32, 3) := by decide +kernel
theorem dX11_net_180 : decode cX11_net 180 = .ok (.aload_n 0, 1) := by decide +kernel
theorem dX11_net_181 : decode cX11_net 181 = .ok (.getfield 212, 3) := by decide +kernel
theorem dX11_net_184 : decode cX11_net 184 = .ok (.ifCond .le 12, 3) := by decide +kernel
theorem dX11_net_187 : decode cX11_net 187 = .ok (.aload_n 0, 1) := by decide +kernel
theorem dX11_net_188 : decode cX11_net 188 = .ok (.bipush 10, 2) := by decide +kernel
theorem dX11_net_190 : decode cX11_net 190 = .ok (.invokevirtual 272, 3) := by decide +kernel
theorem dX11_net_193 : decode cX11_net 193 = .ok (.goto 7, 3) := by decide +kernel
theorem dX11_net_196 : decode cX11_net 196 = .ok (.aload_n 0, 1) := by decide +kernel
theorem dX11_net_197 : decode cX11_net 197 = .ok (.invokevirtual 284, 3) := by decide +kernel
theorem dX11_net_200 : decode cX11_net 200 = .ok (.ireturn, 1) := by decide +kernel
def wj_X11_net_22 (I : HI) (J : HJ)  (Post : Int32 → HI → HJ → Prop) : Prop :=
  w_X11_refusedBy 5 I J (fun (r_3 : Int32) (I_4 : HI) => (Post r_3 I_4 J))
set_option maxHeartbeats 4000000 in
set_option maxRecDepth 20000 in
theorem wk_X11_net_22 (g : kf_G) (hg : kf_g g) {x : kf_X} (hx : kf_ok g x RX11 cX11_net 3 5 113) (I : HI) (J : HJ)  (Post : Int32 → HI → HJ → Prop) (hret : ∀ (pc : Nat) (lv : List (Nat × Value)) (v : Int32) (Iy : HI) (Jy : HJ), decode cX11_net pc = .ok (.ireturn, 1) → Post v Iy Jy → kf_M g x 3 pc lv [.int v] Iy Jy) (h : wj_X11_net_22 I J  Post) : kf_M g x 3 22 [(0, .ref (g.2.2.2 72))] [] I J := by
  unfold wj_X11_net_22 at h
  refine kf_aload_n hx dX11_net_22 rfl 0 rfl ?_
  refine kf_iconst (v := 5) hx dX11_net_23 (by decide) ?_
  refine kf_callViI (st := []) hx (m_X11_refusedBy g hg 5 I J _ h) lk_RX11_272 km_X11_refusedBy ob_72 rfl (by decide) rfl (Nat.le_of_ble_eq_true rfl) dX11_net_24 (fun r_3 I_4 h => ?_)
  exact hret _ _ r_3 _ _ dX11_net_27 h
def wb_X11_net_60 (J : HJ) (Post : Int32 → HI → HJ → Prop) (E60 : HI → Prop) (K60 : (Int32 × HI) → Prop) (s : Int32 × HI) : Prop :=
  match s with
  | (x2, I) => (4 ≤ x2 → (E60 I)) ∧ (¬ 4 ≤ x2 → (vp_in x2 4 ∧ (∀ I_11 : HI, I_11 = hI I 90 (Int32.toNatClampNeg x2) (vp_nar .boolean 0) → (vp_in x2 4 ∧ (∀ I_12 : HI, I_12 = hI I_11 88 (Int32.toNatClampNeg x2) 12 → (K60 ((x2 + 1), I_12)))))))
set_option maxHeartbeats 4000000 in
set_option maxRecDepth 20000 in
theorem ws_X11_net_60 (g : kf_G) (hg : kf_g g) {x : kf_X} (hx : kf_ok g x RX11 cX11_net 3 5 113) (J : HJ) (Post : Int32 → HI → HJ → Prop) (hret : ∀ (pc : Nat) (lv : List (Nat × Value)) (v : Int32) (Iy : HI) (Jy : HJ), decode cX11_net pc = .ok (.ireturn, 1) → Post v Iy Jy → kf_M g x 3 pc lv [.int v] Iy Jy) (E60 : HI → Prop) (hE60 : ∀ (Iy : HI), E60 Iy → kf_M g x 3 86 [(0, .ref (g.2.2.2 72))] [] Iy J) (K60 : (Int32 × HI) → Prop) (hK60 : ∀ (y2 : Int32) (Iy : HI), K60 (y2, Iy) → kf_M g x 3 60 [(0, .ref (g.2.2.2 72)), (2, .int y2)] [] Iy J) (x2 : Int32) (I : HI) (h : wb_X11_net_60 J Post E60 K60 (x2, I)) : kf_M g x 3 60 [(0, .ref (g.2.2.2 72)), (2, .int x2)] [] I J := by
  unfold wb_X11_net_60 at h
  refine kf_iload_n hx dX11_net_60 rfl 1 rfl ?_
  refine kf_iconst (v := 4) hx dX11_net_61 (by decide) ?_
  refine kf_icmp_ge hx 86 dX11_net_62 (by decide) (fun c => ?_) (fun c => ?_)
  · replace h := h.1 c
    refine kf_sub [0] rfl ?_
    exact hE60 _ h
  · replace h := h.2 c
    refine kf_aload_n hx dX11_net_65 rfl 0 rfl ?_
    refine kf_getR (n := 90) hx sl_72_37 fl_RX11_74 dX11_net_66 ?_
    refine kf_iload_n hx dX11_net_69 rfl 1 rfl ?_
    refine kf_iconst (v := 0) hx dX11_net_70 (by decide) ?_
    refine kf_zast hx ar_90 h.1 dX11_net_71 ?_
    replace h := h.2
    refine kf_nmI (fun I_11 eI_11 => ?_)
    replace h := h I_11 eI_11
    refine kf_aload_n hx dX11_net_72 rfl 0 rfl ?_
    refine kf_getR (n := 88) hx sl_72_35 fl_RX11_68 dX11_net_73 ?_
    refine kf_iload_n hx dX11_net_76 rfl 1 rfl ?_
    refine kf_bipush (v := 12) hx dX11_net_77 (by decide) ?_
    refine kf_iast hx ar_88 h.1 dX11_net_79 ?_
    replace h := h.2
    refine kf_nmI (fun I_12 eI_12 => ?_)
    replace h := h I_12 eI_12
    refine kf_iinc (w := (x2 + 1)) (lv' := [(2, .int (x2 + 1)), (0, .ref (g.2.2.2 72))]) hx dX11_net_80 1 rfl rfl (by decide) rfl ?_
    refine kf_goto hx 60 dX11_net_83 (by decide) ?_
    refine kf_sub [1, 0] rfl ?_
    exact hK60 _ _ h
theorem wl_X11_net_60 (g : kf_G) (hg : kf_g g) {x : kf_X} (hx : kf_ok g x RX11 cX11_net 3 5 113) (J : HJ) (Post : Int32 → HI → HJ → Prop) (hret : ∀ (pc : Nat) (lv : List (Nat × Value)) (v : Int32) (Iy : HI) (Jy : HJ), decode cX11_net pc = .ok (.ireturn, 1) → Post v Iy Jy → kf_M g x 3 pc lv [.int v] Iy Jy) (E60 : HI → Prop) (hE60 : ∀ (Iy : HI), E60 Iy → kf_M g x 3 86 [(0, .ref (g.2.2.2 72))] [] Iy J) : ∀ (n : Nat) (x2 : Int32) (I : HI), lp (wb_X11_net_60 J Post E60) n (x2, I) → kf_M g x 3 60 [(0, .ref (g.2.2.2 72)), (2, .int x2)] [] I J := by
  intro n
  induction n with
  | zero => intro x2 I h; exact h.elim
  | succ n ih => intro x2 I h; exact ws_X11_net_60 g hg hx J Post hret E60 hE60 (lp (wb_X11_net_60 J Post E60) n) ih x2 I h
def wb_X11_net_90  (Post : Int32 → HI → HJ → Prop) (E90 : HI → HJ → Prop) (K90 : (HI × HJ) → Prop) (s : HI × HJ) : Prop :=
  match s with
  | (I, J) => (¬ (I 72 12) = 0 → (E90 I J)) ∧ ((I 72 12) = 0 → (((I 72 14) = 0 → (E90 I J)) ∧ (¬ (I 72 14) = 0 → (w_X11_isPerson  I J (fun (r_16 : Bool) => ((r_16 = false → (w_X11_isTie  I J (fun (r_17 : Bool) => ((r_17 = false → (w_X11_isValley  I J (fun (r_18 : Bool) => ((r_18 = false → (w_X11_wrong  I J (fun (I_19 : HI) => (K90 (I_19, J))))) ∧ (r_18 = true → (w_X11_readValley  I J (fun (I_20 : HI) (J_21 : HJ) => (K90 (I_20, J_21))))))))) ∧ (r_17 = true → (w_X11_readTie  I J (fun (I_22 : HI) (J_23 : HJ) => (K90 (I_22, J_23))))))))) ∧ (r_16 = true → (w_X11_readPerson  I J (fun (I_24 : HI) (J_25 : HJ) => (K90 (I_24, J_25)))))))))))
set_option maxHeartbeats 4000000 in
set_option maxRecDepth 20000 in
theorem ws_X11_net_90 (g : kf_G) (hg : kf_g g) {x : kf_X} (hx : kf_ok g x RX11 cX11_net 3 5 113)  (Post : Int32 → HI → HJ → Prop) (hret : ∀ (pc : Nat) (lv : List (Nat × Value)) (v : Int32) (Iy : HI) (Jy : HJ), decode cX11_net pc = .ok (.ireturn, 1) → Post v Iy Jy → kf_M g x 3 pc lv [.int v] Iy Jy) (E90 : HI → HJ → Prop) (hE90 : ∀ (Iy : HI) (Jy : HJ), E90 Iy Jy → kf_M g x 3 153 [(0, .ref (g.2.2.2 72))] [] Iy Jy) (K90 : (HI × HJ) → Prop) (hK90 : ∀ (Iy : HI) (Jy : HJ), K90 (Iy, Jy) → kf_M g x 3 90 [(0, .ref (g.2.2.2 72))] [] Iy Jy) (I : HI) (J : HJ) (h : wb_X11_net_90  Post E90 K90 (I, J)) : kf_M g x 3 90 [(0, .ref (g.2.2.2 72))] [] I J := by
  unfold wb_X11_net_90 at h
  refine kf_aload_n hx dX11_net_90 rfl 0 rfl ?_
  refine kf_getI hx sl_72_12 fl_RX11_212 dX11_net_91 ?_
  refine kf_if_ne hx 153 dX11_net_94 (by decide) (fun c => ?_) (fun c => ?_)
  · replace h := h.1 c
    exact hE90 _ _ h
  · replace h := h.2 c
    refine kf_aload_n hx dX11_net_97 rfl 0 rfl ?_
    refine kf_getI hx sl_72_14 fl_RX11_151 dX11_net_98 ?_
    refine kf_if_eq hx 153 dX11_net_101 (by decide) (fun c => ?_) (fun c => ?_)
    · replace h := h.1 c
      exact hE90 _ _ h
    · replace h := h.2 c
      refine kf_aload_n hx dX11_net_104 rfl 0 rfl ?_
      refine kf_callVbP (st := []) hx (m_X11_isPerson g hg  I J _ h) lk_RX11_187 km_X11_isPerson ob_72 rfl (by decide) rfl (Nat.le_of_ble_eq_true rfl) dX11_net_105 (fun r_16 h => ?_)
      refine kf_ifB_eq hx 118 dX11_net_108 (by decide) (fun c => ?_) (fun c => ?_)
      · replace h := h.1 c
        refine kf_aload_n hx dX11_net_118 rfl 0 rfl ?_
        refine kf_callVbP (st := []) hx (m_X11_isTie g hg  I J _ h) lk_RX11_191 km_X11_isTie ob_72 rfl (by decide) rfl (Nat.le_of_ble_eq_true rfl) dX11_net_119 (fun r_17 h => ?_)
        refine kf_ifB_eq hx 132 dX11_net_122 (by decide) (fun c => ?_) (fun c => ?_)
        · replace h := h.1 c
          refine kf_aload_n hx dX11_net_132 rfl 0 rfl ?_
          refine kf_callVbP (st := []) hx (m_X11_isValley g hg  I J _ h) lk_RX11_200 km_X11_isValley ob_72 rfl (by decide) rfl (Nat.le_of_ble_eq_true rfl) dX11_net_133 (fun r_18 h => ?_)
          refine kf_ifB_eq hx 146 dX11_net_136 (by decide) (fun c => ?_) (fun c => ?_)
          · replace h := h.1 c
            refine kf_aload_n hx dX11_net_146 rfl 0 rfl ?_
            refine kf_callVvI (st := []) hx (m_X11_wrong g hg  I J _ h) lk_RX11_225 km_X11_wrong ob_72 rfl (by decide) rfl (Nat.le_of_ble_eq_true rfl) dX11_net_147 (fun I_19 h => ?_)
            refine kf_goto hx 90 dX11_net_150 (by decide) ?_
            exact hK90 _ _ h
          · replace h := h.2 c
            refine kf_aload_n hx dX11_net_139 rfl 0 rfl ?_
            refine kf_callVv (st := []) hx (m_X11_readValley g hg  I J _ h) lk_RX11_281 km_X11_readValley ob_72 rfl (by decide) rfl (Nat.le_of_ble_eq_true rfl) dX11_net_140 (fun I_20 J_21 h => ?_)
            refine kf_goto hx 90 dX11_net_143 (by decide) ?_
            exact hK90 _ _ h
        · replace h := h.2 c
          refine kf_aload_n hx dX11_net_125 rfl 0 rfl ?_
          refine kf_callVv (st := []) hx (m_X11_readTie g hg  I J _ h) lk_RX11_278 km_X11_readTie ob_72 rfl (by decide) rfl (Nat.le_of_ble_eq_true rfl) dX11_net_126 (fun I_22 J_23 h => ?_)
          refine kf_goto hx 90 dX11_net_129 (by decide) ?_
          exact hK90 _ _ h
      · replace h := h.2 c
        refine kf_aload_n hx dX11_net_111 rfl 0 rfl ?_
        refine kf_callVv (st := []) hx (m_X11_readPerson g hg  I J _ h) lk_RX11_275 km_X11_readPerson ob_72 rfl (by decide) rfl (Nat.le_of_ble_eq_true rfl) dX11_net_112 (fun I_24 J_25 h => ?_)
        refine kf_goto hx 90 dX11_net_115 (by decide) ?_
        exact hK90 _ _ h
theorem wl_X11_net_90 (g : kf_G) (hg : kf_g g) {x : kf_X} (hx : kf_ok g x RX11 cX11_net 3 5 113)  (Post : Int32 → HI → HJ → Prop) (hret : ∀ (pc : Nat) (lv : List (Nat × Value)) (v : Int32) (Iy : HI) (Jy : HJ), decode cX11_net pc = .ok (.ireturn, 1) → Post v Iy Jy → kf_M g x 3 pc lv [.int v] Iy Jy) (E90 : HI → HJ → Prop) (hE90 : ∀ (Iy : HI) (Jy : HJ), E90 Iy Jy → kf_M g x 3 153 [(0, .ref (g.2.2.2 72))] [] Iy Jy) : ∀ (n : Nat) (I : HI) (J : HJ), lp (wb_X11_net_90  Post E90) n (I, J) → kf_M g x 3 90 [(0, .ref (g.2.2.2 72))] [] I J := by
  intro n
  induction n with
  | zero => intro I J h; exact h.elim
  | succ n ih => intro I J h; exact ws_X11_net_90 g hg hx Post hret E90 hE90 (lp (wb_X11_net_90  Post E90) n) ih I J h
def wj_X11_net_177 (I : HI) (J : HJ) (t0 : Int32) (Post : Int32 → HI → HJ → Prop) : Prop :=
  ∀ I_29 : HI, I_29 = hI I 72 11 t0 → (((I_29 72 12) ≤ 0 → (w_X11_taken  I_29 J (fun (r_30 : Int32) (I_31 : HI) => (Post r_30 I_31 J)))) ∧ (¬ (I_29 72 12) ≤ 0 → (w_X11_refusedBy 10 I_29 J (fun (r_32 : Int32) (I_33 : HI) => (Post r_32 I_33 J)))))
set_option maxHeartbeats 4000000 in
set_option maxRecDepth 20000 in
theorem wk_X11_net_177 (g : kf_G) (hg : kf_g g) {x : kf_X} (hx : kf_ok g x RX11 cX11_net 3 5 113) (I : HI) (J : HJ) (t0 : Int32) (Post : Int32 → HI → HJ → Prop) (hret : ∀ (pc : Nat) (lv : List (Nat × Value)) (v : Int32) (Iy : HI) (Jy : HJ), decode cX11_net pc = .ok (.ireturn, 1) → Post v Iy Jy → kf_M g x 3 pc lv [.int v] Iy Jy) (h : wj_X11_net_177 I J t0 Post) : kf_M g x 3 177 [(0, .ref (g.2.2.2 72))] [.int t0, .ref (g.2.2.2 72)] I J := by
  unfold wj_X11_net_177 at h
  refine kf_putI hx sl_72_11 fl_RX11_32 fp_11_11 dX11_net_177 ?_
  refine kf_nmI (fun I_29 eI_29 => ?_)
  replace h := h I_29 eI_29
  refine kf_aload_n hx dX11_net_180 rfl 0 rfl ?_
  refine kf_getI hx sl_72_12 fl_RX11_212 dX11_net_181 ?_
  refine kf_if_le hx 196 dX11_net_184 (by decide) (fun c => ?_) (fun c => ?_)
  · replace h := h.1 c
    refine kf_aload_n hx dX11_net_196 rfl 0 rfl ?_
    refine kf_callViI (st := []) hx (m_X11_taken g hg  I_29 J _ h) lk_RX11_284 km_X11_taken ob_72 rfl (by decide) rfl (Nat.le_of_ble_eq_true rfl) dX11_net_197 (fun r_30 I_31 h => ?_)
    exact hret _ _ r_30 _ _ dX11_net_200 h
  · replace h := h.2 c
    refine kf_aload_n hx dX11_net_187 rfl 0 rfl ?_
    refine kf_bipush (v := 10) hx dX11_net_188 (by decide) ?_
    refine kf_callViI (st := []) hx (m_X11_refusedBy g hg 10 I_29 J _ h) lk_RX11_272 km_X11_refusedBy ob_72 rfl (by decide) rfl (Nat.le_of_ble_eq_true rfl) dX11_net_190 (fun r_32 I_33 h => ?_)
    refine kf_goto hx 200 dX11_net_193 (by decide) ?_
    exact hret _ _ r_32 _ _ dX11_net_200 h
def w_X11_net (x1 : Int32) (I : HI) (J : HJ) (Post : Int32 → HI → HJ → Prop) : Prop :=
  ∀ I_1 : HI, I_1 = hI I 72 1 0 → (∀ I_2 : HI, I_2 = hI I_1 72 0 0 → ((x1 < 0 → (wj_X11_net_22 I_2 J Post)) ∧ (¬ x1 < 0 → ((x1 ≤ (I_2 72 8) → (∀ I_5 : HI, I_5 = hI I_2 72 9 x1 → (∀ I_6 : HI, I_6 = hI I_5 72 8 0 → (∀ I_7 : HI, I_7 = hI I_6 72 16 0 → (∀ I_8 : HI, I_8 = hI I_7 72 12 0 → (∀ I_9 : HI, I_9 = hI I_8 72 22 0 → (∀ I_10 : HI, I_10 = hI I_9 72 23 0 → (∃ n, lp (wb_X11_net_60 J Post (fun (I_13 : HI) => w_X11_next  I_13 J (fun (I_14 : HI) (J_15 : HJ) => (∃ n, lp (wb_X11_net_90 Post (fun (I_26 : HI) (J_27 : HJ) => ∀ I_28 : HI, I_28 = hI I_26 72 10 (I_26 72 12) → ((¬ (I_28 72 12) = 0 → (wj_X11_net_177 I_28 J_27 (I_28 72 13) Post)) ∧ ((I_28 72 12) = 0 → (wj_X11_net_177 I_28 J_27 (-1) Post))))) n (I_14, J_15))))) n (0, I_10))))))))) ∧ (¬ x1 ≤ (I_2 72 8) → (wj_X11_net_22 I_2 J Post))))))
set_option maxHeartbeats 4000000 in
set_option maxRecDepth 20000 in
theorem we_X11_net (g : kf_G) (hg : kf_g g) {x : kf_X} (hx : kf_ok g x RX11 cX11_net 3 5 113) (x1 : Int32) (I : HI) (J : HJ) (Post : Int32 → HI → HJ → Prop) (hret : ∀ (pc : Nat) (lv : List (Nat × Value)) (v : Int32) (Iy : HI) (Jy : HJ), decode cX11_net pc = .ok (.ireturn, 1) → Post v Iy Jy → kf_M g x 3 pc lv [.int v] Iy Jy) (h : w_X11_net x1 I J Post) : kf_M g x 3 0 [(0, .ref (g.2.2.2 72)), (1, .int x1)] [] I J := by
  unfold w_X11_net at h
  refine kf_aload_n hx dX11_net_0 rfl 0 rfl ?_
  refine kf_iconst (v := 0) hx dX11_net_1 (by decide) ?_
  refine kf_putI hx sl_72_1 fl_RX11_106 fp_11_1 dX11_net_2 ?_
  refine kf_nmI (fun I_1 eI_1 => ?_)
  replace h := h I_1 eI_1
  refine kf_aload_n hx dX11_net_5 rfl 0 rfl ?_
  refine kf_iconst (v := 0) hx dX11_net_6 (by decide) ?_
  refine kf_putI hx sl_72_0 fl_RX11_109 fp_11_0 dX11_net_7 ?_
  refine kf_nmI (fun I_2 eI_2 => ?_)
  replace h := h I_2 eI_2
  refine kf_iload_n hx dX11_net_10 rfl 1 rfl ?_
  refine kf_if_lt hx 22 dX11_net_11 (by decide) (fun c => ?_) (fun c => ?_)
  · replace h := h.1 c
    refine kf_sub [0] rfl ?_
    exact wk_X11_net_22 g hg hx I_2 J  _ hret h
  · replace h := h.2 c
    refine kf_iload_n hx dX11_net_14 rfl 1 rfl ?_
    refine kf_aload_n hx dX11_net_15 rfl 0 rfl ?_
    refine kf_getI hx sl_72_8 fl_RX11_265 dX11_net_16 ?_
    refine kf_icmp_le hx 28 dX11_net_19 (by decide) (fun c => ?_) (fun c => ?_)
    · replace h := h.1 c
      refine kf_aload_n hx dX11_net_28 rfl 0 rfl ?_
      refine kf_iload_n hx dX11_net_29 rfl 1 rfl ?_
      refine kf_putI hx sl_72_9 fl_RX11_139 fp_11_9 dX11_net_30 ?_
      refine kf_nmI (fun I_5 eI_5 => ?_)
      replace h := h I_5 eI_5
      refine kf_aload_n hx dX11_net_33 rfl 0 rfl ?_
      refine kf_iconst (v := 0) hx dX11_net_34 (by decide) ?_
      refine kf_putI hx sl_72_8 fl_RX11_265 fp_11_8 dX11_net_35 ?_
      refine kf_nmI (fun I_6 eI_6 => ?_)
      replace h := h I_6 eI_6
      refine kf_aload_n hx dX11_net_38 rfl 0 rfl ?_
      refine kf_iconst (v := 0) hx dX11_net_39 (by decide) ?_
      refine kf_putI hx sl_72_16 fl_RX11_142 fp_11_16 dX11_net_40 ?_
      refine kf_nmI (fun I_7 eI_7 => ?_)
      replace h := h I_7 eI_7
      refine kf_aload_n hx dX11_net_43 rfl 0 rfl ?_
      refine kf_iconst (v := 0) hx dX11_net_44 (by decide) ?_
      refine kf_putI hx sl_72_12 fl_RX11_212 fp_11_12 dX11_net_45 ?_
      refine kf_nmI (fun I_8 eI_8 => ?_)
      replace h := h I_8 eI_8
      refine kf_aload_n hx dX11_net_48 rfl 0 rfl ?_
      refine kf_iconst (v := 0) hx dX11_net_49 (by decide) ?_
      refine kf_putI hx sl_72_22 fl_RX11_235 fp_11_22 dX11_net_50 ?_
      refine kf_nmI (fun I_9 eI_9 => ?_)
      replace h := h I_9 eI_9
      refine kf_aload_n hx dX11_net_53 rfl 0 rfl ?_
      refine kf_iconst (v := 0) hx dX11_net_54 (by decide) ?_
      refine kf_putI hx sl_72_23 fl_RX11_251 fp_11_23 dX11_net_55 ?_
      refine kf_nmI (fun I_10 eI_10 => ?_)
      replace h := h I_10 eI_10
      refine kf_iconst (v := 0) hx dX11_net_58 (by decide) ?_
      refine kf_istore_n (lv' := [(2, .int 0), (0, .ref (g.2.2.2 72)), (1, .int x1)]) hx dX11_net_59 rfl (by decide) rfl ?_
      obtain ⟨n, h⟩ := h
      refine kf_sub [1, 0] rfl ?_
      refine wl_X11_net_60 g hg hx J  _ hret _ (fun I_13 h => ?_) n _ _ h
      refine kf_aload_n hx dX11_net_86 rfl 0 rfl ?_
      refine kf_callVv (st := []) hx (m_X11_next g hg  I_13 J _ h) lk_RX11_222 km_X11_next ob_72 rfl (by decide) rfl (Nat.le_of_ble_eq_true rfl) dX11_net_87 (fun I_14 J_15 h => ?_)
      obtain ⟨n, h⟩ := h
      refine wl_X11_net_90 g hg hx   _ hret _ (fun I_26 J_27 h => ?_) n _ _ h
      refine kf_aload_n hx dX11_net_153 rfl 0 rfl ?_
      refine kf_aload_n hx dX11_net_154 rfl 0 rfl ?_
      refine kf_getI hx sl_72_12 fl_RX11_212 dX11_net_155 ?_
      refine kf_putI hx sl_72_10 fl_RX11_28 fp_11_10 dX11_net_158 ?_
      refine kf_nmI (fun I_28 eI_28 => ?_)
      replace h := h I_28 eI_28
      refine kf_aload_n hx dX11_net_161 rfl 0 rfl ?_
      refine kf_aload_n hx dX11_net_162 rfl 0 rfl ?_
      refine kf_getI hx sl_72_12 fl_RX11_212 dX11_net_163 ?_
      refine kf_if_ne hx 173 dX11_net_166 (by decide) (fun c => ?_) (fun c => ?_)
      · replace h := h.1 c
        refine kf_aload_n hx dX11_net_173 rfl 0 rfl ?_
        refine kf_getI hx sl_72_13 fl_RX11_215 dX11_net_174 ?_
        exact wk_X11_net_177 g hg hx I_28 J_27 (I_28 72 13) _ hret h
      · replace h := h.2 c
        refine kf_iconst (v := (-1)) hx dX11_net_169 (by decide) ?_
        refine kf_goto hx 177 dX11_net_170 (by decide) ?_
        exact wk_X11_net_177 g hg hx I_28 J_27 (-1) _ hret h
    · replace h := h.2 c
      refine kf_sub [0] rfl ?_
      exact wk_X11_net_22 g hg hx I_2 J  _ hret h
set_option maxHeartbeats 4000000 in
set_option maxRecDepth 20000 in
theorem m_X11_net (g : kf_G) (hg : kf_g g) (x1 : Int32) (I : HI) (J : HJ) (Post : Int32 → HI → HJ → Prop) (h : w_X11_net x1 I J Post) : kf_Mi g yX11_net (kf_W yX11_net cX11_net 3 (Option.some Jvm.ClassFile.FieldType.int)) 5 113 [.ref (g.2.2.2 72), .int x1] I J Post :=
  kf_enti hg (by decide) (Nat.le_of_ble_eq_true rfl) rfl (fun x hx hr => we_X11_net g hg hx x1 I J Post (fun pc lv v I' J' hd hP => hr pc lv v I' J' hd hP) h)
