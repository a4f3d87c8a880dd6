theorem dX10_fight_0 : decode cX10_fight 0 = .ok (.iload_n 3, 1) := by decide +kernel
theorem dX10_fight_1 : decode cX10_fight 1 = .ok (.iconst 0, 1) := by decide +kernel
theorem dX10_fight_2 : decode cX10_fight 2 = .ok (.bipush 20, 2) := by decide +kernel
theorem dX10_fight_4 : decode cX10_fight 4 = .ok (.invokestatic 188, 3) := by decide +kernel
theorem dX10_fight_7 : decode cX10_fight 7 = .ok (.ifCond .eq 17, 3) := by decide +kernel
theorem dX10_fight_10 : decode cX10_fight 10 = .ok (.iload 4, 2) := by decide +kernel
theorem dX10_fight_12 : decode cX10_fight 12 = .ok (.iconst 0, 1) := by decide +kernel
theorem dX10_fight_13 : decode cX10_fight 13 = .ok (.iconst 1, 1) := by decide +kernel
theorem dX10_fight_14 : decode cX10_fight 14 = .ok (.invokestatic 188, 3) := by decide +kernel
theorem dX10_fight_17 : decode cX10_fight 17 = .ok (.ifCond .eq 7, 3) := by decide +kernel
theorem dX10_fight_20 : decode cX10_fight 20 = .ok (.iconst 1, 1) := by decide +kernel
theorem dX10_fight_21 : decode cX10_fight 21 = .ok (.goto 4, 3) := by decide +kernel
theorem dX10_fight_24 : decode cX10_fight 24 = .ok (.iconst 0, 1) := by decide +kernel
theorem dX10_fight_25 : decode cX10_fight 25 = .ok (.istore 5, 2) := by decide +kernel
theorem dX10_fight_27 : decode cX10_fight 27 = .ok (.aload_n 0, 1) := by decide +kernel
theorem dX10_fight_28 : decode cX10_fight 28 = .ok (.aload_n 0, 1) := by decide +kernel
theorem dX10_fight_29 : decode cX10_fight 29 = .ok (.getfield 29, 3) := by decide +kernel
theorem dX10_fight_32 : decode cX10_fight 32 = .ok (.iload_n 1, 1) := by decide +kernel
theorem dX10_fight_33 : decode cX10_fight 33 = .ok (.invokevirtual 242, 3) := by decide +kernel
theorem dX10_fight_36 : decode cX10_fight 36 = .ok (.ifCond .eq 18, 3) := by decide +kernel
theorem dX10_fight_39 : decode cX10_fight 39 = .ok (.aload_n 0, 1) := by decide +kernel
theorem dX10_fight_40 : decode cX10_fight 40 = .ok (.getfield 29, 3) := by decide +kernel
theorem dX10_fight_43 : decode cX10_fight 43 = .ok (.iload_n 2, 1) := by decide +kernel
theorem dX10_fight_44 : decode cX10_fight 44 = .ok (.invokevirtual 242, 3) := by decide +kernel
theorem dX10_fight_47 : decode cX10_fight 47 = .ok (.ifCond .eq 7, 3) := by decide +kernel
theorem dX10_fight_50 : decode cX10_fight 50 = .ok (.iconst 1, 1) := by decide +kernel
theorem dX10_fight_51 : decode cX10_fight 51 = .ok (.goto 4, 3) := by decide +kernel
theorem dX10_fight_54 : decode cX10_fight 54 = .ok (.iconst 0, 1) := by decide +kernel
theorem dX10_fight_55 : decode cX10_fight 55 = .ok (.iload 5, 2) := by decide +kernel
theorem dX10_fight_57 : decode cX10_fight 57 = .ok (.invokestatic 198, 3) := by decide +kernel
theorem dX10_fight_60 : decode cX10_fight 60 = .ok (.invokevirtual 115, 3) := by decide +kernel
theorem dX10_fight_63 : decode cX10_fight 63 = .ok (.ifCond .eq 5, 3) := by decide +kernel
theorem dX10_fight_66 : decode cX10_fight 66 = .ok (.iconst 0, 1) := by decide +kernel
theorem dX10_fight_67 : decode cX10_fight 67 = .ok (.ireturn, 1) := by decide +kernel
theorem dX10_fight_68 : decode cX10_fight 68 = .ok (.aload_n 0, 1) := by decide +kernel
theorem dX10_fight_69 : decode cX10_fight 69 = .ok (.getfield 22, 3) := by decide +kernel
theorem dX10_fight_72 : decode cX10_fight 72 = .ok (.aload_n 0, 1) := by decide +kernel
theorem dX10_fight_73 : decode cX10_fight 73 = .ok (.getfield 82, 3) := by decide +kernel
theorem dX10_fight_76 : decode cX10_fight 76 = .ok (.iload_n 1, 1) := by decide +kernel
theorem dX10_fight_77 : decode cX10_fight 77 = .ok (.iload_n 2, 1) := by decide +kernel
theorem dX10_fight_78 : decode cX10_fight 78 = .ok (.iload_n 3, 1) := by decide +kernel
theorem dX10_fight_79 : decode cX10_fight 79 = .ok (.iload 4, 2) := by decide +kernel
theorem dX10_fight_81 : decode cX10_fight 81 = .ok (.ifCond .ne 7, 3) := by decide +kernel
theorem dX10_fight_84 : decode cX10_fight 84 = .ok (.iconst 1, 1) := by decide +kernel
theorem dX10_fight_85 : decode cX10_fight 85 = .ok (.goto 4, 3) := by decide +kernel
theorem dX10_fight_88 : decode cX10_fight 88 = .ok (.iconst 0, 1) := by decide +kernel
theorem dX10_fight_89 : decode cX10_fight 89 = .ok (.invokevirtual 294, 3) := by decide +kernel
theorem dX10_fight_92 : decode cX10_fight 92 = .ok (.aload_n 0, 1) := by decide +kernel
theorem dX10_fight_93 : decode cX10_fight 93 = .ok (.getfield 50, 3) := by decide +kernel
theorem dX10_fight_96 : decode cX10_fight 96 = .ok (.invokevirtual 255, 3) := by decide +kernel
theorem dX10_fight_99 : decode cX10_fight 99 = .ok (.invokevirtual 259, 3) := by decide +kernel
theorem dX10_fight_102 : decode cX10_fight 102 = .ok (.iconst 1, 1) := by decide +kernel
theorem dX10_fight_103 : decode cX10_fight 103 = .ok (.ireturn, 1) := by decide +kernel
def wj_X10_fight_89 (I : HI) (J : HJ) (t0 : Int32) (t1 : Int32) (t2 : Int32) (t3 : Int32) (Post : Bool → HI → HJ → Prop) : Prop :=
  w_X3_fought t3 t2 t1 t0 I J (fun (r_6 : Int64) (I_7 : HI) => (w_X2_whole  I_7 J (fun (r_8 : Int64) => (w_X1_become r_6 r_8 I_7 J (fun (J_9 : HJ) => (Post true I_7 J_9))))))
set_option maxHeartbeats 4000000 in
set_option maxRecDepth 20000 in
theorem wk_X10_fight_89 (g : kf_G) (hg : kf_g g) {x : kf_X} (hx : kf_ok g x RX10 cX10_fight 6 5 120) (I : HI) (J : HJ) (t0 : Int32) (t1 : Int32) (t2 : Int32) (t3 : Int32) (Post : Bool → HI → HJ → Prop) (hret : ∀ (pc : Nat) (lv : List (Nat × Value)) (v : Bool) (Iy : HI) (Jy : HJ), decode cX10_fight pc = .ok (.ireturn, 1) → Post v Iy Jy → kf_M g x 6 pc lv [.int (kb v)] Iy Jy) (h : wj_X10_fight_89 I J t0 t1 t2 t3 Post) : kf_M g x 6 89 [(0, .ref (g.2.2.2 0))] [.int t0, .int t1, .int t2, .int t3, .ref (g.2.2.2 52), .ref (g.2.2.2 11)] I J := by
  unfold wj_X10_fight_89 at h
  refine kf_callVlI (st := [.ref (g.2.2.2 11)]) hx (m_X3_fought g hg t3 t2 t1 t0 I J _ h) lk_RX10_294 km_X3_fought ob_52 rfl (by decide) rfl (Nat.le_of_ble_eq_true rfl) dX10_fight_89 (fun r_6 I_7 h => ?_)
  refine kf_aload_n hx dX10_fight_92 rfl 0 rfl ?_
  refine kf_getR (n := 39) hx sl_0_6 fl_RX10_50 dX10_fight_93 ?_
  refine kf_callVlP (st := [.long r_6, .ref (g.2.2.2 11)]) hx (m_X2_whole g hg  I_7 J _ h) lk_RX10_255 km_X2_whole ob_39 rfl (by decide) rfl (Nat.le_of_ble_eq_true rfl) dX10_fight_96 (fun r_8 h => ?_)
  refine kf_callVvJ (st := []) hx (m_X1_become g hg r_6 r_8 I_7 J _ h) lk_RX10_259 km_X1_become ob_11 rfl (by decide) rfl (Nat.le_of_ble_eq_true rfl) dX10_fight_99 (fun J_9 h => ?_)
  refine kf_iconst (v := 1) hx dX10_fight_102 (by decide) ?_
  exact hret _ _ true _ _ dX10_fight_103 h
def wj_X10_fight_55 (I : HI) (J : HJ) (x1 : Int32) (x2 : Int32) (x3 : Int32) (x4 : Int32) (x5 : Int32) (t0 : Int32) (Post : Bool → HI → HJ → Prop) : Prop :=
  w_X10_oneOf t0 x5 (fun (r_3 : Int32) => (w_X10_fails r_3 I J (fun (r_4 : Bool) (I_5 : HI) => ((r_4 = false → ((¬ x4 = 0 → (wj_X10_fight_89 I_5 J 0 x3 x2 x1 Post)) ∧ (x4 = 0 → (wj_X10_fight_89 I_5 J 1 x3 x2 x1 Post)))) ∧ (r_4 = true → (Post false I_5 J))))))
set_option maxHeartbeats 4000000 in
set_option maxRecDepth 20000 in
theorem wk_X10_fight_55 (g : kf_G) (hg : kf_g g) {x : kf_X} (hx : kf_ok g x RX10 cX10_fight 6 5 120) (I : HI) (J : HJ) (x1 : Int32) (x2 : Int32) (x3 : Int32) (x4 : Int32) (x5 : Int32) (t0 : Int32) (Post : Bool → HI → HJ → Prop) (hret : ∀ (pc : Nat) (lv : List (Nat × Value)) (v : Bool) (Iy : HI) (Jy : HJ), decode cX10_fight pc = .ok (.ireturn, 1) → Post v Iy Jy → kf_M g x 6 pc lv [.int (kb v)] Iy Jy) (h : wj_X10_fight_55 I J x1 x2 x3 x4 x5 t0 Post) : kf_M g x 6 55 [(0, .ref (g.2.2.2 0)), (1, .int x1), (2, .int x2), (3, .int x3), (4, .int x4), (5, .int x5)] [.int t0, .ref (g.2.2.2 0)] I J := by
  unfold wj_X10_fight_55 at h
  refine kf_iload hx dX10_fight_55 5 rfl ?_
  refine kf_callSiP (st := [.ref (g.2.2.2 0)]) hx (m_X10_oneOf g hg t0 x5 I J _ h) lk_RX10_198 km_X10_oneOf rfl (by decide) rfl (Nat.le_of_ble_eq_true rfl) dX10_fight_57 (fun r_3 h => ?_)
  refine kf_callVbI (st := []) hx (m_X10_fails g hg r_3 I J _ h) lk_RX10_115 km_X10_fails ob_0 rfl (by decide) rfl (Nat.le_of_ble_eq_true rfl) dX10_fight_60 (fun r_4 I_5 h => ?_)
  refine kf_ifB_eq hx 68 dX10_fight_63 (by decide) (fun c => ?_) (fun c => ?_)
  · replace h := h.1 c
    refine kf_aload_n hx dX10_fight_68 rfl 0 rfl ?_
    refine kf_getR (n := 11) hx sl_0_2 fl_RX10_22 dX10_fight_69 ?_
    refine kf_aload_n hx dX10_fight_72 rfl 0 rfl ?_
    refine kf_getR (n := 52) hx sl_0_10 fl_RX10_82 dX10_fight_73 ?_
    refine kf_iload_n hx dX10_fight_76 rfl 1 rfl ?_
    refine kf_iload_n hx dX10_fight_77 rfl 2 rfl ?_
    refine kf_iload_n hx dX10_fight_78 rfl 3 rfl ?_
    refine kf_iload hx dX10_fight_79 4 rfl ?_
    refine kf_if_ne hx 88 dX10_fight_81 (by decide) (fun c => ?_) (fun c => ?_)
    · replace h := h.1 c
      refine kf_iconst (v := 0) hx dX10_fight_88 (by decide) ?_
      refine kf_sub [0] rfl ?_
      exact wk_X10_fight_89 g hg hx I_5 J 0 x3 x2 x1 _ hret h
    · replace h := h.2 c
      refine kf_iconst (v := 1) hx dX10_fight_84 (by decide) ?_
      refine kf_goto hx 89 dX10_fight_85 (by decide) ?_
      refine kf_sub [0] rfl ?_
      exact wk_X10_fight_89 g hg hx I_5 J 1 x3 x2 x1 _ hret h
  · replace h := h.2 c
    refine kf_iconst (v := 0) hx dX10_fight_66 (by decide) ?_
    exact hret _ _ false _ _ dX10_fight_67 h
def wj_X10_fight_54 (I : HI) (J : HJ) (x1 : Int32) (x2 : Int32) (x3 : Int32) (x4 : Int32) (x5 : Int32) (Post : Bool → HI → HJ → Prop) : Prop :=
  wj_X10_fight_55 I J x1 x2 x3 x4 x5 0 Post
set_option maxHeartbeats 4000000 in
set_option maxRecDepth 20000 in
theorem wk_X10_fight_54 (g : kf_G) (hg : kf_g g) {x : kf_X} (hx : kf_ok g x RX10 cX10_fight 6 5 120) (I : HI) (J : HJ) (x1 : Int32) (x2 : Int32) (x3 : Int32) (x4 : Int32) (x5 : Int32) (Post : Bool → HI → HJ → Prop) (hret : ∀ (pc : Nat) (lv : List (Nat × Value)) (v : Bool) (Iy : HI) (Jy : HJ), decode cX10_fight pc = .ok (.ireturn, 1) → Post v Iy Jy → kf_M g x 6 pc lv [.int (kb v)] Iy Jy) (h : wj_X10_fight_54 I J x1 x2 x3 x4 x5 Post) : kf_M g x 6 54 [(0, .ref (g.2.2.2 0)), (1, .int x1), (2, .int x2), (3, .int x3), (4, .int x4), (5, .int x5)] [.ref (g.2.2.2 0)] I J := by
  unfold wj_X10_fight_54 at h
  refine kf_iconst (v := 0) hx dX10_fight_54 (by decide) ?_
  exact wk_X10_fight_55 g hg hx I J x1 x2 x3 x4 x5 0 _ hret h
def wj_X10_fight_25 (I : HI) (J : HJ) (x1 : Int32) (x2 : Int32) (x3 : Int32) (x4 : Int32) (t0 : Int32) (Post : Bool → HI → HJ → Prop) : Prop :=
  w_X4_arePeople x1 I J (fun (r_2 : Bool) => ((r_2 = false → (wj_X10_fight_54 I J x1 x2 x3 x4 t0 Post)) ∧ (r_2 = true → (w_X4_arePeople x2 I J (fun (r_10 : Bool) => ((r_10 = false → (wj_X10_fight_54 I J x1 x2 x3 x4 t0 Post)) ∧ (r_10 = true → (wj_X10_fight_55 I J x1 x2 x3 x4 t0 1 Post))))))))
set_option maxHeartbeats 4000000 in
set_option maxRecDepth 20000 in
theorem wk_X10_fight_25 (g : kf_G) (hg : kf_g g) {x : kf_X} (hx : kf_ok g x RX10 cX10_fight 6 5 120) (I : HI) (J : HJ) (x1 : Int32) (x2 : Int32) (x3 : Int32) (x4 : Int32) (t0 : Int32) (Post : Bool → HI → HJ → Prop) (hret : ∀ (pc : Nat) (lv : List (Nat × Value)) (v : Bool) (Iy : HI) (Jy : HJ), decode cX10_fight pc = .ok (.ireturn, 1) → Post v Iy Jy → kf_M g x 6 pc lv [.int (kb v)] Iy Jy) (h : wj_X10_fight_25 I J x1 x2 x3 x4 t0 Post) : kf_M g x 6 25 [(0, .ref (g.2.2.2 0)), (1, .int x1), (2, .int x2), (3, .int x3), (4, .int x4)] [.int t0] I J := by
  unfold wj_X10_fight_25 at h
  refine kf_istore (lv' := [(5, .int t0), (0, .ref (g.2.2.2 0)), (1, .int x1), (2, .int x2), (3, .int x3), (4, .int x4)]) hx dX10_fight_25 (by decide) rfl ?_
  refine kf_aload_n hx dX10_fight_27 rfl 1 rfl ?_
  refine kf_aload_n hx dX10_fight_28 rfl 1 rfl ?_
  refine kf_getR (n := 12) hx sl_0_3 fl_RX10_29 dX10_fight_29 ?_
  refine kf_iload_n hx dX10_fight_32 rfl 2 rfl ?_
  refine kf_callVbP (st := [.ref (g.2.2.2 0)]) hx (m_X4_arePeople g hg x1 I J _ h) lk_RX10_242 km_X4_arePeople ob_12 rfl (by decide) rfl (Nat.le_of_ble_eq_true rfl) dX10_fight_33 (fun r_2 h => ?_)
  refine kf_ifB_eq hx 54 dX10_fight_36 (by decide) (fun c => ?_) (fun c => ?_)
  · replace h := h.1 c
    refine kf_sub [1, 2, 3, 4, 5, 0] rfl ?_
    exact wk_X10_fight_54 g hg hx I J x1 x2 x3 x4 t0 _ hret h
  · replace h := h.2 c
    refine kf_aload_n hx dX10_fight_39 rfl 1 rfl ?_
    refine kf_getR (n := 12) hx sl_0_3 fl_RX10_29 dX10_fight_40 ?_
    refine kf_iload_n hx dX10_fight_43 rfl 3 rfl ?_
    refine kf_callVbP (st := [.ref (g.2.2.2 0)]) hx (m_X4_arePeople g hg x2 I J _ h) lk_RX10_242 km_X4_arePeople ob_12 rfl (by decide) rfl (Nat.le_of_ble_eq_true rfl) dX10_fight_44 (fun r_10 h => ?_)
    refine kf_ifB_eq hx 54 dX10_fight_47 (by decide) (fun c => ?_) (fun c => ?_)
    · replace h := h.1 c
      refine kf_sub [1, 2, 3, 4, 5, 0] rfl ?_
      exact wk_X10_fight_54 g hg hx I J x1 x2 x3 x4 t0 _ hret h
    · replace h := h.2 c
      refine kf_iconst (v := 1) hx dX10_fight_50 (by decide) ?_
      refine kf_goto hx 55 dX10_fight_51 (by decide) ?_
      refine kf_sub [1, 2, 3, 4, 5, 0] rfl ?_
      exact wk_X10_fight_55 g hg hx I J x1 x2 x3 x4 t0 1 _ hret h
def wj_X10_fight_24 (I : HI) (J : HJ) (x1 : Int32) (x2 : Int32) (x3 : Int32) (x4 : Int32) (Post : Bool → HI → HJ → Prop) : Prop :=
  wj_X10_fight_25 I J x1 x2 x3 x4 0 Post
set_option maxHeartbeats 4000000 in
set_option maxRecDepth 20000 in
theorem wk_X10_fight_24 (g : kf_G) (hg : kf_g g) {x : kf_X} (hx : kf_ok g x RX10 cX10_fight 6 5 120) (I : HI) (J : HJ) (x1 : Int32) (x2 : Int32) (x3 : Int32) (x4 : Int32) (Post : Bool → HI → HJ → Prop) (hret : ∀ (pc : Nat) (lv : List (Nat × Value)) (v : Bool) (Iy : HI) (Jy : HJ), decode cX10_fight pc = .ok (.ireturn, 1) → Post v Iy Jy → kf_M g x 6 pc lv [.int (kb v)] Iy Jy) (h : wj_X10_fight_24 I J x1 x2 x3 x4 Post) : kf_M g x 6 24 [(0, .ref (g.2.2.2 0)), (1, .int x1), (2, .int x2), (3, .int x3), (4, .int x4)] [] I J := by
  unfold wj_X10_fight_24 at h
  refine kf_iconst (v := 0) hx dX10_fight_24 (by decide) ?_
  exact wk_X10_fight_25 g hg hx I J x1 x2 x3 x4 0 _ hret h
def w_X10_fight (x1 : Int32) (x2 : Int32) (x3 : Int32) (x4 : Int32) (I : HI) (J : HJ) (Post : Bool → HI → HJ → Prop) : Prop :=
  w_X10_isBetween x3 0 20 (fun (r_1 : Bool) => ((r_1 = false → (wj_X10_fight_24 I J x1 x2 x3 x4 Post)) ∧ (r_1 = true → (w_X10_isBetween x4 0 1 (fun (r_11 : Bool) => ((r_11 = false → (wj_X10_fight_24 I J x1 x2 x3 x4 Post)) ∧ (r_11 = true → (wj_X10_fight_25 I J x1 x2 x3 x4 1 Post))))))))
set_option maxHeartbeats 4000000 in
set_option maxRecDepth 20000 in
theorem we_X10_fight (g : kf_G) (hg : kf_g g) {x : kf_X} (hx : kf_ok g x RX10 cX10_fight 6 5 120) (x1 : Int32) (x2 : Int32) (x3 : Int32) (x4 : Int32) (I : HI) (J : HJ) (Post : Bool → HI → HJ → Prop) (hret : ∀ (pc : Nat) (lv : List (Nat × Value)) (v : Bool) (Iy : HI) (Jy : HJ), decode cX10_fight pc = .ok (.ireturn, 1) → Post v Iy Jy → kf_M g x 6 pc lv [.int (kb v)] Iy Jy) (h : w_X10_fight x1 x2 x3 x4 I J Post) : kf_M g x 6 0 [(0, .ref (g.2.2.2 0)), (1, .int x1), (2, .int x2), (3, .int x3), (4, .int x4)] [] I J := by
  unfold w_X10_fight at h
  refine kf_iload_n hx dX10_fight_0 rfl 3 rfl ?_
  refine kf_iconst (v := 0) hx dX10_fight_1 (by decide) ?_
  refine kf_bipush (v := 20) hx dX10_fight_2 (by decide) ?_
  refine kf_callSbP (st := []) hx (m_X10_isBetween g hg x3 0 20 I J _ h) lk_RX10_188 km_X10_isBetween rfl (by decide) rfl (Nat.le_of_ble_eq_true rfl) dX10_fight_4 (fun r_1 h => ?_)
  refine kf_ifB_eq hx 24 dX10_fight_7 (by decide) (fun c => ?_) (fun c => ?_)
  · replace h := h.1 c
    exact wk_X10_fight_24 g hg hx I J x1 x2 x3 x4 _ hret h
  · replace h := h.2 c
    refine kf_iload hx dX10_fight_10 4 rfl ?_
    refine kf_iconst (v := 0) hx dX10_fight_12 (by decide) ?_
    refine kf_iconst (v := 1) hx dX10_fight_13 (by decide) ?_
    refine kf_callSbP (st := []) hx (m_X10_isBetween g hg x4 0 1 I J _ h) lk_RX10_188 km_X10_isBetween rfl (by decide) rfl (Nat.le_of_ble_eq_true rfl) dX10_fight_14 (fun r_11 h => ?_)
    refine kf_ifB_eq hx 24 dX10_fight_17 (by decide) (fun c => ?_) (fun c => ?_)
    · replace h := h.1 c
      exact wk_X10_fight_24 g hg hx I J x1 x2 x3 x4 _ hret h
    · replace h := h.2 c
      refine kf_iconst (v := 1) hx dX10_fight_20 (by decide) ?_
      refine kf_goto hx 25 dX10_fight_21 (by decide) ?_
      exact wk_X10_fight_25 g hg hx I J x1 x2 x3 x4 1 _ hret h
set_option maxHeartbeats 4000000 in
set_option maxRecDepth 20000 in
theorem m_X10_fight (g : kf_G) (hg : kf_g g) (x1 : Int32) (x2 : Int32) (x3 : Int32) (x4 : Int32) (I : HI) (J : HJ) (Post : Bool → HI → HJ → Prop) (h : w_X10_fight x1 x2 x3 x4 I J Post) : kf_Mb g yX10_fight (kf_W yX10_fight cX10_fight 6 (Option.some Jvm.ClassFile.FieldType.boolean)) 5 120 [.ref (g.2.2.2 0), .int x1, .int x2, .int x3, .int x4] I J Post :=
  kf_entb hg (by decide) (Nat.le_of_ble_eq_true rfl) rfl (fun x hx hr => we_X10_fight g hg hx x1 x2 x3 x4 I J Post (fun pc lv v I' J' hd hP => hr pc lv v I' J' hd hP) h)
theorem dX10_answer_0 : decode cX10_answer 0 = .ok (.iconst 2, 1) := by decide +kernel
theorem dX10_answer_1 : decode cX10_answer 1 = .ok (.istore_n 3, 1) := by decide +kernel
theorem dX10_answer_2 : decode cX10_answer 2 = .ok (.aload_n 0, 1) := by decide +kernel
theorem dX10_answer_3 : decode cX10_answer 3 = .ok (.getfield 29, 3) := by decide +kernel
theorem dX10_answer_6 : decode cX10_answer 6 = .ok (.iload_n 1, 1) := by decide +kernel
theorem dX10_answer_7 : decode cX10_answer 7 = .ok (.invokevirtual 242, 3) := by decide +kernel
theorem dX10_answer_10 : decode cX10_answer 10 = .ok (.ifCond .eq 15, 3) := by decide +kernel
theorem dX10_answer_13 : decode cX10_answer 13 = .ok (.aload_n 0, 1) := by decide +kernel
theorem dX10_answer_14 : decode cX10_answer 14 = .ok (.iload_n 2, 1) := by decide +kernel
theorem dX10_answer_15 : decode cX10_answer 15 = .ok (.iconst 0, 1) := by decide +kernel
theorem dX10_answer_16 : decode cX10_answer 16 = .ok (.bipush 20, 2) := by decide +kernel
theorem dX10_answer_18 : decode cX10_answer 18 = .ok (.invokestatic 188, 3) := by decide +kernel
theorem dX10_answer_21 : decode cX10_answer 21 = .ok (.invokevirtual 277, 3) := by decide +kernel
theorem dX10_answer_24 : decode cX10_answer 24 = .ok (.istore_n 3, 1) := by decide +kernel
theorem dX10_answer_25 : decode cX10_answer 25 = .ok (.aload_n 0, 1) := by decide +kernel
theorem dX10_answer_26 : decode cX10_answer 26 = .ok (.iload_n 3, 1) := by decide +kernel
theorem dX10_answer_27 : decode cX10_answer 27 = .ok (.invokevirtual 115, 3) := by decide +kernel
theorem dX10_answer_30 : decode cX10_answer 30 = .ok (.ifCond .eq 5, 3) := by decide +kernel
theorem dX10_answer_33 : decode cX10_answer 33 = .ok (.iconst (-1), 1) := by decide +kernel
theorem dX10_answer_34 : decode cX10_answer 34 = .ok (.ireturn, 1) := by decide +kernel
theorem dX10_answer_35 : decode cX10_answer 35 = .ok (.aload_n 0, 1) := by decide +kernel
theorem dX10_answer_36 : decode cX10_answer 36 = .ok (.getfield 82, 3) := by decide +kernel
theorem dX10_answer_39 : decode cX10_answer 39 = .ok (.iload_n 1, 1) := by decide +kernel
theorem dX10_answer_40 : decode cX10_answer 40 = .ok (.iload_n 2, 1) := by decide +kernel
theorem dX10_answer_41 : decode cX10_answer 41 = .ok (.invokevirtual 298, 3) := by decide +kernel
theorem dX10_answer_44 : decode cX10_answer 44 = .ok (.istore 4, 2) := by decide +kernel
theorem dX10_answer_46 : decode cX10_answer 46 = .ok (.aload_n 0, 1) := by decide +kernel
theorem dX10_answer_47 : decode cX10_answer 47 = .ok (.getfield 22, 3) := by decide +kernel
theorem dX10_answer_50 : decode cX10_answer 50 = .ok (.aload_n 0, 1) := by decide +kernel
theorem dX10_answer_51 : decode cX10_answer 51 = .ok (.getfield 82, 3) := by decide +kernel
theorem dX10_answer_54 : decode cX10_answer 54 = .ok (.getfield 301, 3) := by decide +kernel
theorem dX10_answer_57 : decode cX10_answer 57 = .ok (.aload_n 0, 1) := by decide +kernel
theorem dX10_answer_58 : decode cX10_answer 58 = .ok (.getfield 50, 3) := by decide +kernel
theorem dX10_answer_61 : decode cX10_answer 61 = .ok (.invokevirtual 255, 3) := by decide +kernel
theorem dX10_answer_64 : decode cX10_answer 64 = .ok (.invokevirtual 259, 3) := by decide +kernel
theorem dX10_answer_67 : decode cX10_answer 67 = .ok (.iload 4, 2) := by decide +kernel
theorem dX10_answer_69 : decode cX10_answer 69 = .ok (.ireturn, 1) := by decide +kernel
def wj_X10_answer_25 (I : HI) (J : HJ) (x1 : Int32) (x2 : Int32) (x3 : Int32) (Post : Int32 → HI → HJ → Prop) : Prop :=
  w_X10_fails x3 I J (fun (r_2 : Bool) (I_3 : HI) => ((r_2 = false → (w_X3_bestAnswer x1 x2 I_3 J (fun (r_4 : Int32) (I_5 : HI) (J_6 : HJ) => (w_X2_whole  I_5 J_6 (fun (r_7 : Int64) => (w_X1_become (J_6 52 4) r_7 I_5 J_6 (fun (J_8 : HJ) => (Post r_4 I_5 J_8)))))))) ∧ (r_2 = true → (Post (-1) I_3 J))))
set_option maxHeartbeats 4000000 in
set_option maxRecDepth 20000 in
theorem wk_X10_answer_25 (g : kf_G) (hg : kf_g g) {x : kf_X} (hx : kf_ok g x RX10 cX10_answer 5 6 146) (I : HI) (J : HJ) (x1 : Int32) (x2 : Int32) (x3 : Int32) (Post : Int32 → HI → HJ → Prop) (hret : ∀ (pc : Nat) (lv : List (Nat × Value)) (v : Int32) (Iy : HI) (Jy : HJ), decode cX10_answer pc = .ok (.ireturn, 1) → Post v Iy Jy → kf_M g x 5 pc lv [.int v] Iy Jy) (h : wj_X10_answer_25 I J x1 x2 x3 Post) : kf_M g x 5 25 [(0, .ref (g.2.2.2 0)), (1, .int x1), (2, .int x2), (3, .int x3)] [] I J := by
  unfold wj_X10_answer_25 at h
  refine kf_aload_n hx dX10_answer_25 rfl 0 rfl ?_
  refine kf_iload_n hx dX10_answer_26 rfl 3 rfl ?_
  refine kf_callVbI (st := []) hx (m_X10_fails g hg x3 I J _ h) lk_RX10_115 km_X10_fails ob_0 rfl (by decide) rfl (Nat.le_of_ble_eq_true rfl) dX10_answer_27 (fun r_2 I_3 h => ?_)
  refine kf_ifB_eq hx 35 dX10_answer_30 (by decide) (fun c => ?_) (fun c => ?_)
  · replace h := h.1 c
    refine kf_aload_n hx dX10_answer_35 rfl 0 rfl ?_
    refine kf_getR (n := 52) hx sl_0_10 fl_RX10_82 dX10_answer_36 ?_
    refine kf_iload_n hx dX10_answer_39 rfl 1 rfl ?_
    refine kf_iload_n hx dX10_answer_40 rfl 2 rfl ?_
    refine kf_callVi (st := []) hx (m_X3_bestAnswer g hg x1 x2 I_3 J _ h) lk_RX10_298 km_X3_bestAnswer ob_52 rfl (by decide) rfl (Nat.le_of_ble_eq_true rfl) dX10_answer_41 (fun r_4 I_5 J_6 h => ?_)
    refine kf_istore (lv' := [(4, .int r_4), (0, .ref (g.2.2.2 0)), (1, .int x1), (2, .int x2), (3, .int x3)]) hx dX10_answer_44 (by decide) rfl ?_
    refine kf_aload_n hx dX10_answer_46 rfl 1 rfl ?_
    refine kf_getR (n := 11) hx sl_0_2 fl_RX10_22 dX10_answer_47 ?_
    refine kf_aload_n hx dX10_answer_50 rfl 1 rfl ?_
    refine kf_getR (n := 52) hx sl_0_10 fl_RX10_82 dX10_answer_51 ?_
    refine kf_getJ hx sl_52_4 fl_RX10_301 dX10_answer_54 ?_
    refine kf_aload_n hx dX10_answer_57 rfl 1 rfl ?_
    refine kf_getR (n := 39) hx sl_0_6 fl_RX10_50 dX10_answer_58 ?_
    refine kf_callVlP (st := [.long (J_6 52 4), .ref (g.2.2.2 11)]) hx (m_X2_whole g hg  I_5 J_6 _ h) lk_RX10_255 km_X2_whole ob_39 rfl (by decide) rfl (Nat.le_of_ble_eq_true rfl) dX10_answer_61 (fun r_7 h => ?_)
    refine kf_callVvJ (st := []) hx (m_X1_become g hg (J_6 52 4) r_7 I_5 J_6 _ h) lk_RX10_259 km_X1_become ob_11 rfl (by decide) rfl (Nat.le_of_ble_eq_true rfl) dX10_answer_64 (fun J_8 h => ?_)
    refine kf_iload hx dX10_answer_67 0 rfl ?_
    exact hret _ _ r_4 _ _ dX10_answer_69 h
  · replace h := h.2 c
    refine kf_iconst (v := (-1)) hx dX10_answer_33 (by decide) ?_
    exact hret _ _ (-1) _ _ dX10_answer_34 h
def w_X10_answer (x1 : Int32) (x2 : Int32) (I : HI) (J : HJ) (Post : Int32 → HI → HJ → Prop) : Prop :=
  w_X4_arePeople x1 I J (fun (r_1 : Bool) => ((r_1 = false → (wj_X10_answer_25 I J x1 x2 2 Post)) ∧ (r_1 = true → (w_X10_isBetween x2 0 20 (fun (r_9 : Bool) => (w_X10_askedOfSome (kb r_9) I J (fun (r_10 : Int32) => (wj_X10_answer_25 I J x1 x2 r_10 Post))))))))
set_option maxHeartbeats 4000000 in
set_option maxRecDepth 20000 in
theorem we_X10_answer (g : kf_G) (hg : kf_g g) {x : kf_X} (hx : kf_ok g x RX10 cX10_answer 5 6 146) (x1 : Int32) (x2 : Int32) (I : HI) (J : HJ) (Post : Int32 → HI → HJ → Prop) (hret : ∀ (pc : Nat) (lv : List (Nat × Value)) (v : Int32) (Iy : HI) (Jy : HJ), decode cX10_answer pc = .ok (.ireturn, 1) → Post v Iy Jy → kf_M g x 5 pc lv [.int v] Iy Jy) (h : w_X10_answer x1 x2 I J Post) : kf_M g x 5 0 [(0, .ref (g.2.2.2 0)), (1, .int x1), (2, .int x2)] [] I J := by
  unfold w_X10_answer at h
  refine kf_iconst (v := 2) hx dX10_answer_0 (by decide) ?_
  refine kf_istore_n (lv' := [(3, .int 2), (0, .ref (g.2.2.2 0)), (1, .int x1), (2, .int x2)]) hx dX10_answer_1 rfl (by decide) rfl ?_
  refine kf_aload_n hx dX10_answer_2 rfl 1 rfl ?_
  refine kf_getR (n := 12) hx sl_0_3 fl_RX10_29 dX10_answer_3 ?_
  refine kf_iload_n hx dX10_answer_6 rfl 2 rfl ?_
  refine kf_callVbP (st := []) hx (m_X4_arePeople g hg x1 I J _ h) lk_RX10_242 km_X4_arePeople ob_12 rfl (by decide) rfl (Nat.le_of_ble_eq_true rfl) dX10_answer_7 (fun r_1 h => ?_)
  refine kf_ifB_eq hx 25 dX10_answer_10 (by decide) (fun c => ?_) (fun c => ?_)
  · replace h := h.1 c
    refine kf_sub [1, 2, 3, 0] rfl ?_
    exact wk_X10_answer_25 g hg hx I J x1 x2 2 _ hret h
  · replace h := h.2 c
    refine kf_aload_n hx dX10_answer_13 rfl 1 rfl ?_
    refine kf_iload_n hx dX10_answer_14 rfl 3 rfl ?_
    refine kf_iconst (v := 0) hx dX10_answer_15 (by decide) ?_
    refine kf_bipush (v := 20) hx dX10_answer_16 (by decide) ?_
    refine kf_callSbP (st := [.ref (g.2.2.2 0)]) hx (m_X10_isBetween g hg x2 0 20 I J _ h) lk_RX10_188 km_X10_isBetween rfl (by decide) rfl (Nat.le_of_ble_eq_true rfl) dX10_answer_18 (fun r_9 h => ?_)
    refine kf_callViP (st := []) hx (m_X10_askedOfSome g hg (kb r_9) I J _ h) lk_RX10_277 km_X10_askedOfSome ob_0 rfl (by decide) rfl (Nat.le_of_ble_eq_true rfl) dX10_answer_21 (fun r_10 h => ?_)
    refine kf_istore_n (lv' := [(3, .int r_10), (0, .ref (g.2.2.2 0)), (1, .int x1), (2, .int x2)]) hx dX10_answer_24 rfl (by decide) rfl ?_
    refine kf_sub [1, 2, 3, 0] rfl ?_
    exact wk_X10_answer_25 g hg hx I J x1 x2 r_10 _ hret h
set_option maxHeartbeats 4000000 in
set_option maxRecDepth 20000 in
theorem m_X10_answer (g : kf_G) (hg : kf_g g) (x1 : Int32) (x2 : Int32) (I : HI) (J : HJ) (Post : Int32 → HI → HJ → Prop) (h : w_X10_answer x1 x2 I J Post) : kf_Mi g yX10_answer (kf_W yX10_answer cX10_answer 5 (Option.some Jvm.ClassFile.FieldType.int)) 6 146 [.ref (g.2.2.2 0), .int x1, .int x2] I J Post :=
  kf_enti hg (by decide) (Nat.le_of_ble_eq_true rfl) rfl (fun x hx hr => we_X10_answer g hg hx x1 x2 I J Post (fun pc lv v I' J' hd hP => hr pc lv v I' J' hd hP) h)
theorem dX10_latest_0 : decode cX10_latest 0 = .ok (.aload_n 0, 1) := by decide +kernel
theorem dX10_latest_1 : decode cX10_latest 1 = .ok (.aload_n 0, 1) := by decide +kernel
theorem dX10_latest_2 : decode cX10_latest 2 = .ok (.getfield 29, 3) := by decide +kernel
theorem dX10_latest_5 : decode cX10_latest 5 = .ok (.iload_n 1, 1) := by decide +kernel
theorem dX10_latest_6 : decode cX10_latest 6 = .ok (.invokevirtual 242, 3) := by decide +kernel
theorem dX10_latest_9 : decode cX10_latest 9 = .ok (.ifCond .eq 18, 3) := by decide +kernel
theorem dX10_latest_12 : decode cX10_latest 12 = .ok (.aload_n 0, 1) := by decide +kernel
theorem dX10_latest_13 : decode cX10_latest 13 = .ok (.getfield 29, 3) := by decide +kernel
theorem dX10_latest_16 : decode cX10_latest 16 = .ok (.iload_n 2, 1) := by decide +kernel
theorem dX10_latest_17 : decode cX10_latest 17 = .ok (.invokevirtual 195, 3) := by decide +kernel
theorem dX10_latest_20 : decode cX10_latest 20 = .ok (.ifCond .eq 7, 3) := by decide +kernel
theorem dX10_latest_23 : decode cX10_latest 23 = .ok (.iconst 1, 1) := by decide +kernel
theorem dX10_latest_24 : decode cX10_latest 24 = .ok (.goto 4, 3) := by decide +kernel
theorem dX10_latest_27 : decode cX10_latest 27 = .ok (.iconst 0, 1) := by decide +kernel
theorem dX10_latest_28 : decode cX10_latest 28 = .ok (.iconst 1, 1) := by decide +kernel
theorem dX10_latest_29 : decode cX10_latest 29 = .ok (.invokestatic 198, 3) := by decide +kernel
theorem dX10_latest_32 : decode cX10_latest 32 = .ok (.invokevirtual 115, 3) := by decide +kernel
theorem dX10_latest_35 : decode cX10_latest 35 = .ok (.ifCond .eq 5, 3) := by decide +kernel
theorem dX10_latest_38 : decode cX10_latest 38 = .ok (.iconst (-1), 1) := by decide +kernel
theorem dX10_latest_39 : decode cX10_latest 39 = .ok (.ireturn, 1) := by decide +kernel
theorem dX10_latest_40 : decode cX10_latest 40 = .ok (.aload_n 0, 1) := by decide +kernel
theorem dX10_latest_41 : decode cX10_latest 41 = .ok (.getfield 82, 3) := by decide +kernel
theorem dX10_latest_44 : decode cX10_latest 44 = .ok (.iload_n 1, 1) := by decide +kernel
theorem dX10_latest_45 : decode cX10_latest 45 = .ok (.iload_n 2, 1) := by decide +kernel
theorem dX10_latest_46 : decode cX10_latest 46 = .ok (.invokevirtual 304, 3) := by decide +kernel
theorem dX10_latest_49 : decode cX10_latest 49 = .ok (.istore_n 3, 1) := by decide +kernel
theorem dX10_latest_50 : decode cX10_latest 50 = .ok (.aload_n 0, 1) := by decide +kernel
theorem dX10_latest_51 : decode cX10_latest 51 = .ok (.iload_n 3, 1) := by decide +kernel
theorem dX10_latest_52 : decode cX10_latest 52 = .ok (.iconst (-1), 1) := by decide +kernel
theorem dX10_latest_53 : decode cX10_latest 53 = .ok (.if_icmp .ne 8, 3) := by decide +kernel
theorem dX10_latest_56 : decode cX10_latest 56 = .ok (.bipush 9, 2) := by decide +kernel
theorem dX10_latest_58 : decode cX10_latest 58 = .ok (.goto 4, 3) := by decide +kernel
theorem dX10_latest_61 : decode cX10_latest 61 = .ok (.iconst 0, 1) := by decide +kernel
theorem dX10_latest_62 : decode cX10_latest 62 = .ok (.invokevirtual 115, 3) := by decide +kernel
theorem dX10_latest_65 : decode cX10_latest 65 = .ok (.ifCond .eq 7, 3) := by decide +kernel
theorem dX10_latest_68 : decode cX10_latest 68 = .ok (.iconst (-1), 1) := by decide +kernel
theorem dX10_latest_69 : decode cX10_latest 69 = .ok (.goto 4, 3) := by decide +kernel
theorem dX10_latest_72 : decode cX10_latest 72 = .ok (.iload_n 3, 1) := by decide +kernel
theorem dX10_latest_73 : decode cX10_latest 73 = .ok (.ireturn, 1) := by decide +kernel
def wj_X10_latest_62 (I : HI) (J : HJ) (x3 : Int32) (t0 : Int32) (Post : Int32 → HI → Prop) : Prop :=
  w_X10_fails t0 I J (fun (r_7 : Bool) (I_8 : HI) => ((r_7 = false → (Post x3 I_8)) ∧ (r_7 = true → (Post (-1) I_8))))
set_option maxHeartbeats 4000000 in
set_option maxRecDepth 20000 in
theorem wk_X10_latest_62 (g : kf_G) (hg : kf_g g) {x : kf_X} (hx : kf_ok g x RX10 cX10_latest 4 6 145) (I : HI) (J : HJ) (x3 : Int32) (t0 : Int32) (Post : Int32 → HI → Prop) (hret : ∀ (pc : Nat) (lv : List (Nat × Value)) (v : Int32) (Iy : HI), decode cX10_latest pc = .ok (.ireturn, 1) → Post v Iy → kf_M g x 4 pc lv [.int v] Iy J) (h : wj_X10_latest_62 I J x3 t0 Post) : kf_M g x 4 62 [(3, .int x3)] [.int t0, .ref (g.2.2.2 0)] I J := by
  unfold wj_X10_latest_62 at h
  refine kf_callVbI (st := []) hx (m_X10_fails g hg t0 I J _ h) lk_RX10_115 km_X10_fails ob_0 rfl (by decide) rfl (Nat.le_of_ble_eq_true rfl) dX10_latest_62 (fun r_7 I_8 h => ?_)
  refine kf_ifB_eq hx 72 dX10_latest_65 (by decide) (fun c => ?_) (fun c => ?_)
  · replace h := h.1 c
    refine kf_iload_n hx dX10_latest_72 rfl 0 rfl ?_
    exact hret _ _ x3 _ dX10_latest_73 h
  · replace h := h.2 c
    refine kf_iconst (v := (-1)) hx dX10_latest_68 (by decide) ?_
    refine kf_goto hx 73 dX10_latest_69 (by decide) ?_
    exact hret _ _ (-1) _ dX10_latest_73 h
def wj_X10_latest_28 (I : HI) (J : HJ) (x1 : Int32) (x2 : Int32) (t0 : Int32) (Post : Int32 → HI → Prop) : Prop :=
  w_X10_oneOf t0 1 (fun (r_2 : Int32) => (w_X10_fails r_2 I J (fun (r_3 : Bool) (I_4 : HI) => ((r_3 = false → (w_X3_lastHour x1 x2 I_4 J (fun (r_5 : Int32) (I_6 : HI) => ((¬ r_5 = (-1) → (wj_X10_latest_62 I_6 J r_5 0 Post)) ∧ (r_5 = (-1) → (wj_X10_latest_62 I_6 J r_5 9 Post)))))) ∧ (r_3 = true → (Post (-1) I_4))))))
set_option maxHeartbeats 4000000 in
set_option maxRecDepth 20000 in
theorem wk_X10_latest_28 (g : kf_G) (hg : kf_g g) {x : kf_X} (hx : kf_ok g x RX10 cX10_latest 4 6 145) (I : HI) (J : HJ) (x1 : Int32) (x2 : Int32) (t0 : Int32) (Post : Int32 → HI → Prop) (hret : ∀ (pc : Nat) (lv : List (Nat × Value)) (v : Int32) (Iy : HI), decode cX10_latest pc = .ok (.ireturn, 1) → Post v Iy → kf_M g x 4 pc lv [.int v] Iy J) (h : wj_X10_latest_28 I J x1 x2 t0 Post) : kf_M g x 4 28 [(0, .ref (g.2.2.2 0)), (1, .int x1), (2, .int x2)] [.int t0, .ref (g.2.2.2 0)] I J := by
  unfold wj_X10_latest_28 at h
  refine kf_iconst (v := 1) hx dX10_latest_28 (by decide) ?_
  refine kf_callSiP (st := [.ref (g.2.2.2 0)]) hx (m_X10_oneOf g hg t0 1 I J _ h) lk_RX10_198 km_X10_oneOf rfl (by decide) rfl (Nat.le_of_ble_eq_true rfl) dX10_latest_29 (fun r_2 h => ?_)
  refine kf_callVbI (st := []) hx (m_X10_fails g hg r_2 I J _ h) lk_RX10_115 km_X10_fails ob_0 rfl (by decide) rfl (Nat.le_of_ble_eq_true rfl) dX10_latest_32 (fun r_3 I_4 h => ?_)
  refine kf_ifB_eq hx 40 dX10_latest_35 (by decide) (fun c => ?_) (fun c => ?_)
  · replace h := h.1 c
    refine kf_aload_n hx dX10_latest_40 rfl 0 rfl ?_
    refine kf_getR (n := 52) hx sl_0_10 fl_RX10_82 dX10_latest_41 ?_
    refine kf_iload_n hx dX10_latest_44 rfl 1 rfl ?_
    refine kf_iload_n hx dX10_latest_45 rfl 2 rfl ?_
    refine kf_callViI (st := []) hx (m_X3_lastHour g hg x1 x2 I_4 J _ h) lk_RX10_304 km_X3_lastHour ob_52 rfl (by decide) rfl (Nat.le_of_ble_eq_true rfl) dX10_latest_46 (fun r_5 I_6 h => ?_)
    refine kf_istore_n (lv' := [(3, .int r_5), (0, .ref (g.2.2.2 0)), (1, .int x1), (2, .int x2)]) hx dX10_latest_49 rfl (by decide) rfl ?_
    refine kf_aload_n hx dX10_latest_50 rfl 1 rfl ?_
    refine kf_iload_n hx dX10_latest_51 rfl 0 rfl ?_
    refine kf_iconst (v := (-1)) hx dX10_latest_52 (by decide) ?_
    refine kf_icmp_ne hx 61 dX10_latest_53 (by decide) (fun c => ?_) (fun c => ?_)
    · replace h := h.1 c
      refine kf_iconst (v := 0) hx dX10_latest_61 (by decide) ?_
      refine kf_sub [0] rfl ?_
      exact wk_X10_latest_62 g hg hx I_6 J r_5 0 _ hret h
    · replace h := h.2 c
      refine kf_bipush (v := 9) hx dX10_latest_56 (by decide) ?_
      refine kf_goto hx 62 dX10_latest_58 (by decide) ?_
      refine kf_sub [0] rfl ?_
      exact wk_X10_latest_62 g hg hx I_6 J r_5 9 _ hret h
  · replace h := h.2 c
    refine kf_iconst (v := (-1)) hx dX10_latest_38 (by decide) ?_
    exact hret _ _ (-1) _ dX10_latest_39 h
def wj_X10_latest_27 (I : HI) (J : HJ) (x1 : Int32) (x2 : Int32) (Post : Int32 → HI → Prop) : Prop :=
  wj_X10_latest_28 I J x1 x2 0 Post
set_option maxHeartbeats 4000000 in
set_option maxRecDepth 20000 in
theorem wk_X10_latest_27 (g : kf_G) (hg : kf_g g) {x : kf_X} (hx : kf_ok g x RX10 cX10_latest 4 6 145) (I : HI) (J : HJ) (x1 : Int32) (x2 : Int32) (Post : Int32 → HI → Prop) (hret : ∀ (pc : Nat) (lv : List (Nat × Value)) (v : Int32) (Iy : HI), decode cX10_latest pc = .ok (.ireturn, 1) → Post v Iy → kf_M g x 4 pc lv [.int v] Iy J) (h : wj_X10_latest_27 I J x1 x2 Post) : kf_M g x 4 27 [(0, .ref (g.2.2.2 0)), (1, .int x1), (2, .int x2)] [.ref (g.2.2.2 0)] I J := by
  unfold wj_X10_latest_27 at h
  refine kf_iconst (v := 0) hx dX10_latest_27 (by decide) ?_
  exact wk_X10_latest_28 g hg hx I J x1 x2 0 _ hret h
def w_X10_latest (x1 : Int32) (x2 : Int32) (I : HI) (J : HJ) (Post : Int32 → HI → Prop) : Prop :=
  w_X4_arePeople x1 I J (fun (r_1 : Bool) => ((r_1 = false → (wj_X10_latest_27 I J x1 x2 Post)) ∧ (r_1 = true → (w_X4_isPerson_12 x2 I J (fun (r_9 : Bool) => ((r_9 = false → (wj_X10_latest_27 I J x1 x2 Post)) ∧ (r_9 = true → (wj_X10_latest_28 I J x1 x2 1 Post))))))))
set_option maxHeartbeats 4000000 in
set_option maxRecDepth 20000 in
theorem we_X10_latest (g : kf_G) (hg : kf_g g) {x : kf_X} (hx : kf_ok g x RX10 cX10_latest 4 6 145) (x1 : Int32) (x2 : Int32) (I : HI) (J : HJ) (Post : Int32 → HI → Prop) (hret : ∀ (pc : Nat) (lv : List (Nat × Value)) (v : Int32) (Iy : HI), decode cX10_latest pc = .ok (.ireturn, 1) → Post v Iy → kf_M g x 4 pc lv [.int v] Iy J) (h : w_X10_latest x1 x2 I J Post) : kf_M g x 4 0 [(0, .ref (g.2.2.2 0)), (1, .int x1), (2, .int x2)] [] I J := by
  unfold w_X10_latest at h
  refine kf_aload_n hx dX10_latest_0 rfl 0 rfl ?_
  refine kf_aload_n hx dX10_latest_1 rfl 0 rfl ?_
  refine kf_getR (n := 12) hx sl_0_3 fl_RX10_29 dX10_latest_2 ?_
  refine kf_iload_n hx dX10_latest_5 rfl 1 rfl ?_
  refine kf_callVbP (st := [.ref (g.2.2.2 0)]) hx (m_X4_arePeople g hg x1 I J _ h) lk_RX10_242 km_X4_arePeople ob_12 rfl (by decide) rfl (Nat.le_of_ble_eq_true rfl) dX10_latest_6 (fun r_1 h => ?_)
  refine kf_ifB_eq hx 27 dX10_latest_9 (by decide) (fun c => ?_) (fun c => ?_)
  · replace h := h.1 c
    exact wk_X10_latest_27 g hg hx I J x1 x2 _ hret h
  · replace h := h.2 c
    refine kf_aload_n hx dX10_latest_12 rfl 0 rfl ?_
    refine kf_getR (n := 12) hx sl_0_3 fl_RX10_29 dX10_latest_13 ?_
    refine kf_iload_n hx dX10_latest_16 rfl 2 rfl ?_
    refine kf_callVbP (st := [.ref (g.2.2.2 0)]) hx (m_X4_isPerson_12 g hg x2 I J _ h) lk_RX10_195 km_X4_isPerson ob_12 rfl (by decide) rfl (Nat.le_of_ble_eq_true rfl) dX10_latest_17 (fun r_9 h => ?_)
    refine kf_ifB_eq hx 27 dX10_latest_20 (by decide) (fun c => ?_) (fun c => ?_)
    · replace h := h.1 c
      exact wk_X10_latest_27 g hg hx I J x1 x2 _ hret h
    · replace h := h.2 c
      refine kf_iconst (v := 1) hx dX10_latest_23 (by decide) ?_
      refine kf_goto hx 28 dX10_latest_24 (by decide) ?_
      exact wk_X10_latest_28 g hg hx I J x1 x2 1 _ hret h
set_option maxHeartbeats 4000000 in
set_option maxRecDepth 20000 in
theorem m_X10_latest (g : kf_G) (hg : kf_g g) (x1 : Int32) (x2 : Int32) (I : HI) (J : HJ) (Post : Int32 → HI → Prop) (h : w_X10_latest x1 x2 I J Post) : kf_Mi g yX10_latest (kf_W yX10_latest cX10_latest 4 (Option.some Jvm.ClassFile.FieldType.int)) 6 145 [.ref (g.2.2.2 0), .int x1, .int x2] I J (fun v I' J' => Post v I' ∧ J' = J) :=
  kf_enti hg (by decide) (Nat.le_of_ble_eq_true rfl) rfl (fun x hx hr => we_X10_latest g hg hx x1 x2 I J Post (fun pc lv v I' hd hP => hr pc lv v I' J hd ⟨hP, rfl⟩) h)
theorem dX10_stops_0 : decode cX10_stops 0 = .ok (.aload_n 0, 1) := by decide +kernel
theorem dX10_stops_1 : decode cX10_stops 1 = .ok (.aload_n 0, 1) := by decide +kernel
theorem dX10_stops_2 : decode cX10_stops 2 = .ok (.getfield 29, 3) := by decide +kernel
theorem dX10_stops_5 : decode cX10_stops 5 = .ok (.iload_n 1, 1) := by decide +kernel
theorem dX10_stops_6 : decode cX10_stops 6 = .ok (.invokevirtual 242, 3) := by decide +kernel
theorem dX10_stops_9 : decode cX10_stops 9 = .ok (.iload_n 2, 1) := by decide +kernel
theorem dX10_stops_10 : decode cX10_stops 10 = .ok (.iconst 0, 1) := by decide +kernel
theorem dX10_stops_11 : decode cX10_stops 11 = .ok (.iconst 3, 1) := by decide +kernel
theorem dX10_stops_12 : decode cX10_stops 12 = .ok (.invokestatic 188, 3) := by decide +kernel
theorem dX10_stops_15 : decode cX10_stops 15 = .ok (.invokestatic 198, 3) := by decide +kernel
theorem dX10_stops_18 : decode cX10_stops 18 = .ok (.invokevirtual 115, 3) := by decide +kernel
theorem dX10_stops_21 : decode cX10_stops 21 = .ok (.ifCond .eq 5, 3) := by decide +kernel
theorem dX10_stops_24 : decode cX10_stops 24 = .ok (.iconst (-1), 1) := by decide +kernel
theorem dX10_stops_25 : decode cX10_stops 25 = .ok (.ireturn, 1) := by decide +kernel
theorem dX10_stops_26 : decode cX10_stops 26 = .ok (.aload_n 0, 1) := by decide +kernel
theorem dX10_stops_27 : decode cX10_stops 27 = .ok (.getfield 59, 3) := by decide +kernel
theorem dX10_stops_30 : decode cX10_stops 30 = .ok (.iload_n 1, 1) := by decide +kernel
theorem dX10_stops_31 : decode cX10_stops 31 = .ok (.iload_n 2, 1) := by decide +kernel
theorem dX10_stops_32 : decode cX10_stops 32 = .ok (.invokevirtual 307, 3) := by decide +kernel
theorem dX10_stops_35 : decode cX10_stops 35 = .ok (.istore_n 3, 1) := by decide +kernel
theorem dX10_stops_36 : decode cX10_stops 36 = .ok (.aload_n 0, 1) := by decide +kernel
theorem dX10_stops_37 : decode cX10_stops 37 = .ok (.getfield 22, 3) := by decide +kernel
theorem dX10_stops_40 : decode cX10_stops 40 = .ok (.aload_n 0, 1) := by decide +kernel
theorem dX10_stops_41 : decode cX10_stops 41 = .ok (.getfield 59, 3) := by decide +kernel
theorem dX10_stops_44 : decode cX10_stops 44 = .ok (.getfield 269, 3) := by decide +kernel
theorem dX10_stops_47 : decode cX10_stops 47 = .ok (.aload_n 0, 1) := by decide +kernel
theorem dX10_stops_48 : decode cX10_stops 48 = .ok (.getfield 50, 3) := by decide +kernel
theorem dX10_stops_51 : decode cX10_stops 51 = .ok (.invokevirtual 255, 3) := by decide +kernel
theorem dX10_stops_54 : decode cX10_stops 54 = .ok (.invokevirtual 259, 3) := by decide +kernel
theorem dX10_stops_57 : decode cX10_stops 57 = .ok (.iload_n 3, 1) := by decide +kernel
theorem dX10_stops_58 : decode cX10_stops 58 = .ok (.ireturn, 1) := by decide +kernel
def w_X10_stops (x1 : Int32) (x2 : Int32) (I : HI) (J : HJ) (Post : Int32 → HI → HJ → Prop) : Prop :=
  w_X4_arePeople x1 I J (fun (r_1 : Bool) => (w_X10_isBetween x2 0 3 (fun (r_2 : Bool) => (w_X10_oneOf (kb r_1) (kb r_2) (fun (r_3 : Int32) => (w_X10_fails r_3 I J (fun (r_4 : Bool) (I_5 : HI) => ((r_4 = false → (w_X0_tiesToClose x1 x2 I_5 J (fun (r_6 : Int32) (J_7 : HJ) => (w_X2_whole  I_5 J_7 (fun (r_8 : Int64) => (w_X1_become (J_7 41 3) r_8 I_5 J_7 (fun (J_9 : HJ) => (Post r_6 I_5 J_9)))))))) ∧ (r_4 = true → (Post (-1) I_5 J))))))))))
set_option maxHeartbeats 4000000 in
set_option maxRecDepth 20000 in
theorem we_X10_stops (g : kf_G) (hg : kf_g g) {x : kf_X} (hx : kf_ok g x RX10 cX10_stops 4 19 706) (x1 : Int32) (x2 : Int32) (I : HI) (J : HJ) (Post : Int32 → HI → HJ → Prop) (hret : ∀ (pc : Nat) (lv : List (Nat × Value)) (v : Int32) (Iy : HI) (Jy : HJ), decode cX10_stops pc = .ok (.ireturn, 1) → Post v Iy Jy → kf_M g x 4 pc lv [.int v] Iy Jy) (h : w_X10_stops x1 x2 I J Post) : kf_M g x 4 0 [(0, .ref (g.2.2.2 0)), (1, .int x1), (2, .int x2)] [] I J := by
  unfold w_X10_stops at h
  refine kf_aload_n hx dX10_stops_0 rfl 0 rfl ?_
  refine kf_aload_n hx dX10_stops_1 rfl 0 rfl ?_
  refine kf_getR (n := 12) hx sl_0_3 fl_RX10_29 dX10_stops_2 ?_
  refine kf_iload_n hx dX10_stops_5 rfl 1 rfl ?_
  refine kf_callVbP (st := [.ref (g.2.2.2 0)]) hx (m_X4_arePeople g hg x1 I J _ h) lk_RX10_242 km_X4_arePeople ob_12 rfl (by decide) rfl (Nat.le_of_ble_eq_true rfl) dX10_stops_6 (fun r_1 h => ?_)
  refine kf_iload_n hx dX10_stops_9 rfl 2 rfl ?_
  refine kf_iconst (v := 0) hx dX10_stops_10 (by decide) ?_
  refine kf_iconst (v := 3) hx dX10_stops_11 (by decide) ?_
  refine kf_callSbP (st := [.int (kb r_1), .ref (g.2.2.2 0)]) hx (m_X10_isBetween g hg x2 0 3 I J _ h) lk_RX10_188 km_X10_isBetween rfl (by decide) rfl (Nat.le_of_ble_eq_true rfl) dX10_stops_12 (fun r_2 h => ?_)
  refine kf_callSiP (st := [.ref (g.2.2.2 0)]) hx (m_X10_oneOf g hg (kb r_1) (kb r_2) I J _ h) lk_RX10_198 km_X10_oneOf rfl (by decide) rfl (Nat.le_of_ble_eq_true rfl) dX10_stops_15 (fun r_3 h => ?_)
  refine kf_callVbI (st := []) hx (m_X10_fails g hg r_3 I J _ h) lk_RX10_115 km_X10_fails ob_0 rfl (by decide) rfl (Nat.le_of_ble_eq_true rfl) dX10_stops_18 (fun r_4 I_5 h => ?_)
  refine kf_ifB_eq hx 26 dX10_stops_21 (by decide) (fun c => ?_) (fun c => ?_)
  · replace h := h.1 c
    refine kf_aload_n hx dX10_stops_26 rfl 0 rfl ?_
    refine kf_getR (n := 41) hx sl_0_7 fl_RX10_59 dX10_stops_27 ?_
    refine kf_iload_n hx dX10_stops_30 rfl 1 rfl ?_
    refine kf_iload_n hx dX10_stops_31 rfl 2 rfl ?_
    refine kf_callViJ (st := []) hx (m_X0_tiesToClose g hg x1 x2 I_5 J _ h) lk_RX10_307 km_X0_tiesToClose ob_41 rfl (by decide) rfl (Nat.le_of_ble_eq_true rfl) dX10_stops_32 (fun r_6 J_7 h => ?_)
    refine kf_istore_n (lv' := [(3, .int r_6), (0, .ref (g.2.2.2 0)), (1, .int x1), (2, .int x2)]) hx dX10_stops_35 rfl (by decide) rfl ?_
    refine kf_aload_n hx dX10_stops_36 rfl 1 rfl ?_
    refine kf_getR (n := 11) hx sl_0_2 fl_RX10_22 dX10_stops_37 ?_
    refine kf_aload_n hx dX10_stops_40 rfl 1 rfl ?_
    refine kf_getR (n := 41) hx sl_0_7 fl_RX10_59 dX10_stops_41 ?_
    refine kf_getJ hx sl_41_3 fl_RX10_269 dX10_stops_44 ?_
    refine kf_aload_n hx dX10_stops_47 rfl 1 rfl ?_
    refine kf_getR (n := 39) hx sl_0_6 fl_RX10_50 dX10_stops_48 ?_
    refine kf_callVlP (st := [.long (J_7 41 3), .ref (g.2.2.2 11)]) hx (m_X2_whole g hg  I_5 J_7 _ h) lk_RX10_255 km_X2_whole ob_39 rfl (by decide) rfl (Nat.le_of_ble_eq_true rfl) dX10_stops_51 (fun r_8 h => ?_)
    refine kf_callVvJ (st := []) hx (m_X1_become g hg (J_7 41 3) r_8 I_5 J_7 _ h) lk_RX10_259 km_X1_become ob_11 rfl (by decide) rfl (Nat.le_of_ble_eq_true rfl) dX10_stops_54 (fun J_9 h => ?_)
    refine kf_iload_n hx dX10_stops_57 rfl 0 rfl ?_
    exact hret _ _ r_6 _ _ dX10_stops_58 h
  · replace h := h.2 c
    refine kf_iconst (v := (-1)) hx dX10_stops_24 (by decide) ?_
    exact hret _ _ (-1) _ _ dX10_stops_25 h
set_option maxHeartbeats 4000000 in
set_option maxRecDepth 20000 in
theorem m_X10_stops (g : kf_G) (hg : kf_g g) (x1 : Int32) (x2 : Int32) (I : HI) (J : HJ) (Post : Int32 → HI → HJ → Prop) (h : w_X10_stops x1 x2 I J Post) : kf_Mi g yX10_stops (kf_W yX10_stops cX10_stops 4 (Option.some Jvm.ClassFile.FieldType.int)) 19 706 [.ref (g.2.2.2 0), .int x1, .int x2] I J Post :=
  kf_enti hg (by decide) (Nat.le_of_ble_eq_true rfl) rfl (fun x hx hr => we_X10_stops g hg hx x1 x2 I J Post (fun pc lv v I' J' hd hP => hr pc lv v I' J' hd hP) h)
theorem dX10_sourceStatus_0 : decode cX10_sourceStatus 0 = .ok (.iload_n 1, 1) := by decide +kernel
theorem dX10_sourceStatus_1 : decode cX10_sourceStatus 1 = .ok (.invokestatic 111, 3) := by decide +kernel
theorem dX10_sourceStatus_4 : decode cX10_sourceStatus 4 = .ok (.ifCond .ne 5, 3) := by decide +kernel
theorem dX10_sourceStatus_7 : decode cX10_sourceStatus 7 = .ok (.iconst 1, 1) := by decide +kernel
theorem dX10_sourceStatus_8 : decode cX10_sourceStatus 8 = .ok (.ireturn, 1) := by decide +kernel
theorem dX10_sourceStatus_9 : decode cX10_sourceStatus 9 = .ok (.aload_n 0, 1) := by decide +kernel
theorem dX10_sourceStatus_10 : decode cX10_sourceStatus 10 = .ok (.getfield 29, 3) := by decide +kernel
theorem dX10_sourceStatus_13 : decode cX10_sourceStatus 13 = .ok (.iload_n 3, 1) := by decide +kernel
theorem dX10_sourceStatus_14 : decode cX10_sourceStatus 14 = .ok (.invokevirtual 195, 3) := by decide +kernel
theorem dX10_sourceStatus_17 : decode cX10_sourceStatus 17 = .ok (.ifCond .ne 5, 3) := by decide +kernel
theorem dX10_sourceStatus_20 : decode cX10_sourceStatus 20 = .ok (.iconst 2, 1) := by decide +kernel
theorem dX10_sourceStatus_21 : decode cX10_sourceStatus 21 = .ok (.ireturn, 1) := by decide +kernel
theorem dX10_sourceStatus_22 : decode cX10_sourceStatus 22 = .ok (.aload_n 0, 1) := by decide +kernel
theorem dX10_sourceStatus_23 : decode cX10_sourceStatus 23 = .ok (.getfield 11, 3) := by decide +kernel
theorem dX10_sourceStatus_26 : decode cX10_sourceStatus 26 = .ok (.iload_n 1, 1) := by decide +kernel
theorem dX10_sourceStatus_27 : decode cX10_sourceStatus 27 = .ok (.aaload, 1) := by decide +kernel
theorem dX10_sourceStatus_28 : decode cX10_sourceStatus 28 = .ok (.invokevirtual 146, 3) := by decide +kernel
theorem dX10_sourceStatus_31 : decode cX10_sourceStatus 31 = .ok (.ifCond .eq 5, 3) := by decide +kernel
theorem dX10_sourceStatus_34 : decode cX10_sourceStatus 34 = .ok (.iconst 3, 1) := by decide +kernel
theorem dX10_sourceStatus_35 : decode cX10_sourceStatus 35 = .ok (.ireturn, 1) := by decide +kernel
theorem dX10_sourceStatus_36 : decode cX10_sourceStatus 36 = .ok (.iload_n 2, 1) := by decide +kernel
theorem dX10_sourceStatus_37 : decode cX10_sourceStatus 37 = .ok (.iconst 0, 1) := by decide +kernel
theorem dX10_sourceStatus_38 : decode cX10_sourceStatus 38 = .ok (.sipush 149, 3) := by decide +kernel
theorem dX10_sourceStatus_41 : decode cX10_sourceStatus 41 = .ok (.invokestatic 188, 3) := by decide +kernel
theorem dX10_sourceStatus_44 : decode cX10_sourceStatus 44 = .ok (.ifCond .ne 5, 3) := by decide +kernel
theorem dX10_sourceStatus_47 : decode cX10_sourceStatus 47 = .ok (.iconst 5, 1) := by decide +kernel
theorem dX10_sourceStatus_48 : decode cX10_sourceStatus 48 = .ok (.ireturn, 1) := by decide +kernel
theorem dX10_sourceStatus_49 : decode cX10_sourceStatus 49 = .ok (.aload_n 0, 1) := by decide +kernel
theorem dX10_sourceStatus_50 : decode cX10_sourceStatus 50 = .ok (.getfield 11, 3) := by decide +kernel
theorem dX10_sourceStatus_53 : decode cX10_sourceStatus 53 = .ok (.iload_n 1, 1) := by decide +kernel
theorem dX10_sourceStatus_54 : decode cX10_sourceStatus 54 = .ok (.aaload, 1) := by decide +kernel
theorem dX10_sourceStatus_55 : decode cX10_sourceStatus 55 = .ok (.getfield 161, 3) := by decide +kernel
theorem dX10_sourceStatus_58 : decode cX10_sourceStatus 58 = .ok (.aload_n 0, 1) := by decide +kernel
theorem dX10_sourceStatus_59 : decode cX10_sourceStatus 59 = .ok (.getfield 29, 3) := by decide +kernel
theorem dX10_sourceStatus_62 : decode cX10_sourceStatus 62 = .ok (.getfield 185, 3) := by decide +kernel
theorem dX10_sourceStatus_65 : decode cX10_sourceStatus 65 = .ok (.if_icmp .ge 5, 3) := by decide +kernel
theorem dX10_sourceStatus_68 : decode cX10_sourceStatus 68 = .ok (.iconst 4, 1) := by decide +kernel
theorem dX10_sourceStatus_69 : decode cX10_sourceStatus 69 = .ok (.ireturn, 1) := by decide +kernel
theorem dX10_sourceStatus_70 : decode cX10_sourceStatus 70 = .ok (.aload_n 0, 1) := by decide +kernel
theorem dX10_sourceStatus_71 : decode cX10_sourceStatus 71 = .ok (.getfield 11, 3) := by decide +kernel
theorem dX10_sourceStatus_74 : decode cX10_sourceStatus 74 = .ok (.iload_n 1, 1) := by decide +kernel
theorem dX10_sourceStatus_75 : decode cX10_sourceStatus 75 = .ok (.aaload, 1) := by decide +kernel
theorem dX10_sourceStatus_76 : decode cX10_sourceStatus 76 = .ok (.aload_n 0, 1) := by decide +kernel
theorem dX10_sourceStatus_77 : decode cX10_sourceStatus 77 = .ok (.getfield 29, 3) := by decide +kernel
theorem dX10_sourceStatus_80 : decode cX10_sourceStatus 80 = .ok (.getfield 185, 3) := by decide +kernel
theorem dX10_sourceStatus_83 : decode cX10_sourceStatus 83 = .ok (.ldc2_w 130, 3) := by decide +kernel
theorem dX10_sourceStatus_86 : decode cX10_sourceStatus 86 = .ok (.lconst 1, 1) := by decide +kernel
theorem dX10_sourceStatus_87 : decode cX10_sourceStatus 87 = .ok (.invokevirtual 321, 3) := by decide +kernel
theorem dX10_sourceStatus_90 : decode cX10_sourceStatus 90 = .ok (.ifCond .eq 7, 3) := by decide +kernel
theorem dX10_sourceStatus_93 : decode cX10_sourceStatus 93 = .ok (.iconst 0, 1) := by decide +kernel
theorem dX10_sourceStatus_94 : decode cX10_sourceStatus 94 = .ok (.goto 4, 3) := by decide +kernel
theorem dX10_sourceStatus_97 : decode cX10_sourceStatus 97 = .ok (.iconst 5, 1) := by decide +kernel
theorem dX10_sourceStatus_98 : decode cX10_sourceStatus 98 = .ok (.ireturn, 1) := by decide +kernel
def w_X10_sourceStatus (x1 : Int32) (x2 : Int32) (x3 : Int32) (I : HI) (J : HJ) (Post : Int32 → Prop) : Prop :=
  w_X10_isTray x1 (fun (r_1 : Bool) => ((r_1 = true → (w_X4_isPerson_12 x3 I J (fun (r_2 : Bool) => ((r_2 = true → (vp_in x1 4 ∧ (w_X8_isMissing (2 + 2 * Int32.toNatClampNeg x1) I J (fun (r_4 : Bool) => ((r_4 = false → (w_X10_isBetween x2 0 149 (fun (r_5 : Bool) => ((r_5 = true → (vp_in x1 4 ∧ (((I 12 11) ≤ (I (2 + 2 * Int32.toNatClampNeg x1) 2) → (vp_in x1 4 ∧ (w_X8_allBetween (2 + 2 * Int32.toNatClampNeg x1) (I 12 11) (-1) 1 I J (fun (r_8 : Bool) => ((r_8 = false → (Post 5)) ∧ (r_8 = true → (Post 0))))))) ∧ (¬ (I 12 11) ≤ (I (2 + 2 * Int32.toNatClampNeg x1) 2) → (Post 4))))) ∧ (r_5 = false → (Post 5)))))) ∧ (r_4 = true → (Post 3))))))) ∧ (r_2 = false → (Post 2)))))) ∧ (r_1 = false → (Post 1))))
set_option maxHeartbeats 4000000 in
set_option maxRecDepth 20000 in
theorem we_X10_sourceStatus (g : kf_G) (hg : kf_g g) {x : kf_X} (hx : kf_ok g x RX10 cX10_sourceStatus 4 1 26) (x1 : Int32) (x2 : Int32) (x3 : Int32) (I : HI) (J : HJ) (Post : Int32 → Prop) (hret : ∀ (pc : Nat) (lv : List (Nat × Value)) (v : Int32), decode cX10_sourceStatus pc = .ok (.ireturn, 1) → Post v → kf_M g x 4 pc lv [.int v] I J) (h : w_X10_sourceStatus x1 x2 x3 I J Post) : kf_M g x 4 0 [(0, .ref (g.2.2.2 0)), (1, .int x1), (2, .int x2), (3, .int x3)] [] I J := by
  unfold w_X10_sourceStatus at h
  refine kf_iload_n hx dX10_sourceStatus_0 rfl 1 rfl ?_
  refine kf_callSbP (st := []) hx (m_X10_isTray g hg x1 I J _ h) lk_RX10_111 km_X10_isTray rfl (by decide) rfl (Nat.le_of_ble_eq_true rfl) dX10_sourceStatus_1 (fun r_1 h => ?_)
  refine kf_ifB_ne hx 9 dX10_sourceStatus_4 (by decide) (fun c => ?_) (fun c => ?_)
  · replace h := h.1 c
    refine kf_aload_n hx dX10_sourceStatus_9 rfl 0 rfl ?_
    refine kf_getR (n := 12) hx sl_0_3 fl_RX10_29 dX10_sourceStatus_10 ?_
    refine kf_iload_n hx dX10_sourceStatus_13 rfl 3 rfl ?_
    refine kf_callVbP (st := []) hx (m_X4_isPerson_12 g hg x3 I J _ h) lk_RX10_195 km_X4_isPerson ob_12 rfl (by decide) rfl (Nat.le_of_ble_eq_true rfl) dX10_sourceStatus_14 (fun r_2 h => ?_)
    refine kf_ifB_ne hx 22 dX10_sourceStatus_17 (by decide) (fun c => ?_) (fun c => ?_)
    · replace h := h.1 c
      refine kf_aload_n hx dX10_sourceStatus_22 rfl 0 rfl ?_
      refine kf_getR (n := 1) hx sl_0_0 fl_RX10_11 dX10_sourceStatus_23 ?_
      refine kf_iload_n hx dX10_sourceStatus_26 rfl 1 rfl ?_
      have hb_3 := h.1
      refine kf_aald hx ar_1 rfl rfl h.1 dX10_sourceStatus_27 ?_
      replace h := h.2
      refine kf_callVbP (st := []) hx (m_X8_isMissing g hg (2 + 2 * Int32.toNatClampNeg x1) (tr_of hb_3) I J _ h) lk_RX10_146 km_X8_isMissing (st_ob (tr_of hb_3)) rfl (by decide) rfl (Nat.le_of_ble_eq_true rfl) dX10_sourceStatus_28 (fun r_4 h => ?_)
      refine kf_ifB_eq hx 36 dX10_sourceStatus_31 (by decide) (fun c => ?_) (fun c => ?_)
      · replace h := h.1 c
        refine kf_iload_n hx dX10_sourceStatus_36 rfl 2 rfl ?_
        refine kf_iconst (v := 0) hx dX10_sourceStatus_37 (by decide) ?_
        refine kf_sipush (v := 149) hx dX10_sourceStatus_38 (by decide) ?_
        refine kf_callSbP (st := []) hx (m_X10_isBetween g hg x2 0 149 I J _ h) lk_RX10_188 km_X10_isBetween rfl (by decide) rfl (Nat.le_of_ble_eq_true rfl) dX10_sourceStatus_41 (fun r_5 h => ?_)
        refine kf_ifB_ne hx 49 dX10_sourceStatus_44 (by decide) (fun c => ?_) (fun c => ?_)
        · replace h := h.1 c
          refine kf_aload_n hx dX10_sourceStatus_49 rfl 0 rfl ?_
          refine kf_getR (n := 1) hx sl_0_0 fl_RX10_11 dX10_sourceStatus_50 ?_
          refine kf_iload_n hx dX10_sourceStatus_53 rfl 1 rfl ?_
          have hb_6 := h.1
          refine kf_aald hx ar_1 rfl rfl h.1 dX10_sourceStatus_54 ?_
          replace h := h.2
          refine kf_getI hx (st_2 (tr_of hb_6)) fl_RX10_161 dX10_sourceStatus_55 ?_
          refine kf_aload_n hx dX10_sourceStatus_58 rfl 0 rfl ?_
          refine kf_getR (n := 12) hx sl_0_3 fl_RX10_29 dX10_sourceStatus_59 ?_
          refine kf_getI hx sl_12_11 fl_RX10_185 dX10_sourceStatus_62 ?_
          refine kf_icmp_ge hx 70 dX10_sourceStatus_65 (by decide) (fun c => ?_) (fun c => ?_)
          · replace h := h.1 c
            refine kf_aload_n hx dX10_sourceStatus_70 rfl 0 rfl ?_
            refine kf_getR (n := 1) hx sl_0_0 fl_RX10_11 dX10_sourceStatus_71 ?_
            refine kf_iload_n hx dX10_sourceStatus_74 rfl 1 rfl ?_
            have hb_7 := h.1
            refine kf_aald hx ar_1 rfl rfl h.1 dX10_sourceStatus_75 ?_
            replace h := h.2
            refine kf_aload_n hx dX10_sourceStatus_76 rfl 0 rfl ?_
            refine kf_getR (n := 12) hx sl_0_3 fl_RX10_29 dX10_sourceStatus_77 ?_
            refine kf_getI hx sl_12_11 fl_RX10_185 dX10_sourceStatus_80 ?_
            refine kf_ldc2 hx ko_RX10_130 dX10_sourceStatus_83 ?_
            refine kf_lconst (v := 1) hx dX10_sourceStatus_86 (by decide) ?_
            refine kf_callVbP (st := []) hx (m_X8_allBetween g hg (2 + 2 * Int32.toNatClampNeg x1) (I 12 11) (-1) 1 (tr_of hb_7) I J _ h) lk_RX10_321 km_X8_allBetween (st_ob (tr_of hb_7)) rfl (by decide) rfl (Nat.le_of_ble_eq_true rfl) dX10_sourceStatus_87 (fun r_8 h => ?_)
            refine kf_ifB_eq hx 97 dX10_sourceStatus_90 (by decide) (fun c => ?_) (fun c => ?_)
            · replace h := h.1 c
              refine kf_iconst (v := 5) hx dX10_sourceStatus_97 (by decide) ?_
              exact hret _ _ 5  dX10_sourceStatus_98 h
            · replace h := h.2 c
              refine kf_iconst (v := 0) hx dX10_sourceStatus_93 (by decide) ?_
              refine kf_goto hx 98 dX10_sourceStatus_94 (by decide) ?_
              exact hret _ _ 0  dX10_sourceStatus_98 h
          · replace h := h.2 c
            refine kf_iconst (v := 4) hx dX10_sourceStatus_68 (by decide) ?_
            exact hret _ _ 4  dX10_sourceStatus_69 h
        · replace h := h.2 c
          refine kf_iconst (v := 5) hx dX10_sourceStatus_47 (by decide) ?_
          exact hret _ _ 5  dX10_sourceStatus_48 h
      · replace h := h.2 c
        refine kf_iconst (v := 3) hx dX10_sourceStatus_34 (by decide) ?_
        exact hret _ _ 3  dX10_sourceStatus_35 h
    · replace h := h.2 c
      refine kf_iconst (v := 2) hx dX10_sourceStatus_20 (by decide) ?_
      exact hret _ _ 2  dX10_sourceStatus_21 h
  · replace h := h.2 c
    refine kf_iconst (v := 1) hx dX10_sourceStatus_7 (by decide) ?_
    exact hret _ _ 1  dX10_sourceStatus_8 h
set_option maxHeartbeats 4000000 in
set_option maxRecDepth 20000 in
theorem m_X10_sourceStatus (g : kf_G) (hg : kf_g g) (x1 : Int32) (x2 : Int32) (x3 : Int32) (I : HI) (J : HJ) (Post : Int32 → Prop) (h : w_X10_sourceStatus x1 x2 x3 I J Post) : kf_Mi g yX10_sourceStatus (kf_W yX10_sourceStatus cX10_sourceStatus 4 (Option.some Jvm.ClassFile.FieldType.int)) 1 26 [.ref (g.2.2.2 0), .int x1, .int x2, .int x3] I J (fun v I' J' => Post v ∧ I' = I ∧ J' = J) :=
  kf_enti hg (by decide) (Nat.le_of_ble_eq_true rfl) rfl (fun x hx hr => we_X10_sourceStatus g hg hx x1 x2 x3 I J Post (fun pc lv v hd hP => hr pc lv v I J hd ⟨hP, rfl, rfl⟩) h)
theorem dX10_source_0 : decode cX10_source 0 = .ok (.aload_n 0, 1) := by decide +kernel
theorem dX10_source_1 : decode cX10_source 1 = .ok (.iload_n 1, 1) := by decide +kernel
theorem dX10_source_2 : decode cX10_source 2 = .ok (.iload_n 2, 1) := by decide +kernel
theorem dX10_source_3 : decode cX10_source 3 = .ok (.iload_n 3, 1) := by decide +kernel
theorem dX10_source_4 : decode cX10_source 4 = .ok (.invokevirtual 310, 3) := by decide +kernel
theorem dX10_source_7 : decode cX10_source 7 = .ok (.istore 4, 2) := by decide +kernel
theorem dX10_source_9 : decode cX10_source 9 = .ok (.lconst 0, 1) := by decide +kernel
theorem dX10_source_10 : decode cX10_source 10 = .ok (.lstore 5, 2) := by decide +kernel
theorem dX10_source_12 : decode cX10_source 12 = .ok (.iload 4, 2) := by decide +kernel
theorem dX10_source_14 : decode cX10_source 14 = .ok (.ifCond .ne 37, 3) := by decide +kernel
theorem dX10_source_17 : decode cX10_source 17 = .ok (.aload_n 0, 1) := by decide +kernel
theorem dX10_source_18 : decode cX10_source 18 = .ok (.getfield 82, 3) := by decide +kernel
theorem dX10_source_21 : decode cX10_source 21 = .ok (.aload_n 0, 1) := by decide +kernel
theorem dX10_source_22 : decode cX10_source 22 = .ok (.getfield 11, 3) := by decide +kernel
theorem dX10_source_25 : decode cX10_source 25 = .ok (.iload_n 1, 1) := by decide +kernel
theorem dX10_source_26 : decode cX10_source 26 = .ok (.aaload, 1) := by decide +kernel
theorem dX10_source_27 : decode cX10_source 27 = .ok (.getfield 132, 3) := by decide +kernel
theorem dX10_source_30 : decode cX10_source 30 = .ok (.iload_n 2, 1) := by decide +kernel
theorem dX10_source_31 : decode cX10_source 31 = .ok (.invokevirtual 314, 3) := by decide +kernel
theorem dX10_source_34 : decode cX10_source 34 = .ok (.lstore 5, 2) := by decide +kernel
theorem dX10_source_36 : decode cX10_source 36 = .ok (.lload 5, 2) := by decide +kernel
theorem dX10_source_38 : decode cX10_source 38 = .ok (.lconst 0, 1) := by decide +kernel
theorem dX10_source_39 : decode cX10_source 39 = .ok (.lcmp, 1) := by decide +kernel
theorem dX10_source_40 : decode cX10_source 40 = .ok (.ifCond .ne 8, 3) := by decide +kernel
theorem dX10_source_43 : decode cX10_source 43 = .ok (.bipush 9, 2) := by decide +kernel
theorem dX10_source_45 : decode cX10_source 45 = .ok (.goto 4, 3) := by decide +kernel
theorem dX10_source_48 : decode cX10_source 48 = .ok (.iconst 0, 1) := by decide +kernel
theorem dX10_source_49 : decode cX10_source 49 = .ok (.istore 4, 2) := by decide +kernel
theorem dX10_source_51 : decode cX10_source 51 = .ok (.aload_n 0, 1) := by decide +kernel
theorem dX10_source_52 : decode cX10_source 52 = .ok (.iload 4, 2) := by decide +kernel
theorem dX10_source_54 : decode cX10_source 54 = .ok (.invokevirtual 115, 3) := by decide +kernel
theorem dX10_source_57 : decode cX10_source 57 = .ok (.ifCond .eq 5, 3) := by decide +kernel
theorem dX10_source_60 : decode cX10_source 60 = .ok (.iconst 0, 1) := by decide +kernel
theorem dX10_source_61 : decode cX10_source 61 = .ok (.ireturn, 1) := by decide +kernel
theorem dX10_source_62 : decode cX10_source 62 = .ok (.aload_n 0, 1) := by decide +kernel
theorem dX10_source_63 : decode cX10_source 63 = .ok (.getfield 22, 3) := by decide +kernel
theorem dX10_source_66 : decode cX10_source 66 = .ok (.aload_n 0, 1) := by decide +kernel
theorem dX10_source_67 : decode cX10_source 67 = .ok (.getfield 82, 3) := by decide +kernel
theorem dX10_source_70 : decode cX10_source 70 = .ok (.getfield 318, 3) := by decide +kernel
theorem dX10_source_73 : decode cX10_source 73 = .ok (.iload_n 3, 1) := by decide +kernel
theorem dX10_source_74 : decode cX10_source 74 = .ok (.laload, 1) := by decide +kernel
theorem dX10_source_75 : decode cX10_source 75 = .ok (.lload 5, 2) := by decide +kernel
theorem dX10_source_77 : decode cX10_source 77 = .ok (.invokevirtual 259, 3) := by decide +kernel
theorem dX10_source_80 : decode cX10_source 80 = .ok (.iconst 1, 1) := by decide +kernel
theorem dX10_source_81 : decode cX10_source 81 = .ok (.ireturn, 1) := by decide +kernel
def wj_X10_source_51 (I : HI) (J : HJ) (x3 : Int32) (x4 : Int32) (x5 : Int64) (Post : Bool → HI → HJ → Prop) : Prop :=
  w_X10_fails x4 I J (fun (r_2 : Bool) (I_3 : HI) => ((r_2 = false → (vp_in x3 12 ∧ (w_X1_become (J 53 (Int32.toNatClampNeg x3)) x5 I_3 J (fun (J_4 : HJ) => (Post true I_3 J_4))))) ∧ (r_2 = true → (Post false I_3 J))))
set_option maxHeartbeats 4000000 in
set_option maxRecDepth 20000 in
theorem wk_X10_source_51 (g : kf_G) (hg : kf_g g) {x : kf_X} (hx : kf_ok g x RX10 cX10_source 7 6 147) (I : HI) (J : HJ) (x3 : Int32) (x4 : Int32) (x5 : Int64) (Post : Bool → HI → HJ → Prop) (hret : ∀ (pc : Nat) (lv : List (Nat × Value)) (v : Bool) (Iy : HI) (Jy : HJ), decode cX10_source pc = .ok (.ireturn, 1) → Post v Iy Jy → kf_M g x 7 pc lv [.int (kb v)] Iy Jy) (h : wj_X10_source_51 I J x3 x4 x5 Post) : kf_M g x 7 51 [(0, .ref (g.2.2.2 0)), (3, .int x3), (4, .int x4), (5, .long x5)] [] I J := by
  unfold wj_X10_source_51 at h
  refine kf_aload_n hx dX10_source_51 rfl 0 rfl ?_
  refine kf_iload hx dX10_source_52 2 rfl ?_
  refine kf_callVbI (st := []) hx (m_X10_fails g hg x4 I J _ h) lk_RX10_115 km_X10_fails ob_0 rfl (by decide) rfl (Nat.le_of_ble_eq_true rfl) dX10_source_54 (fun r_2 I_3 h => ?_)
  refine kf_ifB_eq hx 62 dX10_source_57 (by decide) (fun c => ?_) (fun c => ?_)
  · replace h := h.1 c
    refine kf_aload_n hx dX10_source_62 rfl 0 rfl ?_
    refine kf_getR (n := 11) hx sl_0_2 fl_RX10_22 dX10_source_63 ?_
    refine kf_aload_n hx dX10_source_66 rfl 0 rfl ?_
    refine kf_getR (n := 52) hx sl_0_10 fl_RX10_82 dX10_source_67 ?_
    refine kf_getR (n := 53) hx sl_52_3 fl_RX10_318 dX10_source_70 ?_
    refine kf_iload_n hx dX10_source_73 rfl 1 rfl ?_
    refine kf_lald hx ar_53 h.1 dX10_source_74 ?_
    replace h := h.2
    refine kf_lload hx dX10_source_75 3 rfl ?_
    refine kf_callVvJ (st := []) hx (m_X1_become g hg (J 53 (Int32.toNatClampNeg x3)) x5 I_3 J _ h) lk_RX10_259 km_X1_become ob_11 rfl (by decide) rfl (Nat.le_of_ble_eq_true rfl) dX10_source_77 (fun J_4 h => ?_)
    refine kf_iconst (v := 1) hx dX10_source_80 (by decide) ?_
    exact hret _ _ true _ _ dX10_source_81 h
  · replace h := h.2 c
    refine kf_iconst (v := 0) hx dX10_source_60 (by decide) ?_
    exact hret _ _ false _ _ dX10_source_61 h
def wj_X10_source_49 (I : HI) (J : HJ) (x3 : Int32) (x5 : Int64) (t0 : Int32) (Post : Bool → HI → HJ → Prop) : Prop :=
  wj_X10_source_51 I J x3 t0 x5 Post
set_option maxHeartbeats 4000000 in
set_option maxRecDepth 20000 in
theorem wk_X10_source_49 (g : kf_G) (hg : kf_g g) {x : kf_X} (hx : kf_ok g x RX10 cX10_source 7 6 147) (I : HI) (J : HJ) (x3 : Int32) (x5 : Int64) (t0 : Int32) (Post : Bool → HI → HJ → Prop) (hret : ∀ (pc : Nat) (lv : List (Nat × Value)) (v : Bool) (Iy : HI) (Jy : HJ), decode cX10_source pc = .ok (.ireturn, 1) → Post v Iy Jy → kf_M g x 7 pc lv [.int (kb v)] Iy Jy) (h : wj_X10_source_49 I J x3 x5 t0 Post) : kf_M g x 7 49 [(0, .ref (g.2.2.2 0)), (3, .int x3), (5, .long x5)] [.int t0] I J := by
  unfold wj_X10_source_49 at h
  refine kf_istore (lv' := [(4, .int t0), (0, .ref (g.2.2.2 0)), (3, .int x3), (5, .long x5)]) hx dX10_source_49 (by decide) rfl ?_
  refine kf_sub [1, 2, 0, 3] rfl ?_
  exact wk_X10_source_51 g hg hx I J x3 t0 x5 _ hret h
def w_X10_source (x1 : Int32) (x2 : Int32) (x3 : Int32) (I : HI) (J : HJ) (Post : Bool → HI → HJ → Prop) : Prop :=
  w_X10_sourceStatus x1 x2 x3 I J (fun (r_1 : Int32) => ((¬ r_1 = 0 → (wj_X10_source_51 I J x3 r_1 0 Post)) ∧ (r_1 = 0 → (vp_in x1 4 ∧ (w_X3_weighSources (2 + 2 * Int32.toNatClampNeg x1 + 1) x2 I J (fun (r_6 : Int64) (I_7 : HI) (J_8 : HJ) => ((¬ r_6 = 0 → (wj_X10_source_49 I_7 J_8 x3 r_6 0 Post)) ∧ (r_6 = 0 → (wj_X10_source_49 I_7 J_8 x3 r_6 9 Post)))))))))
set_option maxHeartbeats 4000000 in
set_option maxRecDepth 20000 in
theorem we_X10_source (g : kf_G) (hg : kf_g g) {x : kf_X} (hx : kf_ok g x RX10 cX10_source 7 6 147) (x1 : Int32) (x2 : Int32) (x3 : Int32) (I : HI) (J : HJ) (Post : Bool → HI → HJ → Prop) (hret : ∀ (pc : Nat) (lv : List (Nat × Value)) (v : Bool) (Iy : HI) (Jy : HJ), decode cX10_source pc = .ok (.ireturn, 1) → Post v Iy Jy → kf_M g x 7 pc lv [.int (kb v)] Iy Jy) (h : w_X10_source x1 x2 x3 I J Post) : kf_M g x 7 0 [(0, .ref (g.2.2.2 0)), (1, .int x1), (2, .int x2), (3, .int x3)] [] I J := by
  unfold w_X10_source at h
  refine kf_aload_n hx dX10_source_0 rfl 0 rfl ?_
  refine kf_iload_n hx dX10_source_1 rfl 1 rfl ?_
  refine kf_iload_n hx dX10_source_2 rfl 2 rfl ?_
  refine kf_iload_n hx dX10_source_3 rfl 3 rfl ?_
  refine kf_callViP (st := []) hx (m_X10_sourceStatus g hg x1 x2 x3 I J _ h) lk_RX10_310 km_X10_sourceStatus ob_0 rfl (by decide) rfl (Nat.le_of_ble_eq_true rfl) dX10_source_4 (fun r_1 h => ?_)
  refine kf_istore (lv' := [(4, .int r_1), (0, .ref (g.2.2.2 0)), (1, .int x1), (2, .int x2), (3, .int x3)]) hx dX10_source_7 (by decide) rfl ?_
  refine kf_lconst (v := 0) hx dX10_source_9 (by decide) ?_
  refine kf_lstore (lv' := [(5, .long 0), (4, .int r_1), (0, .ref (g.2.2.2 0)), (1, .int x1), (2, .int x2), (3, .int x3)]) hx dX10_source_10 (by decide) rfl ?_
  refine kf_iload hx dX10_source_12 1 rfl ?_
  refine kf_if_ne hx 51 dX10_source_14 (by decide) (fun c => ?_) (fun c => ?_)
  · replace h := h.1 c
    refine kf_sub [2, 5, 1, 0] rfl ?_
    exact wk_X10_source_51 g hg hx I J x3 r_1 0 _ hret h
  · replace h := h.2 c
    refine kf_aload_n hx dX10_source_17 rfl 2 rfl ?_
    refine kf_getR (n := 52) hx sl_0_10 fl_RX10_82 dX10_source_18 ?_
    refine kf_aload_n hx dX10_source_21 rfl 2 rfl ?_
    refine kf_getR (n := 1) hx sl_0_0 fl_RX10_11 dX10_source_22 ?_
    refine kf_iload_n hx dX10_source_25 rfl 3 rfl ?_
    have hb_5 := h.1
    refine kf_aald hx ar_1 rfl rfl h.1 dX10_source_26 ?_
    replace h := h.2
    refine kf_getR (n := (2 + 2 * Int32.toNatClampNeg x1 + 1)) hx (st_0 (tr_of hb_5)) fl_RX10_132 dX10_source_27 ?_
    refine kf_iload_n hx dX10_source_30 rfl 4 rfl ?_
    refine kf_callVl (st := []) hx (m_X3_weighSources g hg (2 + 2 * Int32.toNatClampNeg x1 + 1) x2 (st_r (tr_of hb_5)) I J _ h) lk_RX10_314 km_X3_weighSources ob_52 rfl (by decide) rfl (Nat.le_of_ble_eq_true rfl) dX10_source_31 (fun r_6 I_7 J_8 h => ?_)
    refine kf_lstore (lv' := [(5, .long r_6), (4, .int r_1), (0, .ref (g.2.2.2 0)), (1, .int x1), (2, .int x2), (3, .int x3)]) hx dX10_source_34 (by decide) rfl ?_
    refine kf_lload hx dX10_source_36 0 rfl ?_
    refine kf_lconst (v := 0) hx dX10_source_38 (by decide) ?_
    refine kf_l_ne hx 48 dX10_source_39 dX10_source_40 (by decide) (fun c => ?_) (fun c => ?_)
    · replace h := h.1 c
      refine kf_iconst (v := 0) hx dX10_source_48 (by decide) ?_
      refine kf_sub [2, 5, 0] rfl ?_
      exact wk_X10_source_49 g hg hx I_7 J_8 x3 r_6 0 _ hret h
    · replace h := h.2 c
      refine kf_bipush (v := 9) hx dX10_source_43 (by decide) ?_
      refine kf_goto hx 49 dX10_source_45 (by decide) ?_
      refine kf_sub [2, 5, 0] rfl ?_
      exact wk_X10_source_49 g hg hx I_7 J_8 x3 r_6 9 _ hret h
set_option maxHeartbeats 4000000 in
set_option maxRecDepth 20000 in
theorem m_X10_source (g : kf_G) (hg : kf_g g) (x1 : Int32) (x2 : Int32) (x3 : Int32) (I : HI) (J : HJ) (Post : Bool → HI → HJ → Prop) (h : w_X10_source x1 x2 x3 I J Post) : kf_Mb g yX10_source (kf_W yX10_source cX10_source 7 (Option.some Jvm.ClassFile.FieldType.boolean)) 6 147 [.ref (g.2.2.2 0), .int x1, .int x2, .int x3] I J Post :=
  kf_entb hg (by decide) (Nat.le_of_ble_eq_true rfl) rfl (fun x hx hr => we_X10_source g hg hx x1 x2 x3 I J Post (fun pc lv v I' J' hd hP => hr pc lv v I' J' hd hP) h)
theorem dX10_runStatus_0 : decode cX10_runStatus 0 = .ok (.aload_n 0, 1) := by decide +kernel
theorem dX10_runStatus_1 : decode cX10_runStatus 1 = .ok (.iload_n 1, 1) := by decide +kernel
theorem dX10_runStatus_2 : decode cX10_runStatus 2 = .ok (.invokevirtual 157, 3) := by decide +kernel
theorem dX10_runStatus_5 : decode cX10_runStatus 5 = .ok (.istore_n 2, 1) := by decide +kernel
theorem dX10_runStatus_6 : decode cX10_runStatus 6 = .ok (.iload_n 2, 1) := by decide +kernel
theorem dX10_runStatus_7 : decode cX10_runStatus 7 = .ok (.ifCond .eq 5, 3) := by decide +kernel
theorem dX10_runStatus_10 : decode cX10_runStatus 10 = .ok (.iload_n 2, 1) := by decide +kernel
theorem dX10_runStatus_11 : decode cX10_runStatus 11 = .ok (.ireturn, 1) := by decide +kernel
theorem dX10_runStatus_12 : decode cX10_runStatus 12 = .ok (.aload_n 0, 1) := by decide +kernel
theorem dX10_runStatus_13 : decode cX10_runStatus 13 = .ok (.getfield 11, 3) := by decide +kernel
theorem dX10_runStatus_16 : decode cX10_runStatus 16 = .ok (.iload_n 1, 1) := by decide +kernel
theorem dX10_runStatus_17 : decode cX10_runStatus 17 = .ok (.aaload, 1) := by decide +kernel
theorem dX10_runStatus_18 : decode cX10_runStatus 18 = .ok (.getfield 161, 3) := by decide +kernel
theorem dX10_runStatus_21 : decode cX10_runStatus 21 = .ok (.aload_n 0, 1) := by decide +kernel
theorem dX10_runStatus_22 : decode cX10_runStatus 22 = .ok (.getfield 29, 3) := by decide +kernel
theorem dX10_runStatus_25 : decode cX10_runStatus 25 = .ok (.getfield 185, 3) := by decide +kernel
theorem dX10_runStatus_28 : decode cX10_runStatus 28 = .ok (.if_icmp .ge 5, 3) := by decide +kernel
theorem dX10_runStatus_31 : decode cX10_runStatus 31 = .ok (.iconst 4, 1) := by decide +kernel
theorem dX10_runStatus_32 : decode cX10_runStatus 32 = .ok (.ireturn, 1) := by decide +kernel
theorem dX10_runStatus_33 : decode cX10_runStatus 33 = .ok (.aload_n 0, 1) := by decide +kernel
theorem dX10_runStatus_34 : decode cX10_runStatus 34 = .ok (.getfield 11, 3) := by decide +kernel
theorem dX10_runStatus_37 : decode cX10_runStatus 37 = .ok (.iload_n 1, 1) := by decide +kernel
theorem dX10_runStatus_38 : decode cX10_runStatus 38 = .ok (.aaload, 1) := by decide +kernel
theorem dX10_runStatus_39 : decode cX10_runStatus 39 = .ok (.aload_n 0, 1) := by decide +kernel
theorem dX10_runStatus_40 : decode cX10_runStatus 40 = .ok (.getfield 29, 3) := by decide +kernel
theorem dX10_runStatus_43 : decode cX10_runStatus 43 = .ok (.getfield 185, 3) := by decide +kernel
theorem dX10_runStatus_46 : decode cX10_runStatus 46 = .ok (.ldc2_w 130, 3) := by decide +kernel
theorem dX10_runStatus_49 : decode cX10_runStatus 49 = .ok (.ldc2_w 332, 3) := by decide +kernel
theorem dX10_runStatus_52 : decode cX10_runStatus 52 = .ok (.invokevirtual 321, 3) := by decide +kernel
theorem dX10_runStatus_55 : decode cX10_runStatus 55 = .ok (.ifCond .ne 5, 3) := by decide +kernel
theorem dX10_runStatus_58 : decode cX10_runStatus 58 = .ok (.iconst 5, 1) := by decide +kernel
theorem dX10_runStatus_59 : decode cX10_runStatus 59 = .ok (.ireturn, 1) := by decide +kernel
theorem dX10_runStatus_60 : decode cX10_runStatus 60 = .ok (.aload_n 0, 1) := by decide +kernel
theorem dX10_runStatus_61 : decode cX10_runStatus 61 = .ok (.getfield 89, 3) := by decide +kernel
theorem dX10_runStatus_64 : decode cX10_runStatus 64 = .ok (.getfield 334, 3) := by decide +kernel
theorem dX10_runStatus_67 : decode cX10_runStatus 67 = .ok (.bipush 15, 2) := by decide +kernel
theorem dX10_runStatus_69 : decode cX10_runStatus 69 = .ok (.if_icmp .ge 7, 3) := by decide +kernel
theorem dX10_runStatus_72 : decode cX10_runStatus 72 = .ok (.iconst 0, 1) := by decide +kernel
theorem dX10_runStatus_73 : decode cX10_runStatus 73 = .ok (.goto 5, 3) := by decide +kernel
theorem dX10_runStatus_76 : decode cX10_runStatus 76 = .ok (.bipush 7, 2) := by decide +kernel
theorem dX10_runStatus_78 : decode cX10_runStatus 78 = .ok (.ireturn, 1) := by decide +kernel
def w_X10_runStatus (x1 : Int32) (I : HI) (J : HJ) (Post : Int32 → Prop) : Prop :=
  w_X10_trayStatus x1 I J (fun (r_1 : Int32) => ((r_1 = 0 → (vp_in x1 4 ∧ (((I 12 11) ≤ (I (2 + 2 * Int32.toNatClampNeg x1) 2) → (vp_in x1 4 ∧ (w_X8_allBetween (2 + 2 * Int32.toNatClampNeg x1) (I 12 11) (-1) 149 I J (fun (r_4 : Bool) => ((r_4 = true → ((15 ≤ (I 54 3) → (Post 7)) ∧ (¬ 15 ≤ (I 54 3) → (Post 0)))) ∧ (r_4 = false → (Post 5))))))) ∧ (¬ (I 12 11) ≤ (I (2 + 2 * Int32.toNatClampNeg x1) 2) → (Post 4))))) ∧ (¬ r_1 = 0 → (Post r_1))))
set_option maxHeartbeats 4000000 in
set_option maxRecDepth 20000 in
theorem we_X10_runStatus (g : kf_G) (hg : kf_g g) {x : kf_X} (hx : kf_ok g x RX10 cX10_runStatus 3 2 41) (x1 : Int32) (I : HI) (J : HJ) (Post : Int32 → Prop) (hret : ∀ (pc : Nat) (lv : List (Nat × Value)) (v : Int32), decode cX10_runStatus pc = .ok (.ireturn, 1) → Post v → kf_M g x 3 pc lv [.int v] I J) (h : w_X10_runStatus x1 I J Post) : kf_M g x 3 0 [(0, .ref (g.2.2.2 0)), (1, .int x1)] [] I J := by
  unfold w_X10_runStatus at h
  refine kf_aload_n hx dX10_runStatus_0 rfl 0 rfl ?_
  refine kf_iload_n hx dX10_runStatus_1 rfl 1 rfl ?_
  refine kf_callViP (st := []) hx (m_X10_trayStatus g hg x1 I J _ h) lk_RX10_157 km_X10_trayStatus ob_0 rfl (by decide) rfl (Nat.le_of_ble_eq_true rfl) dX10_runStatus_2 (fun r_1 h => ?_)
  refine kf_istore_n (lv' := [(2, .int r_1), (0, .ref (g.2.2.2 0)), (1, .int x1)]) hx dX10_runStatus_5 rfl (by decide) rfl ?_
  refine kf_iload_n hx dX10_runStatus_6 rfl 0 rfl ?_
  refine kf_if_eq hx 12 dX10_runStatus_7 (by decide) (fun c => ?_) (fun c => ?_)
  · replace h := h.1 c
    refine kf_aload_n hx dX10_runStatus_12 rfl 1 rfl ?_
    refine kf_getR (n := 1) hx sl_0_0 fl_RX10_11 dX10_runStatus_13 ?_
    refine kf_iload_n hx dX10_runStatus_16 rfl 2 rfl ?_
    have hb_2 := h.1
    refine kf_aald hx ar_1 rfl rfl h.1 dX10_runStatus_17 ?_
    replace h := h.2
    refine kf_getI hx (st_2 (tr_of hb_2)) fl_RX10_161 dX10_runStatus_18 ?_
    refine kf_aload_n hx dX10_runStatus_21 rfl 1 rfl ?_
    refine kf_getR (n := 12) hx sl_0_3 fl_RX10_29 dX10_runStatus_22 ?_
    refine kf_getI hx sl_12_11 fl_RX10_185 dX10_runStatus_25 ?_
    refine kf_icmp_ge hx 33 dX10_runStatus_28 (by decide) (fun c => ?_) (fun c => ?_)
    · replace h := h.1 c
      refine kf_aload_n hx dX10_runStatus_33 rfl 1 rfl ?_
      refine kf_getR (n := 1) hx sl_0_0 fl_RX10_11 dX10_runStatus_34 ?_
      refine kf_iload_n hx dX10_runStatus_37 rfl 2 rfl ?_
      have hb_3 := h.1
      refine kf_aald hx ar_1 rfl rfl h.1 dX10_runStatus_38 ?_
      replace h := h.2
      refine kf_aload_n hx dX10_runStatus_39 rfl 1 rfl ?_
      refine kf_getR (n := 12) hx sl_0_3 fl_RX10_29 dX10_runStatus_40 ?_
      refine kf_getI hx sl_12_11 fl_RX10_185 dX10_runStatus_43 ?_
      refine kf_ldc2 hx ko_RX10_130 dX10_runStatus_46 ?_
      refine kf_ldc2 hx ko_RX10_332 dX10_runStatus_49 ?_
      refine kf_callVbP (st := []) hx (m_X8_allBetween g hg (2 + 2 * Int32.toNatClampNeg x1) (I 12 11) (-1) 149 (tr_of hb_3) I J _ h) lk_RX10_321 km_X8_allBetween (st_ob (tr_of hb_3)) rfl (by decide) rfl (Nat.le_of_ble_eq_true rfl) dX10_runStatus_52 (fun r_4 h => ?_)
      refine kf_ifB_ne hx 60 dX10_runStatus_55 (by decide) (fun c => ?_) (fun c => ?_)
      · replace h := h.1 c
        refine kf_aload_n hx dX10_runStatus_60 rfl 1 rfl ?_
        refine kf_getR (n := 54) hx sl_0_11 fl_RX10_89 dX10_runStatus_61 ?_
        refine kf_getI hx sl_54_3 fl_RX10_334 dX10_runStatus_64 ?_
        refine kf_bipush (v := 15) hx dX10_runStatus_67 (by decide) ?_
        refine kf_icmp_ge hx 76 dX10_runStatus_69 (by decide) (fun c => ?_) (fun c => ?_)
        · replace h := h.1 c
          refine kf_bipush (v := 7) hx dX10_runStatus_76 (by decide) ?_
          exact hret _ _ 7  dX10_runStatus_78 h
        · replace h := h.2 c
          refine kf_iconst (v := 0) hx dX10_runStatus_72 (by decide) ?_
          refine kf_goto hx 78 dX10_runStatus_73 (by decide) ?_
          exact hret _ _ 0  dX10_runStatus_78 h
      · replace h := h.2 c
        refine kf_iconst (v := 5) hx dX10_runStatus_58 (by decide) ?_
        exact hret _ _ 5  dX10_runStatus_59 h
    · replace h := h.2 c
      refine kf_iconst (v := 4) hx dX10_runStatus_31 (by decide) ?_
      exact hret _ _ 4  dX10_runStatus_32 h
  · replace h := h.2 c
    refine kf_iload_n hx dX10_runStatus_10 rfl 0 rfl ?_
    exact hret _ _ r_1  dX10_runStatus_11 h
set_option maxHeartbeats 4000000 in
set_option maxRecDepth 20000 in
theorem m_X10_runStatus (g : kf_G) (hg : kf_g g) (x1 : Int32) (I : HI) (J : HJ) (Post : Int32 → Prop) (h : w_X10_runStatus x1 I J Post) : kf_Mi g yX10_runStatus (kf_W yX10_runStatus cX10_runStatus 3 (Option.some Jvm.ClassFile.FieldType.int)) 2 41 [.ref (g.2.2.2 0), .int x1] I J (fun v I' J' => Post v ∧ I' = I ∧ J' = J) :=
  kf_enti hg (by decide) (Nat.le_of_ble_eq_true rfl) rfl (fun x hx hr => we_X10_runStatus g hg hx x1 I J Post (fun pc lv v hd hP => hr pc lv v I J hd ⟨hP, rfl, rfl⟩) h)
theorem dX10_run_0 : decode cX10_run 0 = .ok (.aload_n 0, 1) := by decide +kernel
theorem dX10_run_1 : decode cX10_run 1 = .ok (.aload_n 0, 1) := by decide +kernel
theorem dX10_run_2 : decode cX10_run 2 = .ok (.iload_n 1, 1) := by decide +kernel
theorem dX10_run_3 : decode cX10_run 3 = .ok (.invokevirtual 325, 3) := by decide +kernel
theorem dX10_run_6 : decode cX10_run 6 = .ok (.invokevirtual 115, 3) := by decide +kernel
theorem dX10_run_9 : decode cX10_run 9 = .ok (.ifCond .eq 5, 3) := by decide +kernel
theorem dX10_run_12 : decode cX10_run 12 = .ok (.iconst (-1), 1) := by decide +kernel
theorem dX10_run_13 : decode cX10_run 13 = .ok (.ireturn, 1) := by decide +kernel
theorem dX10_run_14 : decode cX10_run 14 = .ok (.aload_n 0, 1) := by decide +kernel
theorem dX10_run_15 : decode cX10_run 15 = .ok (.getfield 89, 3) := by decide +kernel
theorem dX10_run_18 : decode cX10_run 18 = .ok (.aload_n 0, 1) := by decide +kernel
theorem dX10_run_19 : decode cX10_run 19 = .ok (.getfield 11, 3) := by decide +kernel
theorem dX10_run_22 : decode cX10_run 22 = .ok (.iload_n 1, 1) := by decide +kernel
theorem dX10_run_23 : decode cX10_run 23 = .ok (.aaload, 1) := by decide +kernel
theorem dX10_run_24 : decode cX10_run 24 = .ok (.getfield 132, 3) := by decide +kernel
theorem dX10_run_27 : decode cX10_run 27 = .ok (.invokevirtual 328, 3) := by decide +kernel
theorem dX10_run_30 : decode cX10_run 30 = .ok (.ireturn, 1) := by decide +kernel
def w_X10_run (x1 : Int32) (I : HI) (J : HJ) (Post : Int32 → HI → Prop) : Prop :=
  w_X10_runStatus x1 I J (fun (r_1 : Int32) => (w_X10_fails r_1 I J (fun (r_2 : Bool) (I_3 : HI) => ((r_2 = false → (vp_in x1 4 ∧ (w_X6_keep (2 + 2 * Int32.toNatClampNeg x1 + 1) I_3 J (fun (r_5 : Int32) (I_6 : HI) => (Post r_5 I_6))))) ∧ (r_2 = true → (Post (-1) I_3))))))
set_option maxHeartbeats 4000000 in
set_option maxRecDepth 20000 in
theorem we_X10_run (g : kf_G) (hg : kf_g g) {x : kf_X} (hx : kf_ok g x RX10 cX10_run 2 3 63) (x1 : Int32) (I : HI) (J : HJ) (Post : Int32 → HI → Prop) (hret : ∀ (pc : Nat) (lv : List (Nat × Value)) (v : Int32) (Iy : HI), decode cX10_run pc = .ok (.ireturn, 1) → Post v Iy → kf_M g x 2 pc lv [.int v] Iy J) (h : w_X10_run x1 I J Post) : kf_M g x 2 0 [(0, .ref (g.2.2.2 0)), (1, .int x1)] [] I J := by
  unfold w_X10_run at h
  refine kf_aload_n hx dX10_run_0 rfl 0 rfl ?_
  refine kf_aload_n hx dX10_run_1 rfl 0 rfl ?_
  refine kf_iload_n hx dX10_run_2 rfl 1 rfl ?_
  refine kf_callViP (st := [.ref (g.2.2.2 0)]) hx (m_X10_runStatus g hg x1 I J _ h) lk_RX10_325 km_X10_runStatus ob_0 rfl (by decide) rfl (Nat.le_of_ble_eq_true rfl) dX10_run_3 (fun r_1 h => ?_)
  refine kf_callVbI (st := []) hx (m_X10_fails g hg r_1 I J _ h) lk_RX10_115 km_X10_fails ob_0 rfl (by decide) rfl (Nat.le_of_ble_eq_true rfl) dX10_run_6 (fun r_2 I_3 h => ?_)
  refine kf_ifB_eq hx 14 dX10_run_9 (by decide) (fun c => ?_) (fun c => ?_)
  · replace h := h.1 c
    refine kf_aload_n hx dX10_run_14 rfl 0 rfl ?_
    refine kf_getR (n := 54) hx sl_0_11 fl_RX10_89 dX10_run_15 ?_
    refine kf_aload_n hx dX10_run_18 rfl 0 rfl ?_
    refine kf_getR (n := 1) hx sl_0_0 fl_RX10_11 dX10_run_19 ?_
    refine kf_iload_n hx dX10_run_22 rfl 1 rfl ?_
    have hb_4 := h.1
    refine kf_aald hx ar_1 rfl rfl h.1 dX10_run_23 ?_
    replace h := h.2
    refine kf_getR (n := (2 + 2 * Int32.toNatClampNeg x1 + 1)) hx (st_0 (tr_of hb_4)) fl_RX10_132 dX10_run_24 ?_
    refine kf_callViI (st := []) hx (m_X6_keep g hg (2 + 2 * Int32.toNatClampNeg x1 + 1) (st_r (tr_of hb_4)) I_3 J _ h) lk_RX10_328 km_X6_keep ob_54 rfl (by decide) rfl (Nat.le_of_ble_eq_true rfl) dX10_run_27 (fun r_5 I_6 h => ?_)
    exact hret _ _ r_5 _ dX10_run_30 h
  · replace h := h.2 c
    refine kf_iconst (v := (-1)) hx dX10_run_12 (by decide) ?_
    exact hret _ _ (-1) _ dX10_run_13 h
set_option maxHeartbeats 4000000 in
set_option maxRecDepth 20000 in
theorem m_X10_run (g : kf_G) (hg : kf_g g) (x1 : Int32) (I : HI) (J : HJ) (Post : Int32 → HI → Prop) (h : w_X10_run x1 I J Post) : kf_Mi g yX10_run (kf_W yX10_run cX10_run 2 (Option.some Jvm.ClassFile.FieldType.int)) 3 63 [.ref (g.2.2.2 0), .int x1] I J (fun v I' J' => Post v I' ∧ J' = J) :=
  kf_enti hg (by decide) (Nat.le_of_ble_eq_true rfl) rfl (fun x hx hr => we_X10_run g hg hx x1 I J Post (fun pc lv v I' hd hP => hr pc lv v I' J hd ⟨hP, rfl⟩) h)
theorem dX10_likeliest_0 : decode cX10_likeliest 0 = .ok (.iconst 2, 1) := by decide +kernel
theorem dX10_likeliest_1 : decode cX10_likeliest 1 = .ok (.istore_n 2, 1) := by decide +kernel
theorem dX10_likeliest_2 : decode cX10_likeliest 2 = .ok (.aload_n 0, 1) := by decide +kernel
theorem dX10_likeliest_3 : decode cX10_likeliest 3 = .ok (.getfield 29, 3) := by decide +kernel
theorem dX10_likeliest_6 : decode cX10_likeliest 6 = .ok (.iload_n 1, 1) := by decide +kernel
theorem dX10_likeliest_7 : decode cX10_likeliest 7 = .ok (.invokevirtual 221, 3) := by decide +kernel
theorem dX10_likeliest_10 : decode cX10_likeliest 10 = .ok (.ifCond .eq 21, 3) := by decide +kernel
theorem dX10_likeliest_13 : decode cX10_likeliest 13 = .ok (.aload_n 0, 1) := by decide +kernel
theorem dX10_likeliest_14 : decode cX10_likeliest 14 = .ok (.getfield 89, 3) := by decide +kernel
theorem dX10_likeliest_17 : decode cX10_likeliest 17 = .ok (.iload_n 1, 1) := by decide +kernel
theorem dX10_likeliest_18 : decode cX10_likeliest 18 = .ok (.invokevirtual 337, 3) := by decide +kernel
theorem dX10_likeliest_21 : decode cX10_likeliest 21 = .ok (.ifCond .ne 8, 3) := by decide +kernel
theorem dX10_likeliest_24 : decode cX10_likeliest 24 = .ok (.bipush 8, 2) := by decide +kernel
theorem dX10_likeliest_26 : decode cX10_likeliest 26 = .ok (.goto 4, 3) := by decide +kernel
theorem dX10_likeliest_29 : decode cX10_likeliest 29 = .ok (.iconst 0, 1) := by decide +kernel
theorem dX10_likeliest_30 : decode cX10_likeliest 30 = .ok (.istore_n 2, 1) := by decide +kernel
theorem dX10_likeliest_31 : decode cX10_likeliest 31 = .ok (.aload_n 0, 1) := by decide +kernel
theorem dX10_likeliest_32 : decode cX10_likeliest 32 = .ok (.iload_n 2, 1) := by decide +kernel
theorem dX10_likeliest_33 : decode cX10_likeliest 33 = .ok (.invokevirtual 115, 3) := by decide +kernel
theorem dX10_likeliest_36 : decode cX10_likeliest 36 = .ok (.ifCond .eq 7, 3) := by decide +kernel
theorem dX10_likeliest_39 : decode cX10_likeliest 39 = .ok (.iconst (-1), 1) := by decide +kernel
theorem dX10_likeliest_40 : decode cX10_likeliest 40 = .ok (.goto 11, 3) := by decide +kernel
theorem dX10_likeliest_43 : decode cX10_likeliest 43 = .ok (.aload_n 0, 1) := by decide +kernel
theorem dX10_likeliest_44 : decode cX10_likeliest 44 = .ok (.getfield 89, 3) := by decide +kernel
theorem dX10_likeliest_47 : decode cX10_likeliest 47 = .ok (.iload_n 1, 1) := by decide +kernel
theorem dX10_likeliest_48 : decode cX10_likeliest 48 = .ok (.invokevirtual 340, 3) := by decide +kernel
theorem dX10_likeliest_51 : decode cX10_likeliest 51 = .ok (.ireturn, 1) := by decide +kernel
def wj_X10_likeliest_31 (I : HI) (J : HJ) (x1 : Int32) (x2 : Int32) (Post : Int32 → HI → Prop) : Prop :=
  w_X10_fails x2 I J (fun (r_2 : Bool) (I_3 : HI) => ((r_2 = false → (w_X6_likeliestOdds x1 I_3 J (fun (r_4 : Int32) => (Post r_4 I_3)))) ∧ (r_2 = true → (Post (-1) I_3))))
set_option maxHeartbeats 4000000 in
set_option maxRecDepth 20000 in
theorem wk_X10_likeliest_31 (g : kf_G) (hg : kf_g g) {x : kf_X} (hx : kf_ok g x RX10 cX10_likeliest 3 3 76) (I : HI) (J : HJ) (x1 : Int32) (x2 : Int32) (Post : Int32 → HI → Prop) (hret : ∀ (pc : Nat) (lv : List (Nat × Value)) (v : Int32) (Iy : HI), decode cX10_likeliest pc = .ok (.ireturn, 1) → Post v Iy → kf_M g x 3 pc lv [.int v] Iy J) (h : wj_X10_likeliest_31 I J x1 x2 Post) : kf_M g x 3 31 [(0, .ref (g.2.2.2 0)), (1, .int x1), (2, .int x2)] [] I J := by
  unfold wj_X10_likeliest_31 at h
  refine kf_aload_n hx dX10_likeliest_31 rfl 0 rfl ?_
  refine kf_iload_n hx dX10_likeliest_32 rfl 2 rfl ?_
  refine kf_callVbI (st := []) hx (m_X10_fails g hg x2 I J _ h) lk_RX10_115 km_X10_fails ob_0 rfl (by decide) rfl (Nat.le_of_ble_eq_true rfl) dX10_likeliest_33 (fun r_2 I_3 h => ?_)
  refine kf_ifB_eq hx 43 dX10_likeliest_36 (by decide) (fun c => ?_) (fun c => ?_)
  · replace h := h.1 c
    refine kf_aload_n hx dX10_likeliest_43 rfl 0 rfl ?_
    refine kf_getR (n := 54) hx sl_0_11 fl_RX10_89 dX10_likeliest_44 ?_
    refine kf_iload_n hx dX10_likeliest_47 rfl 1 rfl ?_
    refine kf_callViP (st := []) hx (m_X6_likeliestOdds g hg x1 I_3 J _ h) lk_RX10_340 km_X6_likeliestOdds ob_54 rfl (by decide) rfl (Nat.le_of_ble_eq_true rfl) dX10_likeliest_48 (fun r_4 h => ?_)
    exact hret _ _ r_4 _ dX10_likeliest_51 h
  · replace h := h.2 c
    refine kf_iconst (v := (-1)) hx dX10_likeliest_39 (by decide) ?_
    refine kf_goto hx 51 dX10_likeliest_40 (by decide) ?_
    exact hret _ _ (-1) _ dX10_likeliest_51 h
def wj_X10_likeliest_30 (I : HI) (J : HJ) (x1 : Int32) (t0 : Int32) (Post : Int32 → HI → Prop) : Prop :=
  wj_X10_likeliest_31 I J x1 t0 Post
set_option maxHeartbeats 4000000 in
set_option maxRecDepth 20000 in
theorem wk_X10_likeliest_30 (g : kf_G) (hg : kf_g g) {x : kf_X} (hx : kf_ok g x RX10 cX10_likeliest 3 3 76) (I : HI) (J : HJ) (x1 : Int32) (t0 : Int32) (Post : Int32 → HI → Prop) (hret : ∀ (pc : Nat) (lv : List (Nat × Value)) (v : Int32) (Iy : HI), decode cX10_likeliest pc = .ok (.ireturn, 1) → Post v Iy → kf_M g x 3 pc lv [.int v] Iy J) (h : wj_X10_likeliest_30 I J x1 t0 Post) : kf_M g x 3 30 [(0, .ref (g.2.2.2 0)), (1, .int x1)] [.int t0] I J := by
  unfold wj_X10_likeliest_30 at h
  refine kf_istore_n (lv' := [(2, .int t0), (0, .ref (g.2.2.2 0)), (1, .int x1)]) hx dX10_likeliest_30 rfl (by decide) rfl ?_
  refine kf_sub [1, 2, 0] rfl ?_
  exact wk_X10_likeliest_31 g hg hx I J x1 t0 _ hret h
def w_X10_likeliest (x1 : Int32) (I : HI) (J : HJ) (Post : Int32 → HI → Prop) : Prop :=
  w_X4_isTie x1 I J (fun (r_1 : Bool) => ((r_1 = false → (wj_X10_likeliest_31 I J x1 2 Post)) ∧ (r_1 = true → (w_X6_timesTried x1 I J (fun (r_5 : Int32) => ((¬ r_5 = 0 → (wj_X10_likeliest_30 I J x1 0 Post)) ∧ (r_5 = 0 → (wj_X10_likeliest_30 I J x1 8 Post))))))))
set_option maxHeartbeats 4000000 in
set_option maxRecDepth 20000 in
theorem we_X10_likeliest (g : kf_G) (hg : kf_g g) {x : kf_X} (hx : kf_ok g x RX10 cX10_likeliest 3 3 76) (x1 : Int32) (I : HI) (J : HJ) (Post : Int32 → HI → Prop) (hret : ∀ (pc : Nat) (lv : List (Nat × Value)) (v : Int32) (Iy : HI), decode cX10_likeliest pc = .ok (.ireturn, 1) → Post v Iy → kf_M g x 3 pc lv [.int v] Iy J) (h : w_X10_likeliest x1 I J Post) : kf_M g x 3 0 [(0, .ref (g.2.2.2 0)), (1, .int x1)] [] I J := by
  unfold w_X10_likeliest at h
  refine kf_iconst (v := 2) hx dX10_likeliest_0 (by decide) ?_
  refine kf_istore_n (lv' := [(2, .int 2), (0, .ref (g.2.2.2 0)), (1, .int x1)]) hx dX10_likeliest_1 rfl (by decide) rfl ?_
  refine kf_aload_n hx dX10_likeliest_2 rfl 1 rfl ?_
  refine kf_getR (n := 12) hx sl_0_3 fl_RX10_29 dX10_likeliest_3 ?_
  refine kf_iload_n hx dX10_likeliest_6 rfl 2 rfl ?_
  refine kf_callVbP (st := []) hx (m_X4_isTie g hg x1 I J _ h) lk_RX10_221 km_X4_isTie ob_12 rfl (by decide) rfl (Nat.le_of_ble_eq_true rfl) dX10_likeliest_7 (fun r_1 h => ?_)
  refine kf_ifB_eq hx 31 dX10_likeliest_10 (by decide) (fun c => ?_) (fun c => ?_)
  · replace h := h.1 c
    refine kf_sub [1, 2, 0] rfl ?_
    exact wk_X10_likeliest_31 g hg hx I J x1 2 _ hret h
  · replace h := h.2 c
    refine kf_aload_n hx dX10_likeliest_13 rfl 1 rfl ?_
    refine kf_getR (n := 54) hx sl_0_11 fl_RX10_89 dX10_likeliest_14 ?_
    refine kf_iload_n hx dX10_likeliest_17 rfl 2 rfl ?_
    refine kf_callViP (st := []) hx (m_X6_timesTried g hg x1 I J _ h) lk_RX10_337 km_X6_timesTried ob_54 rfl (by decide) rfl (Nat.le_of_ble_eq_true rfl) dX10_likeliest_18 (fun r_5 h => ?_)
    refine kf_if_ne hx 29 dX10_likeliest_21 (by decide) (fun c => ?_) (fun c => ?_)
    · replace h := h.1 c
      refine kf_iconst (v := 0) hx dX10_likeliest_29 (by decide) ?_
      refine kf_sub [1, 2] rfl ?_
      exact wk_X10_likeliest_30 g hg hx I J x1 0 _ hret h
    · replace h := h.2 c
      refine kf_bipush (v := 8) hx dX10_likeliest_24 (by decide) ?_
      refine kf_goto hx 30 dX10_likeliest_26 (by decide) ?_
      refine kf_sub [1, 2] rfl ?_
      exact wk_X10_likeliest_30 g hg hx I J x1 8 _ hret h
set_option maxHeartbeats 4000000 in
set_option maxRecDepth 20000 in
theorem m_X10_likeliest (g : kf_G) (hg : kf_g g) (x1 : Int32) (I : HI) (J : HJ) (Post : Int32 → HI → Prop) (h : w_X10_likeliest x1 I J Post) : kf_Mi g yX10_likeliest (kf_W yX10_likeliest cX10_likeliest 3 (Option.some Jvm.ClassFile.FieldType.int)) 3 76 [.ref (g.2.2.2 0), .int x1] I J (fun v I' J' => Post v I' ∧ J' = J) :=
  kf_enti hg (by decide) (Nat.le_of_ble_eq_true rfl) rfl (fun x hx hr => we_X10_likeliest g hg hx x1 I J Post (fun pc lv v I' hd hP => hr pc lv v I' J hd ⟨hP, rfl⟩) h)
theorem dX10_neverTried_0 : decode cX10_neverTried 0 = .ok (.aload_n 0, 1) := by decide +kernel
theorem dX10_neverTried_1 : decode cX10_neverTried 1 = .ok (.iconst 0, 1) := by decide +kernel
theorem dX10_neverTried_2 : decode cX10_neverTried 2 = .ok (.putfield 101, 3) := by decide +kernel
theorem dX10_neverTried_5 : decode cX10_neverTried 5 = .ok (.aload_n 0, 1) := by decide +kernel
theorem dX10_neverTried_6 : decode cX10_neverTried 6 = .ok (.getfield 89, 3) := by decide +kernel
theorem dX10_neverTried_9 : decode cX10_neverTried 9 = .ok (.invokevirtual 343, 3) := by decide +kernel
theorem dX10_neverTried_12 : decode cX10_neverTried 12 = .ok (.ireturn, 1) := by decide +kernel
def w_X10_neverTried  (I : HI) (J : HJ) (Post : Int32 → HI → Prop) : Prop :=
  ∀ I_1 : HI, I_1 = hI I 0 12 0 → (w_X6_untriedTies  I_1 J (fun (r_2 : Int32) => (Post r_2 I_1)))
set_option maxHeartbeats 4000000 in
set_option maxRecDepth 20000 in
theorem we_X10_neverTried (g : kf_G) (hg : kf_g g) {x : kf_X} (hx : kf_ok g x RX10 cX10_neverTried 1 3 69)  (I : HI) (J : HJ) (Post : Int32 → HI → Prop) (hret : ∀ (pc : Nat) (lv : List (Nat × Value)) (v : Int32) (Iy : HI), decode cX10_neverTried pc = .ok (.ireturn, 1) → Post v Iy → kf_M g x 1 pc lv [.int v] Iy J) (h : w_X10_neverTried  I J Post) : kf_M g x 1 0 [(0, .ref (g.2.2.2 0))] [] I J := by
  unfold w_X10_neverTried at h
  refine kf_aload_n hx dX10_neverTried_0 rfl 0 rfl ?_
  refine kf_iconst (v := 0) hx dX10_neverTried_1 (by decide) ?_
  refine kf_putI hx sl_0_12 fl_RX10_101 fp_10_12 dX10_neverTried_2 ?_
  refine kf_nmI (fun I_1 eI_1 => ?_)
  replace h := h I_1 eI_1
  refine kf_aload_n hx dX10_neverTried_5 rfl 0 rfl ?_
  refine kf_getR (n := 54) hx sl_0_11 fl_RX10_89 dX10_neverTried_6 ?_
  refine kf_callViP (st := []) hx (m_X6_untriedTies g hg  I_1 J _ h) lk_RX10_343 km_X6_untriedTies ob_54 rfl (by decide) rfl (Nat.le_of_ble_eq_true rfl) dX10_neverTried_9 (fun r_2 h => ?_)
  exact hret _ _ r_2 _ dX10_neverTried_12 h
set_option maxHeartbeats 4000000 in
set_option maxRecDepth 20000 in
theorem m_X10_neverTried (g : kf_G) (hg : kf_g g)  (I : HI) (J : HJ) (Post : Int32 → HI → Prop) (h : w_X10_neverTried  I J Post) : kf_Mi g yX10_neverTried (kf_W yX10_neverTried cX10_neverTried 1 (Option.some Jvm.ClassFile.FieldType.int)) 3 69 [.ref (g.2.2.2 0)] I J (fun v I' J' => Post v I' ∧ J' = J) :=
  kf_enti hg (by decide) (Nat.le_of_ble_eq_true rfl) rfl (fun x hx hr => we_X10_neverTried g hg hx  I J Post (fun pc lv v I' hd hP => hr pc lv v I' J hd ⟨hP, rfl⟩) h)
theorem dX10_telling_0 : decode cX10_telling 0 = .ok (.iconst 2, 1) := by decide +kernel
theorem dX10_telling_1 : decode cX10_telling 1 = .ok (.istore_n 2, 1) := by decide +kernel
theorem dX10_telling_2 : decode cX10_telling 2 = .ok (.iload_n 1, 1) := by decide +kernel
theorem dX10_telling_3 : decode cX10_telling 3 = .ok (.ifCond .lt 32, 3) := by decide +kernel
theorem dX10_telling_6 : decode cX10_telling 6 = .ok (.iload_n 1, 1) := by decide +kernel
theorem dX10_telling_7 : decode cX10_telling 7 = .ok (.aload_n 0, 1) := by decide +kernel
theorem dX10_telling_8 : decode cX10_telling 8 = .ok (.getfield 89, 3) := by decide +kernel
theorem dX10_telling_11 : decode cX10_telling 11 = .ok (.getfield 334, 3) := by decide +kernel
theorem dX10_telling_14 : decode cX10_telling 14 = .ok (.if_icmp .ge 21, 3) := by decide +kernel
theorem dX10_telling_17 : decode cX10_telling 17 = .ok (.aload_n 0, 1) := by decide +kernel
theorem dX10_telling_18 : decode cX10_telling 18 = .ok (.getfield 89, 3) := by decide +kernel
theorem dX10_telling_21 : decode cX10_telling 21 = .ok (.invokevirtual 346, 3) := by decide +kernel
theorem dX10_telling_24 : decode cX10_telling 24 = .ok (.iconst (-1), 1) := by decide +kernel
theorem dX10_telling_25 : decode cX10_telling 25 = .ok (.if_icmp .ne 8, 3) := by decide +kernel
theorem dX10_telling_28 : decode cX10_telling 28 = .ok (.bipush 9, 2) := by decide +kernel
theorem dX10_telling_30 : decode cX10_telling 30 = .ok (.goto 4, 3) := by decide +kernel
theorem dX10_telling_33 : decode cX10_telling 33 = .ok (.iconst 0, 1) := by decide +kernel
theorem dX10_telling_34 : decode cX10_telling 34 = .ok (.istore_n 2, 1) := by decide +kernel
theorem dX10_telling_35 : decode cX10_telling 35 = .ok (.aload_n 0, 1) := by decide +kernel
theorem dX10_telling_36 : decode cX10_telling 36 = .ok (.iload_n 2, 1) := by decide +kernel
theorem dX10_telling_37 : decode cX10_telling 37 = .ok (.invokevirtual 115, 3) := by decide +kernel
theorem dX10_telling_40 : decode cX10_telling 40 = .ok (.ifCond .eq 5, 3) := by decide +kernel
theorem dX10_telling_43 : decode cX10_telling 43 = .ok (.iconst (-1), 1) := by decide +kernel
theorem dX10_telling_44 : decode cX10_telling 44 = .ok (.ireturn, 1) := by decide +kernel
theorem dX10_telling_45 : decode cX10_telling 45 = .ok (.aload_n 0, 1) := by decide +kernel
theorem dX10_telling_46 : decode cX10_telling 46 = .ok (.getfield 89, 3) := by decide +kernel
theorem dX10_telling_49 : decode cX10_telling 49 = .ok (.iload_n 1, 1) := by decide +kernel
theorem dX10_telling_50 : decode cX10_telling 50 = .ok (.invokevirtual 349, 3) := by decide +kernel
theorem dX10_telling_53 : decode cX10_telling 53 = .ok (.istore_n 3, 1) := by decide +kernel
theorem dX10_telling_54 : decode cX10_telling 54 = .ok (.aload_n 0, 1) := by decide +kernel
theorem dX10_telling_55 : decode cX10_telling 55 = .ok (.getfield 22, 3) := by decide +kernel
theorem dX10_telling_58 : decode cX10_telling 58 = .ok (.aload_n 0, 1) := by decide +kernel
theorem dX10_telling_59 : decode cX10_telling 59 = .ok (.getfield 89, 3) := by decide +kernel
theorem dX10_telling_62 : decode cX10_telling 62 = .ok (.iload_n 1, 1) := by decide +kernel
theorem dX10_telling_63 : decode cX10_telling 63 = .ok (.invokevirtual 352, 3) := by decide +kernel
theorem dX10_telling_66 : decode cX10_telling 66 = .ok (.i2l, 1) := by decide +kernel
theorem dX10_telling_67 : decode cX10_telling 67 = .ok (.aload_n 0, 1) := by decide +kernel
theorem dX10_telling_68 : decode cX10_telling 68 = .ok (.getfield 89, 3) := by decide +kernel
theorem dX10_telling_71 : decode cX10_telling 71 = .ok (.invokevirtual 346, 3) := by decide +kernel
theorem dX10_telling_74 : decode cX10_telling 74 = .ok (.i2l, 1) := by decide +kernel
theorem dX10_telling_75 : decode cX10_telling 75 = .ok (.invokevirtual 259, 3) := by decide +kernel
theorem dX10_telling_78 : decode cX10_telling 78 = .ok (.iload_n 3, 1) := by decide +kernel
theorem dX10_telling_79 : decode cX10_telling 79 = .ok (.ireturn, 1) := by decide +kernel
def wj_X10_telling_35 (I : HI) (J : HJ) (x1 : Int32) (x2 : Int32) (Post : Int32 → HI → HJ → Prop) : Prop :=
  w_X10_fails x2 I J (fun (r_1 : Bool) (I_2 : HI) => ((r_1 = false → (w_X6_toldIn x1 I_2 J (fun (r_3 : Int32) => (w_X6_waysAsGood x1 I_2 J (fun (r_4 : Int32) (I_5 : HI) => (w_X6_waysToDeal  I_5 J (fun (r_6 : Int32) => (w_X1_become (Int32.toInt64 r_4) (Int32.toInt64 r_6) I_5 J (fun (J_7 : HJ) => (Post r_3 I_5 J_7)))))))))) ∧ (r_1 = true → (Post (-1) I_2 J))))
set_option maxHeartbeats 4000000 in
set_option maxRecDepth 20000 in
theorem wk_X10_telling_35 (g : kf_G) (hg : kf_g g) {x : kf_X} (hx : kf_ok g x RX10 cX10_telling 4 18 473) (I : HI) (J : HJ) (x1 : Int32) (x2 : Int32) (Post : Int32 → HI → HJ → Prop) (hret : ∀ (pc : Nat) (lv : List (Nat × Value)) (v : Int32) (Iy : HI) (Jy : HJ), decode cX10_telling pc = .ok (.ireturn, 1) → Post v Iy Jy → kf_M g x 4 pc lv [.int v] Iy Jy) (h : wj_X10_telling_35 I J x1 x2 Post) : kf_M g x 4 35 [(0, .ref (g.2.2.2 0)), (1, .int x1), (2, .int x2)] [] I J := by
  unfold wj_X10_telling_35 at h
  refine kf_aload_n hx dX10_telling_35 rfl 0 rfl ?_
  refine kf_iload_n hx dX10_telling_36 rfl 2 rfl ?_
  refine kf_callVbI (st := []) hx (m_X10_fails g hg x2 I J _ h) lk_RX10_115 km_X10_fails ob_0 rfl (by decide) rfl (Nat.le_of_ble_eq_true rfl) dX10_telling_37 (fun r_1 I_2 h => ?_)
  refine kf_ifB_eq hx 45 dX10_telling_40 (by decide) (fun c => ?_) (fun c => ?_)
  · replace h := h.1 c
    refine kf_aload_n hx dX10_telling_45 rfl 0 rfl ?_
    refine kf_getR (n := 54) hx sl_0_11 fl_RX10_89 dX10_telling_46 ?_
    refine kf_iload_n hx dX10_telling_49 rfl 1 rfl ?_
    refine kf_callViP (st := []) hx (m_X6_toldIn g hg x1 I_2 J _ h) lk_RX10_349 km_X6_toldIn ob_54 rfl (by decide) rfl (Nat.le_of_ble_eq_true rfl) dX10_telling_50 (fun r_3 h => ?_)
    refine kf_istore_n (lv' := [(3, .int r_3), (0, .ref (g.2.2.2 0)), (1, .int x1), (2, .int x2)]) hx dX10_telling_53 rfl (by decide) rfl ?_
    refine kf_aload_n hx dX10_telling_54 rfl 1 rfl ?_
    refine kf_getR (n := 11) hx sl_0_2 fl_RX10_22 dX10_telling_55 ?_
    refine kf_aload_n hx dX10_telling_58 rfl 1 rfl ?_
    refine kf_getR (n := 54) hx sl_0_11 fl_RX10_89 dX10_telling_59 ?_
    refine kf_iload_n hx dX10_telling_62 rfl 2 rfl ?_
    refine kf_callViI (st := [.ref (g.2.2.2 11)]) hx (m_X6_waysAsGood g hg x1 I_2 J _ h) lk_RX10_352 km_X6_waysAsGood ob_54 rfl (by decide) rfl (Nat.le_of_ble_eq_true rfl) dX10_telling_63 (fun r_4 I_5 h => ?_)
    refine kf_i2l hx dX10_telling_66 ?_
    refine kf_aload_n hx dX10_telling_67 rfl 1 rfl ?_
    refine kf_getR (n := 54) hx sl_0_11 fl_RX10_89 dX10_telling_68 ?_
    refine kf_callViP (st := [.long (Int32.toInt64 r_4), .ref (g.2.2.2 11)]) hx (m_X6_waysToDeal g hg  I_5 J _ h) lk_RX10_346 km_X6_waysToDeal ob_54 rfl (by decide) rfl (Nat.le_of_ble_eq_true rfl) dX10_telling_71 (fun r_6 h => ?_)
    refine kf_i2l hx dX10_telling_74 ?_
    refine kf_callVvJ (st := []) hx (m_X1_become g hg (Int32.toInt64 r_4) (Int32.toInt64 r_6) I_5 J _ h) lk_RX10_259 km_X1_become ob_11 rfl (by decide) rfl (Nat.le_of_ble_eq_true rfl) dX10_telling_75 (fun J_7 h => ?_)
    refine kf_iload_n hx dX10_telling_78 rfl 0 rfl ?_
    exact hret _ _ r_3 _ _ dX10_telling_79 h
  · replace h := h.2 c
    refine kf_iconst (v := (-1)) hx dX10_telling_43 (by decide) ?_
    exact hret _ _ (-1) _ _ dX10_telling_44 h
def wj_X10_telling_34 (I : HI) (J : HJ) (x1 : Int32) (t0 : Int32) (Post : Int32 → HI → HJ → Prop) : Prop :=
  wj_X10_telling_35 I J x1 t0 Post
set_option maxHeartbeats 4000000 in
set_option maxRecDepth 20000 in
theorem wk_X10_telling_34 (g : kf_G) (hg : kf_g g) {x : kf_X} (hx : kf_ok g x RX10 cX10_telling 4 18 473) (I : HI) (J : HJ) (x1 : Int32) (t0 : Int32) (Post : Int32 → HI → HJ → Prop) (hret : ∀ (pc : Nat) (lv : List (Nat × Value)) (v : Int32) (Iy : HI) (Jy : HJ), decode cX10_telling pc = .ok (.ireturn, 1) → Post v Iy Jy → kf_M g x 4 pc lv [.int v] Iy Jy) (h : wj_X10_telling_34 I J x1 t0 Post) : kf_M g x 4 34 [(0, .ref (g.2.2.2 0)), (1, .int x1)] [.int t0] I J := by
  unfold wj_X10_telling_34 at h
  refine kf_istore_n (lv' := [(2, .int t0), (0, .ref (g.2.2.2 0)), (1, .int x1)]) hx dX10_telling_34 rfl (by decide) rfl ?_
  refine kf_sub [1, 2, 0] rfl ?_
  exact wk_X10_telling_35 g hg hx I J x1 t0 _ hret h
def w_X10_telling (x1 : Int32) (I : HI) (J : HJ) (Post : Int32 → HI → HJ → Prop) : Prop :=
  (x1 < 0 → (wj_X10_telling_35 I J x1 2 Post)) ∧ (¬ x1 < 0 → (((I 54 3) ≤ x1 → (wj_X10_telling_35 I J x1 2 Post)) ∧ (¬ (I 54 3) ≤ x1 → (w_X6_waysToDeal  I J (fun (r_8 : Int32) => ((¬ r_8 = (-1) → (wj_X10_telling_34 I J x1 0 Post)) ∧ (r_8 = (-1) → (wj_X10_telling_34 I J x1 9 Post))))))))
set_option maxHeartbeats 4000000 in
set_option maxRecDepth 20000 in
theorem we_X10_telling (g : kf_G) (hg : kf_g g) {x : kf_X} (hx : kf_ok g x RX10 cX10_telling 4 18 473) (x1 : Int32) (I : HI) (J : HJ) (Post : Int32 → HI → HJ → Prop) (hret : ∀ (pc : Nat) (lv : List (Nat × Value)) (v : Int32) (Iy : HI) (Jy : HJ), decode cX10_telling pc = .ok (.ireturn, 1) → Post v Iy Jy → kf_M g x 4 pc lv [.int v] Iy Jy) (h : w_X10_telling x1 I J Post) : kf_M g x 4 0 [(0, .ref (g.2.2.2 0)), (1, .int x1)] [] I J := by
  unfold w_X10_telling at h
  refine kf_iconst (v := 2) hx dX10_telling_0 (by decide) ?_
  refine kf_istore_n (lv' := [(2, .int 2), (0, .ref (g.2.2.2 0)), (1, .int x1)]) hx dX10_telling_1 rfl (by decide) rfl ?_
  refine kf_iload_n hx dX10_telling_2 rfl 2 rfl ?_
  refine kf_if_lt hx 35 dX10_telling_3 (by decide) (fun c => ?_) (fun c => ?_)
  · replace h := h.1 c
    refine kf_sub [1, 2, 0] rfl ?_
    exact wk_X10_telling_35 g hg hx I J x1 2 _ hret h
  · replace h := h.2 c
    refine kf_iload_n hx dX10_telling_6 rfl 2 rfl ?_
    refine kf_aload_n hx dX10_telling_7 rfl 1 rfl ?_
    refine kf_getR (n := 54) hx sl_0_11 fl_RX10_89 dX10_telling_8 ?_
    refine kf_getI hx sl_54_3 fl_RX10_334 dX10_telling_11 ?_
    refine kf_icmp_ge hx 35 dX10_telling_14 (by decide) (fun c => ?_) (fun c => ?_)
    · replace h := h.1 c
      refine kf_sub [1, 2, 0] rfl ?_
      exact wk_X10_telling_35 g hg hx I J x1 2 _ hret h
    · replace h := h.2 c
      refine kf_aload_n hx dX10_telling_17 rfl 1 rfl ?_
      refine kf_getR (n := 54) hx sl_0_11 fl_RX10_89 dX10_telling_18 ?_
      refine kf_callViP (st := []) hx (m_X6_waysToDeal g hg  I J _ h) lk_RX10_346 km_X6_waysToDeal ob_54 rfl (by decide) rfl (Nat.le_of_ble_eq_true rfl) dX10_telling_21 (fun r_8 h => ?_)
      refine kf_iconst (v := (-1)) hx dX10_telling_24 (by decide) ?_
      refine kf_icmp_ne hx 33 dX10_telling_25 (by decide) (fun c => ?_) (fun c => ?_)
      · replace h := h.1 c
        refine kf_iconst (v := 0) hx dX10_telling_33 (by decide) ?_
        refine kf_sub [1, 2] rfl ?_
        exact wk_X10_telling_34 g hg hx I J x1 0 _ hret h
      · replace h := h.2 c
        refine kf_bipush (v := 9) hx dX10_telling_28 (by decide) ?_
        refine kf_goto hx 34 dX10_telling_30 (by decide) ?_
        refine kf_sub [1, 2] rfl ?_
        exact wk_X10_telling_34 g hg hx I J x1 9 _ hret h
set_option maxHeartbeats 4000000 in
set_option maxRecDepth 20000 in
theorem m_X10_telling (g : kf_G) (hg : kf_g g) (x1 : Int32) (I : HI) (J : HJ) (Post : Int32 → HI → HJ → Prop) (h : w_X10_telling x1 I J Post) : kf_Mi g yX10_telling (kf_W yX10_telling cX10_telling 4 (Option.some Jvm.ClassFile.FieldType.int)) 18 473 [.ref (g.2.2.2 0), .int x1] I J Post :=
  kf_enti hg (by decide) (Nat.le_of_ble_eq_true rfl) rfl (fun x hx hr => we_X10_telling g hg hx x1 I J Post (fun pc lv v I' J' hd hP => hr pc lv v I' J' hd hP) h)
theorem dX10_lead_0 : decode cX10_lead 0 = .ok (.aload_n 0, 1) := by decide +kernel
theorem dX10_lead_1 : decode cX10_lead 1 = .ok (.getfield 29, 3) := by decide +kernel
theorem dX10_lead_4 : decode cX10_lead 4 = .ok (.iload_n 1, 1) := by decide +kernel
theorem dX10_lead_5 : decode cX10_lead 5 = .ok (.invokevirtual 242, 3) := by decide +kernel
theorem dX10_lead_8 : decode cX10_lead 8 = .ok (.ifCond .eq 29, 3) := by decide +kernel
theorem dX10_lead_11 : decode cX10_lead 11 = .ok (.aload_n 0, 1) := by decide +kernel
theorem dX10_lead_12 : decode cX10_lead 12 = .ok (.getfield 29, 3) := by decide +kernel
theorem dX10_lead_15 : decode cX10_lead 15 = .ok (.iload_n 2, 1) := by decide +kernel
theorem dX10_lead_16 : decode cX10_lead 16 = .ok (.invokevirtual 236, 3) := by decide +kernel
theorem dX10_lead_19 : decode cX10_lead 19 = .ok (.ifCond .eq 18, 3) := by decide +kernel
theorem dX10_lead_22 : decode cX10_lead 22 = .ok (.aload_n 0, 1) := by decide +kernel
theorem dX10_lead_23 : decode cX10_lead 23 = .ok (.getfield 29, 3) := by decide +kernel
theorem dX10_lead_26 : decode cX10_lead 26 = .ok (.iload_n 3, 1) := by decide +kernel
theorem dX10_lead_27 : decode cX10_lead 27 = .ok (.invokevirtual 195, 3) := by decide +kernel
theorem dX10_lead_30 : decode cX10_lead 30 = .ok (.ifCond .eq 7, 3) := by decide +kernel
theorem dX10_lead_33 : decode cX10_lead 33 = .ok (.iconst 1, 1) := by decide +kernel
theorem dX10_lead_34 : decode cX10_lead 34 = .ok (.goto 4, 3) := by decide +kernel
theorem dX10_lead_37 : decode cX10_lead 37 = .ok (.iconst 0, 1) := by decide +kernel
theorem dX10_lead_38 : decode cX10_lead 38 = .ok (.istore 5, 2) := by decide +kernel
theorem dX10_lead_40 : decode cX10_lead 40 = .ok (.iload 5, 2) := by decide +kernel
theorem dX10_lead_42 : decode cX10_lead 42 = .ok (.iload 4, 2) := by decide +kernel
theorem dX10_lead_44 : decode cX10_lead 44 = .ok (.iconst 0, 1) := by decide +kernel
theorem dX10_lead_45 : decode cX10_lead 45 = .ok (.iconst 1, 1) := by decide +kernel
theorem dX10_lead_46 : decode cX10_lead 46 = .ok (.invokestatic 188, 3) := by decide +kernel
theorem dX10_lead_49 : decode cX10_lead 49 = .ok (.invokestatic 198, 3) := by decide +kernel
theorem dX10_lead_52 : decode cX10_lead 52 = .ok (.istore 6, 2) := by decide +kernel
theorem dX10_lead_54 : decode cX10_lead 54 = .ok (.iload 6, 2) := by decide +kernel
theorem dX10_lead_56 : decode cX10_lead 56 = .ok (.ifCond .ne 62, 3) := by decide +kernel
theorem dX10_lead_59 : decode cX10_lead 59 = .ok (.aload_n 0, 1) := by decide +kernel
theorem dX10_lead_60 : decode cX10_lead 60 = .ok (.getfield 73, 3) := by decide +kernel
theorem dX10_lead_63 : decode cX10_lead 63 = .ok (.iload_n 1, 1) := by decide +kernel
theorem dX10_lead_64 : decode cX10_lead 64 = .ok (.iconst 0, 1) := by decide +kernel
theorem dX10_lead_65 : decode cX10_lead 65 = .ok (.iconst 0, 1) := by decide +kernel
theorem dX10_lead_66 : decode cX10_lead 66 = .ok (.iload_n 2, 1) := by decide +kernel
theorem dX10_lead_67 : decode cX10_lead 67 = .ok (.invokevirtual 355, 3) := by decide +kernel
theorem dX10_lead_70 : decode cX10_lead 70 = .ok (.aload_n 0, 1) := by decide +kernel
theorem dX10_lead_71 : decode cX10_lead 71 = .ok (.getfield 73, 3) := by decide +kernel
theorem dX10_lead_74 : decode cX10_lead 74 = .ok (.getfield 359, 3) := by decide +kernel
theorem dX10_lead_77 : decode cX10_lead 77 = .ok (.iload_n 3, 1) := by decide +kernel
theorem dX10_lead_78 : decode cX10_lead 78 = .ok (.invokestatic 215, 3) := by decide +kernel
theorem dX10_lead_81 : decode cX10_lead 81 = .ok (.ifCond .eq 21, 3) := by decide +kernel
theorem dX10_lead_84 : decode cX10_lead 84 = .ok (.iload 4, 2) := by decide +kernel
theorem dX10_lead_86 : decode cX10_lead 86 = .ok (.iconst 1, 1) := by decide +kernel
theorem dX10_lead_87 : decode cX10_lead 87 = .ok (.if_icmp .eq 11, 3) := by decide +kernel
theorem dX10_lead_90 : decode cX10_lead 90 = .ok (.iload_n 1, 1) := by decide +kernel
theorem dX10_lead_91 : decode cX10_lead 91 = .ok (.iload_n 3, 1) := by decide +kernel
theorem dX10_lead_92 : decode cX10_lead 92 = .ok (.invokestatic 215, 3) := by decide +kernel
theorem dX10_lead_95 : decode cX10_lead 95 = .ok (.ifCond .ne 7, 3) := by decide +kernel
theorem dX10_lead_98 : decode cX10_lead 98 = .ok (.iconst 1, 1) := by decide +kernel
theorem dX10_lead_99 : decode cX10_lead 99 = .ok (.goto 4, 3) := by decide +kernel
theorem dX10_lead_102 : decode cX10_lead 102 = .ok (.iconst 0, 1) := by decide +kernel
theorem dX10_lead_103 : decode cX10_lead 103 = .ok (.istore 7, 2) := by decide +kernel
theorem dX10_lead_105 : decode cX10_lead 105 = .ok (.iload 7, 2) := by decide +kernel
theorem dX10_lead_107 : decode cX10_lead 107 = .ok (.ifCond .eq 7, 3) := by decide +kernel
theorem dX10_lead_110 : decode cX10_lead 110 = .ok (.iconst 0, 1) := by decide +kernel
theorem dX10_lead_111 : decode cX10_lead 111 = .ok (.goto 5, 3) := by decide +kernel
theorem dX10_lead_114 : decode cX10_lead 114 = .ok (.bipush 8, 2) := by decide +kernel
theorem dX10_lead_116 : decode cX10_lead 116 = .ok (.istore 6, 2) := by decide +kernel
theorem dX10_lead_118 : decode cX10_lead 118 = .ok (.aload_n 0, 1) := by decide +kernel
theorem dX10_lead_119 : decode cX10_lead 119 = .ok (.iload 6, 2) := by decide +kernel
theorem dX10_lead_121 : decode cX10_lead 121 = .ok (.invokevirtual 115, 3) := by decide +kernel
theorem dX10_lead_124 : decode cX10_lead 124 = .ok (.ifCond .eq 5, 3) := by decide +kernel
theorem dX10_lead_127 : decode cX10_lead 127 = .ok (.iconst (-1), 1) := by decide +kernel
theorem dX10_lead_128 : decode cX10_lead 128 = .ok (.ireturn, 1) := by decide +kernel
theorem dX10_lead_129 : decode cX10_lead 129 = .ok (.iload 4, 2) := by decide +kernel
theorem dX10_lead_131 : decode cX10_lead 131 = .ok (.iconst 1, 1) := by decide +kernel
theorem dX10_lead_132 : decode cX10_lead 132 = .ok (.if_icmp .ne 15, 3) := by decide +kernel
theorem dX10_lead_135 : decode cX10_lead 135 = .ok (.aload_n 0, 1) := by decide +kernel
theorem dX10_lead_136 : decode cX10_lead 136 = .ok (.getfield 73, 3) := by decide +kernel
theorem dX10_lead_139 : decode cX10_lead 139 = .ok (.getfield 362, 3) := by decide +kernel
theorem dX10_lead_142 : decode cX10_lead 142 = .ok (.iload_n 3, 1) := by decide +kernel
theorem dX10_lead_143 : decode cX10_lead 143 = .ok (.iaload, 1) := by decide +kernel
theorem dX10_lead_144 : decode cX10_lead 144 = .ok (.goto 12, 3) := by decide +kernel
theorem dX10_lead_147 : decode cX10_lead 147 = .ok (.aload_n 0, 1) := by decide +kernel
theorem dX10_lead_148 : decode cX10_lead 148 = .ok (.getfield 73, 3) := by decide +kernel
theorem dX10_lead_151 : decode cX10_lead 151 = .ok (.iload_n 3, 1) := by decide +kernel
theorem dX10_lead_152 : decode cX10_lead 152 = .ok (.iload_n 2, 1) := by decide +kernel
theorem dX10_lead_153 : decode cX10_lead 153 = .ok (.invokevirtual 365, 3) := by decide +kernel
theorem dX10_lead_156 : decode cX10_lead 156 = .ok (.ireturn, 1) := by decide +kernel
def wj_X10_lead_118 (I : HI) (J : HJ) (x2 : Int32) (x3 : Int32) (x4 : Int32) (x6 : Int32) (Post : Int32 → HI → Prop) : Prop :=
  w_X10_fails x6 I J (fun (r_4 : Bool) (I_5 : HI) => ((r_4 = false → ((¬ x4 = 1 → (w_X7_moverOf x3 x2 I_5 J (fun (r_6 : Int32) => (Post r_6 I_5)))) ∧ (x4 = 1 → (vp_in x3 12 ∧ (Post (I_5 49 (Int32.toNatClampNeg x3)) I_5))))) ∧ (r_4 = true → (Post (-1) I_5))))
set_option maxHeartbeats 4000000 in
set_option maxRecDepth 20000 in
theorem wk_X10_lead_118 (g : kf_G) (hg : kf_g g) {x : kf_X} (hx : kf_ok g x RX10 cX10_lead 8 4 92) (I : HI) (J : HJ) (x2 : Int32) (x3 : Int32) (x4 : Int32) (x6 : Int32) (Post : Int32 → HI → Prop) (hret : ∀ (pc : Nat) (lv : List (Nat × Value)) (v : Int32) (Iy : HI), decode cX10_lead pc = .ok (.ireturn, 1) → Post v Iy → kf_M g x 8 pc lv [.int v] Iy J) (h : wj_X10_lead_118 I J x2 x3 x4 x6 Post) : kf_M g x 8 118 [(0, .ref (g.2.2.2 0)), (2, .int x2), (3, .int x3), (4, .int x4), (6, .int x6)] [] I J := by
  unfold wj_X10_lead_118 at h
  refine kf_aload_n hx dX10_lead_118 rfl 0 rfl ?_
  refine kf_iload hx dX10_lead_119 4 rfl ?_
  refine kf_callVbI (st := []) hx (m_X10_fails g hg x6 I J _ h) lk_RX10_115 km_X10_fails ob_0 rfl (by decide) rfl (Nat.le_of_ble_eq_true rfl) dX10_lead_121 (fun r_4 I_5 h => ?_)
  refine kf_ifB_eq hx 129 dX10_lead_124 (by decide) (fun c => ?_) (fun c => ?_)
  · replace h := h.1 c
    refine kf_iload hx dX10_lead_129 3 rfl ?_
    refine kf_iconst (v := 1) hx dX10_lead_131 (by decide) ?_
    refine kf_icmp_ne hx 147 dX10_lead_132 (by decide) (fun c => ?_) (fun c => ?_)
    · replace h := h.1 c
      refine kf_aload_n hx dX10_lead_147 rfl 0 rfl ?_
      refine kf_getR (n := 48) hx sl_0_9 fl_RX10_73 dX10_lead_148 ?_
      refine kf_iload_n hx dX10_lead_151 rfl 2 rfl ?_
      refine kf_iload_n hx dX10_lead_152 rfl 1 rfl ?_
      refine kf_callViP (st := []) hx (m_X7_moverOf g hg x3 x2 I_5 J _ h) lk_RX10_365 km_X7_moverOf ob_48 rfl (by decide) rfl (Nat.le_of_ble_eq_true rfl) dX10_lead_153 (fun r_6 h => ?_)
      exact hret _ _ r_6 _ dX10_lead_156 h
    · replace h := h.2 c
      refine kf_aload_n hx dX10_lead_135 rfl 0 rfl ?_
      refine kf_getR (n := 48) hx sl_0_9 fl_RX10_73 dX10_lead_136 ?_
      refine kf_getR (n := 49) hx sl_48_1 fl_RX10_362 dX10_lead_139 ?_
      refine kf_iload_n hx dX10_lead_142 rfl 2 rfl ?_
      refine kf_iald hx ar_49 h.1 dX10_lead_143 ?_
      replace h := h.2
      refine kf_goto hx 156 dX10_lead_144 (by decide) ?_
      exact hret _ _ (I_5 49 (Int32.toNatClampNeg x3)) _ dX10_lead_156 h
  · replace h := h.2 c
    refine kf_iconst (v := (-1)) hx dX10_lead_127 (by decide) ?_
    exact hret _ _ (-1) _ dX10_lead_128 h
def wj_X10_lead_116 (I : HI) (J : HJ) (x2 : Int32) (x3 : Int32) (x4 : Int32) (t0 : Int32) (Post : Int32 → HI → Prop) : Prop :=
  wj_X10_lead_118 I J x2 x3 x4 t0 Post
set_option maxHeartbeats 4000000 in
set_option maxRecDepth 20000 in
theorem wk_X10_lead_116 (g : kf_G) (hg : kf_g g) {x : kf_X} (hx : kf_ok g x RX10 cX10_lead 8 4 92) (I : HI) (J : HJ) (x2 : Int32) (x3 : Int32) (x4 : Int32) (t0 : Int32) (Post : Int32 → HI → Prop) (hret : ∀ (pc : Nat) (lv : List (Nat × Value)) (v : Int32) (Iy : HI), decode cX10_lead pc = .ok (.ireturn, 1) → Post v Iy → kf_M g x 8 pc lv [.int v] Iy J) (h : wj_X10_lead_116 I J x2 x3 x4 t0 Post) : kf_M g x 8 116 [(0, .ref (g.2.2.2 0)), (2, .int x2), (3, .int x3), (4, .int x4)] [.int t0] I J := by
  unfold wj_X10_lead_116 at h
  refine kf_istore (lv' := [(6, .int t0), (0, .ref (g.2.2.2 0)), (2, .int x2), (3, .int x3), (4, .int x4)]) hx dX10_lead_116 (by decide) rfl ?_
  refine kf_sub [1, 2, 3, 4, 0] rfl ?_
  exact wk_X10_lead_118 g hg hx I J x2 x3 x4 t0 _ hret h
def wj_X10_lead_103 (I : HI) (J : HJ) (x2 : Int32) (x3 : Int32) (x4 : Int32) (t0 : Int32) (Post : Int32 → HI → Prop) : Prop :=
  (t0 = 0 → (wj_X10_lead_116 I J x2 x3 x4 8 Post)) ∧ (¬ t0 = 0 → (wj_X10_lead_116 I J x2 x3 x4 0 Post))
set_option maxHeartbeats 4000000 in
set_option maxRecDepth 20000 in
theorem wk_X10_lead_103 (g : kf_G) (hg : kf_g g) {x : kf_X} (hx : kf_ok g x RX10 cX10_lead 8 4 92) (I : HI) (J : HJ) (x2 : Int32) (x3 : Int32) (x4 : Int32) (t0 : Int32) (Post : Int32 → HI → Prop) (hret : ∀ (pc : Nat) (lv : List (Nat × Value)) (v : Int32) (Iy : HI), decode cX10_lead pc = .ok (.ireturn, 1) → Post v Iy → kf_M g x 8 pc lv [.int v] Iy J) (h : wj_X10_lead_103 I J x2 x3 x4 t0 Post) : kf_M g x 8 103 [(0, .ref (g.2.2.2 0)), (2, .int x2), (3, .int x3), (4, .int x4)] [.int t0] I J := by
  unfold wj_X10_lead_103 at h
  refine kf_istore (lv' := [(7, .int t0), (0, .ref (g.2.2.2 0)), (2, .int x2), (3, .int x3), (4, .int x4)]) hx dX10_lead_103 (by decide) rfl ?_
  refine kf_iload hx dX10_lead_105 0 rfl ?_
  refine kf_if_eq hx 114 dX10_lead_107 (by decide) (fun c => ?_) (fun c => ?_)
  · replace h := h.1 c
    refine kf_bipush (v := 8) hx dX10_lead_114 (by decide) ?_
    refine kf_sub [1, 2, 3, 4] rfl ?_
    exact wk_X10_lead_116 g hg hx I J x2 x3 x4 8 _ hret h
  · replace h := h.2 c
    refine kf_iconst (v := 0) hx dX10_lead_110 (by decide) ?_
    refine kf_goto hx 116 dX10_lead_111 (by decide) ?_
    refine kf_sub [1, 2, 3, 4] rfl ?_
    exact wk_X10_lead_116 g hg hx I J x2 x3 x4 0 _ hret h
def wj_X10_lead_102 (I : HI) (J : HJ) (x2 : Int32) (x3 : Int32) (x4 : Int32) (Post : Int32 → HI → Prop) : Prop :=
  wj_X10_lead_103 I J x2 x3 x4 0 Post
set_option maxHeartbeats 4000000 in
set_option maxRecDepth 20000 in
theorem wk_X10_lead_102 (g : kf_G) (hg : kf_g g) {x : kf_X} (hx : kf_ok g x RX10 cX10_lead 8 4 92) (I : HI) (J : HJ) (x2 : Int32) (x3 : Int32) (x4 : Int32) (Post : Int32 → HI → Prop) (hret : ∀ (pc : Nat) (lv : List (Nat × Value)) (v : Int32) (Iy : HI), decode cX10_lead pc = .ok (.ireturn, 1) → Post v Iy → kf_M g x 8 pc lv [.int v] Iy J) (h : wj_X10_lead_102 I J x2 x3 x4 Post) : kf_M g x 8 102 [(0, .ref (g.2.2.2 0)), (2, .int x2), (3, .int x3), (4, .int x4)] [] I J := by
  unfold wj_X10_lead_102 at h
  refine kf_iconst (v := 0) hx dX10_lead_102 (by decide) ?_
  exact wk_X10_lead_103 g hg hx I J x2 x3 x4 0 _ hret h
def wj_X10_lead_98 (I : HI) (J : HJ) (x2 : Int32) (x3 : Int32) (x4 : Int32) (Post : Int32 → HI → Prop) : Prop :=
  wj_X10_lead_103 I J x2 x3 x4 1 Post
set_option maxHeartbeats 4000000 in
set_option maxRecDepth 20000 in
theorem wk_X10_lead_98 (g : kf_G) (hg : kf_g g) {x : kf_X} (hx : kf_ok g x RX10 cX10_lead 8 4 92) (I : HI) (J : HJ) (x2 : Int32) (x3 : Int32) (x4 : Int32) (Post : Int32 → HI → Prop) (hret : ∀ (pc : Nat) (lv : List (Nat × Value)) (v : Int32) (Iy : HI), decode cX10_lead pc = .ok (.ireturn, 1) → Post v Iy → kf_M g x 8 pc lv [.int v] Iy J) (h : wj_X10_lead_98 I J x2 x3 x4 Post) : kf_M g x 8 98 [(0, .ref (g.2.2.2 0)), (2, .int x2), (3, .int x3), (4, .int x4)] [] I J := by
  unfold wj_X10_lead_98 at h
  refine kf_iconst (v := 1) hx dX10_lead_98 (by decide) ?_
  refine kf_goto hx 103 dX10_lead_99 (by decide) ?_
  exact wk_X10_lead_103 g hg hx I J x2 x3 x4 1 _ hret h
def wj_X10_lead_38 (I : HI) (J : HJ) (x1 : Int32) (x2 : Int32) (x3 : Int32) (x4 : Int32) (t0 : Int32) (Post : Int32 → HI → Prop) : Prop :=
  w_X10_isBetween x4 0 1 (fun (r_2 : Bool) => (w_X10_oneOf t0 (kb r_2) (fun (r_3 : Int32) => ((¬ r_3 = 0 → (wj_X10_lead_118 I J x2 x3 x4 r_3 Post)) ∧ (r_3 = 0 → (w_X7_play x1 0 0 x2 I J (fun (I_7 : HI) => (w_X10_has (I_7 48 8) x3 (fun (r_8 : Bool) => ((r_8 = false → (wj_X10_lead_102 I_7 J x2 x3 x4 Post)) ∧ (r_8 = true → ((x4 = 1 → (wj_X10_lead_98 I_7 J x2 x3 x4 Post)) ∧ (¬ x4 = 1 → (w_X10_has x1 x3 (fun (r_9 : Bool) => ((r_9 = true → (wj_X10_lead_102 I_7 J x2 x3 x4 Post)) ∧ (r_9 = false → (wj_X10_lead_98 I_7 J x2 x3 x4 Post))))))))))))))))))
set_option maxHeartbeats 4000000 in
set_option maxRecDepth 20000 in
theorem wk_X10_lead_38 (g : kf_G) (hg : kf_g g) {x : kf_X} (hx : kf_ok g x RX10 cX10_lead 8 4 92) (I : HI) (J : HJ) (x1 : Int32) (x2 : Int32) (x3 : Int32) (x4 : Int32) (t0 : Int32) (Post : Int32 → HI → Prop) (hret : ∀ (pc : Nat) (lv : List (Nat × Value)) (v : Int32) (Iy : HI), decode cX10_lead pc = .ok (.ireturn, 1) → Post v Iy → kf_M g x 8 pc lv [.int v] Iy J) (h : wj_X10_lead_38 I J x1 x2 x3 x4 t0 Post) : kf_M g x 8 38 [(0, .ref (g.2.2.2 0)), (1, .int x1), (2, .int x2), (3, .int x3), (4, .int x4)] [.int t0] I J := by
  unfold wj_X10_lead_38 at h
  refine kf_istore (lv' := [(5, .int t0), (0, .ref (g.2.2.2 0)), (1, .int x1), (2, .int x2), (3, .int x3), (4, .int x4)]) hx dX10_lead_38 (by decide) rfl ?_
  refine kf_iload hx dX10_lead_40 0 rfl ?_
  refine kf_iload hx dX10_lead_42 5 rfl ?_
  refine kf_iconst (v := 0) hx dX10_lead_44 (by decide) ?_
  refine kf_iconst (v := 1) hx dX10_lead_45 (by decide) ?_
  refine kf_callSbP (st := [.int t0]) hx (m_X10_isBetween g hg x4 0 1 I J _ h) lk_RX10_188 km_X10_isBetween rfl (by decide) rfl (Nat.le_of_ble_eq_true rfl) dX10_lead_46 (fun r_2 h => ?_)
  refine kf_callSiP (st := []) hx (m_X10_oneOf g hg t0 (kb r_2) I J _ h) lk_RX10_198 km_X10_oneOf rfl (by decide) rfl (Nat.le_of_ble_eq_true rfl) dX10_lead_49 (fun r_3 h => ?_)
  refine kf_istore (lv' := [(6, .int r_3), (5, .int t0), (0, .ref (g.2.2.2 0)), (1, .int x1), (2, .int x2), (3, .int x3), (4, .int x4)]) hx dX10_lead_52 (by decide) rfl ?_
  refine kf_iload hx dX10_lead_54 0 rfl ?_
  refine kf_if_ne hx 118 dX10_lead_56 (by decide) (fun c => ?_) (fun c => ?_)
  · replace h := h.1 c
    refine kf_sub [2, 4, 5, 6, 0] rfl ?_
    exact wk_X10_lead_118 g hg hx I J x2 x3 x4 r_3 _ hret h
  · replace h := h.2 c
    refine kf_aload_n hx dX10_lead_59 rfl 2 rfl ?_
    refine kf_getR (n := 48) hx sl_0_9 fl_RX10_73 dX10_lead_60 ?_
    refine kf_iload_n hx dX10_lead_63 rfl 3 rfl ?_
    refine kf_iconst (v := 0) hx dX10_lead_64 (by decide) ?_
    refine kf_iconst (v := 0) hx dX10_lead_65 (by decide) ?_
    refine kf_iload_n hx dX10_lead_66 rfl 4 rfl ?_
    refine kf_callVvI (st := []) hx (m_X7_play g hg x1 0 0 x2 I J _ h) lk_RX10_355 km_X7_play ob_48 rfl (by decide) rfl (Nat.le_of_ble_eq_true rfl) dX10_lead_67 (fun I_7 h => ?_)
    refine kf_aload_n hx dX10_lead_70 rfl 2 rfl ?_
    refine kf_getR (n := 48) hx sl_0_9 fl_RX10_73 dX10_lead_71 ?_
    refine kf_getI hx sl_48_8 fl_RX10_359 dX10_lead_74 ?_
    refine kf_iload_n hx dX10_lead_77 rfl 5 rfl ?_
    refine kf_callSbP (st := []) hx (m_X10_has g hg (I_7 48 8) x3 I_7 J _ h) lk_RX10_215 km_X10_has rfl (by decide) rfl (Nat.le_of_ble_eq_true rfl) dX10_lead_78 (fun r_8 h => ?_)
    refine kf_ifB_eq hx 102 dX10_lead_81 (by decide) (fun c => ?_) (fun c => ?_)
    · replace h := h.1 c
      refine kf_sub [2, 4, 5, 6] rfl ?_
      exact wk_X10_lead_102 g hg hx I_7 J x2 x3 x4 _ hret h
    · replace h := h.2 c
      refine kf_iload hx dX10_lead_84 6 rfl ?_
      refine kf_iconst (v := 1) hx dX10_lead_86 (by decide) ?_
      refine kf_icmp_eq hx 98 dX10_lead_87 (by decide) (fun c => ?_) (fun c => ?_)
      · replace h := h.1 c
        refine kf_sub [2, 4, 5, 6] rfl ?_
        exact wk_X10_lead_98 g hg hx I_7 J x2 x3 x4 _ hret h
      · replace h := h.2 c
        refine kf_iload_n hx dX10_lead_90 rfl 3 rfl ?_
        refine kf_iload_n hx dX10_lead_91 rfl 5 rfl ?_
        refine kf_callSbP (st := []) hx (m_X10_has g hg x1 x3 I_7 J _ h) lk_RX10_215 km_X10_has rfl (by decide) rfl (Nat.le_of_ble_eq_true rfl) dX10_lead_92 (fun r_9 h => ?_)
        refine kf_ifB_ne hx 102 dX10_lead_95 (by decide) (fun c => ?_) (fun c => ?_)
        · replace h := h.1 c
          refine kf_sub [2, 4, 5, 6] rfl ?_
          exact wk_X10_lead_102 g hg hx I_7 J x2 x3 x4 _ hret h
        · replace h := h.2 c
          refine kf_sub [2, 4, 5, 6] rfl ?_
          exact wk_X10_lead_98 g hg hx I_7 J x2 x3 x4 _ hret h
def wj_X10_lead_37 (I : HI) (J : HJ) (x1 : Int32) (x2 : Int32) (x3 : Int32) (x4 : Int32) (Post : Int32 → HI → Prop) : Prop :=
  wj_X10_lead_38 I J x1 x2 x3 x4 0 Post
set_option maxHeartbeats 4000000 in
set_option maxRecDepth 20000 in
theorem wk_X10_lead_37 (g : kf_G) (hg : kf_g g) {x : kf_X} (hx : kf_ok g x RX10 cX10_lead 8 4 92) (I : HI) (J : HJ) (x1 : Int32) (x2 : Int32) (x3 : Int32) (x4 : Int32) (Post : Int32 → HI → Prop) (hret : ∀ (pc : Nat) (lv : List (Nat × Value)) (v : Int32) (Iy : HI), decode cX10_lead pc = .ok (.ireturn, 1) → Post v Iy → kf_M g x 8 pc lv [.int v] Iy J) (h : wj_X10_lead_37 I J x1 x2 x3 x4 Post) : kf_M g x 8 37 [(0, .ref (g.2.2.2 0)), (1, .int x1), (2, .int x2), (3, .int x3), (4, .int x4)] [] I J := by
  unfold wj_X10_lead_37 at h
  refine kf_iconst (v := 0) hx dX10_lead_37 (by decide) ?_
  exact wk_X10_lead_38 g hg hx I J x1 x2 x3 x4 0 _ hret h
def w_X10_lead (x1 : Int32) (x2 : Int32) (x3 : Int32) (x4 : Int32) (I : HI) (J : HJ) (Post : Int32 → HI → Prop) : Prop :=
  w_X4_arePeople x1 I J (fun (r_1 : Bool) => ((r_1 = false → (wj_X10_lead_37 I J x1 x2 x3 x4 Post)) ∧ (r_1 = true → (w_X4_areTies x2 I J (fun (r_10 : Bool) => ((r_10 = false → (wj_X10_lead_37 I J x1 x2 x3 x4 Post)) ∧ (r_10 = true → (w_X4_isPerson_12 x3 I J (fun (r_11 : Bool) => ((r_11 = false → (wj_X10_lead_37 I J x1 x2 x3 x4 Post)) ∧ (r_11 = true → (wj_X10_lead_38 I J x1 x2 x3 x4 1 Post))))))))))))
set_option maxHeartbeats 4000000 in
set_option maxRecDepth 20000 in
theorem we_X10_lead (g : kf_G) (hg : kf_g g) {x : kf_X} (hx : kf_ok g x RX10 cX10_lead 8 4 92) (x1 : Int32) (x2 : Int32) (x3 : Int32) (x4 : Int32) (I : HI) (J : HJ) (Post : Int32 → HI → Prop) (hret : ∀ (pc : Nat) (lv : List (Nat × Value)) (v : Int32) (Iy : HI), decode cX10_lead pc = .ok (.ireturn, 1) → Post v Iy → kf_M g x 8 pc lv [.int v] Iy J) (h : w_X10_lead x1 x2 x3 x4 I J Post) : kf_M g x 8 0 [(0, .ref (g.2.2.2 0)), (1, .int x1), (2, .int x2), (3, .int x3), (4, .int x4)] [] I J := by
  unfold w_X10_lead at h
  refine kf_aload_n hx dX10_lead_0 rfl 0 rfl ?_
  refine kf_getR (n := 12) hx sl_0_3 fl_RX10_29 dX10_lead_1 ?_
  refine kf_iload_n hx dX10_lead_4 rfl 1 rfl ?_
  refine kf_callVbP (st := []) hx (m_X4_arePeople g hg x1 I J _ h) lk_RX10_242 km_X4_arePeople ob_12 rfl (by decide) rfl (Nat.le_of_ble_eq_true rfl) dX10_lead_5 (fun r_1 h => ?_)
  refine kf_ifB_eq hx 37 dX10_lead_8 (by decide) (fun c => ?_) (fun c => ?_)
  · replace h := h.1 c
    exact wk_X10_lead_37 g hg hx I J x1 x2 x3 x4 _ hret h
  · replace h := h.2 c
    refine kf_aload_n hx dX10_lead_11 rfl 0 rfl ?_
    refine kf_getR (n := 12) hx sl_0_3 fl_RX10_29 dX10_lead_12 ?_
    refine kf_iload_n hx dX10_lead_15 rfl 2 rfl ?_
    refine kf_callVbP (st := []) hx (m_X4_areTies g hg x2 I J _ h) lk_RX10_236 km_X4_areTies ob_12 rfl (by decide) rfl (Nat.le_of_ble_eq_true rfl) dX10_lead_16 (fun r_10 h => ?_)
    refine kf_ifB_eq hx 37 dX10_lead_19 (by decide) (fun c => ?_) (fun c => ?_)
    · replace h := h.1 c
      exact wk_X10_lead_37 g hg hx I J x1 x2 x3 x4 _ hret h
    · replace h := h.2 c
      refine kf_aload_n hx dX10_lead_22 rfl 0 rfl ?_
      refine kf_getR (n := 12) hx sl_0_3 fl_RX10_29 dX10_lead_23 ?_
      refine kf_iload_n hx dX10_lead_26 rfl 3 rfl ?_
      refine kf_callVbP (st := []) hx (m_X4_isPerson_12 g hg x3 I J _ h) lk_RX10_195 km_X4_isPerson ob_12 rfl (by decide) rfl (Nat.le_of_ble_eq_true rfl) dX10_lead_27 (fun r_11 h => ?_)
      refine kf_ifB_eq hx 37 dX10_lead_30 (by decide) (fun c => ?_) (fun c => ?_)
      · replace h := h.1 c
        exact wk_X10_lead_37 g hg hx I J x1 x2 x3 x4 _ hret h
      · replace h := h.2 c
        refine kf_iconst (v := 1) hx dX10_lead_33 (by decide) ?_
        refine kf_goto hx 38 dX10_lead_34 (by decide) ?_
        exact wk_X10_lead_38 g hg hx I J x1 x2 x3 x4 1 _ hret h
set_option maxHeartbeats 4000000 in
set_option maxRecDepth 20000 in
theorem m_X10_lead (g : kf_G) (hg : kf_g g) (x1 : Int32) (x2 : Int32) (x3 : Int32) (x4 : Int32) (I : HI) (J : HJ) (Post : Int32 → HI → Prop) (h : w_X10_lead x1 x2 x3 x4 I J Post) : kf_Mi g yX10_lead (kf_W yX10_lead cX10_lead 8 (Option.some Jvm.ClassFile.FieldType.int)) 4 92 [.ref (g.2.2.2 0), .int x1, .int x2, .int x3, .int x4] I J (fun v I' J' => Post v I' ∧ J' = J) :=
  kf_enti hg (by decide) (Nat.le_of_ble_eq_true rfl) rfl (fun x hx hr => we_X10_lead g hg hx x1 x2 x3 x4 I J Post (fun pc lv v I' hd hP => hr pc lv v I' J hd ⟨hP, rfl⟩) h)
theorem dX10_checkStatus_0 : decode cX10_checkStatus 0 = .ok (.iload_n 3, 1) := by decide +kernel
theorem dX10_checkStatus_1 : decode cX10_checkStatus 1 = .ok (.invokestatic 111, 3) := by decide +kernel
theorem dX10_checkStatus_4 : decode cX10_checkStatus 4 = .ok (.ifCond .ne 5, 3) := by decide +kernel
theorem dX10_checkStatus_7 : decode cX10_checkStatus 7 = .ok (.iconst 1, 1) := by decide +kernel
theorem dX10_checkStatus_8 : decode cX10_checkStatus 8 = .ok (.ireturn, 1) := by decide +kernel
theorem dX10_checkStatus_9 : decode cX10_checkStatus 9 = .ok (.aload_n 0, 1) := by decide +kernel
theorem dX10_checkStatus_10 : decode cX10_checkStatus 10 = .ok (.getfield 29, 3) := by decide +kernel
theorem dX10_checkStatus_13 : decode cX10_checkStatus 13 = .ok (.iload_n 1, 1) := by decide +kernel
theorem dX10_checkStatus_14 : decode cX10_checkStatus 14 = .ok (.invokevirtual 242, 3) := by decide +kernel
theorem dX10_checkStatus_17 : decode cX10_checkStatus 17 = .ok (.ifCond .eq 14, 3) := by decide +kernel
theorem dX10_checkStatus_20 : decode cX10_checkStatus 20 = .ok (.aload_n 0, 1) := by decide +kernel
theorem dX10_checkStatus_21 : decode cX10_checkStatus 21 = .ok (.getfield 29, 3) := by decide +kernel
theorem dX10_checkStatus_24 : decode cX10_checkStatus 24 = .ok (.iload_n 2, 1) := by decide +kernel
theorem dX10_checkStatus_25 : decode cX10_checkStatus 25 = .ok (.invokevirtual 236, 3) := by decide +kernel
theorem dX10_checkStatus_28 : decode cX10_checkStatus 28 = .ok (.ifCond .ne 5, 3) := by decide +kernel
theorem dX10_checkStatus_31 : decode cX10_checkStatus 31 = .ok (.iconst 2, 1) := by decide +kernel
theorem dX10_checkStatus_32 : decode cX10_checkStatus 32 = .ok (.ireturn, 1) := by decide +kernel
theorem dX10_checkStatus_33 : decode cX10_checkStatus 33 = .ok (.aload_n 0, 1) := by decide +kernel
theorem dX10_checkStatus_34 : decode cX10_checkStatus 34 = .ok (.getfield 11, 3) := by decide +kernel
theorem dX10_checkStatus_37 : decode cX10_checkStatus 37 = .ok (.iload_n 3, 1) := by decide +kernel
theorem dX10_checkStatus_38 : decode cX10_checkStatus 38 = .ok (.aaload, 1) := by decide +kernel
theorem dX10_checkStatus_39 : decode cX10_checkStatus 39 = .ok (.invokevirtual 146, 3) := by decide +kernel
theorem dX10_checkStatus_42 : decode cX10_checkStatus 42 = .ok (.ifCond .eq 5, 3) := by decide +kernel
theorem dX10_checkStatus_45 : decode cX10_checkStatus 45 = .ok (.iconst 3, 1) := by decide +kernel
theorem dX10_checkStatus_46 : decode cX10_checkStatus 46 = .ok (.ireturn, 1) := by decide +kernel
theorem dX10_checkStatus_47 : decode cX10_checkStatus 47 = .ok (.aload_n 0, 1) := by decide +kernel
theorem dX10_checkStatus_48 : decode cX10_checkStatus 48 = .ok (.getfield 11, 3) := by decide +kernel
theorem dX10_checkStatus_51 : decode cX10_checkStatus 51 = .ok (.iload_n 3, 1) := by decide +kernel
theorem dX10_checkStatus_52 : decode cX10_checkStatus 52 = .ok (.aaload, 1) := by decide +kernel
theorem dX10_checkStatus_53 : decode cX10_checkStatus 53 = .ok (.getfield 161, 3) := by decide +kernel
theorem dX10_checkStatus_56 : decode cX10_checkStatus 56 = .ok (.aload_n 0, 1) := by decide +kernel
theorem dX10_checkStatus_57 : decode cX10_checkStatus 57 = .ok (.getfield 29, 3) := by decide +kernel
theorem dX10_checkStatus_60 : decode cX10_checkStatus 60 = .ok (.getfield 185, 3) := by decide +kernel
theorem dX10_checkStatus_63 : decode cX10_checkStatus 63 = .ok (.if_icmp .ge 7, 3) := by decide +kernel
theorem dX10_checkStatus_66 : decode cX10_checkStatus 66 = .ok (.iconst 4, 1) := by decide +kernel
theorem dX10_checkStatus_67 : decode cX10_checkStatus 67 = .ok (.goto 4, 3) := by decide +kernel
theorem dX10_checkStatus_70 : decode cX10_checkStatus 70 = .ok (.iconst 0, 1) := by decide +kernel
theorem dX10_checkStatus_71 : decode cX10_checkStatus 71 = .ok (.ireturn, 1) := by decide +kernel
def w_X10_checkStatus (x1 : Int32) (x2 : Int32) (x3 : Int32) (I : HI) (J : HJ) (Post : Int32 → Prop) : Prop :=
  w_X10_isTray x3 (fun (r_1 : Bool) => ((r_1 = true → (w_X4_arePeople x1 I J (fun (r_2 : Bool) => ((r_2 = false → (Post 2)) ∧ (r_2 = true → (w_X4_areTies x2 I J (fun (r_3 : Bool) => ((r_3 = true → (vp_in x3 4 ∧ (w_X8_isMissing (2 + 2 * Int32.toNatClampNeg x3) I J (fun (r_5 : Bool) => ((r_5 = false → (vp_in x3 4 ∧ (((I 12 11) ≤ (I (2 + 2 * Int32.toNatClampNeg x3) 2) → (Post 0)) ∧ (¬ (I 12 11) ≤ (I (2 + 2 * Int32.toNatClampNeg x3) 2) → (Post 4))))) ∧ (r_5 = true → (Post 3))))))) ∧ (r_3 = false → (Post 2)))))))))) ∧ (r_1 = false → (Post 1))))
set_option maxHeartbeats 4000000 in
set_option maxRecDepth 20000 in
theorem we_X10_checkStatus (g : kf_G) (hg : kf_g g) {x : kf_X} (hx : kf_ok g x RX10 cX10_checkStatus 4 1 21) (x1 : Int32) (x2 : Int32) (x3 : Int32) (I : HI) (J : HJ) (Post : Int32 → Prop) (hret : ∀ (pc : Nat) (lv : List (Nat × Value)) (v : Int32), decode cX10_checkStatus pc = .ok (.ireturn, 1) → Post v → kf_M g x 4 pc lv [.int v] I J) (h : w_X10_checkStatus x1 x2 x3 I J Post) : kf_M g x 4 0 [(0, .ref (g.2.2.2 0)), (1, .int x1), (2, .int x2), (3, .int x3)] [] I J := by
  unfold w_X10_checkStatus at h
  refine kf_iload_n hx dX10_checkStatus_0 rfl 3 rfl ?_
  refine kf_callSbP (st := []) hx (m_X10_isTray g hg x3 I J _ h) lk_RX10_111 km_X10_isTray rfl (by decide) rfl (Nat.le_of_ble_eq_true rfl) dX10_checkStatus_1 (fun r_1 h => ?_)
  refine kf_ifB_ne hx 9 dX10_checkStatus_4 (by decide) (fun c => ?_) (fun c => ?_)
  · replace h := h.1 c
    refine kf_aload_n hx dX10_checkStatus_9 rfl 0 rfl ?_
    refine kf_getR (n := 12) hx sl_0_3 fl_RX10_29 dX10_checkStatus_10 ?_
    refine kf_iload_n hx dX10_checkStatus_13 rfl 1 rfl ?_
    refine kf_callVbP (st := []) hx (m_X4_arePeople g hg x1 I J _ h) lk_RX10_242 km_X4_arePeople ob_12 rfl (by decide) rfl (Nat.le_of_ble_eq_true rfl) dX10_checkStatus_14 (fun r_2 h => ?_)
    refine kf_ifB_eq hx 31 dX10_checkStatus_17 (by decide) (fun c => ?_) (fun c => ?_)
    · replace h := h.1 c
      refine kf_iconst (v := 2) hx dX10_checkStatus_31 (by decide) ?_
      exact hret _ _ 2  dX10_checkStatus_32 h
    · replace h := h.2 c
      refine kf_aload_n hx dX10_checkStatus_20 rfl 0 rfl ?_
      refine kf_getR (n := 12) hx sl_0_3 fl_RX10_29 dX10_checkStatus_21 ?_
      refine kf_iload_n hx dX10_checkStatus_24 rfl 2 rfl ?_
      refine kf_callVbP (st := []) hx (m_X4_areTies g hg x2 I J _ h) lk_RX10_236 km_X4_areTies ob_12 rfl (by decide) rfl (Nat.le_of_ble_eq_true rfl) dX10_checkStatus_25 (fun r_3 h => ?_)
      refine kf_ifB_ne hx 33 dX10_checkStatus_28 (by decide) (fun c => ?_) (fun c => ?_)
      · replace h := h.1 c
        refine kf_aload_n hx dX10_checkStatus_33 rfl 0 rfl ?_
        refine kf_getR (n := 1) hx sl_0_0 fl_RX10_11 dX10_checkStatus_34 ?_
        refine kf_iload_n hx dX10_checkStatus_37 rfl 3 rfl ?_
        have hb_4 := h.1
        refine kf_aald hx ar_1 rfl rfl h.1 dX10_checkStatus_38 ?_
        replace h := h.2
        refine kf_callVbP (st := []) hx (m_X8_isMissing g hg (2 + 2 * Int32.toNatClampNeg x3) (tr_of hb_4) I J _ h) lk_RX10_146 km_X8_isMissing (st_ob (tr_of hb_4)) rfl (by decide) rfl (Nat.le_of_ble_eq_true rfl) dX10_checkStatus_39 (fun r_5 h => ?_)
        refine kf_ifB_eq hx 47 dX10_checkStatus_42 (by decide) (fun c => ?_) (fun c => ?_)
        · replace h := h.1 c
          refine kf_aload_n hx dX10_checkStatus_47 rfl 0 rfl ?_
          refine kf_getR (n := 1) hx sl_0_0 fl_RX10_11 dX10_checkStatus_48 ?_
          refine kf_iload_n hx dX10_checkStatus_51 rfl 3 rfl ?_
          have hb_6 := h.1
          refine kf_aald hx ar_1 rfl rfl h.1 dX10_checkStatus_52 ?_
          replace h := h.2
          refine kf_getI hx (st_2 (tr_of hb_6)) fl_RX10_161 dX10_checkStatus_53 ?_
          refine kf_aload_n hx dX10_checkStatus_56 rfl 0 rfl ?_
          refine kf_getR (n := 12) hx sl_0_3 fl_RX10_29 dX10_checkStatus_57 ?_
          refine kf_getI hx sl_12_11 fl_RX10_185 dX10_checkStatus_60 ?_
          refine kf_icmp_ge hx 70 dX10_checkStatus_63 (by decide) (fun c => ?_) (fun c => ?_)
          · replace h := h.1 c
            refine kf_iconst (v := 0) hx dX10_checkStatus_70 (by decide) ?_
            exact hret _ _ 0  dX10_checkStatus_71 h
          · replace h := h.2 c
            refine kf_iconst (v := 4) hx dX10_checkStatus_66 (by decide) ?_
            refine kf_goto hx 71 dX10_checkStatus_67 (by decide) ?_
            exact hret _ _ 4  dX10_checkStatus_71 h
        · replace h := h.2 c
          refine kf_iconst (v := 3) hx dX10_checkStatus_45 (by decide) ?_
          exact hret _ _ 3  dX10_checkStatus_46 h
      · replace h := h.2 c
        refine kf_iconst (v := 2) hx dX10_checkStatus_31 (by decide) ?_
        exact hret _ _ 2  dX10_checkStatus_32 h
  · replace h := h.2 c
    refine kf_iconst (v := 1) hx dX10_checkStatus_7 (by decide) ?_
    exact hret _ _ 1  dX10_checkStatus_8 h
set_option maxHeartbeats 4000000 in
set_option maxRecDepth 20000 in
theorem m_X10_checkStatus (g : kf_G) (hg : kf_g g) (x1 : Int32) (x2 : Int32) (x3 : Int32) (I : HI) (J : HJ) (Post : Int32 → Prop) (h : w_X10_checkStatus x1 x2 x3 I J Post) : kf_Mi g yX10_checkStatus (kf_W yX10_checkStatus cX10_checkStatus 4 (Option.some Jvm.ClassFile.FieldType.int)) 1 21 [.ref (g.2.2.2 0), .int x1, .int x2, .int x3] I J (fun v I' J' => Post v ∧ I' = I ∧ J' = J) :=
  kf_enti hg (by decide) (Nat.le_of_ble_eq_true rfl) rfl (fun x hx hr => we_X10_checkStatus g hg hx x1 x2 x3 I J Post (fun pc lv v hd hP => hr pc lv v I J hd ⟨hP, rfl, rfl⟩) h)
theorem dX10_check_0 : decode cX10_check 0 = .ok (.aload_n 0, 1) := by decide +kernel
theorem dX10_check_1 : decode cX10_check 1 = .ok (.aload_n 0, 1) := by decide +kernel
theorem dX10_check_2 : decode cX10_check 2 = .ok (.iload_n 1, 1) := by decide +kernel
theorem dX10_check_3 : decode cX10_check 3 = .ok (.iload_n 2, 1) := by decide +kernel
theorem dX10_check_4 : decode cX10_check 4 = .ok (.iload_n 3, 1) := by decide +kernel
theorem dX10_check_5 : decode cX10_check 5 = .ok (.invokevirtual 368, 3) := by decide +kernel
theorem dX10_check_8 : decode cX10_check 8 = .ok (.invokevirtual 115, 3) := by decide +kernel
theorem dX10_check_11 : decode cX10_check 11 = .ok (.ifCond .eq 5, 3) := by decide +kernel
theorem dX10_check_14 : decode cX10_check 14 = .ok (.iconst (-1), 1) := by decide +kernel
theorem dX10_check_15 : decode cX10_check 15 = .ok (.ireturn, 1) := by decide +kernel
theorem dX10_check_16 : decode cX10_check 16 = .ok (.aload_n 0, 1) := by decide +kernel
theorem dX10_check_17 : decode cX10_check 17 = .ok (.getfield 73, 3) := by decide +kernel
theorem dX10_check_20 : decode cX10_check 20 = .ok (.iload_n 1, 1) := by decide +kernel
theorem dX10_check_21 : decode cX10_check 21 = .ok (.iconst 0, 1) := by decide +kernel
theorem dX10_check_22 : decode cX10_check 22 = .ok (.iconst 0, 1) := by decide +kernel
theorem dX10_check_23 : decode cX10_check 23 = .ok (.iload_n 2, 1) := by decide +kernel
theorem dX10_check_24 : decode cX10_check 24 = .ok (.invokevirtual 355, 3) := by decide +kernel
theorem dX10_check_27 : decode cX10_check 27 = .ok (.iconst 0, 1) := by decide +kernel
theorem dX10_check_28 : decode cX10_check 28 = .ok (.istore 4, 2) := by decide +kernel
theorem dX10_check_30 : decode cX10_check 30 = .ok (.iload 4, 2) := by decide +kernel
theorem dX10_check_32 : decode cX10_check 32 = .ok (.aload_n 0, 1) := by decide +kernel
theorem dX10_check_33 : decode cX10_check 33 = .ok (.getfield 29, 3) := by decide +kernel
theorem dX10_check_36 : decode cX10_check 36 = .ok (.getfield 185, 3) := by decide +kernel
theorem dX10_check_39 : decode cX10_check 39 = .ok (.if_icmp .ge 38, 3) := by decide +kernel
theorem dX10_check_42 : decode cX10_check 42 = .ok (.aload_n 0, 1) := by decide +kernel
theorem dX10_check_43 : decode cX10_check 43 = .ok (.getfield 11, 3) := by decide +kernel
theorem dX10_check_46 : decode cX10_check 46 = .ok (.iload_n 3, 1) := by decide +kernel
theorem dX10_check_47 : decode cX10_check 47 = .ok (.aaload, 1) := by decide +kernel
theorem dX10_check_48 : decode cX10_check 48 = .ok (.getfield 132, 3) := by decide +kernel
theorem dX10_check_51 : decode cX10_check 51 = .ok (.iload 4, 2) := by decide +kernel
theorem dX10_check_53 : decode cX10_check 53 = .ok (.laload, 1) := by decide +kernel
theorem dX10_check_54 : decode cX10_check 54 = .ok (.aload_n 0, 1) := by decide +kernel
theorem dX10_check_55 : decode cX10_check 55 = .ok (.getfield 73, 3) := by decide +kernel
theorem dX10_check_58 : decode cX10_check 58 = .ok (.iload 4, 2) := by decide +kernel
theorem dX10_check_60 : decode cX10_check 60 = .ok (.invokevirtual 371, 3) := by decide +kernel
theorem dX10_check_63 : decode cX10_check 63 = .ok (.i2l, 1) := by decide +kernel
theorem dX10_check_64 : decode cX10_check 64 = .ok (.lcmp, 1) := by decide +kernel
theorem dX10_check_65 : decode cX10_check 65 = .ok (.ifCond .eq 6, 3) := by decide +kernel
theorem dX10_check_68 : decode cX10_check 68 = .ok (.iload 4, 2) := by decide +kernel
theorem dX10_check_70 : decode cX10_check 70 = .ok (.ireturn, 1) := by decide +kernel
theorem dX10_check_71 : decode cX10_check 71 = .ok (.iinc 4 1, 3) := by decide +kernel
theorem dX10_check_74 : decode cX10_check 74 = .ok (.goto (-44), 3) := by decide +kernel
theorem dX10_check_77 : decode cX10_check 77 = .ok (.iconst (-1), 1) := by decide +kernel
theorem dX10_check_78 : decode cX10_check 78 = .ok (.ireturn, 1) := by decide +kernel
def wb_X10_check_30 (I : HI) (J : HJ) (x3 : Int32) (Post : Int32 → HI → Prop) (E30 : Prop) (K30 : Int32 → Prop) (x4 : Int32) : Prop :=
  ((I 12 11) ≤ x4 → E30) ∧ (¬ (I 12 11) ≤ x4 → (vp_in x3 4 ∧ (vp_in x4 40 ∧ (w_X7_hourOf x4 I J (fun (r_6 : Int32) => (((J (2 + 2 * Int32.toNatClampNeg x3 + 1) (Int32.toNatClampNeg x4)) = (Int32.toInt64 r_6) → (K30 (x4 + 1))) ∧ (¬ (J (2 + 2 * Int32.toNatClampNeg x3 + 1) (Int32.toNatClampNeg x4)) = (Int32.toInt64 r_6) → (Post x4 I))))))))
set_option maxHeartbeats 4000000 in
set_option maxRecDepth 20000 in
theorem ws_X10_check_30 (g : kf_G) (hg : kf_g g) {x : kf_X} (hx : kf_ok g x RX10 cX10_check 5 4 92) (I : HI) (J : HJ) (x3 : Int32) (Post : Int32 → HI → Prop) (hret : ∀ (pc : Nat) (lv : List (Nat × Value)) (v : Int32) (Iy : HI), decode cX10_check pc = .ok (.ireturn, 1) → Post v Iy → kf_M g x 5 pc lv [.int v] Iy J) (E30 : Prop) (hE30 : E30 → kf_M g x 5 77 [] [] I J) (K30 : Int32 → Prop) (hK30 : ∀ (y4 : Int32), K30 y4 → kf_M g x 5 30 [(0, .ref (g.2.2.2 0)), (3, .int x3), (4, .int y4)] [] I J) (x4 : Int32) (h : wb_X10_check_30 I J x3 Post E30 K30 x4) : kf_M g x 5 30 [(0, .ref (g.2.2.2 0)), (3, .int x3), (4, .int x4)] [] I J := by
  unfold wb_X10_check_30 at h
  refine kf_iload hx dX10_check_30 2 rfl ?_
  refine kf_aload_n hx dX10_check_32 rfl 0 rfl ?_
  refine kf_getR (n := 12) hx sl_0_3 fl_RX10_29 dX10_check_33 ?_
  refine kf_getI hx sl_12_11 fl_RX10_185 dX10_check_36 ?_
  refine kf_icmp_ge hx 77 dX10_check_39 (by decide) (fun c => ?_) (fun c => ?_)
  · replace h := h.1 c
    refine kf_sub [] rfl ?_
    exact hE30  h
  · replace h := h.2 c
    refine kf_aload_n hx dX10_check_42 rfl 0 rfl ?_
    refine kf_getR (n := 1) hx sl_0_0 fl_RX10_11 dX10_check_43 ?_
    refine kf_iload_n hx dX10_check_46 rfl 1 rfl ?_
    have hb_5 := h.1
    refine kf_aald hx ar_1 rfl rfl h.1 dX10_check_47 ?_
    replace h := h.2
    refine kf_getR (n := (2 + 2 * Int32.toNatClampNeg x3 + 1)) hx (st_0 (tr_of hb_5)) fl_RX10_132 dX10_check_48 ?_
    refine kf_iload hx dX10_check_51 2 rfl ?_
    refine kf_lald hx (st_r (tr_of hb_5)) h.1 dX10_check_53 ?_
    replace h := h.2
    refine kf_aload_n hx dX10_check_54 rfl 0 rfl ?_
    refine kf_getR (n := 48) hx sl_0_9 fl_RX10_73 dX10_check_55 ?_
    refine kf_iload hx dX10_check_58 2 rfl ?_
    refine kf_callViP (st := [.long (J (2 + 2 * Int32.toNatClampNeg x3 + 1) (Int32.toNatClampNeg x4))]) hx (m_X7_hourOf g hg x4 I J _ h) lk_RX10_371 km_X7_hourOf ob_48 rfl (by decide) rfl (Nat.le_of_ble_eq_true rfl) dX10_check_60 (fun r_6 h => ?_)
    refine kf_i2l hx dX10_check_63 ?_
    refine kf_l_eq hx 71 dX10_check_64 dX10_check_65 (by decide) (fun c => ?_) (fun c => ?_)
    · replace h := h.1 c
      refine kf_iinc (w := (x4 + 1)) (lv' := [(4, .int (x4 + 1)), (0, .ref (g.2.2.2 0)), (3, .int x3)]) hx dX10_check_71 2 rfl rfl (by decide) rfl ?_
      refine kf_goto hx 30 dX10_check_74 (by decide) ?_
      refine kf_sub [1, 2, 0] rfl ?_
      exact hK30 _ h
    · replace h := h.2 c
      refine kf_iload hx dX10_check_68 2 rfl ?_
      exact hret _ _ x4 _ dX10_check_70 h
theorem wl_X10_check_30 (g : kf_G) (hg : kf_g g) {x : kf_X} (hx : kf_ok g x RX10 cX10_check 5 4 92) (I : HI) (J : HJ) (x3 : Int32) (Post : Int32 → HI → Prop) (hret : ∀ (pc : Nat) (lv : List (Nat × Value)) (v : Int32) (Iy : HI), decode cX10_check pc = .ok (.ireturn, 1) → Post v Iy → kf_M g x 5 pc lv [.int v] Iy J) (E30 : Prop) (hE30 : E30 → kf_M g x 5 77 [] [] I J) : ∀ (n : Nat) (x4 : Int32), lp (wb_X10_check_30 I J x3 Post E30) n x4 → kf_M g x 5 30 [(0, .ref (g.2.2.2 0)), (3, .int x3), (4, .int x4)] [] I J := by
  intro n
  induction n with
  | zero => intro x4 h; exact h.elim
  | succ n ih => intro x4 h; exact ws_X10_check_30 g hg hx I J x3 Post hret E30 hE30 (lp (wb_X10_check_30 I J x3 Post E30) n) ih x4 h
def w_X10_check (x1 : Int32) (x2 : Int32) (x3 : Int32) (I : HI) (J : HJ) (Post : Int32 → HI → Prop) : Prop :=
  w_X10_checkStatus x1 x2 x3 I J (fun (r_1 : Int32) => (w_X10_fails r_1 I J (fun (r_2 : Bool) (I_3 : HI) => ((r_2 = false → (w_X7_play x1 0 0 x2 I_3 J (fun (I_4 : HI) => (∃ n, lp (wb_X10_check_30 I_4 J x3 Post (Post (-1) I_4)) n 0)))) ∧ (r_2 = true → (Post (-1) I_3))))))
set_option maxHeartbeats 4000000 in
set_option maxRecDepth 20000 in
theorem we_X10_check (g : kf_G) (hg : kf_g g) {x : kf_X} (hx : kf_ok g x RX10 cX10_check 5 4 92) (x1 : Int32) (x2 : Int32) (x3 : Int32) (I : HI) (J : HJ) (Post : Int32 → HI → Prop) (hret : ∀ (pc : Nat) (lv : List (Nat × Value)) (v : Int32) (Iy : HI), decode cX10_check pc = .ok (.ireturn, 1) → Post v Iy → kf_M g x 5 pc lv [.int v] Iy J) (h : w_X10_check x1 x2 x3 I J Post) : kf_M g x 5 0 [(0, .ref (g.2.2.2 0)), (1, .int x1), (2, .int x2), (3, .int x3)] [] I J := by
  unfold w_X10_check at h
  refine kf_aload_n hx dX10_check_0 rfl 0 rfl ?_
  refine kf_aload_n hx dX10_check_1 rfl 0 rfl ?_
  refine kf_iload_n hx dX10_check_2 rfl 1 rfl ?_
  refine kf_iload_n hx dX10_check_3 rfl 2 rfl ?_
  refine kf_iload_n hx dX10_check_4 rfl 3 rfl ?_
  refine kf_callViP (st := [.ref (g.2.2.2 0)]) hx (m_X10_checkStatus g hg x1 x2 x3 I J _ h) lk_RX10_368 km_X10_checkStatus ob_0 rfl (by decide) rfl (Nat.le_of_ble_eq_true rfl) dX10_check_5 (fun r_1 h => ?_)
  refine kf_callVbI (st := []) hx (m_X10_fails g hg r_1 I J _ h) lk_RX10_115 km_X10_fails ob_0 rfl (by decide) rfl (Nat.le_of_ble_eq_true rfl) dX10_check_8 (fun r_2 I_3 h => ?_)
  refine kf_ifB_eq hx 16 dX10_check_11 (by decide) (fun c => ?_) (fun c => ?_)
  · replace h := h.1 c
    refine kf_aload_n hx dX10_check_16 rfl 0 rfl ?_
    refine kf_getR (n := 48) hx sl_0_9 fl_RX10_73 dX10_check_17 ?_
    refine kf_iload_n hx dX10_check_20 rfl 1 rfl ?_
    refine kf_iconst (v := 0) hx dX10_check_21 (by decide) ?_
    refine kf_iconst (v := 0) hx dX10_check_22 (by decide) ?_
    refine kf_iload_n hx dX10_check_23 rfl 2 rfl ?_
    refine kf_callVvI (st := []) hx (m_X7_play g hg x1 0 0 x2 I_3 J _ h) lk_RX10_355 km_X7_play ob_48 rfl (by decide) rfl (Nat.le_of_ble_eq_true rfl) dX10_check_24 (fun I_4 h => ?_)
    refine kf_iconst (v := 0) hx dX10_check_27 (by decide) ?_
    refine kf_istore (lv' := [(4, .int 0), (0, .ref (g.2.2.2 0)), (1, .int x1), (2, .int x2), (3, .int x3)]) hx dX10_check_28 (by decide) rfl ?_
    obtain ⟨n, h⟩ := h
    refine kf_sub [1, 4, 0] rfl ?_
    refine wl_X10_check_30 g hg hx I_4 J x3 _ hret _ (fun h => ?_) n _ h
    refine kf_iconst (v := (-1)) hx dX10_check_77 (by decide) ?_
    exact hret _ _ (-1) _ dX10_check_78 h
  · replace h := h.2 c
    refine kf_iconst (v := (-1)) hx dX10_check_14 (by decide) ?_
    exact hret _ _ (-1) _ dX10_check_15 h
set_option maxHeartbeats 4000000 in
set_option maxRecDepth 20000 in
theorem m_X10_check (g : kf_G) (hg : kf_g g) (x1 : Int32) (x2 : Int32) (x3 : Int32) (I : HI) (J : HJ) (Post : Int32 → HI → Prop) (h : w_X10_check x1 x2 x3 I J Post) : kf_Mi g yX10_check (kf_W yX10_check cX10_check 5 (Option.some Jvm.ClassFile.FieldType.int)) 4 92 [.ref (g.2.2.2 0), .int x1, .int x2, .int x3] I J (fun v I' J' => Post v I' ∧ J' = J) :=
  kf_enti hg (by decide) (Nat.le_of_ble_eq_true rfl) rfl (fun x hx hr => we_X10_check g hg hx x1 x2 x3 I J Post (fun pc lv v I' hd hP => hr pc lv v I' J hd ⟨hP, rfl⟩) h)
theorem dX10_lot_0 : decode cX10_lot 0 = .ok (.aload_n 0, 1) := by decide +kernel
theorem dX10_lot_1 : decode cX10_lot 1 = .ok (.iload_n 1, 1) := by decide +kernel
theorem dX10_lot_2 : decode cX10_lot 2 = .ok (.iconst 0, 1) := by decide +kernel
theorem dX10_lot_3 : decode cX10_lot 3 = .ok (.sipush 9999, 3) := by decide +kernel
theorem dX10_lot_6 : decode cX10_lot 6 = .ok (.invokestatic 188, 3) := by decide +kernel
theorem dX10_lot_9 : decode cX10_lot 9 = .ok (.ifCond .eq 7, 3) := by decide +kernel
theorem dX10_lot_12 : decode cX10_lot 12 = .ok (.iconst 0, 1) := by decide +kernel
theorem dX10_lot_13 : decode cX10_lot 13 = .ok (.goto 4, 3) := by decide +kernel
theorem dX10_lot_16 : decode cX10_lot 16 = .ok (.iconst 5, 1) := by decide +kernel
theorem dX10_lot_17 : decode cX10_lot 17 = .ok (.invokevirtual 115, 3) := by decide +kernel
theorem dX10_lot_20 : decode cX10_lot 20 = .ok (.ifCond .eq 5, 3) := by decide +kernel
theorem dX10_lot_23 : decode cX10_lot 23 = .ok (.iconst (-1), 1) := by decide +kernel
theorem dX10_lot_24 : decode cX10_lot 24 = .ok (.ireturn, 1) := by decide +kernel
theorem dX10_lot_25 : decode cX10_lot 25 = .ok (.aload_n 0, 1) := by decide +kernel
theorem dX10_lot_26 : decode cX10_lot 26 = .ok (.getfield 50, 3) := by decide +kernel
theorem dX10_lot_29 : decode cX10_lot 29 = .ok (.iload_n 1, 1) := by decide +kernel
theorem dX10_lot_30 : decode cX10_lot 30 = .ok (.invokevirtual 374, 3) := by decide +kernel
theorem dX10_lot_33 : decode cX10_lot 33 = .ok (.ireturn, 1) := by decide +kernel
def wj_X10_lot_17 (I : HI) (J : HJ) (x1 : Int32) (t0 : Int32) (Post : Int32 → HI → Prop) : Prop :=
  w_X10_fails t0 I J (fun (r_2 : Bool) (I_3 : HI) => ((r_2 = false → (w_X2_drawn x1 I_3 J (fun (r_4 : Int32) => (Post r_4 I_3)))) ∧ (r_2 = true → (Post (-1) I_3))))
set_option maxHeartbeats 4000000 in
set_option maxRecDepth 20000 in
theorem wk_X10_lot_17 (g : kf_G) (hg : kf_g g) {x : kf_X} (hx : kf_ok g x RX10 cX10_lot 2 1 25) (I : HI) (J : HJ) (x1 : Int32) (t0 : Int32) (Post : Int32 → HI → Prop) (hret : ∀ (pc : Nat) (lv : List (Nat × Value)) (v : Int32) (Iy : HI), decode cX10_lot pc = .ok (.ireturn, 1) → Post v Iy → kf_M g x 2 pc lv [.int v] Iy J) (h : wj_X10_lot_17 I J x1 t0 Post) : kf_M g x 2 17 [(0, .ref (g.2.2.2 0)), (1, .int x1)] [.int t0, .ref (g.2.2.2 0)] I J := by
  unfold wj_X10_lot_17 at h
  refine kf_callVbI (st := []) hx (m_X10_fails g hg t0 I J _ h) lk_RX10_115 km_X10_fails ob_0 rfl (by decide) rfl (Nat.le_of_ble_eq_true rfl) dX10_lot_17 (fun r_2 I_3 h => ?_)
  refine kf_ifB_eq hx 25 dX10_lot_20 (by decide) (fun c => ?_) (fun c => ?_)
  · replace h := h.1 c
    refine kf_aload_n hx dX10_lot_25 rfl 0 rfl ?_
    refine kf_getR (n := 39) hx sl_0_6 fl_RX10_50 dX10_lot_26 ?_
    refine kf_iload_n hx dX10_lot_29 rfl 1 rfl ?_
    refine kf_callViP (st := []) hx (m_X2_drawn g hg x1 I_3 J _ h) lk_RX10_374 km_X2_drawn ob_39 rfl (by decide) rfl (Nat.le_of_ble_eq_true rfl) dX10_lot_30 (fun r_4 h => ?_)
    exact hret _ _ r_4 _ dX10_lot_33 h
  · replace h := h.2 c
    refine kf_iconst (v := (-1)) hx dX10_lot_23 (by decide) ?_
    exact hret _ _ (-1) _ dX10_lot_24 h
def w_X10_lot (x1 : Int32) (I : HI) (J : HJ) (Post : Int32 → HI → Prop) : Prop :=
  w_X10_isBetween x1 0 9999 (fun (r_1 : Bool) => ((r_1 = false → (wj_X10_lot_17 I J x1 5 Post)) ∧ (r_1 = true → (wj_X10_lot_17 I J x1 0 Post))))
set_option maxHeartbeats 4000000 in
set_option maxRecDepth 20000 in
theorem we_X10_lot (g : kf_G) (hg : kf_g g) {x : kf_X} (hx : kf_ok g x RX10 cX10_lot 2 1 25) (x1 : Int32) (I : HI) (J : HJ) (Post : Int32 → HI → Prop) (hret : ∀ (pc : Nat) (lv : List (Nat × Value)) (v : Int32) (Iy : HI), decode cX10_lot pc = .ok (.ireturn, 1) → Post v Iy → kf_M g x 2 pc lv [.int v] Iy J) (h : w_X10_lot x1 I J Post) : kf_M g x 2 0 [(0, .ref (g.2.2.2 0)), (1, .int x1)] [] I J := by
  unfold w_X10_lot at h
  refine kf_aload_n hx dX10_lot_0 rfl 0 rfl ?_
  refine kf_iload_n hx dX10_lot_1 rfl 1 rfl ?_
  refine kf_iconst (v := 0) hx dX10_lot_2 (by decide) ?_
  refine kf_sipush (v := 9999) hx dX10_lot_3 (by decide) ?_
  refine kf_callSbP (st := [.ref (g.2.2.2 0)]) hx (m_X10_isBetween g hg x1 0 9999 I J _ h) lk_RX10_188 km_X10_isBetween rfl (by decide) rfl (Nat.le_of_ble_eq_true rfl) dX10_lot_6 (fun r_1 h => ?_)
  refine kf_ifB_eq hx 16 dX10_lot_9 (by decide) (fun c => ?_) (fun c => ?_)
  · replace h := h.1 c
    refine kf_iconst (v := 5) hx dX10_lot_16 (by decide) ?_
    exact wk_X10_lot_17 g hg hx I J x1 5 _ hret h
  · replace h := h.2 c
    refine kf_iconst (v := 0) hx dX10_lot_12 (by decide) ?_
    refine kf_goto hx 17 dX10_lot_13 (by decide) ?_
    exact wk_X10_lot_17 g hg hx I J x1 0 _ hret h
set_option maxHeartbeats 4000000 in
set_option maxRecDepth 20000 in
theorem m_X10_lot (g : kf_G) (hg : kf_g g) (x1 : Int32) (I : HI) (J : HJ) (Post : Int32 → HI → Prop) (h : w_X10_lot x1 I J Post) : kf_Mi g yX10_lot (kf_W yX10_lot cX10_lot 2 (Option.some Jvm.ClassFile.FieldType.int)) 1 25 [.ref (g.2.2.2 0), .int x1] I J (fun v I' J' => Post v I' ∧ J' = J) :=
  kf_enti hg (by decide) (Nat.le_of_ble_eq_true rfl) rfl (fun x hx hr => we_X10_lot g hg hx x1 I J Post (fun pc lv v I' hd hP => hr pc lv v I' J hd ⟨hP, rfl⟩) h)
theorem dX10_meter_0 : decode cX10_meter 0 = .ok (.iconst 2, 1) := by decide +kernel
theorem dX10_meter_1 : decode cX10_meter 1 = .ok (.istore_n 3, 1) := by decide +kernel
theorem dX10_meter_2 : decode cX10_meter 2 = .ok (.aload_n 0, 1) := by decide +kernel
theorem dX10_meter_3 : decode cX10_meter 3 = .ok (.getfield 29, 3) := by decide +kernel
theorem dX10_meter_6 : decode cX10_meter 6 = .ok (.iload_n 1, 1) := by decide +kernel
theorem dX10_meter_7 : decode cX10_meter 7 = .ok (.invokevirtual 242, 3) := by decide +kernel
theorem dX10_meter_10 : decode cX10_meter 10 = .ok (.ifCond .eq 16, 3) := by decide +kernel
theorem dX10_meter_13 : decode cX10_meter 13 = .ok (.aload_n 0, 1) := by decide +kernel
theorem dX10_meter_14 : decode cX10_meter 14 = .ok (.iload_n 2, 1) := by decide +kernel
theorem dX10_meter_15 : decode cX10_meter 15 = .ok (.iconst 1, 1) := by decide +kernel
theorem dX10_meter_16 : decode cX10_meter 16 = .ok (.sipush 500, 3) := by decide +kernel
theorem dX10_meter_19 : decode cX10_meter 19 = .ok (.invokestatic 188, 3) := by decide +kernel
theorem dX10_meter_22 : decode cX10_meter 22 = .ok (.invokevirtual 277, 3) := by decide +kernel
theorem dX10_meter_25 : decode cX10_meter 25 = .ok (.istore_n 3, 1) := by decide +kernel
theorem dX10_meter_26 : decode cX10_meter 26 = .ok (.aload_n 0, 1) := by decide +kernel
theorem dX10_meter_27 : decode cX10_meter 27 = .ok (.iload_n 3, 1) := by decide +kernel
theorem dX10_meter_28 : decode cX10_meter 28 = .ok (.invokevirtual 115, 3) := by decide +kernel
theorem dX10_meter_31 : decode cX10_meter 31 = .ok (.ifCond .eq 7, 3) := by decide +kernel
theorem dX10_meter_34 : decode cX10_meter 34 = .ok (.iconst (-1), 1) := by decide +kernel
theorem dX10_meter_35 : decode cX10_meter 35 = .ok (.goto 12, 3) := by decide +kernel
theorem dX10_meter_38 : decode cX10_meter 38 = .ok (.aload_n 0, 1) := by decide +kernel
theorem dX10_meter_39 : decode cX10_meter 39 = .ok (.getfield 50, 3) := by decide +kernel
theorem dX10_meter_42 : decode cX10_meter 42 = .ok (.iload_n 1, 1) := by decide +kernel
theorem dX10_meter_43 : decode cX10_meter 43 = .ok (.iload_n 2, 1) := by decide +kernel
theorem dX10_meter_44 : decode cX10_meter 44 = .ok (.invokevirtual 377, 3) := by decide +kernel
theorem dX10_meter_47 : decode cX10_meter 47 = .ok (.ireturn, 1) := by decide +kernel
def wj_X10_meter_26 (I : HI) (J : HJ) (x1 : Int32) (x2 : Int32) (x3 : Int32) (Post : Int32 → HI → Prop) : Prop :=
  w_X10_fails x3 I J (fun (r_2 : Bool) (I_3 : HI) => ((r_2 = false → (w_X2_metered x1 x2 I_3 J (fun (r_4 : Int32) => (Post r_4 I_3)))) ∧ (r_2 = true → (Post (-1) I_3))))
set_option maxHeartbeats 4000000 in
set_option maxRecDepth 20000 in
theorem wk_X10_meter_26 (g : kf_G) (hg : kf_g g) {x : kf_X} (hx : kf_ok g x RX10 cX10_meter 4 4 93) (I : HI) (J : HJ) (x1 : Int32) (x2 : Int32) (x3 : Int32) (Post : Int32 → HI → Prop) (hret : ∀ (pc : Nat) (lv : List (Nat × Value)) (v : Int32) (Iy : HI), decode cX10_meter pc = .ok (.ireturn, 1) → Post v Iy → kf_M g x 4 pc lv [.int v] Iy J) (h : wj_X10_meter_26 I J x1 x2 x3 Post) : kf_M g x 4 26 [(0, .ref (g.2.2.2 0)), (1, .int x1), (2, .int x2), (3, .int x3)] [] I J := by
  unfold wj_X10_meter_26 at h
  refine kf_aload_n hx dX10_meter_26 rfl 0 rfl ?_
  refine kf_iload_n hx dX10_meter_27 rfl 3 rfl ?_
  refine kf_callVbI (st := []) hx (m_X10_fails g hg x3 I J _ h) lk_RX10_115 km_X10_fails ob_0 rfl (by decide) rfl (Nat.le_of_ble_eq_true rfl) dX10_meter_28 (fun r_2 I_3 h => ?_)
  refine kf_ifB_eq hx 38 dX10_meter_31 (by decide) (fun c => ?_) (fun c => ?_)
  · replace h := h.1 c
    refine kf_aload_n hx dX10_meter_38 rfl 0 rfl ?_
    refine kf_getR (n := 39) hx sl_0_6 fl_RX10_50 dX10_meter_39 ?_
    refine kf_iload_n hx dX10_meter_42 rfl 1 rfl ?_
    refine kf_iload_n hx dX10_meter_43 rfl 2 rfl ?_
    refine kf_callViP (st := []) hx (m_X2_metered g hg x1 x2 I_3 J _ h) lk_RX10_377 km_X2_metered ob_39 rfl (by decide) rfl (Nat.le_of_ble_eq_true rfl) dX10_meter_44 (fun r_4 h => ?_)
    exact hret _ _ r_4 _ dX10_meter_47 h
  · replace h := h.2 c
    refine kf_iconst (v := (-1)) hx dX10_meter_34 (by decide) ?_
    refine kf_goto hx 47 dX10_meter_35 (by decide) ?_
    exact hret _ _ (-1) _ dX10_meter_47 h
def w_X10_meter (x1 : Int32) (x2 : Int32) (I : HI) (J : HJ) (Post : Int32 → HI → Prop) : Prop :=
  w_X4_arePeople x1 I J (fun (r_1 : Bool) => ((r_1 = false → (wj_X10_meter_26 I J x1 x2 2 Post)) ∧ (r_1 = true → (w_X10_isBetween x2 1 500 (fun (r_5 : Bool) => (w_X10_askedOfSome (kb r_5) I J (fun (r_6 : Int32) => (wj_X10_meter_26 I J x1 x2 r_6 Post))))))))
set_option maxHeartbeats 4000000 in
set_option maxRecDepth 20000 in
theorem we_X10_meter (g : kf_G) (hg : kf_g g) {x : kf_X} (hx : kf_ok g x RX10 cX10_meter 4 4 93) (x1 : Int32) (x2 : Int32) (I : HI) (J : HJ) (Post : Int32 → HI → Prop) (hret : ∀ (pc : Nat) (lv : List (Nat × Value)) (v : Int32) (Iy : HI), decode cX10_meter pc = .ok (.ireturn, 1) → Post v Iy → kf_M g x 4 pc lv [.int v] Iy J) (h : w_X10_meter x1 x2 I J Post) : kf_M g x 4 0 [(0, .ref (g.2.2.2 0)), (1, .int x1), (2, .int x2)] [] I J := by
  unfold w_X10_meter at h
  refine kf_iconst (v := 2) hx dX10_meter_0 (by decide) ?_
  refine kf_istore_n (lv' := [(3, .int 2), (0, .ref (g.2.2.2 0)), (1, .int x1), (2, .int x2)]) hx dX10_meter_1 rfl (by decide) rfl ?_
  refine kf_aload_n hx dX10_meter_2 rfl 1 rfl ?_
  refine kf_getR (n := 12) hx sl_0_3 fl_RX10_29 dX10_meter_3 ?_
  refine kf_iload_n hx dX10_meter_6 rfl 2 rfl ?_
  refine kf_callVbP (st := []) hx (m_X4_arePeople g hg x1 I J _ h) lk_RX10_242 km_X4_arePeople ob_12 rfl (by decide) rfl (Nat.le_of_ble_eq_true rfl) dX10_meter_7 (fun r_1 h => ?_)
  refine kf_ifB_eq hx 26 dX10_meter_10 (by decide) (fun c => ?_) (fun c => ?_)
  · replace h := h.1 c
    refine kf_sub [1, 2, 3, 0] rfl ?_
    exact wk_X10_meter_26 g hg hx I J x1 x2 2 _ hret h
  · replace h := h.2 c
    refine kf_aload_n hx dX10_meter_13 rfl 1 rfl ?_
    refine kf_iload_n hx dX10_meter_14 rfl 3 rfl ?_
    refine kf_iconst (v := 1) hx dX10_meter_15 (by decide) ?_
    refine kf_sipush (v := 500) hx dX10_meter_16 (by decide) ?_
    refine kf_callSbP (st := [.ref (g.2.2.2 0)]) hx (m_X10_isBetween g hg x2 1 500 I J _ h) lk_RX10_188 km_X10_isBetween rfl (by decide) rfl (Nat.le_of_ble_eq_true rfl) dX10_meter_19 (fun r_5 h => ?_)
    refine kf_callViP (st := []) hx (m_X10_askedOfSome g hg (kb r_5) I J _ h) lk_RX10_277 km_X10_askedOfSome ob_0 rfl (by decide) rfl (Nat.le_of_ble_eq_true rfl) dX10_meter_22 (fun r_6 h => ?_)
    refine kf_istore_n (lv' := [(3, .int r_6), (0, .ref (g.2.2.2 0)), (1, .int x1), (2, .int x2)]) hx dX10_meter_25 rfl (by decide) rfl ?_
    refine kf_sub [1, 2, 3, 0] rfl ?_
    exact wk_X10_meter_26 g hg hx I J x1 x2 r_6 _ hret h
set_option maxHeartbeats 4000000 in
set_option maxRecDepth 20000 in
theorem m_X10_meter (g : kf_G) (hg : kf_g g) (x1 : Int32) (x2 : Int32) (I : HI) (J : HJ) (Post : Int32 → HI → Prop) (h : w_X10_meter x1 x2 I J Post) : kf_Mi g yX10_meter (kf_W yX10_meter cX10_meter 4 (Option.some Jvm.ClassFile.FieldType.int)) 4 93 [.ref (g.2.2.2 0), .int x1, .int x2] I J (fun v I' J' => Post v I' ∧ J' = J) :=
  kf_enti hg (by decide) (Nat.le_of_ble_eq_true rfl) rfl (fun x hx hr => we_X10_meter g hg hx x1 x2 I J Post (fun pc lv v I' hd hP => hr pc lv v I' J hd ⟨hP, rfl⟩) h)
theorem dX11_status_0 : decode cX11_status 0 = .ok (.aload_n 0, 1) := by decide +kernel
theorem dX11_status_1 : decode cX11_status 1 = .ok (.iconst 0, 1) := by decide +kernel
theorem dX11_status_2 : decode cX11_status 2 = .ok (.putfield 106, 3) := by decide +kernel
theorem dX11_status_5 : decode cX11_status 5 = .ok (.aload_n 0, 1) := by decide +kernel
theorem dX11_status_6 : decode cX11_status 6 = .ok (.getfield 109, 3) := by decide +kernel
theorem dX11_status_9 : decode cX11_status 9 = .ok (.ireturn, 1) := by decide +kernel
def w_X11_status  (I : HI) (J : HJ) (Post : Int32 → HI → Prop) : Prop :=
  ∀ I_1 : HI, I_1 = hI I 72 1 0 → (Post (I_1 72 0) I_1)
set_option maxHeartbeats 4000000 in
set_option maxRecDepth 20000 in
theorem we_X11_status (g : kf_G) (hg : kf_g g) {x : kf_X} (hx : kf_ok g x RX11 cX11_status 1 0 0)  (I : HI) (J : HJ) (Post : Int32 → HI → Prop) (hret : ∀ (pc : Nat) (lv : List (Nat × Value)) (v : Int32) (Iy : HI), decode cX11_status pc = .ok (.ireturn, 1) → Post v Iy → kf_M g x 1 pc lv [.int v] Iy J) (h : w_X11_status  I J Post) : kf_M g x 1 0 [(0, .ref (g.2.2.2 72))] [] I J := by
  unfold w_X11_status at h
  refine kf_aload_n hx dX11_status_0 rfl 0 rfl ?_
  refine kf_iconst (v := 0) hx dX11_status_1 (by decide) ?_
  refine kf_putI hx sl_72_1 fl_RX11_106 fp_11_1 dX11_status_2 ?_
  refine kf_nmI (fun I_1 eI_1 => ?_)
  replace h := h I_1 eI_1
  refine kf_aload_n hx dX11_status_5 rfl 0 rfl ?_
  refine kf_getI hx sl_72_0 fl_RX11_109 dX11_status_6 ?_
  exact hret _ _ (I_1 72 0) _ dX11_status_9 h
set_option maxHeartbeats 4000000 in
set_option maxRecDepth 20000 in
theorem m_X11_status (g : kf_G) (hg : kf_g g)  (I : HI) (J : HJ) (Post : Int32 → HI → Prop) (h : w_X11_status  I J Post) : kf_Mi g yX11_status (kf_W yX11_status cX11_status 1 (Option.some Jvm.ClassFile.FieldType.int)) 0 0 [.ref (g.2.2.2 72)] I J (fun v I' J' => Post v I' ∧ J' = J) :=
  kf_enti hg (by decide) (Nat.le_of_ble_eq_true rfl) rfl (fun x hx hr => we_X11_status g hg hx  I J Post (fun pc lv v I' hd hP => hr pc lv v I' J hd ⟨hP, rfl⟩) h)
theorem dX11_top_0 : decode cX11_top 0 = .ok (.aload_n 0, 1) := by decide +kernel
theorem dX11_top_1 : decode cX11_top 1 = .ok (.iconst 0, 1) := by decide +kernel
theorem dX11_top_2 : decode cX11_top 2 = .ok (.putfield 106, 3) := by decide +kernel
theorem dX11_top_5 : decode cX11_top 5 = .ok (.aload_n 0, 1) := by decide +kernel
theorem dX11_top_6 : decode cX11_top 6 = .ok (.getfield 112, 3) := by decide +kernel
theorem dX11_top_9 : decode cX11_top 9 = .ok (.lreturn, 1) := by decide +kernel
def w_X11_top  (I : HI) (J : HJ) (Post : Int64 → HI → Prop) : Prop :=
  ∀ I_1 : HI, I_1 = hI I 72 1 0 → (Post (J 72 2) I_1)
set_option maxHeartbeats 4000000 in
set_option maxRecDepth 20000 in
theorem we_X11_top (g : kf_G) (hg : kf_g g) {x : kf_X} (hx : kf_ok g x RX11 cX11_top 1 0 0)  (I : HI) (J : HJ) (Post : Int64 → HI → Prop) (hret : ∀ (pc : Nat) (lv : List (Nat × Value)) (v : Int64) (Iy : HI), decode cX11_top pc = .ok (.lreturn, 1) → Post v Iy → kf_M g x 1 pc lv [.long v] Iy J) (h : w_X11_top  I J Post) : kf_M g x 1 0 [(0, .ref (g.2.2.2 72))] [] I J := by
  unfold w_X11_top at h
  refine kf_aload_n hx dX11_top_0 rfl 0 rfl ?_
  refine kf_iconst (v := 0) hx dX11_top_1 (by decide) ?_
  refine kf_putI hx sl_72_1 fl_RX11_106 fp_11_1 dX11_top_2 ?_
  refine kf_nmI (fun I_1 eI_1 => ?_)
  replace h := h I_1 eI_1
  refine kf_aload_n hx dX11_top_5 rfl 0 rfl ?_
  refine kf_getJ hx sl_72_2 fl_RX11_112 dX11_top_6 ?_
  exact hret _ _ (J 72 2) _ dX11_top_9 h
set_option maxHeartbeats 4000000 in
set_option maxRecDepth 20000 in
theorem m_X11_top (g : kf_G) (hg : kf_g g)  (I : HI) (J : HJ) (Post : Int64 → HI → Prop) (h : w_X11_top  I J Post) : kf_Ml g yX11_top (kf_W yX11_top cX11_top 1 (Option.some Jvm.ClassFile.FieldType.long)) 0 0 [.ref (g.2.2.2 72)] I J (fun v I' J' => Post v I' ∧ J' = J) :=
  kf_entl hg (by decide) (Nat.le_of_ble_eq_true rfl) rfl (fun x hx hr => we_X11_top g hg hx  I J Post (fun pc lv v I' hd hP => hr pc lv v I' J hd ⟨hP, rfl⟩) h)
theorem dX11_bottom_0 : decode cX11_bottom 0 = .ok (.aload_n 0, 1) := by decide +kernel
theorem dX11_bottom_1 : decode cX11_bottom 1 = .ok (.iconst 0, 1) := by decide +kernel
theorem dX11_bottom_2 : decode cX11_bottom 2 = .ok (.putfield 106, 3) := by decide +kernel
theorem dX11_bottom_5 : decode cX11_bottom 5 = .ok (.aload_n 0, 1) := by decide +kernel
theorem dX11_bottom_6 : decode cX11_bottom 6 = .ok (.getfield 7, 3) := by decide +kernel
theorem dX11_bottom_9 : decode cX11_bottom 9 = .ok (.lreturn, 1) := by decide +kernel
def w_X11_bottom  (I : HI) (J : HJ) (Post : Int64 → HI → Prop) : Prop :=
  ∀ I_1 : HI, I_1 = hI I 72 1 0 → (Post (J 72 3) I_1)
set_option maxHeartbeats 4000000 in
set_option maxRecDepth 20000 in
theorem we_X11_bottom (g : kf_G) (hg : kf_g g) {x : kf_X} (hx : kf_ok g x RX11 cX11_bottom 1 0 0)  (I : HI) (J : HJ) (Post : Int64 → HI → Prop) (hret : ∀ (pc : Nat) (lv : List (Nat × Value)) (v : Int64) (Iy : HI), decode cX11_bottom pc = .ok (.lreturn, 1) → Post v Iy → kf_M g x 1 pc lv [.long v] Iy J) (h : w_X11_bottom  I J Post) : kf_M g x 1 0 [(0, .ref (g.2.2.2 72))] [] I J := by
  unfold w_X11_bottom at h
  refine kf_aload_n hx dX11_bottom_0 rfl 0 rfl ?_
  refine kf_iconst (v := 0) hx dX11_bottom_1 (by decide) ?_
  refine kf_putI hx sl_72_1 fl_RX11_106 fp_11_1 dX11_bottom_2 ?_
  refine kf_nmI (fun I_1 eI_1 => ?_)
  replace h := h I_1 eI_1
  refine kf_aload_n hx dX11_bottom_5 rfl 0 rfl ?_
  refine kf_getJ hx sl_72_3 fl_RX11_7 dX11_bottom_6 ?_
  exact hret _ _ (J 72 3) _ dX11_bottom_9 h
set_option maxHeartbeats 4000000 in
set_option maxRecDepth 20000 in
theorem m_X11_bottom (g : kf_G) (hg : kf_g g)  (I : HI) (J : HJ) (Post : Int64 → HI → Prop) (h : w_X11_bottom  I J Post) : kf_Ml g yX11_bottom (kf_W yX11_bottom cX11_bottom 1 (Option.some Jvm.ClassFile.FieldType.long)) 0 0 [.ref (g.2.2.2 72)] I J (fun v I' J' => Post v I' ∧ J' = J) :=
  kf_entl hg (by decide) (Nat.le_of_ble_eq_true rfl) rfl (fun x hx hr => we_X11_bottom g hg hx  I J Post (fun pc lv v I' hd hP => hr pc lv v I' J hd ⟨hP, rfl⟩) h)
theorem dX11_refusedBy_0 : decode cX11_refusedBy 0 = .ok (.aload_n 0, 1) := by decide +kernel
theorem dX11_refusedBy_1 : decode cX11_refusedBy 1 = .ok (.iload_n 1, 1) := by decide +kernel
theorem dX11_refusedBy_2 : decode cX11_refusedBy 2 = .ok (.putfield 109, 3) := by decide +kernel
theorem dX11_refusedBy_5 : decode cX11_refusedBy 5 = .ok (.iconst (-1), 1) := by decide +kernel
theorem dX11_refusedBy_6 : decode cX11_refusedBy 6 = .ok (.ireturn, 1) := by decide +kernel
def w_X11_refusedBy (x1 : Int32) (I : HI) (J : HJ) (Post : Int32 → HI → Prop) : Prop :=
  ∀ I_1 : HI, I_1 = hI I 72 0 x1 → (Post (-1) I_1)
set_option maxHeartbeats 4000000 in
set_option maxRecDepth 20000 in
theorem we_X11_refusedBy (g : kf_G) (hg : kf_g g) {x : kf_X} (hx : kf_ok g x RX11 cX11_refusedBy 2 0 0) (x1 : Int32) (I : HI) (J : HJ) (Post : Int32 → HI → Prop) (hret : ∀ (pc : Nat) (lv : List (Nat × Value)) (v : Int32) (Iy : HI), decode cX11_refusedBy pc = .ok (.ireturn, 1) → Post v Iy → kf_M g x 2 pc lv [.int v] Iy J) (h : w_X11_refusedBy x1 I J Post) : kf_M g x 2 0 [(0, .ref (g.2.2.2 72)), (1, .int x1)] [] I J := by
  unfold w_X11_refusedBy at h
  refine kf_aload_n hx dX11_refusedBy_0 rfl 0 rfl ?_
  refine kf_iload_n hx dX11_refusedBy_1 rfl 1 rfl ?_
  refine kf_putI hx sl_72_0 fl_RX11_109 fp_11_0 dX11_refusedBy_2 ?_
  refine kf_nmI (fun I_1 eI_1 => ?_)
  replace h := h I_1 eI_1
  refine kf_iconst (v := (-1)) hx dX11_refusedBy_5 (by decide) ?_
  exact hret _ _ (-1) _ dX11_refusedBy_6 h
set_option maxHeartbeats 4000000 in
set_option maxRecDepth 20000 in
theorem m_X11_refusedBy (g : kf_G) (hg : kf_g g) (x1 : Int32) (I : HI) (J : HJ) (Post : Int32 → HI → Prop) (h : w_X11_refusedBy x1 I J Post) : kf_Mi g yX11_refusedBy (kf_W yX11_refusedBy cX11_refusedBy 2 (Option.some Jvm.ClassFile.FieldType.int)) 0 0 [.ref (g.2.2.2 72), .int x1] I J (fun v I' J' => Post v I' ∧ J' = J) :=
  kf_enti hg (by decide) (Nat.le_of_ble_eq_true rfl) rfl (fun x hx hr => we_X11_refusedBy g hg hx x1 I J Post (fun pc lv v I' hd hP => hr pc lv v I' J hd ⟨hP, rfl⟩) h)
theorem dX11_no_0 : decode cX11_no 0 = .ok (.aload_n 0, 1) := by decide +kernel
theorem dX11_no_1 : decode cX11_no 1 = .ok (.iload_n 1, 1) := by decide +kernel
theorem dX11_no_2 : decode cX11_no 2 = .ok (.putfield 109, 3) := by decide +kernel
theorem dX11_no_5 : decode cX11_no 5 = .ok (.iconst 0, 1) := by decide +kernel
theorem dX11_no_6 : decode cX11_no 6 = .ok (.ireturn, 1) := by decide +kernel
def w_X11_no (x1 : Int32) (I : HI) (J : HJ) (Post : Bool → HI → Prop) : Prop :=
  ∀ I_1 : HI, I_1 = hI I 72 0 x1 → (Post false I_1)
set_option maxHeartbeats 4000000 in
set_option maxRecDepth 20000 in
theorem we_X11_no (g : kf_G) (hg : kf_g g) {x : kf_X} (hx : kf_ok g x RX11 cX11_no 2 0 0) (x1 : Int32) (I : HI) (J : HJ) (Post : Bool → HI → Prop) (hret : ∀ (pc : Nat) (lv : List (Nat × Value)) (v : Bool) (Iy : HI), decode cX11_no pc = .ok (.ireturn, 1) → Post v Iy → kf_M g x 2 pc lv [.int (kb v)] Iy J) (h : w_X11_no x1 I J Post) : kf_M g x 2 0 [(0, .ref (g.2.2.2 72)), (1, .int x1)] [] I J := by
  unfold w_X11_no at h
  refine kf_aload_n hx dX11_no_0 rfl 0 rfl ?_
  refine kf_iload_n hx dX11_no_1 rfl 1 rfl ?_
  refine kf_putI hx sl_72_0 fl_RX11_109 fp_11_0 dX11_no_2 ?_
  refine kf_nmI (fun I_1 eI_1 => ?_)
  replace h := h I_1 eI_1
  refine kf_iconst (v := 0) hx dX11_no_5 (by decide) ?_
  exact hret _ _ false _ dX11_no_6 h
set_option maxHeartbeats 4000000 in
set_option maxRecDepth 20000 in
theorem m_X11_no (g : kf_G) (hg : kf_g g) (x1 : Int32) (I : HI) (J : HJ) (Post : Bool → HI → Prop) (h : w_X11_no x1 I J Post) : kf_Mb g yX11_no (kf_W yX11_no cX11_no 2 (Option.some Jvm.ClassFile.FieldType.boolean)) 0 0 [.ref (g.2.2.2 72), .int x1] I J (fun v I' J' => Post v I' ∧ J' = J) :=
  kf_entb hg (by decide) (Nat.le_of_ble_eq_true rfl) rfl (fun x hx hr => we_X11_no g hg hx x1 I J Post (fun pc lv v I' hd hP => hr pc lv v I' J hd ⟨hP, rfl⟩) h)
theorem dX11_isIn_0 : decode cX11_isIn 0 = .ok (.lload_n 0, 1) := by decide +kernel
theorem dX11_isIn_1 : decode cX11_isIn 1 = .ok (.lload_n 2, 1) := by decide +kernel
theorem dX11_isIn_2 : decode cX11_isIn 2 = .ok (.lcmp, 1) := by decide +kernel
theorem dX11_isIn_3 : decode cX11_isIn 3 = .ok (.ifCond .lt 14, 3) := by decide +kernel
theorem dX11_isIn_6 : decode cX11_isIn 6 = .ok (.lload_n 0, 1) := by decide +kernel
theorem dX11_isIn_7 : decode cX11_isIn 7 = .ok (.lload 4, 2) := by decide +kernel
theorem dX11_isIn_9 : decode cX11_isIn 9 = .ok (.lcmp, 1) := by decide +kernel
theorem dX11_isIn_10 : decode cX11_isIn 10 = .ok (.ifCond .gt 7, 3) := by decide +kernel
theorem dX11_isIn_13 : decode cX11_isIn 13 = .ok (.iconst 1, 1) := by decide +kernel
theorem dX11_isIn_14 : decode cX11_isIn 14 = .ok (.goto 4, 3) := by decide +kernel
theorem dX11_isIn_17 : decode cX11_isIn 17 = .ok (.iconst 0, 1) := by decide +kernel
theorem dX11_isIn_18 : decode cX11_isIn 18 = .ok (.ireturn, 1) := by decide +kernel
def w_X11_isIn (x0 : Int64) (x2 : Int64) (x4 : Int64) (Post : Bool → Prop) : Prop :=
  (x0 < x2 → (Post false)) ∧ (¬ x0 < x2 → ((x4 < x0 → (Post false)) ∧ (¬ x4 < x0 → (Post true))))
set_option maxHeartbeats 4000000 in
set_option maxRecDepth 20000 in
theorem we_X11_isIn (g : kf_G) (hg : kf_g g) {x : kf_X} (hx : kf_ok g x RX11 cX11_isIn 6 0 0) (x0 : Int64) (x2 : Int64) (x4 : Int64) (I : HI) (J : HJ) (Post : Bool → Prop) (hret : ∀ (pc : Nat) (lv : List (Nat × Value)) (v : Bool), decode cX11_isIn pc = .ok (.ireturn, 1) → Post v → kf_M g x 6 pc lv [.int (kb v)] I J) (h : w_X11_isIn x0 x2 x4 Post) : kf_M g x 6 0 [(0, .long x0), (2, .long x2), (4, .long x4)] [] I J := by
  unfold w_X11_isIn at h
  refine kf_lload_n hx dX11_isIn_0 rfl 0 rfl ?_
  refine kf_lload_n hx dX11_isIn_1 rfl 1 rfl ?_
  refine kf_l_lt hx 17 dX11_isIn_2 dX11_isIn_3 (by decide) (fun c => ?_) (fun c => ?_)
  · replace h := h.1 c
    refine kf_iconst (v := 0) hx dX11_isIn_17 (by decide) ?_
    exact hret _ _ false  dX11_isIn_18 h
  · replace h := h.2 c
    refine kf_lload_n hx dX11_isIn_6 rfl 0 rfl ?_
    refine kf_lload hx dX11_isIn_7 2 rfl ?_
    refine kf_l_gt hx 17 dX11_isIn_9 dX11_isIn_10 (by decide) (fun c => ?_) (fun c => ?_)
    · replace h := h.1 c
      refine kf_iconst (v := 0) hx dX11_isIn_17 (by decide) ?_
      exact hret _ _ false  dX11_isIn_18 h
    · replace h := h.2 c
      refine kf_iconst (v := 1) hx dX11_isIn_13 (by decide) ?_
      refine kf_goto hx 18 dX11_isIn_14 (by decide) ?_
      exact hret _ _ true  dX11_isIn_18 h
set_option maxHeartbeats 4000000 in
set_option maxRecDepth 20000 in
theorem m_X11_isIn (g : kf_G) (hg : kf_g g) (x0 : Int64) (x2 : Int64) (x4 : Int64) (I : HI) (J : HJ) (Post : Bool → Prop) (h : w_X11_isIn x0 x2 x4 Post) : kf_Mb g yX11_isIn (kf_W yX11_isIn cX11_isIn 6 (Option.some Jvm.ClassFile.FieldType.boolean)) 0 0 [.long x0, .long x2, .long x4] I J (fun v I' J' => Post v ∧ I' = I ∧ J' = J) :=
  kf_entb hg (by decide) (Nat.le_of_ble_eq_true rfl) rfl (fun x hx hr => we_X11_isIn g hg hx x0 x2 x4 I J Post (fun pc lv v hd hP => hr pc lv v I J hd ⟨hP, rfl, rfl⟩) h)
theorem dX11_fraction_0 : decode cX11_fraction 0 = .ok (.lload_n 1, 1) := by decide +kernel
theorem dX11_fraction_1 : decode cX11_fraction 1 = .ok (.invokestatic 115, 3) := by decide +kernel
theorem dX11_fraction_4 : decode cX11_fraction 4 = .ok (.lstore 5, 2) := by decide +kernel
theorem dX11_fraction_6 : decode cX11_fraction 6 = .ok (.lload_n 3, 1) := by decide +kernel
theorem dX11_fraction_7 : decode cX11_fraction 7 = .ok (.lstore 7, 2) := by decide +kernel
theorem dX11_fraction_9 : decode cX11_fraction 9 = .ok (.lload 7, 2) := by decide +kernel
theorem dX11_fraction_11 : decode cX11_fraction 11 = .ok (.lconst 0, 1) := by decide +kernel
theorem dX11_fraction_12 : decode cX11_fraction 12 = .ok (.lcmp, 1) := by decide +kernel
theorem dX11_fraction_13 : decode cX11_fraction 13 = .ok (.ifCond .eq 21, 3) := by decide +kernel
theorem dX11_fraction_16 : decode cX11_fraction 16 = .ok (.lload 5, 2) := by decide +kernel
theorem dX11_fraction_18 : decode cX11_fraction 18 = .ok (.lload 7, 2) := by decide +kernel
theorem dX11_fraction_20 : decode cX11_fraction 20 = .ok (.lrem, 1) := by decide +kernel
theorem dX11_fraction_21 : decode cX11_fraction 21 = .ok (.lstore 9, 2) := by decide +kernel
theorem dX11_fraction_23 : decode cX11_fraction 23 = .ok (.lload 7, 2) := by decide +kernel
theorem dX11_fraction_25 : decode cX11_fraction 25 = .ok (.lstore 5, 2) := by decide +kernel
theorem dX11_fraction_27 : decode cX11_fraction 27 = .ok (.lload 9, 2) := by decide +kernel
theorem dX11_fraction_29 : decode cX11_fraction 29 = .ok (.lstore 7, 2) := by decide +kernel
theorem dX11_fraction_31 : decode cX11_fraction 31 = .ok (.goto (-22), 3) := by decide +kernel
theorem dX11_fraction_34 : decode cX11_fraction 34 = .ok (.aload_n 0, 1) := by decide +kernel
theorem dX11_fraction_35 : decode cX11_fraction 35 = .ok (.lload_n 1, 1) := by decide +kernel
theorem dX11_fraction_36 : decode cX11_fraction 36 = .ok (.lload 5, 2) := by decide +kernel
theorem dX11_fraction_38 : decode cX11_fraction 38 = .ok (.ldiv, 1) := by decide +kernel
theorem dX11_fraction_39 : decode cX11_fraction 39 = .ok (.putfield 112, 3) := by decide +kernel
theorem dX11_fraction_42 : decode cX11_fraction 42 = .ok (.aload_n 0, 1) := by decide +kernel
theorem dX11_fraction_43 : decode cX11_fraction 43 = .ok (.lload_n 3, 1) := by decide +kernel
theorem dX11_fraction_44 : decode cX11_fraction 44 = .ok (.lload 5, 2) := by decide +kernel
theorem dX11_fraction_46 : decode cX11_fraction 46 = .ok (.ldiv, 1) := by decide +kernel
theorem dX11_fraction_47 : decode cX11_fraction 47 = .ok (.putfield 7, 3) := by decide +kernel
theorem dX11_fraction_50 : decode cX11_fraction 50 = .ok (.return_, 1) := by decide +kernel
def wb_X11_fraction_9 (I : HI) (J : HJ) (x1 : Int64) (x3 : Int64) (Post : HJ → Prop) (E9 : Int64 → Prop) (K9 : (Int64 × Int64) → Prop) (s : Int64 × Int64) : Prop :=
  match s with
  | (x5, x7) => (x7 = 0 → (E9 x5)) ∧ (¬ x7 = 0 → (¬ x7 = 0 ∧ (K9 (x7, (x5 - (x5 / x7) * x7)))))
set_option maxHeartbeats 4000000 in
set_option maxRecDepth 20000 in
theorem ws_X11_fraction_9 (g : kf_G) (hg : kf_g g) {x : kf_X} (hx : kf_ok g x RX11 cX11_fraction 11 1 40) (I : HI) (J : HJ) (x1 : Int64) (x3 : Int64) (Post : HJ → Prop) (hret : ∀ (pc : Nat) (lv : List (Nat × Value)) (Jy : HJ), decode cX11_fraction pc = .ok (.return_, 1) → Post Jy → kf_M g x 11 pc lv [] I Jy) (E9 : Int64 → Prop) (hE9 : ∀ (y5 : Int64), E9 y5 → kf_M g x 11 34 [(0, .ref (g.2.2.2 72)), (1, .long x1), (3, .long x3), (5, .long y5)] [] I J) (K9 : (Int64 × Int64) → Prop) (hK9 : ∀ (y5 : Int64) (y7 : Int64), K9 (y5, y7) → kf_M g x 11 9 [(0, .ref (g.2.2.2 72)), (1, .long x1), (3, .long x3), (5, .long y5), (7, .long y7)] [] I J) (x5 : Int64) (x7 : Int64) (h : wb_X11_fraction_9 I J x1 x3 Post E9 K9 (x5, x7)) : kf_M g x 11 9 [(0, .ref (g.2.2.2 72)), (1, .long x1), (3, .long x3), (5, .long x5), (7, .long x7)] [] I J := by
  unfold wb_X11_fraction_9 at h
  refine kf_lload hx dX11_fraction_9 4 rfl ?_
  refine kf_lconst (v := 0) hx dX11_fraction_11 (by decide) ?_
  refine kf_l_eq hx 34 dX11_fraction_12 dX11_fraction_13 (by decide) (fun c => ?_) (fun c => ?_)
  · replace h := h.1 c
    refine kf_sub [0, 1, 2, 3] rfl ?_
    exact hE9 _ h
  · replace h := h.2 c
    refine kf_lload hx dX11_fraction_16 3 rfl ?_
    refine kf_lload hx dX11_fraction_18 4 rfl ?_
    refine kf_lrem hx dX11_fraction_20 h.1 ?_
    replace h := h.2
    refine kf_lstore (lv' := [(9, .long (x5 - (x5 / x7) * x7)), (0, .ref (g.2.2.2 72)), (1, .long x1), (3, .long x3), (5, .long x5), (7, .long x7)]) hx dX11_fraction_21 (by decide) rfl ?_
    refine kf_lload hx dX11_fraction_23 5 rfl ?_
    refine kf_lstore (lv' := [(5, .long x7), (9, .long (x5 - (x5 / x7) * x7)), (0, .ref (g.2.2.2 72)), (1, .long x1), (3, .long x3), (7, .long x7)]) hx dX11_fraction_25 (by decide) rfl ?_
    refine kf_lload hx dX11_fraction_27 1 rfl ?_
    refine kf_lstore (lv' := [(7, .long (x5 - (x5 / x7) * x7)), (5, .long x7), (9, .long (x5 - (x5 / x7) * x7)), (0, .ref (g.2.2.2 72)), (1, .long x1), (3, .long x3)]) hx dX11_fraction_29 (by decide) rfl ?_
    refine kf_goto hx 9 dX11_fraction_31 (by decide) ?_
    refine kf_sub [3, 4, 5, 1, 0] rfl ?_
    exact hK9 _ _ h
theorem wl_X11_fraction_9 (g : kf_G) (hg : kf_g g) {x : kf_X} (hx : kf_ok g x RX11 cX11_fraction 11 1 40) (I : HI) (J : HJ) (x1 : Int64) (x3 : Int64) (Post : HJ → Prop) (hret : ∀ (pc : Nat) (lv : List (Nat × Value)) (Jy : HJ), decode cX11_fraction pc = .ok (.return_, 1) → Post Jy → kf_M g x 11 pc lv [] I Jy) (E9 : Int64 → Prop) (hE9 : ∀ (y5 : Int64), E9 y5 → kf_M g x 11 34 [(0, .ref (g.2.2.2 72)), (1, .long x1), (3, .long x3), (5, .long y5)] [] I J) : ∀ (n : Nat) (x5 : Int64) (x7 : Int64), lp (wb_X11_fraction_9 I J x1 x3 Post E9) n (x5, x7) → kf_M g x 11 9 [(0, .ref (g.2.2.2 72)), (1, .long x1), (3, .long x3), (5, .long x5), (7, .long x7)] [] I J := by
  intro n
  induction n with
  | zero => intro x5 x7 h; exact h.elim
  | succ n ih => intro x5 x7 h; exact ws_X11_fraction_9 g hg hx I J x1 x3 Post hret E9 hE9 (lp (wb_X11_fraction_9 I J x1 x3 Post E9) n) ih x5 x7 h
def w_X11_fraction (x1 : Int64) (x3 : Int64) (I : HI) (J : HJ) (Post : HJ → Prop) : Prop :=
  ∃ n, lp (wb_X11_fraction_9 I J x1 x3 Post (fun (x5_1 : Int64) => ¬ x5_1 = 0 ∧ (∀ J_2 : HJ, J_2 = hJ J 72 2 (x1 / x5_1) → (¬ x5_1 = 0 ∧ (∀ J_3 : HJ, J_3 = hJ J_2 72 3 (x3 / x5_1) → (Post J_3)))))) n ((if 0 < x1 then x1 else -x1), x3)
set_option maxHeartbeats 4000000 in
set_option maxRecDepth 20000 in
theorem we_X11_fraction (g : kf_G) (hg : kf_g g) {x : kf_X} (hx : kf_ok g x RX11 cX11_fraction 11 1 40) (x1 : Int64) (x3 : Int64) (I : HI) (J : HJ) (Post : HJ → Prop) (hret : ∀ (pc : Nat) (lv : List (Nat × Value)) (Jy : HJ), decode cX11_fraction pc = .ok (.return_, 1) → Post Jy → kf_M g x 11 pc lv [] I Jy) (h : w_X11_fraction x1 x3 I J Post) : kf_M g x 11 0 [(0, .ref (g.2.2.2 72)), (1, .long x1), (3, .long x3)] [] I J := by
  unfold w_X11_fraction at h
  refine kf_lload_n hx dX11_fraction_0 rfl 1 rfl ?_
  refine kf_mabsJ (st := []) hx lm_RX11_115 lm_mabsJ (by decide) (Nat.le_of_ble_eq_true rfl) dX11_fraction_1 ?_
  refine kf_lstore (lv' := [(5, .long (if 0 < x1 then x1 else -x1)), (0, .ref (g.2.2.2 72)), (1, .long x1), (3, .long x3)]) hx dX11_fraction_4 (by decide) rfl ?_
  refine kf_lload_n hx dX11_fraction_6 rfl 3 rfl ?_
  refine kf_lstore (lv' := [(7, .long x3), (5, .long (if 0 < x1 then x1 else -x1)), (0, .ref (g.2.2.2 72)), (1, .long x1), (3, .long x3)]) hx dX11_fraction_7 (by decide) rfl ?_
  obtain ⟨n, h⟩ := h
  refine kf_sub [2, 3, 4, 1, 0] rfl ?_
  refine wl_X11_fraction_9 g hg hx I J x1 x3 _ hret _ (fun x5_1 h => ?_) n _ _ h
  refine kf_aload_n hx dX11_fraction_34 rfl 0 rfl ?_
  refine kf_lload_n hx dX11_fraction_35 rfl 1 rfl ?_
  refine kf_lload hx dX11_fraction_36 3 rfl ?_
  refine kf_ldiv hx dX11_fraction_38 h.1 ?_
  replace h := h.2
  refine kf_putJ hx sl_72_2 fl_RX11_112 fp_11_2 dX11_fraction_39 ?_
  refine kf_nmJ (fun J_2 eJ_2 => ?_)
  replace h := h J_2 eJ_2
  refine kf_aload_n hx dX11_fraction_42 rfl 0 rfl ?_
  refine kf_lload_n hx dX11_fraction_43 rfl 2 rfl ?_
  refine kf_lload hx dX11_fraction_44 3 rfl ?_
  refine kf_ldiv hx dX11_fraction_46 h.1 ?_
  replace h := h.2
  refine kf_putJ hx sl_72_3 fl_RX11_7 fp_11_3 dX11_fraction_47 ?_
  refine kf_nmJ (fun J_3 eJ_3 => ?_)
  replace h := h J_3 eJ_3
  exact hret _ _ _ dX11_fraction_50 h
set_option maxHeartbeats 4000000 in
set_option maxRecDepth 20000 in
theorem m_X11_fraction (g : kf_G) (hg : kf_g g) (x1 : Int64) (x3 : Int64) (I : HI) (J : HJ) (Post : HJ → Prop) (h : w_X11_fraction x1 x3 I J Post) : kf_Mv g yX11_fraction (kf_W yX11_fraction cX11_fraction 11 (Option.none : Option Jvm.ClassFile.FieldType)) 1 40 [.ref (g.2.2.2 72), .long x1, .long x3] I J (fun I' J' => Post J' ∧ I' = I) :=
  kf_entv hg (by decide) (Nat.le_of_ble_eq_true rfl) rfl (fun x hx hr => we_X11_fraction g hg hx x1 x3 I J Post (fun pc lv J' hd hP => hr pc lv I J' hd ⟨hP, rfl⟩) h)
theorem dX11_cut_0 : decode cX11_cut 0 = .ok (.iload_n 0, 1) := by decide +kernel
theorem dX11_cut_1 : decode cX11_cut 1 = .ok (.ifCond .ne 10, 3) := by decide +kernel
theorem dX11_cut_4 : decode cX11_cut 4 = .ok (.lload_n 1, 1) := by decide +kernel
theorem dX11_cut_5 : decode cX11_cut 5 = .ok (.l2i, 1) := by decide +kernel
theorem dX11_cut_6 : decode cX11_cut 6 = .ok (.i2b, 1) := by decide +kernel
theorem dX11_cut_7 : decode cX11_cut 7 = .ok (.i2l, 1) := by decide +kernel
theorem dX11_cut_8 : decode cX11_cut 8 = .ok (.goto 27, 3) := by decide +kernel
theorem dX11_cut_11 : decode cX11_cut 11 = .ok (.iload_n 0, 1) := by decide +kernel
theorem dX11_cut_12 : decode cX11_cut 12 = .ok (.iconst 1, 1) := by decide +kernel
theorem dX11_cut_13 : decode cX11_cut 13 = .ok (.if_icmp .ne 10, 3) := by decide +kernel
theorem dX11_cut_16 : decode cX11_cut 16 = .ok (.lload_n 1, 1) := by decide +kernel
theorem dX11_cut_17 : decode cX11_cut 17 = .ok (.l2i, 1) := by decide +kernel
theorem dX11_cut_18 : decode cX11_cut 18 = .ok (.i2s, 1) := by decide +kernel
theorem dX11_cut_19 : decode cX11_cut 19 = .ok (.i2l, 1) := by decide +kernel
theorem dX11_cut_20 : decode cX11_cut 20 = .ok (.goto 15, 3) := by decide +kernel
theorem dX11_cut_23 : decode cX11_cut 23 = .ok (.iload_n 0, 1) := by decide +kernel
theorem dX11_cut_24 : decode cX11_cut 24 = .ok (.iconst 2, 1) := by decide +kernel
theorem dX11_cut_25 : decode cX11_cut 25 = .ok (.if_icmp .ne 9, 3) := by decide +kernel
theorem dX11_cut_28 : decode cX11_cut 28 = .ok (.lload_n 1, 1) := by decide +kernel
theorem dX11_cut_29 : decode cX11_cut 29 = .ok (.l2i, 1) := by decide +kernel
theorem dX11_cut_30 : decode cX11_cut 30 = .ok (.i2l, 1) := by decide +kernel
theorem dX11_cut_31 : decode cX11_cut 31 = .ok (.goto 4, 3) := by decide +kernel
theorem dX11_cut_34 : decode cX11_cut 34 = .ok (.lload_n 1, 1) := by decide +kernel
theorem dX11_cut_35 : decode cX11_cut 35 = .ok (.lreturn, 1) := by decide +kernel
def w_X11_cut (x0 : Int32) (x1 : Int64) (Post : Int64 → Prop) : Prop :=
  (¬ x0 = 0 → ((¬ x0 = 1 → ((¬ x0 = 2 → (Post x1)) ∧ (x0 = 2 → (Post (Int32.toInt64 (Int64.toInt32 x1)))))) ∧ (x0 = 1 → (Post (Int32.toInt64 (Int16.toInt32 (Int32.toInt16 (Int64.toInt32 x1)))))))) ∧ (x0 = 0 → (Post (Int32.toInt64 (Int8.toInt32 (Int32.toInt8 (Int64.toInt32 x1))))))
set_option maxHeartbeats 4000000 in
set_option maxRecDepth 20000 in
theorem we_X11_cut (g : kf_G) (hg : kf_g g) {x : kf_X} (hx : kf_ok g x RX11 cX11_cut 3 0 0) (x0 : Int32) (x1 : Int64) (I : HI) (J : HJ) (Post : Int64 → Prop) (hret : ∀ (pc : Nat) (lv : List (Nat × Value)) (v : Int64), decode cX11_cut pc = .ok (.lreturn, 1) → Post v → kf_M g x 3 pc lv [.long v] I J) (h : w_X11_cut x0 x1 Post) : kf_M g x 3 0 [(0, .int x0), (1, .long x1)] [] I J := by
  unfold w_X11_cut at h
  refine kf_iload_n hx dX11_cut_0 rfl 0 rfl ?_
  refine kf_if_ne hx 11 dX11_cut_1 (by decide) (fun c => ?_) (fun c => ?_)
  · replace h := h.1 c
    refine kf_iload_n hx dX11_cut_11 rfl 0 rfl ?_
    refine kf_iconst (v := 1) hx dX11_cut_12 (by decide) ?_
    refine kf_icmp_ne hx 23 dX11_cut_13 (by decide) (fun c => ?_) (fun c => ?_)
    · replace h := h.1 c
      refine kf_iload_n hx dX11_cut_23 rfl 0 rfl ?_
      refine kf_iconst (v := 2) hx dX11_cut_24 (by decide) ?_
      refine kf_icmp_ne hx 34 dX11_cut_25 (by decide) (fun c => ?_) (fun c => ?_)
      · replace h := h.1 c
        refine kf_lload_n hx dX11_cut_34 rfl 1 rfl ?_
        exact hret _ _ x1  dX11_cut_35 h
      · replace h := h.2 c
        refine kf_lload_n hx dX11_cut_28 rfl 1 rfl ?_
        refine kf_l2i hx dX11_cut_29 ?_
        refine kf_i2l hx dX11_cut_30 ?_
        refine kf_goto hx 35 dX11_cut_31 (by decide) ?_
        exact hret _ _ (Int32.toInt64 (Int64.toInt32 x1))  dX11_cut_35 h
    · replace h := h.2 c
      refine kf_lload_n hx dX11_cut_16 rfl 1 rfl ?_
      refine kf_l2i hx dX11_cut_17 ?_
      refine kf_i2s hx dX11_cut_18 ?_
      refine kf_i2l hx dX11_cut_19 ?_
      refine kf_goto hx 35 dX11_cut_20 (by decide) ?_
      exact hret _ _ (Int32.toInt64 (Int16.toInt32 (Int32.toInt16 (Int64.toInt32 x1))))  dX11_cut_35 h
  · replace h := h.2 c
    refine kf_lload_n hx dX11_cut_4 rfl 1 rfl ?_
    refine kf_l2i hx dX11_cut_5 ?_
    refine kf_i2b hx dX11_cut_6 ?_
    refine kf_i2l hx dX11_cut_7 ?_
    refine kf_goto hx 35 dX11_cut_8 (by decide) ?_
    exact hret _ _ (Int32.toInt64 (Int8.toInt32 (Int32.toInt8 (Int64.toInt32 x1))))  dX11_cut_35 h
set_option maxHeartbeats 4000000 in
set_option maxRecDepth 20000 in
theorem m_X11_cut (g : kf_G) (hg : kf_g g) (x0 : Int32) (x1 : Int64) (I : HI) (J : HJ) (Post : Int64 → Prop) (h : w_X11_cut x0 x1 Post) : kf_Ml g yX11_cut (kf_W yX11_cut cX11_cut 3 (Option.some Jvm.ClassFile.FieldType.long)) 0 0 [.int x0, .long x1] I J (fun v I' J' => Post v ∧ I' = I ∧ J' = J) :=
  kf_entl hg (by decide) (Nat.le_of_ble_eq_true rfl) rfl (fun x hx hr => we_X11_cut g hg hx x0 x1 I J Post (fun pc lv v hd hP => hr pc lv v I J hd ⟨hP, rfl, rfl⟩) h)
theorem dX11_tray_0 : decode cX11_tray 0 = .ok (.aload_n 0, 1) := by decide +kernel
theorem dX11_tray_1 : decode cX11_tray 1 = .ok (.iconst 0, 1) := by decide +kernel
theorem dX11_tray_2 : decode cX11_tray 2 = .ok (.putfield 106, 3) := by decide +kernel
theorem dX11_tray_5 : decode cX11_tray 5 = .ok (.aload_n 0, 1) := by decide +kernel
theorem dX11_tray_6 : decode cX11_tray 6 = .ok (.iconst 0, 1) := by decide +kernel
theorem dX11_tray_7 : decode cX11_tray 7 = .ok (.putfield 109, 3) := by decide +kernel
theorem dX11_tray_10 : decode cX11_tray 10 = .ok (.iload_n 1, 1) := by decide +kernel
theorem dX11_tray_11 : decode cX11_tray 11 = .ok (.ifCond .lt 17, 3) := by decide +kernel
theorem dX11_tray_14 : decode cX11_tray 14 = .ok (.iload_n 1, 1) := by decide +kernel
theorem dX11_tray_15 : decode cX11_tray 15 = .ok (.iconst 4, 1) := by decide +kernel
theorem dX11_tray_16 : decode cX11_tray 16 = .ok (.if_icmp .ge 12, 3) := by decide +kernel
theorem dX11_tray_19 : decode cX11_tray 19 = .ok (.iload_n 2, 1) := by decide +kernel
theorem dX11_tray_20 : decode cX11_tray 20 = .ok (.ifCond .lt 8, 3) := by decide +kernel
theorem dX11_tray_23 : decode cX11_tray 23 = .ok (.iload_n 2, 1) := by decide +kernel
theorem dX11_tray_24 : decode cX11_tray 24 = .ok (.iconst 3, 1) := by decide +kernel
theorem dX11_tray_25 : decode cX11_tray 25 = .ok (.if_icmp .le 9, 3) := by decide +kernel
theorem dX11_tray_28 : decode cX11_tray 28 = .ok (.aload_n 0, 1) := by decide +kernel
theorem dX11_tray_29 : decode cX11_tray 29 = .ok (.iconst 1, 1) := by decide +kernel
theorem dX11_tray_30 : decode cX11_tray 30 = .ok (.invokevirtual 121, 3) := by decide +kernel
theorem dX11_tray_33 : decode cX11_tray 33 = .ok (.ireturn, 1) := by decide +kernel
theorem dX11_tray_34 : decode cX11_tray 34 = .ok (.iload_n 3, 1) := by decide +kernel
theorem dX11_tray_35 : decode cX11_tray 35 = .ok (.bipush 40, 2) := by decide +kernel
theorem dX11_tray_37 : decode cX11_tray 37 = .ok (.if_icmp .le 9, 3) := by decide +kernel
theorem dX11_tray_40 : decode cX11_tray 40 = .ok (.aload_n 0, 1) := by decide +kernel
theorem dX11_tray_41 : decode cX11_tray 41 = .ok (.iconst 5, 1) := by decide +kernel
theorem dX11_tray_42 : decode cX11_tray 42 = .ok (.invokevirtual 121, 3) := by decide +kernel
theorem dX11_tray_45 : decode cX11_tray 45 = .ok (.ireturn, 1) := by decide +kernel
theorem dX11_tray_46 : decode cX11_tray 46 = .ok (.iload_n 3, 1) := by decide +kernel
theorem dX11_tray_47 : decode cX11_tray 47 = .ok (.ifCond .ge 10, 3) := by decide +kernel
theorem dX11_tray_50 : decode cX11_tray 50 = .ok (.aload_n 0, 1) := by decide +kernel
theorem dX11_tray_51 : decode cX11_tray 51 = .ok (.bipush 6, 2) := by decide +kernel
theorem dX11_tray_53 : decode cX11_tray 53 = .ok (.invokevirtual 121, 3) := by decide +kernel
theorem dX11_tray_56 : decode cX11_tray 56 = .ok (.ireturn, 1) := by decide +kernel
theorem dX11_tray_57 : decode cX11_tray 57 = .ok (.aload_n 0, 1) := by decide +kernel
theorem dX11_tray_58 : decode cX11_tray 58 = .ok (.getfield 13, 3) := by decide +kernel
theorem dX11_tray_61 : decode cX11_tray 61 = .ok (.iload_n 1, 1) := by decide +kernel
theorem dX11_tray_62 : decode cX11_tray 62 = .ok (.iload_n 2, 1) := by decide +kernel
theorem dX11_tray_63 : decode cX11_tray 63 = .ok (.iastore, 1) := by decide +kernel
theorem dX11_tray_64 : decode cX11_tray 64 = .ok (.aload_n 0, 1) := by decide +kernel
theorem dX11_tray_65 : decode cX11_tray 65 = .ok (.getfield 17, 3) := by decide +kernel
theorem dX11_tray_68 : decode cX11_tray 68 = .ok (.iload_n 1, 1) := by decide +kernel
theorem dX11_tray_69 : decode cX11_tray 69 = .ok (.iload_n 3, 1) := by decide +kernel
theorem dX11_tray_70 : decode cX11_tray 70 = .ok (.iastore, 1) := by decide +kernel
theorem dX11_tray_71 : decode cX11_tray 71 = .ok (.iconst 0, 1) := by decide +kernel
theorem dX11_tray_72 : decode cX11_tray 72 = .ok (.istore 4, 2) := by decide +kernel
theorem dX11_tray_74 : decode cX11_tray 74 = .ok (.iload 4, 2) := by decide +kernel
theorem dX11_tray_76 : decode cX11_tray 76 = .ok (.iload_n 3, 1) := by decide +kernel
theorem dX11_tray_77 : decode cX11_tray 77 = .ok (.if_icmp .ge 22, 3) := by decide +kernel
theorem dX11_tray_80 : decode cX11_tray 80 = .ok (.aload_n 0, 1) := by decide +kernel
theorem dX11_tray_81 : decode cX11_tray 81 = .ok (.getfield 20, 3) := by decide +kernel
theorem dX11_tray_84 : decode cX11_tray 84 = .ok (.bipush 40, 2) := by decide +kernel
theorem dX11_tray_86 : decode cX11_tray 86 = .ok (.iload_n 1, 1) := by decide +kernel
theorem dX11_tray_87 : decode cX11_tray 87 = .ok (.imul, 1) := by decide +kernel
theorem dX11_tray_88 : decode cX11_tray 88 = .ok (.iload 4, 2) := by decide +kernel
theorem dX11_tray_90 : decode cX11_tray 90 = .ok (.iadd, 1) := by decide +kernel
theorem dX11_tray_91 : decode cX11_tray 91 = .ok (.lconst 0, 1) := by decide +kernel
theorem dX11_tray_92 : decode cX11_tray 92 = .ok (.lastore, 1) := by decide +kernel
theorem dX11_tray_93 : decode cX11_tray 93 = .ok (.iinc 4 1, 3) := by decide +kernel
theorem dX11_tray_96 : decode cX11_tray 96 = .ok (.goto (-22), 3) := by decide +kernel
theorem dX11_tray_99 : decode cX11_tray 99 = .ok (.iconst 1, 1) := by decide +kernel
theorem dX11_tray_100 : decode cX11_tray 100 = .ok (.ireturn, 1) := by decide +kernel
def wj_X11_tray_28 (I : HI) (J : HJ)  (Post : Bool → HI → HJ → Prop) : Prop :=
  w_X11_no 1 I J (fun (r_3 : Bool) (I_4 : HI) => (Post r_3 I_4 J))
set_option maxHeartbeats 4000000 in
set_option maxRecDepth 20000 in
theorem wk_X11_tray_28 (g : kf_G) (hg : kf_g g) {x : kf_X} (hx : kf_ok g x RX11 cX11_tray 5 1 21) (I : HI) (J : HJ)  (Post : Bool → HI → HJ → Prop) (hret : ∀ (pc : Nat) (lv : List (Nat × Value)) (v : Bool) (Iy : HI) (Jy : HJ), decode cX11_tray pc = .ok (.ireturn, 1) → Post v Iy Jy → kf_M g x 5 pc lv [.int (kb v)] Iy Jy) (h : wj_X11_tray_28 I J  Post) : kf_M g x 5 28 [(0, .ref (g.2.2.2 72))] [] I J := by
  unfold wj_X11_tray_28 at h
  refine kf_aload_n hx dX11_tray_28 rfl 0 rfl ?_
  refine kf_iconst (v := 1) hx dX11_tray_29 (by decide) ?_
  refine kf_callVbI (st := []) hx (m_X11_no g hg 1 I J _ h) lk_RX11_121 km_X11_no ob_72 rfl (by decide) rfl (Nat.le_of_ble_eq_true rfl) dX11_tray_30 (fun r_3 I_4 h => ?_)
  exact hret _ _ r_3 _ _ dX11_tray_33 h
def wb_X11_tray_74 (I : HI) (x1 : Int32) (x3 : Int32) (Post : Bool → HI → HJ → Prop) (E74 : HJ → Prop) (K74 : (Int32 × HJ) → Prop) (s : Int32 × HJ) : Prop :=
  match s with
  | (x4, J) => (x3 ≤ x4 → (E74 J)) ∧ (¬ x3 ≤ x4 → (vp_in ((40 * x1) + x4) 160 ∧ (∀ J_7 : HJ, J_7 = hJ J 75 (Int32.toNatClampNeg ((40 * x1) + x4)) 0 → (K74 ((x4 + 1), J_7)))))
set_option maxHeartbeats 4000000 in
set_option maxRecDepth 20000 in
theorem ws_X11_tray_74 (g : kf_G) (hg : kf_g g) {x : kf_X} (hx : kf_ok g x RX11 cX11_tray 5 1 21) (I : HI) (x1 : Int32) (x3 : Int32) (Post : Bool → HI → HJ → Prop) (hret : ∀ (pc : Nat) (lv : List (Nat × Value)) (v : Bool) (Iy : HI) (Jy : HJ), decode cX11_tray pc = .ok (.ireturn, 1) → Post v Iy Jy → kf_M g x 5 pc lv [.int (kb v)] Iy Jy) (E74 : HJ → Prop) (hE74 : ∀ (Jy : HJ), E74 Jy → kf_M g x 5 99 [] [] I Jy) (K74 : (Int32 × HJ) → Prop) (hK74 : ∀ (y4 : Int32) (Jy : HJ), K74 (y4, Jy) → kf_M g x 5 74 [(0, .ref (g.2.2.2 72)), (1, .int x1), (3, .int x3), (4, .int y4)] [] I Jy) (x4 : Int32) (J : HJ) (h : wb_X11_tray_74 I x1 x3 Post E74 K74 (x4, J)) : kf_M g x 5 74 [(0, .ref (g.2.2.2 72)), (1, .int x1), (3, .int x3), (4, .int x4)] [] I J := by
  unfold wb_X11_tray_74 at h
  refine kf_iload hx dX11_tray_74 3 rfl ?_
  refine kf_iload_n hx dX11_tray_76 rfl 2 rfl ?_
  refine kf_icmp_ge hx 99 dX11_tray_77 (by decide) (fun c => ?_) (fun c => ?_)
  · replace h := h.1 c
    refine kf_sub [] rfl ?_
    exact hE74 _ h
  · replace h := h.2 c
    refine kf_aload_n hx dX11_tray_80 rfl 0 rfl ?_
    refine kf_getR (n := 75) hx sl_72_6 fl_RX11_20 dX11_tray_81 ?_
    refine kf_bipush (v := 40) hx dX11_tray_84 (by decide) ?_
    refine kf_iload_n hx dX11_tray_86 rfl 1 rfl ?_
    refine kf_imul hx dX11_tray_87 ?_
    refine kf_iload hx dX11_tray_88 3 rfl ?_
    refine kf_iadd hx dX11_tray_90 ?_
    refine kf_lconst (v := 0) hx dX11_tray_91 (by decide) ?_
    refine kf_last hx ar_75 h.1 dX11_tray_92 ?_
    replace h := h.2
    refine kf_nmJ (fun J_7 eJ_7 => ?_)
    replace h := h J_7 eJ_7
    refine kf_iinc (w := (x4 + 1)) (lv' := [(4, .int (x4 + 1)), (0, .ref (g.2.2.2 72)), (1, .int x1), (3, .int x3)]) hx dX11_tray_93 3 rfl rfl (by decide) rfl ?_
    refine kf_goto hx 74 dX11_tray_96 (by decide) ?_
    refine kf_sub [1, 2, 3, 0] rfl ?_
    exact hK74 _ _ h
theorem wl_X11_tray_74 (g : kf_G) (hg : kf_g g) {x : kf_X} (hx : kf_ok g x RX11 cX11_tray 5 1 21) (I : HI) (x1 : Int32) (x3 : Int32) (Post : Bool → HI → HJ → Prop) (hret : ∀ (pc : Nat) (lv : List (Nat × Value)) (v : Bool) (Iy : HI) (Jy : HJ), decode cX11_tray pc = .ok (.ireturn, 1) → Post v Iy Jy → kf_M g x 5 pc lv [.int (kb v)] Iy Jy) (E74 : HJ → Prop) (hE74 : ∀ (Jy : HJ), E74 Jy → kf_M g x 5 99 [] [] I Jy) : ∀ (n : Nat) (x4 : Int32) (J : HJ), lp (wb_X11_tray_74 I x1 x3 Post E74) n (x4, J) → kf_M g x 5 74 [(0, .ref (g.2.2.2 72)), (1, .int x1), (3, .int x3), (4, .int x4)] [] I J := by
  intro n
  induction n with
  | zero => intro x4 J h; exact h.elim
  | succ n ih => intro x4 J h; exact ws_X11_tray_74 g hg hx I x1 x3 Post hret E74 hE74 (lp (wb_X11_tray_74 I x1 x3 Post E74) n) ih x4 J h
def w_X11_tray (x1 : Int32) (x2 : Int32) (x3 : Int32) (I : HI) (J : HJ) (Post : Bool → HI → HJ → Prop) : Prop :=
  ∀ I_1 : HI, I_1 = hI I 72 1 0 → (∀ I_2 : HI, I_2 = hI I_1 72 0 0 → ((x1 < 0 → (wj_X11_tray_28 I_2 J Post)) ∧ (¬ x1 < 0 → ((4 ≤ x1 → (wj_X11_tray_28 I_2 J Post)) ∧ (¬ 4 ≤ x1 → ((x2 < 0 → (wj_X11_tray_28 I_2 J Post)) ∧ (¬ x2 < 0 → ((x2 ≤ 3 → ((x3 ≤ 40 → ((0 ≤ x3 → (vp_in x1 4 ∧ (∀ I_5 : HI, I_5 = hI I_2 73 (Int32.toNatClampNeg x1) x2 → (vp_in x1 4 ∧ (∀ I_6 : HI, I_6 = hI I_5 74 (Int32.toNatClampNeg x1) x3 → (∃ n, lp (wb_X11_tray_74 I_6 x1 x3 Post (fun (J_8 : HJ) => Post true I_6 J_8)) n (0, J))))))) ∧ (¬ 0 ≤ x3 → (w_X11_no 6 I_2 J (fun (r_9 : Bool) (I_10 : HI) => (Post r_9 I_10 J)))))) ∧ (¬ x3 ≤ 40 → (w_X11_no 5 I_2 J (fun (r_11 : Bool) (I_12 : HI) => (Post r_11 I_12 J)))))) ∧ (¬ x2 ≤ 3 → (wj_X11_tray_28 I_2 J Post))))))))))
set_option maxHeartbeats 4000000 in
set_option maxRecDepth 20000 in
theorem we_X11_tray (g : kf_G) (hg : kf_g g) {x : kf_X} (hx : kf_ok g x RX11 cX11_tray 5 1 21) (x1 : Int32) (x2 : Int32) (x3 : Int32) (I : HI) (J : HJ) (Post : Bool → HI → HJ → Prop) (hret : ∀ (pc : Nat) (lv : List (Nat × Value)) (v : Bool) (Iy : HI) (Jy : HJ), decode cX11_tray pc = .ok (.ireturn, 1) → Post v Iy Jy → kf_M g x 5 pc lv [.int (kb v)] Iy Jy) (h : w_X11_tray x1 x2 x3 I J Post) : kf_M g x 5 0 [(0, .ref (g.2.2.2 72)), (1, .int x1), (2, .int x2), (3, .int x3)] [] I J := by
  unfold w_X11_tray at h
  refine kf_aload_n hx dX11_tray_0 rfl 0 rfl ?_
  refine kf_iconst (v := 0) hx dX11_tray_1 (by decide) ?_
  refine kf_putI hx sl_72_1 fl_RX11_106 fp_11_1 dX11_tray_2 ?_
  refine kf_nmI (fun I_1 eI_1 => ?_)
  replace h := h I_1 eI_1
  refine kf_aload_n hx dX11_tray_5 rfl 0 rfl ?_
  refine kf_iconst (v := 0) hx dX11_tray_6 (by decide) ?_
  refine kf_putI hx sl_72_0 fl_RX11_109 fp_11_0 dX11_tray_7 ?_
  refine kf_nmI (fun I_2 eI_2 => ?_)
  replace h := h I_2 eI_2
  refine kf_iload_n hx dX11_tray_10 rfl 1 rfl ?_
  refine kf_if_lt hx 28 dX11_tray_11 (by decide) (fun c => ?_) (fun c => ?_)
  · replace h := h.1 c
    refine kf_sub [0] rfl ?_
    exact wk_X11_tray_28 g hg hx I_2 J  _ hret h
  · replace h := h.2 c
    refine kf_iload_n hx dX11_tray_14 rfl 1 rfl ?_
    refine kf_iconst (v := 4) hx dX11_tray_15 (by decide) ?_
    refine kf_icmp_ge hx 28 dX11_tray_16 (by decide) (fun c => ?_) (fun c => ?_)
    · replace h := h.1 c
      refine kf_sub [0] rfl ?_
      exact wk_X11_tray_28 g hg hx I_2 J  _ hret h
    · replace h := h.2 c
      refine kf_iload_n hx dX11_tray_19 rfl 2 rfl ?_
      refine kf_if_lt hx 28 dX11_tray_20 (by decide) (fun c => ?_) (fun c => ?_)
      · replace h := h.1 c
        refine kf_sub [0] rfl ?_
        exact wk_X11_tray_28 g hg hx I_2 J  _ hret h
      · replace h := h.2 c
        refine kf_iload_n hx dX11_tray_23 rfl 2 rfl ?_
        refine kf_iconst (v := 3) hx dX11_tray_24 (by decide) ?_
        refine kf_icmp_le hx 34 dX11_tray_25 (by decide) (fun c => ?_) (fun c => ?_)
        · replace h := h.1 c
          refine kf_iload_n hx dX11_tray_34 rfl 3 rfl ?_
          refine kf_bipush (v := 40) hx dX11_tray_35 (by decide) ?_
          refine kf_icmp_le hx 46 dX11_tray_37 (by decide) (fun c => ?_) (fun c => ?_)
          · replace h := h.1 c
            refine kf_iload_n hx dX11_tray_46 rfl 3 rfl ?_
            refine kf_if_ge hx 57 dX11_tray_47 (by decide) (fun c => ?_) (fun c => ?_)
            · replace h := h.1 c
              refine kf_aload_n hx dX11_tray_57 rfl 0 rfl ?_
              refine kf_getR (n := 73) hx sl_72_4 fl_RX11_13 dX11_tray_58 ?_
              refine kf_iload_n hx dX11_tray_61 rfl 1 rfl ?_
              refine kf_iload_n hx dX11_tray_62 rfl 2 rfl ?_
              refine kf_iast hx ar_73 h.1 dX11_tray_63 ?_
              replace h := h.2
              refine kf_nmI (fun I_5 eI_5 => ?_)
              replace h := h I_5 eI_5
              refine kf_aload_n hx dX11_tray_64 rfl 0 rfl ?_
              refine kf_getR (n := 74) hx sl_72_5 fl_RX11_17 dX11_tray_65 ?_
              refine kf_iload_n hx dX11_tray_68 rfl 1 rfl ?_
              refine kf_iload_n hx dX11_tray_69 rfl 3 rfl ?_
              refine kf_iast hx ar_74 h.1 dX11_tray_70 ?_
              replace h := h.2
              refine kf_nmI (fun I_6 eI_6 => ?_)
              replace h := h I_6 eI_6
              refine kf_iconst (v := 0) hx dX11_tray_71 (by decide) ?_
              refine kf_istore (lv' := [(4, .int 0), (0, .ref (g.2.2.2 72)), (1, .int x1), (2, .int x2), (3, .int x3)]) hx dX11_tray_72 (by decide) rfl ?_
              obtain ⟨n, h⟩ := h
              refine kf_sub [1, 2, 4, 0] rfl ?_
              refine wl_X11_tray_74 g hg hx I_6 x1 x3 _ hret _ (fun J_8 h => ?_) n _ _ h
              refine kf_iconst (v := 1) hx dX11_tray_99 (by decide) ?_
              exact hret _ _ true _ _ dX11_tray_100 h
            · replace h := h.2 c
              refine kf_aload_n hx dX11_tray_50 rfl 0 rfl ?_
              refine kf_bipush (v := 6) hx dX11_tray_51 (by decide) ?_
              refine kf_callVbI (st := []) hx (m_X11_no g hg 6 I_2 J _ h) lk_RX11_121 km_X11_no ob_72 rfl (by decide) rfl (Nat.le_of_ble_eq_true rfl) dX11_tray_53 (fun r_9 I_10 h => ?_)
              exact hret _ _ r_9 _ _ dX11_tray_56 h
          · replace h := h.2 c
            refine kf_aload_n hx dX11_tray_40 rfl 0 rfl ?_
            refine kf_iconst (v := 5) hx dX11_tray_41 (by decide) ?_
            refine kf_callVbI (st := []) hx (m_X11_no g hg 5 I_2 J _ h) lk_RX11_121 km_X11_no ob_72 rfl (by decide) rfl (Nat.le_of_ble_eq_true rfl) dX11_tray_42 (fun r_11 I_12 h => ?_)
            exact hret _ _ r_11 _ _ dX11_tray_45 h
        · replace h := h.2 c
          refine kf_sub [0] rfl ?_
          exact wk_X11_tray_28 g hg hx I_2 J  _ hret h
set_option maxHeartbeats 4000000 in
set_option maxRecDepth 20000 in
theorem m_X11_tray (g : kf_G) (hg : kf_g g) (x1 : Int32) (x2 : Int32) (x3 : Int32) (I : HI) (J : HJ) (Post : Bool → HI → HJ → Prop) (h : w_X11_tray x1 x2 x3 I J Post) : kf_Mb g yX11_tray (kf_W yX11_tray cX11_tray 5 (Option.some Jvm.ClassFile.FieldType.boolean)) 1 21 [.ref (g.2.2.2 72), .int x1, .int x2, .int x3] I J Post :=
  kf_entb hg (by decide) (Nat.le_of_ble_eq_true rfl) rfl (fun x hx hr => we_X11_tray g hg hx x1 x2 x3 I J Post (fun pc lv v I' J' hd hP => hr pc lv v I' J' hd hP) h)
theorem dX11_trayed_0 : decode cX11_trayed 0 = .ok (.iload_n 1, 1) := by decide +kernel
theorem dX11_trayed_1 : decode cX11_trayed 1 = .ok (.ifCond .lt 8, 3) := by decide +kernel
theorem dX11_trayed_4 : decode cX11_trayed 4 = .ok (.iload_n 1, 1) := by decide +kernel
theorem dX11_trayed_5 : decode cX11_trayed 5 = .ok (.iconst 4, 1) := by decide +kernel
theorem dX11_trayed_6 : decode cX11_trayed 6 = .ok (.if_icmp .lt 7, 3) := by decide +kernel
theorem dX11_trayed_9 : decode cX11_trayed 9 = .ok (.iconst 1, 1) := by decide +kernel
theorem dX11_trayed_10 : decode cX11_trayed 10 = .ok (.goto 17, 3) := by decide +kernel
theorem dX11_trayed_13 : decode cX11_trayed 13 = .ok (.aload_n 0, 1) := by decide +kernel
theorem dX11_trayed_14 : decode cX11_trayed 14 = .ok (.getfield 17, 3) := by decide +kernel
theorem dX11_trayed_17 : decode cX11_trayed 17 = .ok (.iload_n 1, 1) := by decide +kernel
theorem dX11_trayed_18 : decode cX11_trayed 18 = .ok (.iaload, 1) := by decide +kernel
theorem dX11_trayed_19 : decode cX11_trayed 19 = .ok (.ifCond .ge 7, 3) := by decide +kernel
theorem dX11_trayed_22 : decode cX11_trayed 22 = .ok (.iconst 3, 1) := by decide +kernel
theorem dX11_trayed_23 : decode cX11_trayed 23 = .ok (.goto 4, 3) := by decide +kernel
theorem dX11_trayed_26 : decode cX11_trayed 26 = .ok (.iconst 0, 1) := by decide +kernel
theorem dX11_trayed_27 : decode cX11_trayed 27 = .ok (.ireturn, 1) := by decide +kernel
def w_X11_trayed (x1 : Int32) (I : HI) (J : HJ) (Post : Int32 → Prop) : Prop :=
  (x1 < 0 → (Post 1)) ∧ (¬ x1 < 0 → ((x1 < 4 → (vp_in x1 4 ∧ ((0 ≤ (I 74 (Int32.toNatClampNeg x1)) → (Post 0)) ∧ (¬ 0 ≤ (I 74 (Int32.toNatClampNeg x1)) → (Post 3))))) ∧ (¬ x1 < 4 → (Post 1))))
set_option maxHeartbeats 4000000 in
set_option maxRecDepth 20000 in
theorem we_X11_trayed (g : kf_G) (hg : kf_g g) {x : kf_X} (hx : kf_ok g x RX11 cX11_trayed 2 0 0) (x1 : Int32) (I : HI) (J : HJ) (Post : Int32 → Prop) (hret : ∀ (pc : Nat) (lv : List (Nat × Value)) (v : Int32), decode cX11_trayed pc = .ok (.ireturn, 1) → Post v → kf_M g x 2 pc lv [.int v] I J) (h : w_X11_trayed x1 I J Post) : kf_M g x 2 0 [(0, .ref (g.2.2.2 72)), (1, .int x1)] [] I J := by
  unfold w_X11_trayed at h
  refine kf_iload_n hx dX11_trayed_0 rfl 1 rfl ?_
  refine kf_if_lt hx 9 dX11_trayed_1 (by decide) (fun c => ?_) (fun c => ?_)
  · replace h := h.1 c
    refine kf_iconst (v := 1) hx dX11_trayed_9 (by decide) ?_
    refine kf_goto hx 27 dX11_trayed_10 (by decide) ?_
    exact hret _ _ 1  dX11_trayed_27 h
  · replace h := h.2 c
    refine kf_iload_n hx dX11_trayed_4 rfl 1 rfl ?_
    refine kf_iconst (v := 4) hx dX11_trayed_5 (by decide) ?_
    refine kf_icmp_lt hx 13 dX11_trayed_6 (by decide) (fun c => ?_) (fun c => ?_)
    · replace h := h.1 c
      refine kf_aload_n hx dX11_trayed_13 rfl 0 rfl ?_
      refine kf_getR (n := 74) hx sl_72_5 fl_RX11_17 dX11_trayed_14 ?_
      refine kf_iload_n hx dX11_trayed_17 rfl 1 rfl ?_
      refine kf_iald hx ar_74 h.1 dX11_trayed_18 ?_
      replace h := h.2
      refine kf_if_ge hx 26 dX11_trayed_19 (by decide) (fun c => ?_) (fun c => ?_)
      · replace h := h.1 c
        refine kf_iconst (v := 0) hx dX11_trayed_26 (by decide) ?_
        exact hret _ _ 0  dX11_trayed_27 h
      · replace h := h.2 c
        refine kf_iconst (v := 3) hx dX11_trayed_22 (by decide) ?_
        refine kf_goto hx 27 dX11_trayed_23 (by decide) ?_
        exact hret _ _ 3  dX11_trayed_27 h
    · replace h := h.2 c
      refine kf_iconst (v := 1) hx dX11_trayed_9 (by decide) ?_
      refine kf_goto hx 27 dX11_trayed_10 (by decide) ?_
      exact hret _ _ 1  dX11_trayed_27 h
set_option maxHeartbeats 4000000 in
set_option maxRecDepth 20000 in
theorem m_X11_trayed (g : kf_G) (hg : kf_g g) (x1 : Int32) (I : HI) (J : HJ) (Post : Int32 → Prop) (h : w_X11_trayed x1 I J Post) : kf_Mi g yX11_trayed (kf_W yX11_trayed cX11_trayed 2 (Option.some Jvm.ClassFile.FieldType.int)) 0 0 [.ref (g.2.2.2 72), .int x1] I J (fun v I' J' => Post v ∧ I' = I ∧ J' = J) :=
  kf_enti hg (by decide) (Nat.le_of_ble_eq_true rfl) rfl (fun x hx hr => we_X11_trayed g hg hx x1 I J Post (fun pc lv v hd hP => hr pc lv v I J hd ⟨hP, rfl, rfl⟩) h)
theorem dX11_placed_0 : decode cX11_placed 0 = .ok (.aload_n 0, 1) := by decide +kernel
theorem dX11_placed_1 : decode cX11_placed 1 = .ok (.iload_n 1, 1) := by decide +kernel
theorem dX11_placed_2 : decode cX11_placed 2 = .ok (.invokevirtual 125, 3) := by decide +kernel
theorem dX11_placed_5 : decode cX11_placed 5 = .ok (.istore_n 3, 1) := by decide +kernel
theorem dX11_placed_6 : decode cX11_placed 6 = .ok (.iload_n 3, 1) := by decide +kernel
theorem dX11_placed_7 : decode cX11_placed 7 = .ok (.ifCond .le 7, 3) := by decide +kernel
theorem dX11_placed_10 : decode cX11_placed 10 = .ok (.iload_n 3, 1) := by decide +kernel
theorem dX11_placed_11 : decode cX11_placed 11 = .ok (.goto 22, 3) := by decide +kernel
theorem dX11_placed_14 : decode cX11_placed 14 = .ok (.iload_n 2, 1) := by decide +kernel
theorem dX11_placed_15 : decode cX11_placed 15 = .ok (.ifCond .lt 13, 3) := by decide +kernel
theorem dX11_placed_18 : decode cX11_placed 18 = .ok (.iload_n 2, 1) := by decide +kernel
theorem dX11_placed_19 : decode cX11_placed 19 = .ok (.aload_n 0, 1) := by decide +kernel
theorem dX11_placed_20 : decode cX11_placed 20 = .ok (.getfield 17, 3) := by decide +kernel
theorem dX11_placed_23 : decode cX11_placed 23 = .ok (.iload_n 1, 1) := by decide +kernel
theorem dX11_placed_24 : decode cX11_placed 24 = .ok (.iaload, 1) := by decide +kernel
theorem dX11_placed_25 : decode cX11_placed 25 = .ok (.if_icmp .lt 7, 3) := by decide +kernel
theorem dX11_placed_28 : decode cX11_placed 28 = .ok (.iconst 4, 1) := by decide +kernel
theorem dX11_placed_29 : decode cX11_placed 29 = .ok (.goto 4, 3) := by decide +kernel
theorem dX11_placed_32 : decode cX11_placed 32 = .ok (.iconst 0, 1) := by decide +kernel
theorem dX11_placed_33 : decode cX11_placed 33 = .ok (.ireturn, 1) := by decide +kernel
def w_X11_placed (x1 : Int32) (x2 : Int32) (I : HI) (J : HJ) (Post : Int32 → Prop) : Prop :=
  w_X11_trayed x1 I J (fun (r_1 : Int32) => ((r_1 ≤ 0 → ((x2 < 0 → (Post 4)) ∧ (¬ x2 < 0 → (vp_in x1 4 ∧ ((x2 < (I 74 (Int32.toNatClampNeg x1)) → (Post 0)) ∧ (¬ x2 < (I 74 (Int32.toNatClampNeg x1)) → (Post 4))))))) ∧ (¬ r_1 ≤ 0 → (Post r_1))))
set_option maxHeartbeats 4000000 in
set_option maxRecDepth 20000 in
theorem we_X11_placed (g : kf_G) (hg : kf_g g) {x : kf_X} (hx : kf_ok g x RX11 cX11_placed 4 1 21) (x1 : Int32) (x2 : Int32) (I : HI) (J : HJ) (Post : Int32 → Prop) (hret : ∀ (pc : Nat) (lv : List (Nat × Value)) (v : Int32), decode cX11_placed pc = .ok (.ireturn, 1) → Post v → kf_M g x 4 pc lv [.int v] I J) (h : w_X11_placed x1 x2 I J Post) : kf_M g x 4 0 [(0, .ref (g.2.2.2 72)), (1, .int x1), (2, .int x2)] [] I J := by
  unfold w_X11_placed at h
  refine kf_aload_n hx dX11_placed_0 rfl 0 rfl ?_
  refine kf_iload_n hx dX11_placed_1 rfl 1 rfl ?_
  refine kf_callViP (st := []) hx (m_X11_trayed g hg x1 I J _ h) lk_RX11_125 km_X11_trayed ob_72 rfl (by decide) rfl (Nat.le_of_ble_eq_true rfl) dX11_placed_2 (fun r_1 h => ?_)
  refine kf_istore_n (lv' := [(3, .int r_1), (0, .ref (g.2.2.2 72)), (1, .int x1), (2, .int x2)]) hx dX11_placed_5 rfl (by decide) rfl ?_
  refine kf_iload_n hx dX11_placed_6 rfl 0 rfl ?_
  refine kf_if_le hx 14 dX11_placed_7 (by decide) (fun c => ?_) (fun c => ?_)
  · replace h := h.1 c
    refine kf_iload_n hx dX11_placed_14 rfl 3 rfl ?_
    refine kf_if_lt hx 28 dX11_placed_15 (by decide) (fun c => ?_) (fun c => ?_)
    · replace h := h.1 c
      refine kf_iconst (v := 4) hx dX11_placed_28 (by decide) ?_
      refine kf_goto hx 33 dX11_placed_29 (by decide) ?_
      exact hret _ _ 4  dX11_placed_33 h
    · replace h := h.2 c
      refine kf_iload_n hx dX11_placed_18 rfl 3 rfl ?_
      refine kf_aload_n hx dX11_placed_19 rfl 1 rfl ?_
      refine kf_getR (n := 74) hx sl_72_5 fl_RX11_17 dX11_placed_20 ?_
      refine kf_iload_n hx dX11_placed_23 rfl 2 rfl ?_
      refine kf_iald hx ar_74 h.1 dX11_placed_24 ?_
      replace h := h.2
      refine kf_icmp_lt hx 32 dX11_placed_25 (by decide) (fun c => ?_) (fun c => ?_)
      · replace h := h.1 c
        refine kf_iconst (v := 0) hx dX11_placed_32 (by decide) ?_
        exact hret _ _ 0  dX11_placed_33 h
      · replace h := h.2 c
        refine kf_iconst (v := 4) hx dX11_placed_28 (by decide) ?_
        refine kf_goto hx 33 dX11_placed_29 (by decide) ?_
        exact hret _ _ 4  dX11_placed_33 h
  · replace h := h.2 c
    refine kf_iload_n hx dX11_placed_10 rfl 0 rfl ?_
    refine kf_goto hx 33 dX11_placed_11 (by decide) ?_
    exact hret _ _ r_1  dX11_placed_33 h
set_option maxHeartbeats 4000000 in
set_option maxRecDepth 20000 in
theorem m_X11_placed (g : kf_G) (hg : kf_g g) (x1 : Int32) (x2 : Int32) (I : HI) (J : HJ) (Post : Int32 → Prop) (h : w_X11_placed x1 x2 I J Post) : kf_Mi g yX11_placed (kf_W yX11_placed cX11_placed 4 (Option.some Jvm.ClassFile.FieldType.int)) 1 21 [.ref (g.2.2.2 72), .int x1, .int x2] I J (fun v I' J' => Post v ∧ I' = I ∧ J' = J) :=
  kf_enti hg (by decide) (Nat.le_of_ble_eq_true rfl) rfl (fun x hx hr => we_X11_placed g hg hx x1 x2 I J Post (fun pc lv v hd hP => hr pc lv v I J hd ⟨hP, rfl, rfl⟩) h)
theorem dX11_write_0 : decode cX11_write 0 = .ok (.aload_n 0, 1) := by decide +kernel
theorem dX11_write_1 : decode cX11_write 1 = .ok (.iconst 0, 1) := by decide +kernel
theorem dX11_write_2 : decode cX11_write 2 = .ok (.putfield 106, 3) := by decide +kernel
theorem dX11_write_5 : decode cX11_write 5 = .ok (.aload_n 0, 1) := by decide +kernel
theorem dX11_write_6 : decode cX11_write 6 = .ok (.aload_n 0, 1) := by decide +kernel
theorem dX11_write_7 : decode cX11_write 7 = .ok (.iload_n 1, 1) := by decide +kernel
theorem dX11_write_8 : decode cX11_write 8 = .ok (.iload_n 2, 1) := by decide +kernel
theorem dX11_write_9 : decode cX11_write 9 = .ok (.invokevirtual 129, 3) := by decide +kernel
theorem dX11_write_12 : decode cX11_write 12 = .ok (.putfield 109, 3) := by decide +kernel
theorem dX11_write_15 : decode cX11_write 15 = .ok (.aload_n 0, 1) := by decide +kernel
theorem dX11_write_16 : decode cX11_write 16 = .ok (.getfield 109, 3) := by decide +kernel
theorem dX11_write_19 : decode cX11_write 19 = .ok (.ifCond .le 5, 3) := by decide +kernel
theorem dX11_write_22 : decode cX11_write 22 = .ok (.iconst 0, 1) := by decide +kernel
theorem dX11_write_23 : decode cX11_write 23 = .ok (.ireturn, 1) := by decide +kernel
theorem dX11_write_24 : decode cX11_write 24 = .ok (.aload_n 0, 1) := by decide +kernel
theorem dX11_write_25 : decode cX11_write 25 = .ok (.getfield 20, 3) := by decide +kernel
theorem dX11_write_28 : decode cX11_write 28 = .ok (.bipush 40, 2) := by decide +kernel
theorem dX11_write_30 : decode cX11_write 30 = .ok (.iload_n 1, 1) := by decide +kernel
theorem dX11_write_31 : decode cX11_write 31 = .ok (.imul, 1) := by decide +kernel
theorem dX11_write_32 : decode cX11_write 32 = .ok (.iload_n 2, 1) := by decide +kernel
theorem dX11_write_33 : decode cX11_write 33 = .ok (.iadd, 1) := by decide +kernel
theorem dX11_write_34 : decode cX11_write 34 = .ok (.aload_n 0, 1) := by decide +kernel
theorem dX11_write_35 : decode cX11_write 35 = .ok (.getfield 13, 3) := by decide +kernel
theorem dX11_write_38 : decode cX11_write 38 = .ok (.iload_n 1, 1) := by decide +kernel
theorem dX11_write_39 : decode cX11_write 39 = .ok (.iaload, 1) := by decide +kernel
theorem dX11_write_40 : decode cX11_write 40 = .ok (.lload_n 3, 1) := by decide +kernel
theorem dX11_write_41 : decode cX11_write 41 = .ok (.invokestatic 133, 3) := by decide +kernel
theorem dX11_write_44 : decode cX11_write 44 = .ok (.lastore, 1) := by decide +kernel
theorem dX11_write_45 : decode cX11_write 45 = .ok (.iconst 1, 1) := by decide +kernel
theorem dX11_write_46 : decode cX11_write 46 = .ok (.ireturn, 1) := by decide +kernel
def w_X11_write (x1 : Int32) (x2 : Int32) (x3 : Int64) (I : HI) (J : HJ) (Post : Bool → HI → HJ → Prop) : Prop :=
  ∀ I_1 : HI, I_1 = hI I 72 1 0 → (w_X11_placed x1 x2 I_1 J (fun (r_2 : Int32) => (∀ I_3 : HI, I_3 = hI I_1 72 0 r_2 → (((I_3 72 0) ≤ 0 → (vp_in x1 4 ∧ (w_X11_cut (I_3 73 (Int32.toNatClampNeg x1)) x3 (fun (r_4 : Int64) => (vp_in ((40 * x1) + x2) 160 ∧ (∀ J_5 : HJ, J_5 = hJ J 75 (Int32.toNatClampNeg ((40 * x1) + x2)) r_4 → (Post true I_3 J_5))))))) ∧ (¬ (I_3 72 0) ≤ 0 → (Post false I_3 J))))))
set_option maxHeartbeats 4000000 in
set_option maxRecDepth 20000 in
theorem we_X11_write (g : kf_G) (hg : kf_g g) {x : kf_X} (hx : kf_ok g x RX11 cX11_write 5 2 44) (x1 : Int32) (x2 : Int32) (x3 : Int64) (I : HI) (J : HJ) (Post : Bool → HI → HJ → Prop) (hret : ∀ (pc : Nat) (lv : List (Nat × Value)) (v : Bool) (Iy : HI) (Jy : HJ), decode cX11_write pc = .ok (.ireturn, 1) → Post v Iy Jy → kf_M g x 5 pc lv [.int (kb v)] Iy Jy) (h : w_X11_write x1 x2 x3 I J Post) : kf_M g x 5 0 [(0, .ref (g.2.2.2 72)), (1, .int x1), (2, .int x2), (3, .long x3)] [] I J := by
  unfold w_X11_write at h
  refine kf_aload_n hx dX11_write_0 rfl 0 rfl ?_
  refine kf_iconst (v := 0) hx dX11_write_1 (by decide) ?_
  refine kf_putI hx sl_72_1 fl_RX11_106 fp_11_1 dX11_write_2 ?_
  refine kf_nmI (fun I_1 eI_1 => ?_)
  replace h := h I_1 eI_1
  refine kf_aload_n hx dX11_write_5 rfl 0 rfl ?_
  refine kf_aload_n hx dX11_write_6 rfl 0 rfl ?_
  refine kf_iload_n hx dX11_write_7 rfl 1 rfl ?_
  refine kf_iload_n hx dX11_write_8 rfl 2 rfl ?_
  refine kf_callViP (st := [.ref (g.2.2.2 72)]) hx (m_X11_placed g hg x1 x2 I_1 J _ h) lk_RX11_129 km_X11_placed ob_72 rfl (by decide) rfl (Nat.le_of_ble_eq_true rfl) dX11_write_9 (fun r_2 h => ?_)
  refine kf_putI hx sl_72_0 fl_RX11_109 fp_11_0 dX11_write_12 ?_
  refine kf_nmI (fun I_3 eI_3 => ?_)
  replace h := h I_3 eI_3
  refine kf_aload_n hx dX11_write_15 rfl 0 rfl ?_
  refine kf_getI hx sl_72_0 fl_RX11_109 dX11_write_16 ?_
  refine kf_if_le hx 24 dX11_write_19 (by decide) (fun c => ?_) (fun c => ?_)
  · replace h := h.1 c
    refine kf_aload_n hx dX11_write_24 rfl 0 rfl ?_
    refine kf_getR (n := 75) hx sl_72_6 fl_RX11_20 dX11_write_25 ?_
    refine kf_bipush (v := 40) hx dX11_write_28 (by decide) ?_
    refine kf_iload_n hx dX11_write_30 rfl 1 rfl ?_
    refine kf_imul hx dX11_write_31 ?_
    refine kf_iload_n hx dX11_write_32 rfl 2 rfl ?_
    refine kf_iadd hx dX11_write_33 ?_
    refine kf_aload_n hx dX11_write_34 rfl 0 rfl ?_
    refine kf_getR (n := 73) hx sl_72_4 fl_RX11_13 dX11_write_35 ?_
    refine kf_iload_n hx dX11_write_38 rfl 1 rfl ?_
    refine kf_iald hx ar_73 h.1 dX11_write_39 ?_
    replace h := h.2
    refine kf_lload_n hx dX11_write_40 rfl 3 rfl ?_
    refine kf_callSlP (st := [.int ((40 * x1) + x2), .ref (g.2.2.2 75)]) hx (m_X11_cut g hg (I_3 73 (Int32.toNatClampNeg x1)) x3 I_3 J _ h) lk_RX11_133 km_X11_cut rfl (by decide) rfl (Nat.le_of_ble_eq_true rfl) dX11_write_41 (fun r_4 h => ?_)
    refine kf_last hx ar_75 h.1 dX11_write_44 ?_
    replace h := h.2
    refine kf_nmJ (fun J_5 eJ_5 => ?_)
    replace h := h J_5 eJ_5
    refine kf_iconst (v := 1) hx dX11_write_45 (by decide) ?_
    exact hret _ _ true _ _ dX11_write_46 h
  · replace h := h.2 c
    refine kf_iconst (v := 0) hx dX11_write_22 (by decide) ?_
    exact hret _ _ false _ _ dX11_write_23 h
set_option maxHeartbeats 4000000 in
set_option maxRecDepth 20000 in
theorem m_X11_write (g : kf_G) (hg : kf_g g) (x1 : Int32) (x2 : Int32) (x3 : Int64) (I : HI) (J : HJ) (Post : Bool → HI → HJ → Prop) (h : w_X11_write x1 x2 x3 I J Post) : kf_Mb g yX11_write (kf_W yX11_write cX11_write 5 (Option.some Jvm.ClassFile.FieldType.boolean)) 2 44 [.ref (g.2.2.2 72), .int x1, .int x2, .long x3] I J Post :=
  kf_entb hg (by decide) (Nat.le_of_ble_eq_true rfl) rfl (fun x hx hr => we_X11_write g hg hx x1 x2 x3 I J Post (fun pc lv v I' J' hd hP => hr pc lv v I' J' hd hP) h)
theorem dX11_read_0 : decode cX11_read 0 = .ok (.aload_n 0, 1) := by decide +kernel
theorem dX11_read_1 : decode cX11_read 1 = .ok (.iconst 0, 1) := by decide +kernel
theorem dX11_read_2 : decode cX11_read 2 = .ok (.putfield 106, 3) := by decide +kernel
theorem dX11_read_5 : decode cX11_read 5 = .ok (.aload_n 0, 1) := by decide +kernel
theorem dX11_read_6 : decode cX11_read 6 = .ok (.aload_n 0, 1) := by decide +kernel
theorem dX11_read_7 : decode cX11_read 7 = .ok (.iload_n 1, 1) := by decide +kernel
theorem dX11_read_8 : decode cX11_read 8 = .ok (.iload_n 2, 1) := by decide +kernel
theorem dX11_read_9 : decode cX11_read 9 = .ok (.invokevirtual 129, 3) := by decide +kernel
theorem dX11_read_12 : decode cX11_read 12 = .ok (.putfield 109, 3) := by decide +kernel
theorem dX11_read_15 : decode cX11_read 15 = .ok (.aload_n 0, 1) := by decide +kernel
theorem dX11_read_16 : decode cX11_read 16 = .ok (.getfield 109, 3) := by decide +kernel
theorem dX11_read_19 : decode cX11_read 19 = .ok (.ifCond .le 9, 3) := by decide +kernel
theorem dX11_read_22 : decode cX11_read 22 = .ok (.ldc2_w 137, 3) := by decide +kernel
theorem dX11_read_25 : decode cX11_read 25 = .ok (.goto 14, 3) := by decide +kernel
theorem dX11_read_28 : decode cX11_read 28 = .ok (.aload_n 0, 1) := by decide +kernel
theorem dX11_read_29 : decode cX11_read 29 = .ok (.getfield 20, 3) := by decide +kernel
theorem dX11_read_32 : decode cX11_read 32 = .ok (.bipush 40, 2) := by decide +kernel
theorem dX11_read_34 : decode cX11_read 34 = .ok (.iload_n 1, 1) := by decide +kernel
theorem dX11_read_35 : decode cX11_read 35 = .ok (.imul, 1) := by decide +kernel
theorem dX11_read_36 : decode cX11_read 36 = .ok (.iload_n 2, 1) := by decide +kernel
theorem dX11_read_37 : decode cX11_read 37 = .ok (.iadd, 1) := by decide +kernel
theorem dX11_read_38 : decode cX11_read 38 = .ok (.laload, 1) := by decide +kernel
theorem dX11_read_39 : decode cX11_read 39 = .ok (.lreturn, 1) := by decide +kernel
def w_X11_read (x1 : Int32) (x2 : Int32) (I : HI) (J : HJ) (Post : Int64 → HI → Prop) : Prop :=
  ∀ I_1 : HI, I_1 = hI I 72 1 0 → (w_X11_placed x1 x2 I_1 J (fun (r_2 : Int32) => (∀ I_3 : HI, I_3 = hI I_1 72 0 r_2 → (((I_3 72 0) ≤ 0 → (vp_in ((40 * x1) + x2) 160 ∧ (Post (J 75 (Int32.toNatClampNeg ((40 * x1) + x2))) I_3))) ∧ (¬ (I_3 72 0) ≤ 0 → (Post (-1) I_3))))))
set_option maxHeartbeats 4000000 in
set_option maxRecDepth 20000 in
theorem we_X11_read (g : kf_G) (hg : kf_g g) {x : kf_X} (hx : kf_ok g x RX11 cX11_read 3 2 44) (x1 : Int32) (x2 : Int32) (I : HI) (J : HJ) (Post : Int64 → HI → Prop) (hret : ∀ (pc : Nat) (lv : List (Nat × Value)) (v : Int64) (Iy : HI), decode cX11_read pc = .ok (.lreturn, 1) → Post v Iy → kf_M g x 3 pc lv [.long v] Iy J) (h : w_X11_read x1 x2 I J Post) : kf_M g x 3 0 [(0, .ref (g.2.2.2 72)), (1, .int x1), (2, .int x2)] [] I J := by
  unfold w_X11_read at h
  refine kf_aload_n hx dX11_read_0 rfl 0 rfl ?_
  refine kf_iconst (v := 0) hx dX11_read_1 (by decide) ?_
  refine kf_putI hx sl_72_1 fl_RX11_106 fp_11_1 dX11_read_2 ?_
  refine kf_nmI (fun I_1 eI_1 => ?_)
  replace h := h I_1 eI_1
  refine kf_aload_n hx dX11_read_5 rfl 0 rfl ?_
  refine kf_aload_n hx dX11_read_6 rfl 0 rfl ?_
  refine kf_iload_n hx dX11_read_7 rfl 1 rfl ?_
  refine kf_iload_n hx dX11_read_8 rfl 2 rfl ?_
  refine kf_callViP (st := [.ref (g.2.2.2 72)]) hx (m_X11_placed g hg x1 x2 I_1 J _ h) lk_RX11_129 km_X11_placed ob_72 rfl (by decide) rfl (Nat.le_of_ble_eq_true rfl) dX11_read_9 (fun r_2 h => ?_)
  refine kf_putI hx sl_72_0 fl_RX11_109 fp_11_0 dX11_read_12 ?_
  refine kf_nmI (fun I_3 eI_3 => ?_)
  replace h := h I_3 eI_3
  refine kf_aload_n hx dX11_read_15 rfl 0 rfl ?_
  refine kf_getI hx sl_72_0 fl_RX11_109 dX11_read_16 ?_
  refine kf_if_le hx 28 dX11_read_19 (by decide) (fun c => ?_) (fun c => ?_)
  · replace h := h.1 c
    refine kf_aload_n hx dX11_read_28 rfl 0 rfl ?_
    refine kf_getR (n := 75) hx sl_72_6 fl_RX11_20 dX11_read_29 ?_
    refine kf_bipush (v := 40) hx dX11_read_32 (by decide) ?_
    refine kf_iload_n hx dX11_read_34 rfl 1 rfl ?_
    refine kf_imul hx dX11_read_35 ?_
    refine kf_iload_n hx dX11_read_36 rfl 2 rfl ?_
    refine kf_iadd hx dX11_read_37 ?_
    refine kf_lald hx ar_75 h.1 dX11_read_38 ?_
    replace h := h.2
    exact hret _ _ (J 75 (Int32.toNatClampNeg ((40 * x1) + x2))) _ dX11_read_39 h
  · replace h := h.2 c
    refine kf_ldc2 hx ko_RX11_137 dX11_read_22 ?_
    refine kf_goto hx 39 dX11_read_25 (by decide) ?_
    exact hret _ _ (-1) _ dX11_read_39 h
set_option maxHeartbeats 4000000 in
set_option maxRecDepth 20000 in
theorem m_X11_read (g : kf_G) (hg : kf_g g) (x1 : Int32) (x2 : Int32) (I : HI) (J : HJ) (Post : Int64 → HI → Prop) (h : w_X11_read x1 x2 I J Post) : kf_Ml g yX11_read (kf_W yX11_read cX11_read 3 (Option.some Jvm.ClassFile.FieldType.long)) 2 44 [.ref (g.2.2.2 72), .int x1, .int x2] I J (fun v I' J' => Post v I' ∧ J' = J) :=
  kf_entl hg (by decide) (Nat.le_of_ble_eq_true rfl) rfl (fun x hx hr => we_X11_read g hg hx x1 x2 I J Post (fun pc lv v I' hd hP => hr pc lv v I' J hd ⟨hP, rfl⟩) h)
theorem dX11_pour_0 : decode cX11_pour 0 = .ok (.aload_n 0, 1) := by decide +kernel
theorem dX11_pour_1 : decode cX11_pour 1 = .ok (.iconst 0, 1) := by decide +kernel
theorem dX11_pour_2 : decode cX11_pour 2 = .ok (.putfield 106, 3) := by decide +kernel
theorem dX11_pour_5 : decode cX11_pour 5 = .ok (.aload_n 0, 1) := by decide +kernel
theorem dX11_pour_6 : decode cX11_pour 6 = .ok (.iconst 0, 1) := by decide +kernel
theorem dX11_pour_7 : decode cX11_pour 7 = .ok (.putfield 109, 3) := by decide +kernel
theorem dX11_pour_10 : decode cX11_pour 10 = .ok (.iload_n 1, 1) := by decide +kernel
theorem dX11_pour_11 : decode cX11_pour 11 = .ok (.ifCond .lt 17, 3) := by decide +kernel
theorem dX11_pour_14 : decode cX11_pour 14 = .ok (.iload_n 1, 1) := by decide +kernel
theorem dX11_pour_15 : decode cX11_pour 15 = .ok (.iconst 4, 1) := by decide +kernel
theorem dX11_pour_16 : decode cX11_pour 16 = .ok (.if_icmp .ge 12, 3) := by decide +kernel
theorem dX11_pour_19 : decode cX11_pour 19 = .ok (.iload_n 3, 1) := by decide +kernel
theorem dX11_pour_20 : decode cX11_pour 20 = .ok (.ifCond .lt 8, 3) := by decide +kernel
theorem dX11_pour_23 : decode cX11_pour 23 = .ok (.iload_n 3, 1) := by decide +kernel
theorem dX11_pour_24 : decode cX11_pour 24 = .ok (.iconst 4, 1) := by decide +kernel
theorem dX11_pour_25 : decode cX11_pour 25 = .ok (.if_icmp .lt 9, 3) := by decide +kernel
theorem dX11_pour_28 : decode cX11_pour 28 = .ok (.aload_n 0, 1) := by decide +kernel
theorem dX11_pour_29 : decode cX11_pour 29 = .ok (.iconst 1, 1) := by decide +kernel
theorem dX11_pour_30 : decode cX11_pour 30 = .ok (.invokevirtual 121, 3) := by decide +kernel
theorem dX11_pour_33 : decode cX11_pour 33 = .ok (.ireturn, 1) := by decide +kernel
theorem dX11_pour_34 : decode cX11_pour 34 = .ok (.aload_n 0, 1) := by decide +kernel
theorem dX11_pour_35 : decode cX11_pour 35 = .ok (.getfield 17, 3) := by decide +kernel
theorem dX11_pour_38 : decode cX11_pour 38 = .ok (.iload_n 1, 1) := by decide +kernel
theorem dX11_pour_39 : decode cX11_pour 39 = .ok (.iaload, 1) := by decide +kernel
theorem dX11_pour_40 : decode cX11_pour 40 = .ok (.ifCond .lt 12, 3) := by decide +kernel
theorem dX11_pour_43 : decode cX11_pour 43 = .ok (.aload_n 0, 1) := by decide +kernel
theorem dX11_pour_44 : decode cX11_pour 44 = .ok (.getfield 17, 3) := by decide +kernel
theorem dX11_pour_47 : decode cX11_pour 47 = .ok (.iload_n 3, 1) := by decide +kernel
theorem dX11_pour_48 : decode cX11_pour 48 = .ok (.iaload, 1) := by decide +kernel
theorem dX11_pour_49 : decode cX11_pour 49 = .ok (.ifCond .ge 9, 3) := by decide +kernel
theorem dX11_pour_52 : decode cX11_pour 52 = .ok (.aload_n 0, 1) := by decide +kernel
theorem dX11_pour_53 : decode cX11_pour 53 = .ok (.iconst 3, 1) := by decide +kernel
theorem dX11_pour_54 : decode cX11_pour 54 = .ok (.invokevirtual 121, 3) := by decide +kernel
theorem dX11_pour_57 : decode cX11_pour 57 = .ok (.ireturn, 1) := by decide +kernel
theorem dX11_pour_58 : decode cX11_pour 58 = .ok (.aload_n 0, 1) := by decide +kernel
theorem dX11_pour_59 : decode cX11_pour 59 = .ok (.getfield 13, 3) := by decide +kernel
theorem dX11_pour_62 : decode cX11_pour 62 = .ok (.iload_n 1, 1) := by decide +kernel
theorem dX11_pour_63 : decode cX11_pour 63 = .ok (.iaload, 1) := by decide +kernel
theorem dX11_pour_64 : decode cX11_pour 64 = .ok (.aload_n 0, 1) := by decide +kernel
theorem dX11_pour_65 : decode cX11_pour 65 = .ok (.getfield 13, 3) := by decide +kernel
theorem dX11_pour_68 : decode cX11_pour 68 = .ok (.iload_n 3, 1) := by decide +kernel
theorem dX11_pour_69 : decode cX11_pour 69 = .ok (.iaload, 1) := by decide +kernel
theorem dX11_pour_70 : decode cX11_pour 70 = .ok (.if_icmp .eq 10, 3) := by decide +kernel
theorem dX11_pour_73 : decode cX11_pour 73 = .ok (.aload_n 0, 1) := by decide +kernel
theorem dX11_pour_74 : decode cX11_pour 74 = .ok (.bipush 11, 2) := by decide +kernel
theorem dX11_pour_76 : decode cX11_pour 76 = .ok (.invokevirtual 121, 3) := by decide +kernel
theorem dX11_pour_79 : decode cX11_pour 79 = .ok (.ireturn, 1) := by decide +kernel
theorem dX11_pour_80 : decode cX11_pour 80 = .ok (.iload 5, 2) := by decide +kernel
theorem dX11_pour_82 : decode cX11_pour 82 = .ok (.ifCond .ge 10, 3) := by decide +kernel
theorem dX11_pour_85 : decode cX11_pour 85 = .ok (.aload_n 0, 1) := by decide +kernel
theorem dX11_pour_86 : decode cX11_pour 86 = .ok (.bipush 6, 2) := by decide +kernel
theorem dX11_pour_88 : decode cX11_pour 88 = .ok (.invokevirtual 121, 3) := by decide +kernel
theorem dX11_pour_91 : decode cX11_pour 91 = .ok (.ireturn, 1) := by decide +kernel
theorem dX11_pour_92 : decode cX11_pour 92 = .ok (.iload_n 2, 1) := by decide +kernel
theorem dX11_pour_93 : decode cX11_pour 93 = .ok (.ifCond .lt 43, 3) := by decide +kernel
theorem dX11_pour_96 : decode cX11_pour 96 = .ok (.iload 4, 2) := by decide +kernel
theorem dX11_pour_98 : decode cX11_pour 98 = .ok (.ifCond .lt 38, 3) := by decide +kernel
theorem dX11_pour_101 : decode cX11_pour 101 = .ok (.iload_n 2, 1) := by decide +kernel
theorem dX11_pour_102 : decode cX11_pour 102 = .ok (.i2l, 1) := by decide +kernel
theorem dX11_pour_103 : decode cX11_pour 103 = .ok (.iload 5, 2) := by decide +kernel
theorem dX11_pour_105 : decode cX11_pour 105 = .ok (.i2l, 1) := by decide +kernel
theorem dX11_pour_106 : decode cX11_pour 106 = .ok (.ladd, 1) := by decide +kernel
theorem dX11_pour_107 : decode cX11_pour 107 = .ok (.aload_n 0, 1) := by decide +kernel
theorem dX11_pour_108 : decode cX11_pour 108 = .ok (.getfield 17, 3) := by decide +kernel
theorem dX11_pour_111 : decode cX11_pour 111 = .ok (.iload_n 1, 1) := by decide +kernel
theorem dX11_pour_112 : decode cX11_pour 112 = .ok (.iaload, 1) := by decide +kernel
theorem dX11_pour_113 : decode cX11_pour 113 = .ok (.i2l, 1) := by decide +kernel
theorem dX11_pour_114 : decode cX11_pour 114 = .ok (.lcmp, 1) := by decide +kernel
theorem dX11_pour_115 : decode cX11_pour 115 = .ok (.ifCond .gt 21, 3) := by decide +kernel
theorem dX11_pour_118 : decode cX11_pour 118 = .ok (.iload 4, 2) := by decide +kernel
theorem dX11_pour_120 : decode cX11_pour 120 = .ok (.i2l, 1) := by decide +kernel
theorem dX11_pour_121 : decode cX11_pour 121 = .ok (.iload 5, 2) := by decide +kernel
theorem dX11_pour_123 : decode cX11_pour 123 = .ok (.i2l, 1) := by decide +kernel
theorem dX11_pour_124 : decode cX11_pour 124 = .ok (.ladd, 1) := by decide +kernel
theorem dX11_pour_125 : decode cX11_pour 125 = .ok (.aload_n 0, 1) := by decide +kernel
theorem dX11_pour_126 : decode cX11_pour 126 = .ok (.getfield 17, 3) := by decide +kernel
theorem dX11_pour_129 : decode cX11_pour 129 = .ok (.iload_n 3, 1) := by decide +kernel
theorem dX11_pour_130 : decode cX11_pour 130 = .ok (.iaload, 1) := by decide +kernel
theorem dX11_pour_131 : decode cX11_pour 131 = .ok (.i2l, 1) := by decide +kernel
theorem dX11_pour_132 : decode cX11_pour 132 = .ok (.lcmp, 1) := by decide +kernel
theorem dX11_pour_133 : decode cX11_pour 133 = .ok (.ifCond .le 9, 3) := by decide +kernel
theorem dX11_pour_136 : decode cX11_pour 136 = .ok (.aload_n 0, 1) := by decide +kernel
theorem dX11_pour_137 : decode cX11_pour 137 = .ok (.iconst 4, 1) := by decide +kernel
theorem dX11_pour_138 : decode cX11_pour 138 = .ok (.invokevirtual 121, 3) := by decide +kernel
theorem dX11_pour_141 : decode cX11_pour 141 = .ok (.ireturn, 1) := by decide +kernel
theorem dX11_pour_142 : decode cX11_pour 142 = .ok (.iload_n 2, 1) := by decide +kernel
theorem dX11_pour_143 : decode cX11_pour 143 = .ok (.iload 4, 2) := by decide +kernel
theorem dX11_pour_145 : decode cX11_pour 145 = .ok (.if_icmp .ge 7, 3) := by decide +kernel
theorem dX11_pour_148 : decode cX11_pour 148 = .ok (.iconst 1, 1) := by decide +kernel
theorem dX11_pour_149 : decode cX11_pour 149 = .ok (.goto 4, 3) := by decide +kernel
theorem dX11_pour_152 : decode cX11_pour 152 = .ok (.iconst 0, 1) := by decide +kernel
theorem dX11_pour_153 : decode cX11_pour 153 = .ok (.istore 6, 2) := by decide +kernel
theorem dX11_pour_155 : decode cX11_pour 155 = .ok (.iconst 0, 1) := by decide +kernel
theorem dX11_pour_156 : decode cX11_pour 156 = .ok (.istore 7, 2) := by decide +kernel
theorem dX11_pour_158 : decode cX11_pour 158 = .ok (.iload 7, 2) := by decide +kernel
theorem dX11_pour_160 : decode cX11_pour 160 = .ok (.iload 5, 2) := by decide +kernel
theorem dX11_pour_162 : decode cX11_pour 162 = .ok (.if_icmp .ge 57, 3) := by decide +kernel
theorem dX11_pour_165 : decode cX11_pour 165 = .ok (.iload 6, 2) := by decide +kernel
theorem dX11_pour_167 : decode cX11_pour 167 = .ok (.ifCond .eq 13, 3) := by decide +kernel
theorem dX11_pour_170 : decode cX11_pour 170 = .ok (.iload 5, 2) := by decide +kernel
theorem dX11_pour_172 : decode cX11_pour 172 = .ok (.iconst 1, 1) := by decide +kernel
theorem dX11_pour_173 : decode cX11_pour 173 = .ok (.isub, 1) := by decide +kernel
theorem dX11_pour_174 : decode cX11_pour 174 = .ok (.iload 7, 2) := by decide +kernel
theorem dX11_pour_176 : decode cX11_pour 176 = .ok (.isub, 1) := by decide +kernel
theorem dX11_pour_177 : decode cX11_pour 177 = .ok (.goto 5, 3) := by decide +kernel
theorem dX11_pour_180 : decode cX11_pour 180 = .ok (.iload 7, 2) := by decide +kernel
theorem dX11_pour_182 : decode cX11_pour 182 = .ok (.istore 8, 2) := by decide +kernel
theorem dX11_pour_184 : decode cX11_pour 184 = .ok (.aload_n 0, 1) := by decide +kernel
theorem dX11_pour_185 : decode cX11_pour 185 = .ok (.getfield 20, 3) := by decide +kernel
theorem dX11_pour_188 : decode cX11_pour 188 = .ok (.bipush 40, 2) := by decide +kernel
theorem dX11_pour_190 : decode cX11_pour 190 = .ok (.iload_n 3, 1) := by decide +kernel
theorem dX11_pour_191 : decode cX11_pour 191 = .ok (.imul, 1) := by decide +kernel
theorem dX11_pour_192 : decode cX11_pour 192 = .ok (.iload 4, 2) := by decide +kernel
theorem dX11_pour_194 : decode cX11_pour 194 = .ok (.iadd, 1) := by decide +kernel
theorem dX11_pour_195 : decode cX11_pour 195 = .ok (.iload 8, 2) := by decide +kernel
theorem dX11_pour_197 : decode cX11_pour 197 = .ok (.iadd, 1) := by decide +kernel
theorem dX11_pour_198 : decode cX11_pour 198 = .ok (.aload_n 0, 1) := by decide +kernel
theorem dX11_pour_199 : decode cX11_pour 199 = .ok (.getfield 20, 3) := by decide +kernel
theorem dX11_pour_202 : decode cX11_pour 202 = .ok (.bipush 40, 2) := by decide +kernel
theorem dX11_pour_204 : decode cX11_pour 204 = .ok (.iload_n 1, 1) := by decide +kernel
theorem dX11_pour_205 : decode cX11_pour 205 = .ok (.imul, 1) := by decide +kernel
theorem dX11_pour_206 : decode cX11_pour 206 = .ok (.iload_n 2, 1) := by decide +kernel
theorem dX11_pour_207 : decode cX11_pour 207 = .ok (.iadd, 1) := by decide +kernel
theorem dX11_pour_208 : decode cX11_pour 208 = .ok (.iload 8, 2) := by decide +kernel
theorem dX11_pour_210 : decode cX11_pour 210 = .ok (.iadd, 1) := by decide +kernel
theorem dX11_pour_211 : decode cX11_pour 211 = .ok (.laload, 1) := by decide +kernel
theorem dX11_pour_212 : decode cX11_pour 212 = .ok (.lastore, 1) := by decide +kernel
theorem dX11_pour_213 : decode cX11_pour 213 = .ok (.iinc 7 1, 3) := by decide +kernel
theorem dX11_pour_216 : decode cX11_pour 216 = .ok (.goto (-58), 3) := by decide +kernel
theorem dX11_pour_219 : decode cX11_pour 219 = .ok (.iconst 1, 1) := by decide +kernel
theorem dX11_pour_220 : decode cX11_pour 220 = .ok (.ireturn, 1) := by decide +kernel
def wj_X11_pour_28 (I : HI) (J : HJ)  (Post : Bool → HI → HJ → Prop) : Prop :=
  w_X11_no 1 I J (fun (r_3 : Bool) (I_4 : HI) => (Post r_3 I_4 J))
set_option maxHeartbeats 4000000 in
set_option maxRecDepth 20000 in
theorem wk_X11_pour_28 (g : kf_G) (hg : kf_g g) {x : kf_X} (hx : kf_ok g x RX11 cX11_pour 9 1 21) (I : HI) (J : HJ)  (Post : Bool → HI → HJ → Prop) (hret : ∀ (pc : Nat) (lv : List (Nat × Value)) (v : Bool) (Iy : HI) (Jy : HJ), decode cX11_pour pc = .ok (.ireturn, 1) → Post v Iy Jy → kf_M g x 9 pc lv [.int (kb v)] Iy Jy) (h : wj_X11_pour_28 I J  Post) : kf_M g x 9 28 [(0, .ref (g.2.2.2 72))] [] I J := by
  unfold wj_X11_pour_28 at h
  refine kf_aload_n hx dX11_pour_28 rfl 0 rfl ?_
  refine kf_iconst (v := 1) hx dX11_pour_29 (by decide) ?_
  refine kf_callVbI (st := []) hx (m_X11_no g hg 1 I J _ h) lk_RX11_121 km_X11_no ob_72 rfl (by decide) rfl (Nat.le_of_ble_eq_true rfl) dX11_pour_30 (fun r_3 I_4 h => ?_)
  exact hret _ _ r_3 _ _ dX11_pour_33 h
def wj_X11_pour_52 (I : HI) (J : HJ)  (Post : Bool → HI → HJ → Prop) : Prop :=
  w_X11_no 3 I J (fun (r_5 : Bool) (I_6 : HI) => (Post r_5 I_6 J))
set_option maxHeartbeats 4000000 in
set_option maxRecDepth 20000 in
theorem wk_X11_pour_52 (g : kf_G) (hg : kf_g g) {x : kf_X} (hx : kf_ok g x RX11 cX11_pour 9 1 21) (I : HI) (J : HJ)  (Post : Bool → HI → HJ → Prop) (hret : ∀ (pc : Nat) (lv : List (Nat × Value)) (v : Bool) (Iy : HI) (Jy : HJ), decode cX11_pour pc = .ok (.ireturn, 1) → Post v Iy Jy → kf_M g x 9 pc lv [.int (kb v)] Iy Jy) (h : wj_X11_pour_52 I J  Post) : kf_M g x 9 52 [(0, .ref (g.2.2.2 72))] [] I J := by
  unfold wj_X11_pour_52 at h
  refine kf_aload_n hx dX11_pour_52 rfl 0 rfl ?_
  refine kf_iconst (v := 3) hx dX11_pour_53 (by decide) ?_
  refine kf_callVbI (st := []) hx (m_X11_no g hg 3 I J _ h) lk_RX11_121 km_X11_no ob_72 rfl (by decide) rfl (Nat.le_of_ble_eq_true rfl) dX11_pour_54 (fun r_5 I_6 h => ?_)
  exact hret _ _ r_5 _ _ dX11_pour_57 h
def wj_X11_pour_136 (I : HI) (J : HJ)  (Post : Bool → HI → HJ → Prop) : Prop :=
  w_X11_no 4 I J (fun (r_7 : Bool) (I_8 : HI) => (Post r_7 I_8 J))
set_option maxHeartbeats 4000000 in
set_option maxRecDepth 20000 in
theorem wk_X11_pour_136 (g : kf_G) (hg : kf_g g) {x : kf_X} (hx : kf_ok g x RX11 cX11_pour 9 1 21) (I : HI) (J : HJ)  (Post : Bool → HI → HJ → Prop) (hret : ∀ (pc : Nat) (lv : List (Nat × Value)) (v : Bool) (Iy : HI) (Jy : HJ), decode cX11_pour pc = .ok (.ireturn, 1) → Post v Iy Jy → kf_M g x 9 pc lv [.int (kb v)] Iy Jy) (h : wj_X11_pour_136 I J  Post) : kf_M g x 9 136 [(0, .ref (g.2.2.2 72))] [] I J := by
  unfold wj_X11_pour_136 at h
  refine kf_aload_n hx dX11_pour_136 rfl 0 rfl ?_
  refine kf_iconst (v := 4) hx dX11_pour_137 (by decide) ?_
  refine kf_callVbI (st := []) hx (m_X11_no g hg 4 I J _ h) lk_RX11_121 km_X11_no ob_72 rfl (by decide) rfl (Nat.le_of_ble_eq_true rfl) dX11_pour_138 (fun r_7 I_8 h => ?_)
  exact hret _ _ r_7 _ _ dX11_pour_141 h
def wj_X11_pour_182 (I : HI) (J : HJ) (x1 : Int32) (x2 : Int32) (x3 : Int32) (x4 : Int32) (x5 : Int32) (x6 : Int32) (x7 : Int32) (t0 : Int32) (E158 : HJ → Prop) (K158 : Int32 × HJ → Prop) (Post : Bool → HI → HJ → Prop) : Prop :=
  vp_in (((40 * x1) + x2) + t0) 160 ∧ (vp_in (((40 * x3) + x4) + t0) 160 ∧ (∀ J_9 : HJ, J_9 = hJ J 75 (Int32.toNatClampNeg (((40 * x3) + x4) + t0)) (J 75 (Int32.toNatClampNeg (((40 * x1) + x2) + t0))) → (K158 ((x7 + 1), J_9))))
set_option maxHeartbeats 4000000 in
set_option maxRecDepth 20000 in
theorem wk_X11_pour_182 (g : kf_G) (hg : kf_g g) {x : kf_X} (hx : kf_ok g x RX11 cX11_pour 9 1 21) (I : HI) (J : HJ) (x1 : Int32) (x2 : Int32) (x3 : Int32) (x4 : Int32) (x5 : Int32) (x6 : Int32) (x7 : Int32) (t0 : Int32) (E158 : HJ → Prop) (K158 : Int32 × HJ → Prop) (hE158 : ∀ (Jy : HJ), E158 Jy → kf_M g x 9 219 [] [] I Jy) (hK158 : ∀ (y7 : Int32) (Jy : HJ), K158 (y7, Jy) → kf_M g x 9 158 [(0, .ref (g.2.2.2 72)), (1, .int x1), (2, .int x2), (3, .int x3), (4, .int x4), (5, .int x5), (6, .int x6), (7, .int y7)] [] I Jy) (Post : Bool → HI → HJ → Prop) (hret : ∀ (pc : Nat) (lv : List (Nat × Value)) (v : Bool) (Iy : HI) (Jy : HJ), decode cX11_pour pc = .ok (.ireturn, 1) → Post v Iy Jy → kf_M g x 9 pc lv [.int (kb v)] Iy Jy) (h : wj_X11_pour_182 I J x1 x2 x3 x4 x5 x6 x7 t0 E158 K158 Post) : kf_M g x 9 182 [(0, .ref (g.2.2.2 72)), (1, .int x1), (2, .int x2), (3, .int x3), (4, .int x4), (5, .int x5), (6, .int x6), (7, .int x7)] [.int t0] I J := by
  unfold wj_X11_pour_182 at h
  refine kf_istore (lv' := [(8, .int t0), (0, .ref (g.2.2.2 72)), (1, .int x1), (2, .int x2), (3, .int x3), (4, .int x4), (5, .int x5), (6, .int x6), (7, .int x7)]) hx dX11_pour_182 (by decide) rfl ?_
  refine kf_aload_n hx dX11_pour_184 rfl 1 rfl ?_
  refine kf_getR (n := 75) hx sl_72_6 fl_RX11_20 dX11_pour_185 ?_
  refine kf_bipush (v := 40) hx dX11_pour_188 (by decide) ?_
  refine kf_iload_n hx dX11_pour_190 rfl 4 rfl ?_
  refine kf_imul hx dX11_pour_191 ?_
  refine kf_iload hx dX11_pour_192 5 rfl ?_
  refine kf_iadd hx dX11_pour_194 ?_
  refine kf_iload hx dX11_pour_195 0 rfl ?_
  refine kf_iadd hx dX11_pour_197 ?_
  refine kf_aload_n hx dX11_pour_198 rfl 1 rfl ?_
  refine kf_getR (n := 75) hx sl_72_6 fl_RX11_20 dX11_pour_199 ?_
  refine kf_bipush (v := 40) hx dX11_pour_202 (by decide) ?_
  refine kf_iload_n hx dX11_pour_204 rfl 2 rfl ?_
  refine kf_imul hx dX11_pour_205 ?_
  refine kf_iload_n hx dX11_pour_206 rfl 3 rfl ?_
  refine kf_iadd hx dX11_pour_207 ?_
  refine kf_iload hx dX11_pour_208 0 rfl ?_
  refine kf_iadd hx dX11_pour_210 ?_
  refine kf_lald hx ar_75 h.1 dX11_pour_211 ?_
  replace h := h.2
  refine kf_last hx ar_75 h.1 dX11_pour_212 ?_
  replace h := h.2
  refine kf_nmJ (fun J_9 eJ_9 => ?_)
  replace h := h J_9 eJ_9
  refine kf_iinc (w := (x7 + 1)) (lv' := [(7, .int (x7 + 1)), (8, .int t0), (0, .ref (g.2.2.2 72)), (1, .int x1), (2, .int x2), (3, .int x3), (4, .int x4), (5, .int x5), (6, .int x6)]) hx dX11_pour_213 8 rfl rfl (by decide) rfl ?_
  refine kf_goto hx 158 dX11_pour_216 (by decide) ?_
  refine kf_sub [2, 3, 4, 5, 6, 7, 8, 0] rfl ?_
  exact hK158 _ _ h
def wb_X11_pour_158 (I : HI) (x1 : Int32) (x2 : Int32) (x3 : Int32) (x4 : Int32) (x5 : Int32) (x6 : Int32) (Post : Bool → HI → HJ → Prop) (E158 : HJ → Prop) (K158 : (Int32 × HJ) → Prop) (s : Int32 × HJ) : Prop :=
  match s with
  | (x7, J) => (x5 ≤ x7 → (E158 J)) ∧ (¬ x5 ≤ x7 → ((x6 = 0 → (wj_X11_pour_182 I J x1 x2 x3 x4 x5 x6 x7 x7 E158 K158 Post)) ∧ (¬ x6 = 0 → (wj_X11_pour_182 I J x1 x2 x3 x4 x5 x6 x7 ((x5 - 1) - x7) E158 K158 Post))))
set_option maxHeartbeats 4000000 in
set_option maxRecDepth 20000 in
theorem ws_X11_pour_158 (g : kf_G) (hg : kf_g g) {x : kf_X} (hx : kf_ok g x RX11 cX11_pour 9 1 21) (I : HI) (x1 : Int32) (x2 : Int32) (x3 : Int32) (x4 : Int32) (x5 : Int32) (x6 : Int32) (Post : Bool → HI → HJ → Prop) (hret : ∀ (pc : Nat) (lv : List (Nat × Value)) (v : Bool) (Iy : HI) (Jy : HJ), decode cX11_pour pc = .ok (.ireturn, 1) → Post v Iy Jy → kf_M g x 9 pc lv [.int (kb v)] Iy Jy) (E158 : HJ → Prop) (hE158 : ∀ (Jy : HJ), E158 Jy → kf_M g x 9 219 [] [] I Jy) (K158 : (Int32 × HJ) → Prop) (hK158 : ∀ (y7 : Int32) (Jy : HJ), K158 (y7, Jy) → kf_M g x 9 158 [(0, .ref (g.2.2.2 72)), (1, .int x1), (2, .int x2), (3, .int x3), (4, .int x4), (5, .int x5), (6, .int x6), (7, .int y7)] [] I Jy) (x7 : Int32) (J : HJ) (h : wb_X11_pour_158 I x1 x2 x3 x4 x5 x6 Post E158 K158 (x7, J)) : kf_M g x 9 158 [(0, .ref (g.2.2.2 72)), (1, .int x1), (2, .int x2), (3, .int x3), (4, .int x4), (5, .int x5), (6, .int x6), (7, .int x7)] [] I J := by
  unfold wb_X11_pour_158 at h
  refine kf_iload hx dX11_pour_158 7 rfl ?_
  refine kf_iload hx dX11_pour_160 5 rfl ?_
  refine kf_icmp_ge hx 219 dX11_pour_162 (by decide) (fun c => ?_) (fun c => ?_)
  · replace h := h.1 c
    refine kf_sub [] rfl ?_
    exact hE158 _ h
  · replace h := h.2 c
    refine kf_iload hx dX11_pour_165 6 rfl ?_
    refine kf_if_eq hx 180 dX11_pour_167 (by decide) (fun c => ?_) (fun c => ?_)
    · replace h := h.1 c
      refine kf_iload hx dX11_pour_180 7 rfl ?_
      exact wk_X11_pour_182 g hg hx I J x1 x2 x3 x4 x5 x6 x7 x7 _ _ hE158 hK158 _ hret h
    · replace h := h.2 c
      refine kf_iload hx dX11_pour_170 5 rfl ?_
      refine kf_iconst (v := 1) hx dX11_pour_172 (by decide) ?_
      refine kf_isub hx dX11_pour_173 ?_
      refine kf_iload hx dX11_pour_174 7 rfl ?_
      refine kf_isub hx dX11_pour_176 ?_
      refine kf_goto hx 182 dX11_pour_177 (by decide) ?_
      exact wk_X11_pour_182 g hg hx I J x1 x2 x3 x4 x5 x6 x7 ((x5 - 1) - x7) _ _ hE158 hK158 _ hret h
theorem wl_X11_pour_158 (g : kf_G) (hg : kf_g g) {x : kf_X} (hx : kf_ok g x RX11 cX11_pour 9 1 21) (I : HI) (x1 : Int32) (x2 : Int32) (x3 : Int32) (x4 : Int32) (x5 : Int32) (x6 : Int32) (Post : Bool → HI → HJ → Prop) (hret : ∀ (pc : Nat) (lv : List (Nat × Value)) (v : Bool) (Iy : HI) (Jy : HJ), decode cX11_pour pc = .ok (.ireturn, 1) → Post v Iy Jy → kf_M g x 9 pc lv [.int (kb v)] Iy Jy) (E158 : HJ → Prop) (hE158 : ∀ (Jy : HJ), E158 Jy → kf_M g x 9 219 [] [] I Jy) : ∀ (n : Nat) (x7 : Int32) (J : HJ), lp (wb_X11_pour_158 I x1 x2 x3 x4 x5 x6 Post E158) n (x7, J) → kf_M g x 9 158 [(0, .ref (g.2.2.2 72)), (1, .int x1), (2, .int x2), (3, .int x3), (4, .int x4), (5, .int x5), (6, .int x6), (7, .int x7)] [] I J := by
  intro n
  induction n with
  | zero => intro x7 J h; exact h.elim
  | succ n ih => intro x7 J h; exact ws_X11_pour_158 g hg hx I x1 x2 x3 x4 x5 x6 Post hret E158 hE158 (lp (wb_X11_pour_158 I x1 x2 x3 x4 x5 x6 Post E158) n) ih x7 J h
def w_X11_pour (x1 : Int32) (x2 : Int32) (x3 : Int32) (x4 : Int32) (x5 : Int32) (I : HI) (J : HJ) (Post : Bool → HI → HJ → Prop) : Prop :=
  ∀ I_1 : HI, I_1 = hI I 72 1 0 → (∀ I_2 : HI, I_2 = hI I_1 72 0 0 → ((x1 < 0 → (wj_X11_pour_28 I_2 J Post)) ∧ (¬ x1 < 0 → ((4 ≤ x1 → (wj_X11_pour_28 I_2 J Post)) ∧ (¬ 4 ≤ x1 → ((x3 < 0 → (wj_X11_pour_28 I_2 J Post)) ∧ (¬ x3 < 0 → ((x3 < 4 → (vp_in x1 4 ∧ (((I_2 74 (Int32.toNatClampNeg x1)) < 0 → (wj_X11_pour_52 I_2 J Post)) ∧ (¬ (I_2 74 (Int32.toNatClampNeg x1)) < 0 → (vp_in x3 4 ∧ ((0 ≤ (I_2 74 (Int32.toNatClampNeg x3)) → (vp_in x1 4 ∧ (vp_in x3 4 ∧ (((I_2 73 (Int32.toNatClampNeg x1)) = (I_2 73 (Int32.toNatClampNeg x3)) → ((0 ≤ x5 → ((x2 < 0 → (wj_X11_pour_136 I_2 J Post)) ∧ (¬ x2 < 0 → ((x4 < 0 → (wj_X11_pour_136 I_2 J Post)) ∧ (¬ x4 < 0 → (vp_in x1 4 ∧ (((Int32.toInt64 (I_2 74 (Int32.toNatClampNeg x1))) < ((Int32.toInt64 x2) + (Int32.toInt64 x5)) → (wj_X11_pour_136 I_2 J Post)) ∧ (¬ (Int32.toInt64 (I_2 74 (Int32.toNatClampNeg x1))) < ((Int32.toInt64 x2) + (Int32.toInt64 x5)) → (vp_in x3 4 ∧ ((((Int32.toInt64 x4) + (Int32.toInt64 x5)) ≤ (Int32.toInt64 (I_2 74 (Int32.toNatClampNeg x3))) → ((x4 ≤ x2 → (∃ n, lp (wb_X11_pour_158 I_2 x1 x2 x3 x4 x5 0 Post (fun (J_10 : HJ) => Post true I_2 J_10)) n (0, J))) ∧ (¬ x4 ≤ x2 → (∃ n, lp (wb_X11_pour_158 I_2 x1 x2 x3 x4 x5 1 Post (fun (J_11 : HJ) => Post true I_2 J_11)) n (0, J))))) ∧ (¬ ((Int32.toInt64 x4) + (Int32.toInt64 x5)) ≤ (Int32.toInt64 (I_2 74 (Int32.toNatClampNeg x3))) → (wj_X11_pour_136 I_2 J Post)))))))))))) ∧ (¬ 0 ≤ x5 → (w_X11_no 6 I_2 J (fun (r_12 : Bool) (I_13 : HI) => (Post r_12 I_13 J)))))) ∧ (¬ (I_2 73 (Int32.toNatClampNeg x1)) = (I_2 73 (Int32.toNatClampNeg x3)) → (w_X11_no 11 I_2 J (fun (r_14 : Bool) (I_15 : HI) => (Post r_14 I_15 J)))))))) ∧ (¬ 0 ≤ (I_2 74 (Int32.toNatClampNeg x3)) → (wj_X11_pour_52 I_2 J Post)))))))) ∧ (¬ x3 < 4 → (wj_X11_pour_28 I_2 J Post))))))))))
set_option maxHeartbeats 4000000 in
set_option maxRecDepth 20000 in
theorem we_X11_pour (g : kf_G) (hg : kf_g g) {x : kf_X} (hx : kf_ok g x RX11 cX11_pour 9 1 21) (x1 : Int32) (x2 : Int32) (x3 : Int32) (x4 : Int32) (x5 : Int32) (I : HI) (J : HJ) (Post : Bool → HI → HJ → Prop) (hret : ∀ (pc : Nat) (lv : List (Nat × Value)) (v : Bool) (Iy : HI) (Jy : HJ), decode cX11_pour pc = .ok (.ireturn, 1) → Post v Iy Jy → kf_M g x 9 pc lv [.int (kb v)] Iy Jy) (h : w_X11_pour x1 x2 x3 x4 x5 I J Post) : kf_M g x 9 0 [(0, .ref (g.2.2.2 72)), (1, .int x1), (2, .int x2), (3, .int x3), (4, .int x4), (5, .int x5)] [] I J := by
  unfold w_X11_pour at h
  refine kf_aload_n hx dX11_pour_0 rfl 0 rfl ?_
  refine kf_iconst (v := 0) hx dX11_pour_1 (by decide) ?_
  refine kf_putI hx sl_72_1 fl_RX11_106 fp_11_1 dX11_pour_2 ?_
  refine kf_nmI (fun I_1 eI_1 => ?_)
  replace h := h I_1 eI_1
  refine kf_aload_n hx dX11_pour_5 rfl 0 rfl ?_
  refine kf_iconst (v := 0) hx dX11_pour_6 (by decide) ?_
  refine kf_putI hx sl_72_0 fl_RX11_109 fp_11_0 dX11_pour_7 ?_
  refine kf_nmI (fun I_2 eI_2 => ?_)
  replace h := h I_2 eI_2
  refine kf_iload_n hx dX11_pour_10 rfl 1 rfl ?_
  refine kf_if_lt hx 28 dX11_pour_11 (by decide) (fun c => ?_) (fun c => ?_)
  · replace h := h.1 c
    refine kf_sub [0] rfl ?_
    exact wk_X11_pour_28 g hg hx I_2 J  _ hret h
  · replace h := h.2 c
    refine kf_iload_n hx dX11_pour_14 rfl 1 rfl ?_
    refine kf_iconst (v := 4) hx dX11_pour_15 (by decide) ?_
    refine kf_icmp_ge hx 28 dX11_pour_16 (by decide) (fun c => ?_) (fun c => ?_)
    · replace h := h.1 c
      refine kf_sub [0] rfl ?_
      exact wk_X11_pour_28 g hg hx I_2 J  _ hret h
    · replace h := h.2 c
      refine kf_iload_n hx dX11_pour_19 rfl 3 rfl ?_
      refine kf_if_lt hx 28 dX11_pour_20 (by decide) (fun c => ?_) (fun c => ?_)
      · replace h := h.1 c
        refine kf_sub [0] rfl ?_
        exact wk_X11_pour_28 g hg hx I_2 J  _ hret h
      · replace h := h.2 c
        refine kf_iload_n hx dX11_pour_23 rfl 3 rfl ?_
        refine kf_iconst (v := 4) hx dX11_pour_24 (by decide) ?_
        refine kf_icmp_lt hx 34 dX11_pour_25 (by decide) (fun c => ?_) (fun c => ?_)
        · replace h := h.1 c
          refine kf_aload_n hx dX11_pour_34 rfl 0 rfl ?_
          refine kf_getR (n := 74) hx sl_72_5 fl_RX11_17 dX11_pour_35 ?_
          refine kf_iload_n hx dX11_pour_38 rfl 1 rfl ?_
          refine kf_iald hx ar_74 h.1 dX11_pour_39 ?_
          replace h := h.2
          refine kf_if_lt hx 52 dX11_pour_40 (by decide) (fun c => ?_) (fun c => ?_)
          · replace h := h.1 c
            refine kf_sub [0] rfl ?_
            exact wk_X11_pour_52 g hg hx I_2 J  _ hret h
          · replace h := h.2 c
            refine kf_aload_n hx dX11_pour_43 rfl 0 rfl ?_
            refine kf_getR (n := 74) hx sl_72_5 fl_RX11_17 dX11_pour_44 ?_
            refine kf_iload_n hx dX11_pour_47 rfl 3 rfl ?_
            refine kf_iald hx ar_74 h.1 dX11_pour_48 ?_
            replace h := h.2
            refine kf_if_ge hx 58 dX11_pour_49 (by decide) (fun c => ?_) (fun c => ?_)
            · replace h := h.1 c
              refine kf_aload_n hx dX11_pour_58 rfl 0 rfl ?_
              refine kf_getR (n := 73) hx sl_72_4 fl_RX11_13 dX11_pour_59 ?_
              refine kf_iload_n hx dX11_pour_62 rfl 1 rfl ?_
              refine kf_iald hx ar_73 h.1 dX11_pour_63 ?_
              replace h := h.2
              refine kf_aload_n hx dX11_pour_64 rfl 0 rfl ?_
              refine kf_getR (n := 73) hx sl_72_4 fl_RX11_13 dX11_pour_65 ?_
              refine kf_iload_n hx dX11_pour_68 rfl 3 rfl ?_
              refine kf_iald hx ar_73 h.1 dX11_pour_69 ?_
              replace h := h.2
              refine kf_icmp_eq hx 80 dX11_pour_70 (by decide) (fun c => ?_) (fun c => ?_)
              · replace h := h.1 c
                refine kf_iload hx dX11_pour_80 5 rfl ?_
                refine kf_if_ge hx 92 dX11_pour_82 (by decide) (fun c => ?_) (fun c => ?_)
                · replace h := h.1 c
                  refine kf_iload_n hx dX11_pour_92 rfl 2 rfl ?_
                  refine kf_if_lt hx 136 dX11_pour_93 (by decide) (fun c => ?_) (fun c => ?_)
                  · replace h := h.1 c
                    refine kf_sub [0] rfl ?_
                    exact wk_X11_pour_136 g hg hx I_2 J  _ hret h
                  · replace h := h.2 c
                    refine kf_iload hx dX11_pour_96 4 rfl ?_
                    refine kf_if_lt hx 136 dX11_pour_98 (by decide) (fun c => ?_) (fun c => ?_)
                    · replace h := h.1 c
                      refine kf_sub [0] rfl ?_
                      exact wk_X11_pour_136 g hg hx I_2 J  _ hret h
                    · replace h := h.2 c
                      refine kf_iload_n hx dX11_pour_101 rfl 2 rfl ?_
                      refine kf_i2l hx dX11_pour_102 ?_
                      refine kf_iload hx dX11_pour_103 5 rfl ?_
                      refine kf_i2l hx dX11_pour_105 ?_
                      refine kf_ladd hx dX11_pour_106 ?_
                      refine kf_aload_n hx dX11_pour_107 rfl 0 rfl ?_
                      refine kf_getR (n := 74) hx sl_72_5 fl_RX11_17 dX11_pour_108 ?_
                      refine kf_iload_n hx dX11_pour_111 rfl 1 rfl ?_
                      refine kf_iald hx ar_74 h.1 dX11_pour_112 ?_
                      replace h := h.2
                      refine kf_i2l hx dX11_pour_113 ?_
                      refine kf_l_gt hx 136 dX11_pour_114 dX11_pour_115 (by decide) (fun c => ?_) (fun c => ?_)
                      · replace h := h.1 c
                        refine kf_sub [0] rfl ?_
                        exact wk_X11_pour_136 g hg hx I_2 J  _ hret h
                      · replace h := h.2 c
                        refine kf_iload hx dX11_pour_118 4 rfl ?_
                        refine kf_i2l hx dX11_pour_120 ?_
                        refine kf_iload hx dX11_pour_121 5 rfl ?_
                        refine kf_i2l hx dX11_pour_123 ?_
                        refine kf_ladd hx dX11_pour_124 ?_
                        refine kf_aload_n hx dX11_pour_125 rfl 0 rfl ?_
                        refine kf_getR (n := 74) hx sl_72_5 fl_RX11_17 dX11_pour_126 ?_
                        refine kf_iload_n hx dX11_pour_129 rfl 3 rfl ?_
                        refine kf_iald hx ar_74 h.1 dX11_pour_130 ?_
                        replace h := h.2
                        refine kf_i2l hx dX11_pour_131 ?_
                        refine kf_l_le hx 142 dX11_pour_132 dX11_pour_133 (by decide) (fun c => ?_) (fun c => ?_)
                        · replace h := h.1 c
                          refine kf_iload_n hx dX11_pour_142 rfl 2 rfl ?_
                          refine kf_iload hx dX11_pour_143 4 rfl ?_
                          refine kf_icmp_ge hx 152 dX11_pour_145 (by decide) (fun c => ?_) (fun c => ?_)
                          · replace h := h.1 c
                            refine kf_iconst (v := 0) hx dX11_pour_152 (by decide) ?_
                            refine kf_istore (lv' := [(6, .int 0), (0, .ref (g.2.2.2 72)), (1, .int x1), (2, .int x2), (3, .int x3), (4, .int x4), (5, .int x5)]) hx dX11_pour_153 (by decide) rfl ?_
                            refine kf_iconst (v := 0) hx dX11_pour_155 (by decide) ?_
                            refine kf_istore (lv' := [(7, .int 0), (6, .int 0), (0, .ref (g.2.2.2 72)), (1, .int x1), (2, .int x2), (3, .int x3), (4, .int x4), (5, .int x5)]) hx dX11_pour_156 (by decide) rfl ?_
                            obtain ⟨n, h⟩ := h
                            refine kf_sub [2, 3, 4, 5, 6, 7, 1, 0] rfl ?_
                            refine wl_X11_pour_158 g hg hx I_2 x1 x2 x3 x4 x5 0 _ hret _ (fun J_10 h => ?_) n _ _ h
                            refine kf_iconst (v := 1) hx dX11_pour_219 (by decide) ?_
                            exact hret _ _ true _ _ dX11_pour_220 h
                          · replace h := h.2 c
                            refine kf_iconst (v := 1) hx dX11_pour_148 (by decide) ?_
                            refine kf_goto hx 153 dX11_pour_149 (by decide) ?_
                            refine kf_istore (lv' := [(6, .int 1), (0, .ref (g.2.2.2 72)), (1, .int x1), (2, .int x2), (3, .int x3), (4, .int x4), (5, .int x5)]) hx dX11_pour_153 (by decide) rfl ?_
                            refine kf_iconst (v := 0) hx dX11_pour_155 (by decide) ?_
                            refine kf_istore (lv' := [(7, .int 0), (6, .int 1), (0, .ref (g.2.2.2 72)), (1, .int x1), (2, .int x2), (3, .int x3), (4, .int x4), (5, .int x5)]) hx dX11_pour_156 (by decide) rfl ?_
                            obtain ⟨n, h⟩ := h
                            refine kf_sub [2, 3, 4, 5, 6, 7, 1, 0] rfl ?_
                            refine wl_X11_pour_158 g hg hx I_2 x1 x2 x3 x4 x5 1 _ hret _ (fun J_11 h => ?_) n _ _ h
                            refine kf_iconst (v := 1) hx dX11_pour_219 (by decide) ?_
                            exact hret _ _ true _ _ dX11_pour_220 h
                        · replace h := h.2 c
                          refine kf_sub [0] rfl ?_
                          exact wk_X11_pour_136 g hg hx I_2 J  _ hret h
                · replace h := h.2 c
                  refine kf_aload_n hx dX11_pour_85 rfl 0 rfl ?_
                  refine kf_bipush (v := 6) hx dX11_pour_86 (by decide) ?_
                  refine kf_callVbI (st := []) hx (m_X11_no g hg 6 I_2 J _ h) lk_RX11_121 km_X11_no ob_72 rfl (by decide) rfl (Nat.le_of_ble_eq_true rfl) dX11_pour_88 (fun r_12 I_13 h => ?_)
                  exact hret _ _ r_12 _ _ dX11_pour_91 h
              · replace h := h.2 c
                refine kf_aload_n hx dX11_pour_73 rfl 0 rfl ?_
                refine kf_bipush (v := 11) hx dX11_pour_74 (by decide) ?_
                refine kf_callVbI (st := []) hx (m_X11_no g hg 11 I_2 J _ h) lk_RX11_121 km_X11_no ob_72 rfl (by decide) rfl (Nat.le_of_ble_eq_true rfl) dX11_pour_76 (fun r_14 I_15 h => ?_)
                exact hret _ _ r_14 _ _ dX11_pour_79 h
            · replace h := h.2 c
              refine kf_sub [0] rfl ?_
              exact wk_X11_pour_52 g hg hx I_2 J  _ hret h
        · replace h := h.2 c
          refine kf_sub [0] rfl ?_
          exact wk_X11_pour_28 g hg hx I_2 J  _ hret h
set_option maxHeartbeats 4000000 in
set_option maxRecDepth 20000 in
theorem m_X11_pour (g : kf_G) (hg : kf_g g) (x1 : Int32) (x2 : Int32) (x3 : Int32) (x4 : Int32) (x5 : Int32) (I : HI) (J : HJ) (Post : Bool → HI → HJ → Prop) (h : w_X11_pour x1 x2 x3 x4 x5 I J Post) : kf_Mb g yX11_pour (kf_W yX11_pour cX11_pour 9 (Option.some Jvm.ClassFile.FieldType.boolean)) 1 21 [.ref (g.2.2.2 72), .int x1, .int x2, .int x3, .int x4, .int x5] I J Post :=
  kf_entb hg (by decide) (Nat.le_of_ble_eq_true rfl) rfl (fun x hx hr => we_X11_pour g hg hx x1 x2 x3 x4 x5 I J Post (fun pc lv v I' J' hd hP => hr pc lv v I' J' hd hP) h)
theorem dX11_numberOf_0 : decode cX11_numberOf 0 = .ok (.aload_n 0, 1) := by decide +kernel
theorem dX11_numberOf_1 : decode cX11_numberOf 1 = .ok (.getfield 20, 3) := by decide +kernel
theorem dX11_numberOf_4 : decode cX11_numberOf 4 = .ok (.bipush 40, 2) := by decide +kernel
theorem dX11_numberOf_6 : decode cX11_numberOf 6 = .ok (.iload_n 1, 1) := by decide +kernel
theorem dX11_numberOf_7 : decode cX11_numberOf 7 = .ok (.imul, 1) := by decide +kernel
theorem dX11_numberOf_8 : decode cX11_numberOf 8 = .ok (.iload_n 2, 1) := by decide +kernel
theorem dX11_numberOf_9 : decode cX11_numberOf 9 = .ok (.iadd, 1) := by decide +kernel
theorem dX11_numberOf_10 : decode cX11_numberOf 10 = .ok (.laload, 1) := by decide +kernel
theorem dX11_numberOf_11 : decode cX11_numberOf 11 = .ok (.lreturn, 1) := by decide +kernel
def w_X11_numberOf (x1 : Int32) (x2 : Int32) (I : HI) (J : HJ) (Post : Int64 → Prop) : Prop :=
  vp_in ((40 * x1) + x2) 160 ∧ (Post (J 75 (Int32.toNatClampNeg ((40 * x1) + x2))))
set_option maxHeartbeats 4000000 in
set_option maxRecDepth 20000 in
theorem we_X11_numberOf (g : kf_G) (hg : kf_g g) {x : kf_X} (hx : kf_ok g x RX11 cX11_numberOf 3 0 0) (x1 : Int32) (x2 : Int32) (I : HI) (J : HJ) (Post : Int64 → Prop) (hret : ∀ (pc : Nat) (lv : List (Nat × Value)) (v : Int64), decode cX11_numberOf pc = .ok (.lreturn, 1) → Post v → kf_M g x 3 pc lv [.long v] I J) (h : w_X11_numberOf x1 x2 I J Post) : kf_M g x 3 0 [(0, .ref (g.2.2.2 72)), (1, .int x1), (2, .int x2)] [] I J := by
  unfold w_X11_numberOf at h
  refine kf_aload_n hx dX11_numberOf_0 rfl 0 rfl ?_
  refine kf_getR (n := 75) hx sl_72_6 fl_RX11_20 dX11_numberOf_1 ?_
  refine kf_bipush (v := 40) hx dX11_numberOf_4 (by decide) ?_
  refine kf_iload_n hx dX11_numberOf_6 rfl 1 rfl ?_
  refine kf_imul hx dX11_numberOf_7 ?_
  refine kf_iload_n hx dX11_numberOf_8 rfl 2 rfl ?_
  refine kf_iadd hx dX11_numberOf_9 ?_
  refine kf_lald hx ar_75 h.1 dX11_numberOf_10 ?_
  replace h := h.2
  exact hret _ _ (J 75 (Int32.toNatClampNeg ((40 * x1) + x2)))  dX11_numberOf_11 h
set_option maxHeartbeats 4000000 in
set_option maxRecDepth 20000 in
theorem m_X11_numberOf (g : kf_G) (hg : kf_g g) (x1 : Int32) (x2 : Int32) (I : HI) (J : HJ) (Post : Int64 → Prop) (h : w_X11_numberOf x1 x2 I J Post) : kf_Ml g yX11_numberOf (kf_W yX11_numberOf cX11_numberOf 3 (Option.some Jvm.ClassFile.FieldType.long)) 0 0 [.ref (g.2.2.2 72), .int x1, .int x2] I J (fun v I' J' => Post v ∧ I' = I ∧ J' = J) :=
  kf_entl hg (by decide) (Nat.le_of_ble_eq_true rfl) rfl (fun x hx hr => we_X11_numberOf g hg hx x1 x2 I J Post (fun pc lv v hd hP => hr pc lv v I J hd ⟨hP, rfl, rfl⟩) h)
theorem dX11_look_0 : decode cX11_look 0 = .ok (.iload_n 1, 1) := by decide +kernel
theorem dX11_look_1 : decode cX11_look 1 = .ok (.aload_n 0, 1) := by decide +kernel
theorem dX11_look_2 : decode cX11_look 2 = .ok (.getfield 139, 3) := by decide +kernel
theorem dX11_look_5 : decode cX11_look 5 = .ok (.if_icmp .ge 16, 3) := by decide +kernel
theorem dX11_look_8 : decode cX11_look 8 = .ok (.aload_n 0, 1) := by decide +kernel
theorem dX11_look_9 : decode cX11_look 9 = .ok (.getfield 24, 3) := by decide +kernel
theorem dX11_look_12 : decode cX11_look 12 = .ok (.iload_n 1, 1) := by decide +kernel
theorem dX11_look_13 : decode cX11_look 13 = .ok (.baload, 1) := by decide +kernel
theorem dX11_look_14 : decode cX11_look 14 = .ok (.sipush 255, 3) := by decide +kernel
theorem dX11_look_17 : decode cX11_look 17 = .ok (.iand, 1) := by decide +kernel
theorem dX11_look_18 : decode cX11_look 18 = .ok (.goto 4, 3) := by decide +kernel
theorem dX11_look_21 : decode cX11_look 21 = .ok (.iconst 0, 1) := by decide +kernel
theorem dX11_look_22 : decode cX11_look 22 = .ok (.ireturn, 1) := by decide +kernel
def w_X11_look (x1 : Int32) (I : HI) (J : HJ) (Post : Int32 → Prop) : Prop :=
  ((I 72 9) ≤ x1 → (Post 0)) ∧ (¬ (I 72 9) ≤ x1 → (vp_in x1 600 ∧ (Post ((I 76 (Int32.toNatClampNeg x1)) &&& 255))))
set_option maxHeartbeats 4000000 in
set_option maxRecDepth 20000 in
theorem we_X11_look (g : kf_G) (hg : kf_g g) {x : kf_X} (hx : kf_ok g x RX11 cX11_look 2 0 0) (x1 : Int32) (I : HI) (J : HJ) (Post : Int32 → Prop) (hret : ∀ (pc : Nat) (lv : List (Nat × Value)) (v : Int32), decode cX11_look pc = .ok (.ireturn, 1) → Post v → kf_M g x 2 pc lv [.int v] I J) (h : w_X11_look x1 I J Post) : kf_M g x 2 0 [(0, .ref (g.2.2.2 72)), (1, .int x1)] [] I J := by
  unfold w_X11_look at h
  refine kf_iload_n hx dX11_look_0 rfl 1 rfl ?_
  refine kf_aload_n hx dX11_look_1 rfl 0 rfl ?_
  refine kf_getI hx sl_72_9 fl_RX11_139 dX11_look_2 ?_
  refine kf_icmp_ge hx 21 dX11_look_5 (by decide) (fun c => ?_) (fun c => ?_)
  · replace h := h.1 c
    refine kf_iconst (v := 0) hx dX11_look_21 (by decide) ?_
    exact hret _ _ 0  dX11_look_22 h
  · replace h := h.2 c
    refine kf_aload_n hx dX11_look_8 rfl 0 rfl ?_
    refine kf_getR (n := 76) hx sl_72_7 fl_RX11_24 dX11_look_9 ?_
    refine kf_iload_n hx dX11_look_12 rfl 1 rfl ?_
    refine kf_bald hx ar_76 h.1 dX11_look_13 ?_
    replace h := h.2
    refine kf_sipush (v := 255) hx dX11_look_14 (by decide) ?_
    refine kf_iand hx dX11_look_17 ?_
    refine kf_goto hx 22 dX11_look_18 (by decide) ?_
    exact hret _ _ ((I 76 (Int32.toNatClampNeg x1)) &&& 255)  dX11_look_22 h
set_option maxHeartbeats 4000000 in
set_option maxRecDepth 20000 in
theorem m_X11_look (g : kf_G) (hg : kf_g g) (x1 : Int32) (I : HI) (J : HJ) (Post : Int32 → Prop) (h : w_X11_look x1 I J Post) : kf_Mi g yX11_look (kf_W yX11_look cX11_look 2 (Option.some Jvm.ClassFile.FieldType.int)) 0 0 [.ref (g.2.2.2 72), .int x1] I J (fun v I' J' => Post v ∧ I' = I ∧ J' = J) :=
  kf_enti hg (by decide) (Nat.le_of_ble_eq_true rfl) rfl (fun x hx hr => we_X11_look g hg hx x1 I J Post (fun pc lv v hd hP => hr pc lv v I J hd ⟨hP, rfl, rfl⟩) h)
theorem dX11_isLetter_0 : decode cX11_isLetter 0 = .ok (.iload_n 0, 1) := by decide +kernel
theorem dX11_isLetter_1 : decode cX11_isLetter 1 = .ok (.bipush 97, 2) := by decide +kernel
theorem dX11_isLetter_3 : decode cX11_isLetter 3 = .ok (.if_icmp .lt 13, 3) := by decide +kernel
theorem dX11_isLetter_6 : decode cX11_isLetter 6 = .ok (.iload_n 0, 1) := by decide +kernel
theorem dX11_isLetter_7 : decode cX11_isLetter 7 = .ok (.bipush 122, 2) := by decide +kernel
theorem dX11_isLetter_9 : decode cX11_isLetter 9 = .ok (.if_icmp .gt 7, 3) := by decide +kernel
theorem dX11_isLetter_12 : decode cX11_isLetter 12 = .ok (.iconst 1, 1) := by decide +kernel
theorem dX11_isLetter_13 : decode cX11_isLetter 13 = .ok (.goto 4, 3) := by decide +kernel
theorem dX11_isLetter_16 : decode cX11_isLetter 16 = .ok (.iconst 0, 1) := by decide +kernel
theorem dX11_isLetter_17 : decode cX11_isLetter 17 = .ok (.ireturn, 1) := by decide +kernel
def w_X11_isLetter (x0 : Int32) (Post : Bool → Prop) : Prop :=
  (x0 < 97 → (Post false)) ∧ (¬ x0 < 97 → ((122 < x0 → (Post false)) ∧ (¬ 122 < x0 → (Post true))))
set_option maxHeartbeats 4000000 in
set_option maxRecDepth 20000 in
theorem we_X11_isLetter (g : kf_G) (hg : kf_g g) {x : kf_X} (hx : kf_ok g x RX11 cX11_isLetter 1 0 0) (x0 : Int32) (I : HI) (J : HJ) (Post : Bool → Prop) (hret : ∀ (pc : Nat) (lv : List (Nat × Value)) (v : Bool), decode cX11_isLetter pc = .ok (.ireturn, 1) → Post v → kf_M g x 1 pc lv [.int (kb v)] I J) (h : w_X11_isLetter x0 Post) : kf_M g x 1 0 [(0, .int x0)] [] I J := by
  unfold w_X11_isLetter at h
  refine kf_iload_n hx dX11_isLetter_0 rfl 0 rfl ?_
  refine kf_bipush (v := 97) hx dX11_isLetter_1 (by decide) ?_
  refine kf_icmp_lt hx 16 dX11_isLetter_3 (by decide) (fun c => ?_) (fun c => ?_)
  · replace h := h.1 c
    refine kf_iconst (v := 0) hx dX11_isLetter_16 (by decide) ?_
    exact hret _ _ false  dX11_isLetter_17 h
  · replace h := h.2 c
    refine kf_iload_n hx dX11_isLetter_6 rfl 0 rfl ?_
    refine kf_bipush (v := 122) hx dX11_isLetter_7 (by decide) ?_
    refine kf_icmp_gt hx 16 dX11_isLetter_9 (by decide) (fun c => ?_) (fun c => ?_)
    · replace h := h.1 c
      refine kf_iconst (v := 0) hx dX11_isLetter_16 (by decide) ?_
      exact hret _ _ false  dX11_isLetter_17 h
    · replace h := h.2 c
      refine kf_iconst (v := 1) hx dX11_isLetter_12 (by decide) ?_
      refine kf_goto hx 17 dX11_isLetter_13 (by decide) ?_
      exact hret _ _ true  dX11_isLetter_17 h
set_option maxHeartbeats 4000000 in
set_option maxRecDepth 20000 in
theorem m_X11_isLetter (g : kf_G) (hg : kf_g g) (x0 : Int32) (I : HI) (J : HJ) (Post : Bool → Prop) (h : w_X11_isLetter x0 Post) : kf_Mb g yX11_isLetter (kf_W yX11_isLetter cX11_isLetter 1 (Option.some Jvm.ClassFile.FieldType.boolean)) 0 0 [.int x0] I J (fun v I' J' => Post v ∧ I' = I ∧ J' = J) :=
  kf_entb hg (by decide) (Nat.le_of_ble_eq_true rfl) rfl (fun x hx hr => we_X11_isLetter g hg hx x0 I J Post (fun pc lv v hd hP => hr pc lv v I J hd ⟨hP, rfl, rfl⟩) h)
theorem dX11_isDigit_0 : decode cX11_isDigit 0 = .ok (.iload_n 0, 1) := by decide +kernel
theorem dX11_isDigit_1 : decode cX11_isDigit 1 = .ok (.bipush 48, 2) := by decide +kernel
theorem dX11_isDigit_3 : decode cX11_isDigit 3 = .ok (.if_icmp .lt 13, 3) := by decide +kernel
theorem dX11_isDigit_6 : decode cX11_isDigit 6 = .ok (.iload_n 0, 1) := by decide +kernel
theorem dX11_isDigit_7 : decode cX11_isDigit 7 = .ok (.bipush 57, 2) := by decide +kernel
theorem dX11_isDigit_9 : decode cX11_isDigit 9 = .ok (.if_icmp .gt 7, 3) := by decide +kernel
theorem dX11_isDigit_12 : decode cX11_isDigit 12 = .ok (.iconst 1, 1) := by decide +kernel
theorem dX11_isDigit_13 : decode cX11_isDigit 13 = .ok (.goto 4, 3) := by decide +kernel
theorem dX11_isDigit_16 : decode cX11_isDigit 16 = .ok (.iconst 0, 1) := by decide +kernel
theorem dX11_isDigit_17 : decode cX11_isDigit 17 = .ok (.ireturn, 1) := by decide +kernel
def w_X11_isDigit (x0 : Int32) (Post : Bool → Prop) : Prop :=
  (x0 < 48 → (Post false)) ∧ (¬ x0 < 48 → ((57 < x0 → (Post false)) ∧ (¬ 57 < x0 → (Post true))))
set_option maxHeartbeats 4000000 in
set_option maxRecDepth 20000 in
theorem we_X11_isDigit (g : kf_G) (hg : kf_g g) {x : kf_X} (hx : kf_ok g x RX11 cX11_isDigit 1 0 0) (x0 : Int32) (I : HI) (J : HJ) (Post : Bool → Prop) (hret : ∀ (pc : Nat) (lv : List (Nat × Value)) (v : Bool), decode cX11_isDigit pc = .ok (.ireturn, 1) → Post v → kf_M g x 1 pc lv [.int (kb v)] I J) (h : w_X11_isDigit x0 Post) : kf_M g x 1 0 [(0, .int x0)] [] I J := by
  unfold w_X11_isDigit at h
  refine kf_iload_n hx dX11_isDigit_0 rfl 0 rfl ?_
  refine kf_bipush (v := 48) hx dX11_isDigit_1 (by decide) ?_
  refine kf_icmp_lt hx 16 dX11_isDigit_3 (by decide) (fun c => ?_) (fun c => ?_)
  · replace h := h.1 c
    refine kf_iconst (v := 0) hx dX11_isDigit_16 (by decide) ?_
    exact hret _ _ false  dX11_isDigit_17 h
  · replace h := h.2 c
    refine kf_iload_n hx dX11_isDigit_6 rfl 0 rfl ?_
    refine kf_bipush (v := 57) hx dX11_isDigit_7 (by decide) ?_
    refine kf_icmp_gt hx 16 dX11_isDigit_9 (by decide) (fun c => ?_) (fun c => ?_)
    · replace h := h.1 c
      refine kf_iconst (v := 0) hx dX11_isDigit_16 (by decide) ?_
      exact hret _ _ false  dX11_isDigit_17 h
    · replace h := h.2 c
      refine kf_iconst (v := 1) hx dX11_isDigit_12 (by decide) ?_
      refine kf_goto hx 17 dX11_isDigit_13 (by decide) ?_
      exact hret _ _ true  dX11_isDigit_17 h
set_option maxHeartbeats 4000000 in
set_option maxRecDepth 20000 in
theorem m_X11_isDigit (g : kf_G) (hg : kf_g g) (x0 : Int32) (I : HI) (J : HJ) (Post : Bool → Prop) (h : w_X11_isDigit x0 Post) : kf_Mb g yX11_isDigit (kf_W yX11_isDigit cX11_isDigit 1 (Option.some Jvm.ClassFile.FieldType.boolean)) 0 0 [.int x0] I J (fun v I' J' => Post v ∧ I' = I ∧ J' = J) :=
  kf_entb hg (by decide) (Nat.le_of_ble_eq_true rfl) rfl (fun x hx hr => we_X11_isDigit g hg hx x0 I J Post (fun pc lv v hd hP => hr pc lv v I J hd ⟨hP, rfl, rfl⟩) h)
theorem dX11_next_0 : decode cX11_next 0 = .ok (.aload_n 0, 1) := by decide +kernel
theorem dX11_next_1 : decode cX11_next 1 = .ok (.aload_n 0, 1) := by decide +kernel
theorem dX11_next_2 : decode cX11_next 2 = .ok (.getfield 142, 3) := by decide +kernel
theorem dX11_next_5 : decode cX11_next 5 = .ok (.putfield 145, 3) := by decide +kernel
theorem dX11_next_8 : decode cX11_next 8 = .ok (.aload_n 0, 1) := by decide +kernel
theorem dX11_next_9 : decode cX11_next 9 = .ok (.getfield 145, 3) := by decide +kernel
theorem dX11_next_12 : decode cX11_next 12 = .ok (.aload_n 0, 1) := by decide +kernel
theorem dX11_next_13 : decode cX11_next 13 = .ok (.getfield 139, 3) := by decide +kernel
theorem dX11_next_16 : decode cX11_next 16 = .ok (.if_icmp .ge 42, 3) := by decide +kernel
theorem dX11_next_19 : decode cX11_next 19 = .ok (.aload_n 0, 1) := by decide +kernel
theorem dX11_next_20 : decode cX11_next 20 = .ok (.aload_n 0, 1) := by decide +kernel
theorem dX11_next_21 : decode cX11_next 21 = .ok (.getfield 145, 3) := by decide +kernel
theorem dX11_next_24 : decode cX11_next 24 = .ok (.invokevirtual 148, 3) := by decide +kernel
theorem dX11_next_27 : decode cX11_next 27 = .ok (.bipush 10, 2) := by decide +kernel
theorem dX11_next_29 : decode cX11_next 29 = .ok (.if_icmp .eq 16, 3) := by decide +kernel
theorem dX11_next_32 : decode cX11_next 32 = .ok (.aload_n 0, 1) := by decide +kernel
theorem dX11_next_33 : decode cX11_next 33 = .ok (.aload_n 0, 1) := by decide +kernel
theorem dX11_next_34 : decode cX11_next 34 = .ok (.getfield 145, 3) := by decide +kernel
theorem dX11_next_37 : decode cX11_next 37 = .ok (.invokevirtual 148, 3) := by decide +kernel
theorem dX11_next_40 : decode cX11_next 40 = .ok (.bipush 32, 2) := by decide +kernel
theorem dX11_next_42 : decode cX11_next 42 = .ok (.if_icmp .ne 16, 3) := by decide +kernel
theorem dX11_next_45 : decode cX11_next 45 = .ok (.aload_n 0, 1) := by decide +kernel
theorem dX11_next_46 : decode cX11_next 46 = .ok (.dup, 1) := by decide +kernel
theorem dX11_next_47 : decode cX11_next 47 = .ok (.getfield 145, 3) := by decide +kernel
theorem dX11_next_50 : decode cX11_next 50 = .ok (.iconst 1, 1) := by decide +kernel
theorem dX11_next_51 : decode cX11_next 51 = .ok (.iadd, 1) := by decide +kernel
theorem dX11_next_52 : decode cX11_next 52 = .ok (.putfield 145, 3) := by decide +kernel
theorem dX11_next_55 : decode cX11_next 55 = .ok (.goto (-47), 3) := by decide +kernel
theorem dX11_next_58 : decode cX11_next 58 = .ok (.aload_n 0, 1) := by decide +kernel
theorem dX11_next_59 : decode cX11_next 59 = .ok (.aload_n 0, 1) := by decide +kernel
theorem dX11_next_60 : decode cX11_next 60 = .ok (.getfield 145, 3) := by decide +kernel
theorem dX11_next_63 : decode cX11_next 63 = .ok (.putfield 142, 3) := by decide +kernel
theorem dX11_next_66 : decode cX11_next 66 = .ok (.aload_n 0, 1) := by decide +kernel
theorem dX11_next_67 : decode cX11_next 67 = .ok (.getfield 145, 3) := by decide +kernel
theorem dX11_next_70 : decode cX11_next 70 = .ok (.aload_n 0, 1) := by decide +kernel
theorem dX11_next_71 : decode cX11_next 71 = .ok (.getfield 139, 3) := by decide +kernel
theorem dX11_next_74 : decode cX11_next 74 = .ok (.if_icmp .lt 9, 3) := by decide +kernel
theorem dX11_next_77 : decode cX11_next 77 = .ok (.aload_n 0, 1) := by decide +kernel
theorem dX11_next_78 : decode cX11_next 78 = .ok (.iconst 0, 1) := by decide +kernel
theorem dX11_next_79 : decode cX11_next 79 = .ok (.putfield 151, 3) := by decide +kernel
theorem dX11_next_82 : decode cX11_next 82 = .ok (.return_, 1) := by decide +kernel
theorem dX11_next_83 : decode cX11_next 83 = .ok (.aload_n 0, 1) := by decide +kernel
theorem dX11_next_84 : decode cX11_next 84 = .ok (.aload_n 0, 1) := by decide +kernel
theorem dX11_next_85 : decode cX11_next 85 = .ok (.getfield 145, 3) := by decide +kernel
theorem dX11_next_88 : decode cX11_next 88 = .ok (.invokevirtual 148, 3) := by decide +kernel
theorem dX11_next_91 : decode cX11_next 91 = .ok (.istore_n 1, 1) := by decide +kernel
theorem dX11_next_92 : decode cX11_next 92 = .ok (.iload_n 1, 1) := by decide +kernel
theorem dX11_next_93 : decode cX11_next 93 = .ok (.invokestatic 154, 3) := by decide +kernel
theorem dX11_next_96 : decode cX11_next 96 = .ok (.ifCond .eq 102, 3) := by decide +kernel
theorem dX11_next_99 : decode cX11_next 99 = .ok (.aload_n 0, 1) := by decide +kernel
theorem dX11_next_100 : decode cX11_next 100 = .ok (.iconst 1, 1) := by decide +kernel
theorem dX11_next_101 : decode cX11_next 101 = .ok (.putfield 151, 3) := by decide +kernel
theorem dX11_next_104 : decode cX11_next 104 = .ok (.aload_n 0, 1) := by decide +kernel
theorem dX11_next_105 : decode cX11_next 105 = .ok (.lconst 0, 1) := by decide +kernel
theorem dX11_next_106 : decode cX11_next 106 = .ok (.putfield 157, 3) := by decide +kernel
theorem dX11_next_109 : decode cX11_next 109 = .ok (.aload_n 0, 1) := by decide +kernel
theorem dX11_next_110 : decode cX11_next 110 = .ok (.aload_n 0, 1) := by decide +kernel
theorem dX11_next_111 : decode cX11_next 111 = .ok (.getfield 142, 3) := by decide +kernel
theorem dX11_next_114 : decode cX11_next 114 = .ok (.invokevirtual 148, 3) := by decide +kernel
theorem dX11_next_117 : decode cX11_next 117 = .ok (.invokestatic 154, 3) := by decide +kernel
theorem dX11_next_120 : decode cX11_next 120 = .ok (.ifCond .eq 62, 3) := by decide +kernel
theorem dX11_next_123 : decode cX11_next 123 = .ok (.aload_n 0, 1) := by decide +kernel
theorem dX11_next_124 : decode cX11_next 124 = .ok (.aload_n 0, 1) := by decide +kernel
theorem dX11_next_125 : decode cX11_next 125 = .ok (.getfield 142, 3) := by decide +kernel
theorem dX11_next_128 : decode cX11_next 128 = .ok (.aload_n 0, 1) := by decide +kernel
theorem dX11_next_129 : decode cX11_next 129 = .ok (.getfield 145, 3) := by decide +kernel
theorem dX11_next_132 : decode cX11_next 132 = .ok (.isub, 1) := by decide +kernel
theorem dX11_next_133 : decode cX11_next 133 = .ok (.bipush 8, 2) := by decide +kernel
theorem dX11_next_135 : decode cX11_next 135 = .ok (.if_icmp .ge 28, 3) := by decide +kernel
theorem dX11_next_138 : decode cX11_next 138 = .ok (.aload_n 0, 1) := by decide +kernel
theorem dX11_next_139 : decode cX11_next 139 = .ok (.getfield 157, 3) := by decide +kernel
theorem dX11_next_142 : decode cX11_next 142 = .ok (.ldc2_w 160, 3) := by decide +kernel
theorem dX11_next_145 : decode cX11_next 145 = .ok (.lmul, 1) := by decide +kernel
theorem dX11_next_146 : decode cX11_next 146 = .ok (.aload_n 0, 1) := by decide +kernel
theorem dX11_next_147 : decode cX11_next 147 = .ok (.aload_n 0, 1) := by decide +kernel
theorem dX11_next_148 : decode cX11_next 148 = .ok (.getfield 142, 3) := by decide +kernel
theorem dX11_next_151 : decode cX11_next 151 = .ok (.invokevirtual 148, 3) := by decide +kernel
theorem dX11_next_154 : decode cX11_next 154 = .ok (.i2l, 1) := by decide +kernel
theorem dX11_next_155 : decode cX11_next 155 = .ok (.ladd, 1) := by decide +kernel
theorem dX11_next_156 : decode cX11_next 156 = .ok (.ldc2_w 162, 3) := by decide +kernel
theorem dX11_next_159 : decode cX11_next 159 = .ok (.lsub, 1) := by decide +kernel
theorem dX11_next_160 : decode cX11_next 160 = .ok (.goto 6, 3) := by decide +kernel
theorem dX11_next_163 : decode cX11_next 163 = .ok (.ldc2_w 137, 3) := by decide +kernel
theorem dX11_next_166 : decode cX11_next 166 = .ok (.putfield 157, 3) := by decide +kernel
theorem dX11_next_169 : decode cX11_next 169 = .ok (.aload_n 0, 1) := by decide +kernel
theorem dX11_next_170 : decode cX11_next 170 = .ok (.dup, 1) := by decide +kernel
theorem dX11_next_171 : decode cX11_next 171 = .ok (.getfield 142, 3) := by decide +kernel
theorem dX11_next_174 : decode cX11_next 174 = .ok (.iconst 1, 1) := by decide +kernel
theorem dX11_next_175 : decode cX11_next 175 = .ok (.iadd, 1) := by decide +kernel
theorem dX11_next_176 : decode cX11_next 176 = .ok (.putfield 142, 3) := by decide +kernel
theorem dX11_next_179 : decode cX11_next 179 = .ok (.goto (-70), 3) := by decide +kernel
theorem dX11_next_182 : decode cX11_next 182 = .ok (.aload_n 0, 1) := by decide +kernel
theorem dX11_next_183 : decode cX11_next 183 = .ok (.aload_n 0, 1) := by decide +kernel
theorem dX11_next_184 : decode cX11_next 184 = .ok (.getfield 142, 3) := by decide +kernel
theorem dX11_next_187 : decode cX11_next 187 = .ok (.aload_n 0, 1) := by decide +kernel
theorem dX11_next_188 : decode cX11_next 188 = .ok (.getfield 145, 3) := by decide +kernel
theorem dX11_next_191 : decode cX11_next 191 = .ok (.isub, 1) := by decide +kernel
theorem dX11_next_192 : decode cX11_next 192 = .ok (.putfield 164, 3) := by decide +kernel
theorem dX11_next_195 : decode cX11_next 195 = .ok (.goto 133, 3) := by decide +kernel
theorem dX11_next_198 : decode cX11_next 198 = .ok (.iload_n 1, 1) := by decide +kernel
theorem dX11_next_199 : decode cX11_next 199 = .ok (.invokestatic 167, 3) := by decide +kernel
theorem dX11_next_202 : decode cX11_next 202 = .ok (.ifCond .eq 96, 3) := by decide +kernel
theorem dX11_next_205 : decode cX11_next 205 = .ok (.aload_n 0, 1) := by decide +kernel
theorem dX11_next_206 : decode cX11_next 206 = .ok (.iconst 0, 1) := by decide +kernel
theorem dX11_next_207 : decode cX11_next 207 = .ok (.putfield 170, 3) := by decide +kernel
theorem dX11_next_210 : decode cX11_next 210 = .ok (.aload_n 0, 1) := by decide +kernel
theorem dX11_next_211 : decode cX11_next 211 = .ok (.aload_n 0, 1) := by decide +kernel
theorem dX11_next_212 : decode cX11_next 212 = .ok (.getfield 142, 3) := by decide +kernel
theorem dX11_next_215 : decode cX11_next 215 = .ok (.invokevirtual 148, 3) := by decide +kernel
theorem dX11_next_218 : decode cX11_next 218 = .ok (.invokestatic 167, 3) := by decide +kernel
theorem dX11_next_221 : decode cX11_next 221 = .ok (.ifCond .eq 52, 3) := by decide +kernel
theorem dX11_next_224 : decode cX11_next 224 = .ok (.aload_n 0, 1) := by decide +kernel
theorem dX11_next_225 : decode cX11_next 225 = .ok (.getfield 142, 3) := by decide +kernel
theorem dX11_next_228 : decode cX11_next 228 = .ok (.aload_n 0, 1) := by decide +kernel
theorem dX11_next_229 : decode cX11_next 229 = .ok (.getfield 145, 3) := by decide +kernel
theorem dX11_next_232 : decode cX11_next 232 = .ok (.isub, 1) := by decide +kernel
theorem dX11_next_233 : decode cX11_next 233 = .ok (.iconst 3, 1) := by decide +kernel
theorem dX11_next_234 : decode cX11_next 234 = .ok (.if_icmp .ge 26, 3) := by decide +kernel
theorem dX11_next_237 : decode cX11_next 237 = .ok (.aload_n 0, 1) := by decide +kernel
theorem dX11_next_238 : decode cX11_next 238 = .ok (.bipush 10, 2) := by decide +kernel
theorem dX11_next_240 : decode cX11_next 240 = .ok (.aload_n 0, 1) := by decide +kernel
theorem dX11_next_241 : decode cX11_next 241 = .ok (.getfield 170, 3) := by decide +kernel
theorem dX11_next_244 : decode cX11_next 244 = .ok (.imul, 1) := by decide +kernel
theorem dX11_next_245 : decode cX11_next 245 = .ok (.aload_n 0, 1) := by decide +kernel
theorem dX11_next_246 : decode cX11_next 246 = .ok (.aload_n 0, 1) := by decide +kernel
theorem dX11_next_247 : decode cX11_next 247 = .ok (.getfield 142, 3) := by decide +kernel
theorem dX11_next_250 : decode cX11_next 250 = .ok (.invokevirtual 148, 3) := by decide +kernel
theorem dX11_next_253 : decode cX11_next 253 = .ok (.iadd, 1) := by decide +kernel
theorem dX11_next_254 : decode cX11_next 254 = .ok (.bipush 48, 2) := by decide +kernel
theorem dX11_next_256 : decode cX11_next 256 = .ok (.isub, 1) := by decide +kernel
theorem dX11_next_257 : decode cX11_next 257 = .ok (.putfield 170, 3) := by decide +kernel
theorem dX11_next_260 : decode cX11_next 260 = .ok (.aload_n 0, 1) := by decide +kernel
theorem dX11_next_261 : decode cX11_next 261 = .ok (.dup, 1) := by decide +kernel
theorem dX11_next_262 : decode cX11_next 262 = .ok (.getfield 142, 3) := by decide +kernel
theorem dX11_next_265 : decode cX11_next 265 = .ok (.iconst 1, 1) := by decide +kernel
theorem dX11_next_266 : decode cX11_next 266 = .ok (.iadd, 1) := by decide +kernel
theorem dX11_next_267 : decode cX11_next 267 = .ok (.putfield 142, 3) := by decide +kernel
theorem dX11_next_270 : decode cX11_next 270 = .ok (.goto (-60), 3) := by decide +kernel
theorem dX11_next_273 : decode cX11_next 273 = .ok (.aload_n 0, 1) := by decide +kernel
theorem dX11_next_274 : decode cX11_next 274 = .ok (.aload_n 0, 1) := by decide +kernel
theorem dX11_next_275 : decode cX11_next 275 = .ok (.getfield 142, 3) := by decide +kernel
theorem dX11_next_278 : decode cX11_next 278 = .ok (.aload_n 0, 1) := by decide +kernel
theorem dX11_next_279 : decode cX11_next 279 = .ok (.getfield 145, 3) := by decide +kernel
theorem dX11_next_282 : decode cX11_next 282 = .ok (.isub, 1) := by decide +kernel
theorem dX11_next_283 : decode cX11_next 283 = .ok (.iconst 3, 1) := by decide +kernel
theorem dX11_next_284 : decode cX11_next 284 = .ok (.if_icmp .le 7, 3) := by decide +kernel
theorem dX11_next_287 : decode cX11_next 287 = .ok (.iconst 4, 1) := by decide +kernel
theorem dX11_next_288 : decode cX11_next 288 = .ok (.goto 4, 3) := by decide +kernel
theorem dX11_next_291 : decode cX11_next 291 = .ok (.iconst 2, 1) := by decide +kernel
theorem dX11_next_292 : decode cX11_next 292 = .ok (.putfield 151, 3) := by decide +kernel
theorem dX11_next_295 : decode cX11_next 295 = .ok (.goto 33, 3) := by decide +kernel
theorem dX11_next_298 : decode cX11_next 298 = .ok (.aload_n 0, 1) := by decide +kernel
theorem dX11_next_299 : decode cX11_next 299 = .ok (.aload_n 0, 1) := by decide +kernel
theorem dX11_next_300 : decode cX11_next 300 = .ok (.getfield 145, 3) := by decide +kernel
theorem dX11_next_303 : decode cX11_next 303 = .ok (.iconst 1, 1) := by decide +kernel
theorem dX11_next_304 : decode cX11_next 304 = .ok (.iadd, 1) := by decide +kernel
theorem dX11_next_305 : decode cX11_next 305 = .ok (.putfield 142, 3) := by decide +kernel
theorem dX11_next_308 : decode cX11_next 308 = .ok (.aload_n 0, 1) := by decide +kernel
theorem dX11_next_309 : decode cX11_next 309 = .ok (.iload_n 1, 1) := by decide +kernel
theorem dX11_next_310 : decode cX11_next 310 = .ok (.putfield 170, 3) := by decide +kernel
theorem dX11_next_313 : decode cX11_next 313 = .ok (.aload_n 0, 1) := by decide +kernel
theorem dX11_next_314 : decode cX11_next 314 = .ok (.iload_n 1, 1) := by decide +kernel
theorem dX11_next_315 : decode cX11_next 315 = .ok (.bipush 59, 2) := by decide +kernel
theorem dX11_next_317 : decode cX11_next 317 = .ok (.if_icmp .ne 7, 3) := by decide +kernel
theorem dX11_next_320 : decode cX11_next 320 = .ok (.iconst 3, 1) := by decide +kernel
theorem dX11_next_321 : decode cX11_next 321 = .ok (.goto 4, 3) := by decide +kernel
theorem dX11_next_324 : decode cX11_next 324 = .ok (.iconst 4, 1) := by decide +kernel
theorem dX11_next_325 : decode cX11_next 325 = .ok (.putfield 151, 3) := by decide +kernel
theorem dX11_next_328 : decode cX11_next 328 = .ok (.return_, 1) := by decide +kernel
def wb_X11_next_8 (J : HJ) (Post : HI → HJ → Prop) (E8 : HI → Prop) (K8 : HI → Prop) (I : HI) : Prop :=
  ((I 72 9) ≤ (I 72 15) → (E8 I)) ∧ (¬ (I 72 9) ≤ (I 72 15) → (w_X11_look (I 72 15) I J (fun (r_2 : Int32) => ((r_2 = 10 → (∀ I_3 : HI, I_3 = hI I 72 15 ((I 72 15) + 1) → (K8 I_3))) ∧ (¬ r_2 = 10 → (w_X11_look (I 72 15) I J (fun (r_4 : Int32) => ((¬ r_4 = 32 → (E8 I)) ∧ (r_4 = 32 → (∀ I_5 : HI, I_5 = hI I 72 15 ((I 72 15) + 1) → (K8 I_5)))))))))))
set_option maxHeartbeats 4000000 in
set_option maxRecDepth 20000 in
theorem ws_X11_next_8 (g : kf_G) (hg : kf_g g) {x : kf_X} (hx : kf_ok g x RX11 cX11_next 2 1 21) (J : HJ) (Post : HI → HJ → Prop) (hret : ∀ (pc : Nat) (lv : List (Nat × Value)) (Iy : HI) (Jy : HJ), decode cX11_next pc = .ok (.return_, 1) → Post Iy Jy → kf_M g x 2 pc lv [] Iy Jy) (E8 : HI → Prop) (hE8 : ∀ (Iy : HI), E8 Iy → kf_M g x 2 58 [(0, .ref (g.2.2.2 72))] [] Iy J) (K8 : HI → Prop) (hK8 : ∀ (Iy : HI), K8 Iy → kf_M g x 2 8 [(0, .ref (g.2.2.2 72))] [] Iy J) (I : HI) (h : wb_X11_next_8 J Post E8 K8 I) : kf_M g x 2 8 [(0, .ref (g.2.2.2 72))] [] I J := by
  unfold wb_X11_next_8 at h
  refine kf_aload_n hx dX11_next_8 rfl 0 rfl ?_
  refine kf_getI hx sl_72_15 fl_RX11_145 dX11_next_9 ?_
  refine kf_aload_n hx dX11_next_12 rfl 0 rfl ?_
  refine kf_getI hx sl_72_9 fl_RX11_139 dX11_next_13 ?_
  refine kf_icmp_ge hx 58 dX11_next_16 (by decide) (fun c => ?_) (fun c => ?_)
  · replace h := h.1 c
    exact hE8 _ h
  · replace h := h.2 c
    refine kf_aload_n hx dX11_next_19 rfl 0 rfl ?_
    refine kf_aload_n hx dX11_next_20 rfl 0 rfl ?_
    refine kf_getI hx sl_72_15 fl_RX11_145 dX11_next_21 ?_
    refine kf_callViP (st := []) hx (m_X11_look g hg (I 72 15) I J _ h) lk_RX11_148 km_X11_look ob_72 rfl (by decide) rfl (Nat.le_of_ble_eq_true rfl) dX11_next_24 (fun r_2 h => ?_)
    refine kf_bipush (v := 10) hx dX11_next_27 (by decide) ?_
    refine kf_icmp_eq hx 45 dX11_next_29 (by decide) (fun c => ?_) (fun c => ?_)
    · replace h := h.1 c
      refine kf_aload_n hx dX11_next_45 rfl 0 rfl ?_
      refine kf_dup hx dX11_next_46 rfl ?_
      refine kf_getI hx sl_72_15 fl_RX11_145 dX11_next_47 ?_
      refine kf_iconst (v := 1) hx dX11_next_50 (by decide) ?_
      refine kf_iadd hx dX11_next_51 ?_
      refine kf_putI hx sl_72_15 fl_RX11_145 fp_11_15 dX11_next_52 ?_
      refine kf_nmI (fun I_3 eI_3 => ?_)
      replace h := h I_3 eI_3
      refine kf_goto hx 8 dX11_next_55 (by decide) ?_
      exact hK8 _ h
    · replace h := h.2 c
      refine kf_aload_n hx dX11_next_32 rfl 0 rfl ?_
      refine kf_aload_n hx dX11_next_33 rfl 0 rfl ?_
      refine kf_getI hx sl_72_15 fl_RX11_145 dX11_next_34 ?_
      refine kf_callViP (st := []) hx (m_X11_look g hg (I 72 15) I J _ h) lk_RX11_148 km_X11_look ob_72 rfl (by decide) rfl (Nat.le_of_ble_eq_true rfl) dX11_next_37 (fun r_4 h => ?_)
      refine kf_bipush (v := 32) hx dX11_next_40 (by decide) ?_
      refine kf_icmp_ne hx 58 dX11_next_42 (by decide) (fun c => ?_) (fun c => ?_)
      · replace h := h.1 c
        exact hE8 _ h
      · replace h := h.2 c
        refine kf_aload_n hx dX11_next_45 rfl 0 rfl ?_
        refine kf_dup hx dX11_next_46 rfl ?_
        refine kf_getI hx sl_72_15 fl_RX11_145 dX11_next_47 ?_
        refine kf_iconst (v := 1) hx dX11_next_50 (by decide) ?_
        refine kf_iadd hx dX11_next_51 ?_
        refine kf_putI hx sl_72_15 fl_RX11_145 fp_11_15 dX11_next_52 ?_
        refine kf_nmI (fun I_5 eI_5 => ?_)
        replace h := h I_5 eI_5
        refine kf_goto hx 8 dX11_next_55 (by decide) ?_
        exact hK8 _ h
theorem wl_X11_next_8 (g : kf_G) (hg : kf_g g) {x : kf_X} (hx : kf_ok g x RX11 cX11_next 2 1 21) (J : HJ) (Post : HI → HJ → Prop) (hret : ∀ (pc : Nat) (lv : List (Nat × Value)) (Iy : HI) (Jy : HJ), decode cX11_next pc = .ok (.return_, 1) → Post Iy Jy → kf_M g x 2 pc lv [] Iy Jy) (E8 : HI → Prop) (hE8 : ∀ (Iy : HI), E8 Iy → kf_M g x 2 58 [(0, .ref (g.2.2.2 72))] [] Iy J) : ∀ (n : Nat) (I : HI), lp (wb_X11_next_8 J Post E8) n I → kf_M g x 2 8 [(0, .ref (g.2.2.2 72))] [] I J := by
  intro n
  induction n with
  | zero => intro I h; exact h.elim
  | succ n ih => intro I h; exact ws_X11_next_8 g hg hx J Post hret E8 hE8 (lp (wb_X11_next_8 J Post E8) n) ih I h
def wb_X11_next_210 (J : HJ) (Post : HI → HJ → Prop) (E210 : HI → Prop) (K210 : HI → Prop) (I : HI) : Prop :=
  w_X11_look (I 72 16) I J (fun (r_16 : Int32) => (w_X11_isDigit r_16 (fun (r_17 : Bool) => ((r_17 = false → (E210 I)) ∧ (r_17 = true → ((3 ≤ ((I 72 16) - (I 72 15)) → (∀ I_18 : HI, I_18 = hI I 72 16 ((I 72 16) + 1) → (K210 I_18))) ∧ (¬ 3 ≤ ((I 72 16) - (I 72 15)) → (w_X11_look (I 72 16) I J (fun (r_19 : Int32) => (∀ I_20 : HI, I_20 = hI I 72 17 (((10 * (I 72 17)) + r_19) - 48) → (∀ I_21 : HI, I_21 = hI I_20 72 16 ((I_20 72 16) + 1) → (K210 I_21))))))))))))
set_option maxHeartbeats 4000000 in
set_option maxRecDepth 20000 in
theorem ws_X11_next_210 (g : kf_G) (hg : kf_g g) {x : kf_X} (hx : kf_ok g x RX11 cX11_next 2 1 21) (J : HJ) (Post : HI → HJ → Prop) (hret : ∀ (pc : Nat) (lv : List (Nat × Value)) (Iy : HI) (Jy : HJ), decode cX11_next pc = .ok (.return_, 1) → Post Iy Jy → kf_M g x 2 pc lv [] Iy Jy) (E210 : HI → Prop) (hE210 : ∀ (Iy : HI), E210 Iy → kf_M g x 2 273 [(0, .ref (g.2.2.2 72))] [] Iy J) (K210 : HI → Prop) (hK210 : ∀ (Iy : HI), K210 Iy → kf_M g x 2 210 [(0, .ref (g.2.2.2 72))] [] Iy J) (I : HI) (h : wb_X11_next_210 J Post E210 K210 I) : kf_M g x 2 210 [(0, .ref (g.2.2.2 72))] [] I J := by
  unfold wb_X11_next_210 at h
  refine kf_aload_n hx dX11_next_210 rfl 0 rfl ?_
  refine kf_aload_n hx dX11_next_211 rfl 0 rfl ?_
  refine kf_getI hx sl_72_16 fl_RX11_142 dX11_next_212 ?_
  refine kf_callViP (st := []) hx (m_X11_look g hg (I 72 16) I J _ h) lk_RX11_148 km_X11_look ob_72 rfl (by decide) rfl (Nat.le_of_ble_eq_true rfl) dX11_next_215 (fun r_16 h => ?_)
  refine kf_callSbP (st := []) hx (m_X11_isDigit g hg r_16 I J _ h) lk_RX11_167 km_X11_isDigit rfl (by decide) rfl (Nat.le_of_ble_eq_true rfl) dX11_next_218 (fun r_17 h => ?_)
  refine kf_ifB_eq hx 273 dX11_next_221 (by decide) (fun c => ?_) (fun c => ?_)
  · replace h := h.1 c
    exact hE210 _ h
  · replace h := h.2 c
    refine kf_aload_n hx dX11_next_224 rfl 0 rfl ?_
    refine kf_getI hx sl_72_16 fl_RX11_142 dX11_next_225 ?_
    refine kf_aload_n hx dX11_next_228 rfl 0 rfl ?_
    refine kf_getI hx sl_72_15 fl_RX11_145 dX11_next_229 ?_
    refine kf_isub hx dX11_next_232 ?_
    refine kf_iconst (v := 3) hx dX11_next_233 (by decide) ?_
    refine kf_icmp_ge hx 260 dX11_next_234 (by decide) (fun c => ?_) (fun c => ?_)
    · replace h := h.1 c
      refine kf_aload_n hx dX11_next_260 rfl 0 rfl ?_
      refine kf_dup hx dX11_next_261 rfl ?_
      refine kf_getI hx sl_72_16 fl_RX11_142 dX11_next_262 ?_
      refine kf_iconst (v := 1) hx dX11_next_265 (by decide) ?_
      refine kf_iadd hx dX11_next_266 ?_
      refine kf_putI hx sl_72_16 fl_RX11_142 fp_11_16 dX11_next_267 ?_
      refine kf_nmI (fun I_18 eI_18 => ?_)
      replace h := h I_18 eI_18
      refine kf_goto hx 210 dX11_next_270 (by decide) ?_
      exact hK210 _ h
    · replace h := h.2 c
      refine kf_aload_n hx dX11_next_237 rfl 0 rfl ?_
      refine kf_bipush (v := 10) hx dX11_next_238 (by decide) ?_
      refine kf_aload_n hx dX11_next_240 rfl 0 rfl ?_
      refine kf_getI hx sl_72_17 fl_RX11_170 dX11_next_241 ?_
      refine kf_imul hx dX11_next_244 ?_
      refine kf_aload_n hx dX11_next_245 rfl 0 rfl ?_
      refine kf_aload_n hx dX11_next_246 rfl 0 rfl ?_
      refine kf_getI hx sl_72_16 fl_RX11_142 dX11_next_247 ?_
      refine kf_callViP (st := [.int (10 * (I 72 17)), .ref (g.2.2.2 72)]) hx (m_X11_look g hg (I 72 16) I J _ h) lk_RX11_148 km_X11_look ob_72 rfl (by decide) rfl (Nat.le_of_ble_eq_true rfl) dX11_next_250 (fun r_19 h => ?_)
      refine kf_iadd hx dX11_next_253 ?_
      refine kf_bipush (v := 48) hx dX11_next_254 (by decide) ?_
      refine kf_isub hx dX11_next_256 ?_
      refine kf_putI hx sl_72_17 fl_RX11_170 fp_11_17 dX11_next_257 ?_
      refine kf_nmI (fun I_20 eI_20 => ?_)
      replace h := h I_20 eI_20
      refine kf_aload_n hx dX11_next_260 rfl 0 rfl ?_
      refine kf_dup hx dX11_next_261 rfl ?_
      refine kf_getI hx sl_72_16 fl_RX11_142 dX11_next_262 ?_
      refine kf_iconst (v := 1) hx dX11_next_265 (by decide) ?_
      refine kf_iadd hx dX11_next_266 ?_
      refine kf_putI hx sl_72_16 fl_RX11_142 fp_11_16 dX11_next_267 ?_
      refine kf_nmI (fun I_21 eI_21 => ?_)
      replace h := h I_21 eI_21
      refine kf_goto hx 210 dX11_next_270 (by decide) ?_
      exact hK210 _ h
theorem wl_X11_next_210 (g : kf_G) (hg : kf_g g) {x : kf_X} (hx : kf_ok g x RX11 cX11_next 2 1 21) (J : HJ) (Post : HI → HJ → Prop) (hret : ∀ (pc : Nat) (lv : List (Nat × Value)) (Iy : HI) (Jy : HJ), decode cX11_next pc = .ok (.return_, 1) → Post Iy Jy → kf_M g x 2 pc lv [] Iy Jy) (E210 : HI → Prop) (hE210 : ∀ (Iy : HI), E210 Iy → kf_M g x 2 273 [(0, .ref (g.2.2.2 72))] [] Iy J) : ∀ (n : Nat) (I : HI), lp (wb_X11_next_210 J Post E210) n I → kf_M g x 2 210 [(0, .ref (g.2.2.2 72))] [] I J := by
  intro n
  induction n with
  | zero => intro I h; exact h.elim
  | succ n ih => intro I h; exact ws_X11_next_210 g hg hx J Post hret E210 hE210 (lp (wb_X11_next_210 J Post E210) n) ih I h
def wj_X11_next_166 (I : HI) (J : HJ) (t0 : Int64) (E109 : HI → HJ → Prop) (K109 : HI × HJ → Prop) (Post : HI → HJ → Prop) : Prop :=
  ∀ J_29 : HJ, J_29 = hJ J 72 19 t0 → (∀ I_30 : HI, I_30 = hI I 72 16 ((I 72 16) + 1) → (K109 (I_30, J_29)))
set_option maxHeartbeats 4000000 in
set_option maxRecDepth 20000 in
theorem wk_X11_next_166 (g : kf_G) (hg : kf_g g) {x : kf_X} (hx : kf_ok g x RX11 cX11_next 2 1 21) (I : HI) (J : HJ) (t0 : Int64) (E109 : HI → HJ → Prop) (K109 : HI × HJ → Prop) (hE109 : ∀ (Iy : HI) (Jy : HJ), E109 Iy Jy → kf_M g x 2 182 [(0, .ref (g.2.2.2 72))] [] Iy Jy) (hK109 : ∀ (Iy : HI) (Jy : HJ), K109 (Iy, Jy) → kf_M g x 2 109 [(0, .ref (g.2.2.2 72))] [] Iy Jy) (Post : HI → HJ → Prop) (hret : ∀ (pc : Nat) (lv : List (Nat × Value)) (Iy : HI) (Jy : HJ), decode cX11_next pc = .ok (.return_, 1) → Post Iy Jy → kf_M g x 2 pc lv [] Iy Jy) (h : wj_X11_next_166 I J t0 E109 K109 Post) : kf_M g x 2 166 [(0, .ref (g.2.2.2 72))] [.long t0, .ref (g.2.2.2 72)] I J := by
  unfold wj_X11_next_166 at h
  refine kf_putJ hx sl_72_19 fl_RX11_157 fp_11_19 dX11_next_166 ?_
  refine kf_nmJ (fun J_29 eJ_29 => ?_)
  replace h := h J_29 eJ_29
  refine kf_aload_n hx dX11_next_169 rfl 0 rfl ?_
  refine kf_dup hx dX11_next_170 rfl ?_
  refine kf_getI hx sl_72_16 fl_RX11_142 dX11_next_171 ?_
  refine kf_iconst (v := 1) hx dX11_next_174 (by decide) ?_
  refine kf_iadd hx dX11_next_175 ?_
  refine kf_putI hx sl_72_16 fl_RX11_142 fp_11_16 dX11_next_176 ?_
  refine kf_nmI (fun I_30 eI_30 => ?_)
  replace h := h I_30 eI_30
  refine kf_goto hx 109 dX11_next_179 (by decide) ?_
  exact hK109 _ _ h
def wb_X11_next_109  (Post : HI → HJ → Prop) (E109 : HI → HJ → Prop) (K109 : (HI × HJ) → Prop) (s : HI × HJ) : Prop :=
  match s with
  | (I, J) => w_X11_look (I 72 16) I J (fun (r_27 : Int32) => (w_X11_isLetter r_27 (fun (r_28 : Bool) => ((r_28 = false → (E109 I J)) ∧ (r_28 = true → ((8 ≤ ((I 72 16) - (I 72 15)) → (wj_X11_next_166 I J (-1) E109 K109 Post)) ∧ (¬ 8 ≤ ((I 72 16) - (I 72 15)) → (w_X11_look (I 72 16) I J (fun (r_31 : Int32) => (wj_X11_next_166 I J ((((J 72 19) * 32) + (Int32.toInt64 r_31)) - 96) E109 K109 Post))))))))))
set_option maxHeartbeats 4000000 in
set_option maxRecDepth 20000 in
theorem ws_X11_next_109 (g : kf_G) (hg : kf_g g) {x : kf_X} (hx : kf_ok g x RX11 cX11_next 2 1 21)  (Post : HI → HJ → Prop) (hret : ∀ (pc : Nat) (lv : List (Nat × Value)) (Iy : HI) (Jy : HJ), decode cX11_next pc = .ok (.return_, 1) → Post Iy Jy → kf_M g x 2 pc lv [] Iy Jy) (E109 : HI → HJ → Prop) (hE109 : ∀ (Iy : HI) (Jy : HJ), E109 Iy Jy → kf_M g x 2 182 [(0, .ref (g.2.2.2 72))] [] Iy Jy) (K109 : (HI × HJ) → Prop) (hK109 : ∀ (Iy : HI) (Jy : HJ), K109 (Iy, Jy) → kf_M g x 2 109 [(0, .ref (g.2.2.2 72))] [] Iy Jy) (I : HI) (J : HJ) (h : wb_X11_next_109  Post E109 K109 (I, J)) : kf_M g x 2 109 [(0, .ref (g.2.2.2 72))] [] I J := by
  unfold wb_X11_next_109 at h
  refine kf_aload_n hx dX11_next_109 rfl 0 rfl ?_
  refine kf_aload_n hx dX11_next_110 rfl 0 rfl ?_
  refine kf_getI hx sl_72_16 fl_RX11_142 dX11_next_111 ?_
  refine kf_callViP (st := []) hx (m_X11_look g hg (I 72 16) I J _ h) lk_RX11_148 km_X11_look ob_72 rfl (by decide) rfl (Nat.le_of_ble_eq_true rfl) dX11_next_114 (fun r_27 h => ?_)
  refine kf_callSbP (st := []) hx (m_X11_isLetter g hg r_27 I J _ h) lk_RX11_154 km_X11_isLetter rfl (by decide) rfl (Nat.le_of_ble_eq_true rfl) dX11_next_117 (fun r_28 h => ?_)
  refine kf_ifB_eq hx 182 dX11_next_120 (by decide) (fun c => ?_) (fun c => ?_)
  · replace h := h.1 c
    exact hE109 _ _ h
  · replace h := h.2 c
    refine kf_aload_n hx dX11_next_123 rfl 0 rfl ?_
    refine kf_aload_n hx dX11_next_124 rfl 0 rfl ?_
    refine kf_getI hx sl_72_16 fl_RX11_142 dX11_next_125 ?_
    refine kf_aload_n hx dX11_next_128 rfl 0 rfl ?_
    refine kf_getI hx sl_72_15 fl_RX11_145 dX11_next_129 ?_
    refine kf_isub hx dX11_next_132 ?_
    refine kf_bipush (v := 8) hx dX11_next_133 (by decide) ?_
    refine kf_icmp_ge hx 163 dX11_next_135 (by decide) (fun c => ?_) (fun c => ?_)
    · replace h := h.1 c
      refine kf_ldc2 hx ko_RX11_137 dX11_next_163 ?_
      exact wk_X11_next_166 g hg hx I J (-1) _ _ hE109 hK109 _ hret h
    · replace h := h.2 c
      refine kf_aload_n hx dX11_next_138 rfl 0 rfl ?_
      refine kf_getJ hx sl_72_19 fl_RX11_157 dX11_next_139 ?_
      refine kf_ldc2 hx ko_RX11_160 dX11_next_142 ?_
      refine kf_lmul hx dX11_next_145 ?_
      refine kf_aload_n hx dX11_next_146 rfl 0 rfl ?_
      refine kf_aload_n hx dX11_next_147 rfl 0 rfl ?_
      refine kf_getI hx sl_72_16 fl_RX11_142 dX11_next_148 ?_
      refine kf_callViP (st := [.long ((J 72 19) * 32), .ref (g.2.2.2 72)]) hx (m_X11_look g hg (I 72 16) I J _ h) lk_RX11_148 km_X11_look ob_72 rfl (by decide) rfl (Nat.le_of_ble_eq_true rfl) dX11_next_151 (fun r_31 h => ?_)
      refine kf_i2l hx dX11_next_154 ?_
      refine kf_ladd hx dX11_next_155 ?_
      refine kf_ldc2 hx ko_RX11_162 dX11_next_156 ?_
      refine kf_lsub hx dX11_next_159 ?_
      refine kf_goto hx 166 dX11_next_160 (by decide) ?_
      exact wk_X11_next_166 g hg hx I J ((((J 72 19) * 32) + (Int32.toInt64 r_31)) - 96) _ _ hE109 hK109 _ hret h
theorem wl_X11_next_109 (g : kf_G) (hg : kf_g g) {x : kf_X} (hx : kf_ok g x RX11 cX11_next 2 1 21)  (Post : HI → HJ → Prop) (hret : ∀ (pc : Nat) (lv : List (Nat × Value)) (Iy : HI) (Jy : HJ), decode cX11_next pc = .ok (.return_, 1) → Post Iy Jy → kf_M g x 2 pc lv [] Iy Jy) (E109 : HI → HJ → Prop) (hE109 : ∀ (Iy : HI) (Jy : HJ), E109 Iy Jy → kf_M g x 2 182 [(0, .ref (g.2.2.2 72))] [] Iy Jy) : ∀ (n : Nat) (I : HI) (J : HJ), lp (wb_X11_next_109  Post E109) n (I, J) → kf_M g x 2 109 [(0, .ref (g.2.2.2 72))] [] I J := by
  intro n
  induction n with
  | zero => intro I J h; exact h.elim
  | succ n ih => intro I J h; exact ws_X11_next_109 g hg hx Post hret E109 hE109 (lp (wb_X11_next_109  Post E109) n) ih I J h
def w_X11_next  (I : HI) (J : HJ) (Post : HI → HJ → Prop) : Prop :=
  ∀ I_1 : HI, I_1 = hI I 72 15 (I 72 16) → (∃ n, lp (wb_X11_next_8 J Post (fun (I_6 : HI) => ∀ I_7 : HI, I_7 = hI I_6 72 16 (I_6 72 15) → (((I_7 72 15) < (I_7 72 9) → (w_X11_look (I_7 72 15) I_7 J (fun (r_8 : Int32) => (w_X11_isLetter r_8 (fun (r_9 : Bool) => ((r_9 = false → (w_X11_isDigit r_8 (fun (r_10 : Bool) => ((r_10 = false → (∀ I_11 : HI, I_11 = hI I_7 72 16 ((I_7 72 15) + 1) → (∀ I_12 : HI, I_12 = hI I_11 72 17 r_8 → ((¬ r_8 = 59 → (∀ I_13 : HI, I_13 = hI I_12 72 14 4 → (Post I_13 J))) ∧ (r_8 = 59 → (∀ I_14 : HI, I_14 = hI I_12 72 14 3 → (Post I_14 J))))))) ∧ (r_10 = true → (∀ I_15 : HI, I_15 = hI I_7 72 17 0 → (∃ n, lp (wb_X11_next_210 J Post (fun (I_22 : HI) => (((I_22 72 16) - (I_22 72 15)) ≤ 3 → (∀ I_23 : HI, I_23 = hI I_22 72 14 2 → (Post I_23 J))) ∧ (¬ ((I_22 72 16) - (I_22 72 15)) ≤ 3 → (∀ I_24 : HI, I_24 = hI I_22 72 14 4 → (Post I_24 J))))) n I_15))))))) ∧ (r_9 = true → (∀ I_25 : HI, I_25 = hI I_7 72 14 1 → (∀ J_26 : HJ, J_26 = hJ J 72 19 0 → (∃ n, lp (wb_X11_next_109 Post (fun (I_32 : HI) (J_33 : HJ) => ∀ I_34 : HI, I_34 = hI I_32 72 18 ((I_32 72 16) - (I_32 72 15)) → (Post I_34 J_33))) n (I_25, J_26))))))))))) ∧ (¬ (I_7 72 15) < (I_7 72 9) → (∀ I_35 : HI, I_35 = hI I_7 72 14 0 → (Post I_35 J)))))) n I_1)
set_option maxHeartbeats 4000000 in
set_option maxRecDepth 20000 in
theorem we_X11_next (g : kf_G) (hg : kf_g g) {x : kf_X} (hx : kf_ok g x RX11 cX11_next 2 1 21)  (I : HI) (J : HJ) (Post : HI → HJ → Prop) (hret : ∀ (pc : Nat) (lv : List (Nat × Value)) (Iy : HI) (Jy : HJ), decode cX11_next pc = .ok (.return_, 1) → Post Iy Jy → kf_M g x 2 pc lv [] Iy Jy) (h : w_X11_next  I J Post) : kf_M g x 2 0 [(0, .ref (g.2.2.2 72))] [] I J := by
  unfold w_X11_next at h
  refine kf_aload_n hx dX11_next_0 rfl 0 rfl ?_
  refine kf_aload_n hx dX11_next_1 rfl 0 rfl ?_
  refine kf_getI hx sl_72_16 fl_RX11_142 dX11_next_2 ?_
  refine kf_putI hx sl_72_15 fl_RX11_145 fp_11_15 dX11_next_5 ?_
  refine kf_nmI (fun I_1 eI_1 => ?_)
  replace h := h I_1 eI_1
  obtain ⟨n, h⟩ := h
  refine wl_X11_next_8 g hg hx J  _ hret _ (fun I_6 h => ?_) n _ h
  refine kf_aload_n hx dX11_next_58 rfl 0 rfl ?_
  refine kf_aload_n hx dX11_next_59 rfl 0 rfl ?_
  refine kf_getI hx sl_72_15 fl_RX11_145 dX11_next_60 ?_
  refine kf_putI hx sl_72_16 fl_RX11_142 fp_11_16 dX11_next_63 ?_
  refine kf_nmI (fun I_7 eI_7 => ?_)
  replace h := h I_7 eI_7
  refine kf_aload_n hx dX11_next_66 rfl 0 rfl ?_
  refine kf_getI hx sl_72_15 fl_RX11_145 dX11_next_67 ?_
  refine kf_aload_n hx dX11_next_70 rfl 0 rfl ?_
  refine kf_getI hx sl_72_9 fl_RX11_139 dX11_next_71 ?_
  refine kf_icmp_lt hx 83 dX11_next_74 (by decide) (fun c => ?_) (fun c => ?_)
  · replace h := h.1 c
    refine kf_aload_n hx dX11_next_83 rfl 0 rfl ?_
    refine kf_aload_n hx dX11_next_84 rfl 0 rfl ?_
    refine kf_getI hx sl_72_15 fl_RX11_145 dX11_next_85 ?_
    refine kf_callViP (st := []) hx (m_X11_look g hg (I_7 72 15) I_7 J _ h) lk_RX11_148 km_X11_look ob_72 rfl (by decide) rfl (Nat.le_of_ble_eq_true rfl) dX11_next_88 (fun r_8 h => ?_)
    refine kf_istore_n (lv' := [(1, .int r_8), (0, .ref (g.2.2.2 72))]) hx dX11_next_91 rfl (by decide) rfl ?_
    refine kf_iload_n hx dX11_next_92 rfl 0 rfl ?_
    refine kf_callSbP (st := []) hx (m_X11_isLetter g hg r_8 I_7 J _ h) lk_RX11_154 km_X11_isLetter rfl (by decide) rfl (Nat.le_of_ble_eq_true rfl) dX11_next_93 (fun r_9 h => ?_)
    refine kf_ifB_eq hx 198 dX11_next_96 (by decide) (fun c => ?_) (fun c => ?_)
    · replace h := h.1 c
      refine kf_iload_n hx dX11_next_198 rfl 0 rfl ?_
      refine kf_callSbP (st := []) hx (m_X11_isDigit g hg r_8 I_7 J _ h) lk_RX11_167 km_X11_isDigit rfl (by decide) rfl (Nat.le_of_ble_eq_true rfl) dX11_next_199 (fun r_10 h => ?_)
      refine kf_ifB_eq hx 298 dX11_next_202 (by decide) (fun c => ?_) (fun c => ?_)
      · replace h := h.1 c
        refine kf_aload_n hx dX11_next_298 rfl 1 rfl ?_
        refine kf_aload_n hx dX11_next_299 rfl 1 rfl ?_
        refine kf_getI hx sl_72_15 fl_RX11_145 dX11_next_300 ?_
        refine kf_iconst (v := 1) hx dX11_next_303 (by decide) ?_
        refine kf_iadd hx dX11_next_304 ?_
        refine kf_putI hx sl_72_16 fl_RX11_142 fp_11_16 dX11_next_305 ?_
        refine kf_nmI (fun I_11 eI_11 => ?_)
        replace h := h I_11 eI_11
        refine kf_aload_n hx dX11_next_308 rfl 1 rfl ?_
        refine kf_iload_n hx dX11_next_309 rfl 0 rfl ?_
        refine kf_putI hx sl_72_17 fl_RX11_170 fp_11_17 dX11_next_310 ?_
        refine kf_nmI (fun I_12 eI_12 => ?_)
        replace h := h I_12 eI_12
        refine kf_aload_n hx dX11_next_313 rfl 1 rfl ?_
        refine kf_iload_n hx dX11_next_314 rfl 0 rfl ?_
        refine kf_bipush (v := 59) hx dX11_next_315 (by decide) ?_
        refine kf_icmp_ne hx 324 dX11_next_317 (by decide) (fun c => ?_) (fun c => ?_)
        · replace h := h.1 c
          refine kf_iconst (v := 4) hx dX11_next_324 (by decide) ?_
          refine kf_putI hx sl_72_14 fl_RX11_151 fp_11_14 dX11_next_325 ?_
          refine kf_nmI (fun I_13 eI_13 => ?_)
          replace h := h I_13 eI_13
          exact hret _ _ _ _ dX11_next_328 h
        · replace h := h.2 c
          refine kf_iconst (v := 3) hx dX11_next_320 (by decide) ?_
          refine kf_goto hx 325 dX11_next_321 (by decide) ?_
          refine kf_putI hx sl_72_14 fl_RX11_151 fp_11_14 dX11_next_325 ?_
          refine kf_nmI (fun I_14 eI_14 => ?_)
          replace h := h I_14 eI_14
          exact hret _ _ _ _ dX11_next_328 h
      · replace h := h.2 c
        refine kf_aload_n hx dX11_next_205 rfl 1 rfl ?_
        refine kf_iconst (v := 0) hx dX11_next_206 (by decide) ?_
        refine kf_putI hx sl_72_17 fl_RX11_170 fp_11_17 dX11_next_207 ?_
        refine kf_nmI (fun I_15 eI_15 => ?_)
        replace h := h I_15 eI_15
        obtain ⟨n, h⟩ := h
        refine kf_sub [1] rfl ?_
        refine wl_X11_next_210 g hg hx J  _ hret _ (fun I_22 h => ?_) n _ h
        refine kf_aload_n hx dX11_next_273 rfl 0 rfl ?_
        refine kf_aload_n hx dX11_next_274 rfl 0 rfl ?_
        refine kf_getI hx sl_72_16 fl_RX11_142 dX11_next_275 ?_
        refine kf_aload_n hx dX11_next_278 rfl 0 rfl ?_
        refine kf_getI hx sl_72_15 fl_RX11_145 dX11_next_279 ?_
        refine kf_isub hx dX11_next_282 ?_
        refine kf_iconst (v := 3) hx dX11_next_283 (by decide) ?_
        refine kf_icmp_le hx 291 dX11_next_284 (by decide) (fun c => ?_) (fun c => ?_)
        · replace h := h.1 c
          refine kf_iconst (v := 2) hx dX11_next_291 (by decide) ?_
          refine kf_putI hx sl_72_14 fl_RX11_151 fp_11_14 dX11_next_292 ?_
          refine kf_nmI (fun I_23 eI_23 => ?_)
          replace h := h I_23 eI_23
          refine kf_goto hx 328 dX11_next_295 (by decide) ?_
          exact hret _ _ _ _ dX11_next_328 h
        · replace h := h.2 c
          refine kf_iconst (v := 4) hx dX11_next_287 (by decide) ?_
          refine kf_goto hx 292 dX11_next_288 (by decide) ?_
          refine kf_putI hx sl_72_14 fl_RX11_151 fp_11_14 dX11_next_292 ?_
          refine kf_nmI (fun I_24 eI_24 => ?_)
          replace h := h I_24 eI_24
          refine kf_goto hx 328 dX11_next_295 (by decide) ?_
          exact hret _ _ _ _ dX11_next_328 h
    · replace h := h.2 c
      refine kf_aload_n hx dX11_next_99 rfl 1 rfl ?_
      refine kf_iconst (v := 1) hx dX11_next_100 (by decide) ?_
      refine kf_putI hx sl_72_14 fl_RX11_151 fp_11_14 dX11_next_101 ?_
      refine kf_nmI (fun I_25 eI_25 => ?_)
      replace h := h I_25 eI_25
      refine kf_aload_n hx dX11_next_104 rfl 1 rfl ?_
      refine kf_lconst (v := 0) hx dX11_next_105 (by decide) ?_
      refine kf_putJ hx sl_72_19 fl_RX11_157 fp_11_19 dX11_next_106 ?_
      refine kf_nmJ (fun J_26 eJ_26 => ?_)
      replace h := h J_26 eJ_26
      obtain ⟨n, h⟩ := h
      refine kf_sub [1] rfl ?_
      refine wl_X11_next_109 g hg hx   _ hret _ (fun I_32 J_33 h => ?_) n _ _ h
      refine kf_aload_n hx dX11_next_182 rfl 0 rfl ?_
      refine kf_aload_n hx dX11_next_183 rfl 0 rfl ?_
      refine kf_getI hx sl_72_16 fl_RX11_142 dX11_next_184 ?_
      refine kf_aload_n hx dX11_next_187 rfl 0 rfl ?_
      refine kf_getI hx sl_72_15 fl_RX11_145 dX11_next_188 ?_
      refine kf_isub hx dX11_next_191 ?_
      refine kf_putI hx sl_72_18 fl_RX11_164 fp_11_18 dX11_next_192 ?_
      refine kf_nmI (fun I_34 eI_34 => ?_)
      replace h := h I_34 eI_34
      refine kf_goto hx 328 dX11_next_195 (by decide) ?_
      exact hret _ _ _ _ dX11_next_328 h
  · replace h := h.2 c
    refine kf_aload_n hx dX11_next_77 rfl 0 rfl ?_
    refine kf_iconst (v := 0) hx dX11_next_78 (by decide) ?_
    refine kf_putI hx sl_72_14 fl_RX11_151 fp_11_14 dX11_next_79 ?_
    refine kf_nmI (fun I_35 eI_35 => ?_)
    replace h := h I_35 eI_35
    exact hret _ _ _ _ dX11_next_82 h
set_option maxHeartbeats 4000000 in
set_option maxRecDepth 20000 in
theorem m_X11_next (g : kf_G) (hg : kf_g g)  (I : HI) (J : HJ) (Post : HI → HJ → Prop) (h : w_X11_next  I J Post) : kf_Mv g yX11_next (kf_W yX11_next cX11_next 2 (Option.none : Option Jvm.ClassFile.FieldType)) 1 21 [.ref (g.2.2.2 72)] I J Post :=
  kf_entv hg (by decide) (Nat.le_of_ble_eq_true rfl) rfl (fun x hx hr => we_X11_next g hg hx  I J Post (fun pc lv I' J' hd hP => hr pc lv I' J' hd hP) h)
