theorem dX7_hear_0 : decode cX7_hear 0 = .ok (.aload_n 0, 1) := by decide +kernel
theorem dX7_hear_1 : decode cX7_hear 1 = .ok (.getfield 18, 3) := by decide +kernel
theorem dX7_hear_4 : decode cX7_hear 4 = .ok (.iload_n 1, 1) := by decide +kernel
theorem dX7_hear_5 : decode cX7_hear 5 = .ok (.bipush 8, 2) := by decide +kernel
theorem dX7_hear_7 : decode cX7_hear 7 = .ok (.irem, 1) := by decide +kernel
theorem dX7_hear_8 : decode cX7_hear 8 = .ok (.iaload, 1) := by decide +kernel
theorem dX7_hear_9 : decode cX7_hear 9 = .ok (.istore_n 2, 1) := by decide +kernel
theorem dX7_hear_10 : decode cX7_hear 10 = .ok (.aload_n 0, 1) := by decide +kernel
theorem dX7_hear_11 : decode cX7_hear 11 = .ok (.getfield 18, 3) := by decide +kernel
theorem dX7_hear_14 : decode cX7_hear 14 = .ok (.iload_n 1, 1) := by decide +kernel
theorem dX7_hear_15 : decode cX7_hear 15 = .ok (.bipush 8, 2) := by decide +kernel
theorem dX7_hear_17 : decode cX7_hear 17 = .ok (.irem, 1) := by decide +kernel
theorem dX7_hear_18 : decode cX7_hear 18 = .ok (.iconst 0, 1) := by decide +kernel
theorem dX7_hear_19 : decode cX7_hear 19 = .ok (.iastore, 1) := by decide +kernel
theorem dX7_hear_20 : decode cX7_hear 20 = .ok (.aload_n 0, 1) := by decide +kernel
theorem dX7_hear_21 : decode cX7_hear 21 = .ok (.dup, 1) := by decide +kernel
theorem dX7_hear_22 : decode cX7_hear 22 = .ok (.getfield 53, 3) := by decide +kernel
theorem dX7_hear_25 : decode cX7_hear 25 = .ok (.iload_n 2, 1) := by decide +kernel
theorem dX7_hear_26 : decode cX7_hear 26 = .ok (.ior, 1) := by decide +kernel
theorem dX7_hear_27 : decode cX7_hear 27 = .ok (.putfield 53, 3) := by decide +kernel
theorem dX7_hear_30 : decode cX7_hear 30 = .ok (.iconst 0, 1) := by decide +kernel
theorem dX7_hear_31 : decode cX7_hear 31 = .ok (.istore_n 3, 1) := by decide +kernel
theorem dX7_hear_32 : decode cX7_hear 32 = .ok (.iload_n 3, 1) := by decide +kernel
theorem dX7_hear_33 : decode cX7_hear 33 = .ok (.aload_n 0, 1) := by decide +kernel
theorem dX7_hear_34 : decode cX7_hear 34 = .ok (.getfield 21, 3) := by decide +kernel
theorem dX7_hear_37 : decode cX7_hear 37 = .ok (.getfield 66, 3) := by decide +kernel
theorem dX7_hear_40 : decode cX7_hear 40 = .ok (.if_icmp .ge 77, 3) := by decide +kernel
theorem dX7_hear_43 : decode cX7_hear 43 = .ok (.iload_n 2, 1) := by decide +kernel
theorem dX7_hear_44 : decode cX7_hear 44 = .ok (.iload_n 3, 1) := by decide +kernel
theorem dX7_hear_45 : decode cX7_hear 45 = .ok (.ishr, 1) := by decide +kernel
theorem dX7_hear_46 : decode cX7_hear 46 = .ok (.ifCond .eq 71, 3) := by decide +kernel
theorem dX7_hear_49 : decode cX7_hear 49 = .ok (.aload_n 0, 1) := by decide +kernel
theorem dX7_hear_50 : decode cX7_hear 50 = .ok (.getfield 21, 3) := by decide +kernel
theorem dX7_hear_53 : decode cX7_hear 53 = .ok (.getfield 69, 3) := by decide +kernel
theorem dX7_hear_56 : decode cX7_hear 56 = .ok (.iload_n 3, 1) := by decide +kernel
theorem dX7_hear_57 : decode cX7_hear 57 = .ok (.iaload, 1) := by decide +kernel
theorem dX7_hear_58 : decode cX7_hear 58 = .ok (.istore 4, 2) := by decide +kernel
theorem dX7_hear_60 : decode cX7_hear 60 = .ok (.iload_n 2, 1) := by decide +kernel
theorem dX7_hear_61 : decode cX7_hear 61 = .ok (.iload_n 3, 1) := by decide +kernel
theorem dX7_hear_62 : decode cX7_hear 62 = .ok (.invokestatic 72, 3) := by decide +kernel
theorem dX7_hear_65 : decode cX7_hear 65 = .ok (.ifCond .eq 46, 3) := by decide +kernel
theorem dX7_hear_68 : decode cX7_hear 68 = .ok (.aload_n 0, 1) := by decide +kernel
theorem dX7_hear_69 : decode cX7_hear 69 = .ok (.getfield 35, 3) := by decide +kernel
theorem dX7_hear_72 : decode cX7_hear 72 = .ok (.aload_n 0, 1) := by decide +kernel
theorem dX7_hear_73 : decode cX7_hear 73 = .ok (.getfield 21, 3) := by decide +kernel
theorem dX7_hear_76 : decode cX7_hear 76 = .ok (.getfield 76, 3) := by decide +kernel
theorem dX7_hear_79 : decode cX7_hear 79 = .ok (.ior, 1) := by decide +kernel
theorem dX7_hear_80 : decode cX7_hear 80 = .ok (.iload 4, 2) := by decide +kernel
theorem dX7_hear_82 : decode cX7_hear 82 = .ok (.invokestatic 72, 3) := by decide +kernel
theorem dX7_hear_85 : decode cX7_hear 85 = .ok (.ifCond .ne 26, 3) := by decide +kernel
theorem dX7_hear_88 : decode cX7_hear 88 = .ok (.aload_n 0, 1) := by decide +kernel
theorem dX7_hear_89 : decode cX7_hear 89 = .ok (.getfield 21, 3) := by decide +kernel
theorem dX7_hear_92 : decode cX7_hear 92 = .ok (.iload 4, 2) := by decide +kernel
theorem dX7_hear_94 : decode cX7_hear 94 = .ok (.aload_n 0, 1) := by decide +kernel
theorem dX7_hear_95 : decode cX7_hear 95 = .ok (.getfield 53, 3) := by decide +kernel
theorem dX7_hear_98 : decode cX7_hear 98 = .ok (.invokevirtual 79, 3) := by decide +kernel
theorem dX7_hear_101 : decode cX7_hear 101 = .ok (.ifCond .eq 10, 3) := by decide +kernel
theorem dX7_hear_104 : decode cX7_hear 104 = .ok (.aload_n 0, 1) := by decide +kernel
theorem dX7_hear_105 : decode cX7_hear 105 = .ok (.iload 4, 2) := by decide +kernel
theorem dX7_hear_107 : decode cX7_hear 107 = .ok (.iload_n 1, 1) := by decide +kernel
theorem dX7_hear_108 : decode cX7_hear 108 = .ok (.invokevirtual 82, 3) := by decide +kernel
theorem dX7_hear_111 : decode cX7_hear 111 = .ok (.iinc 3 1, 3) := by decide +kernel
theorem dX7_hear_114 : decode cX7_hear 114 = .ok (.goto (-82), 3) := by decide +kernel
theorem dX7_hear_117 : decode cX7_hear 117 = .ok (.return_, 1) := by decide +kernel
def wb_X7_hear_32 (J : HJ) (x1 : Int32) (x2 : Int32) (Post : HI → Prop) (E32 : HI → Prop) (K32 : (Int32 × HI) → Prop) (s : Int32 × HI) : Prop :=
  match s with
  | (x3, I) => ((I 12 12) ≤ x3 → (E32 I)) ∧ (¬ (I 12 12) ≤ x3 → (((x2 >>> (x3 &&& 31)) = 0 → (E32 I)) ∧ (¬ (x2 >>> (x3 &&& 31)) = 0 → (vp_in x3 10 ∧ (w_X10_has x2 x3 (fun (r_4 : Bool) => ((r_4 = false → (K32 ((x3 + 1), I))) ∧ (r_4 = true → (w_X10_has ((I 48 5) ||| (I 12 13)) (I 20 (Int32.toNatClampNeg x3)) (fun (r_5 : Bool) => ((r_5 = true → (K32 ((x3 + 1), I))) ∧ (r_5 = false → (w_X4_isTold (I 20 (Int32.toNatClampNeg x3)) (I 48 9) I J (fun (r_6 : Bool) => ((r_6 = false → (K32 ((x3 + 1), I))) ∧ (r_6 = true → (w_X7_decide (I 20 (Int32.toNatClampNeg x3)) x1 I J (fun (I_7 : HI) => (K32 ((x3 + 1), I_7))))))))))))))))))))
set_option maxHeartbeats 4000000 in
set_option maxRecDepth 20000 in
theorem ws_X7_hear_32 (g : kf_G) (hg : kf_g g) {x : kf_X} (hx : kf_ok g x RX7 cX7_hear 5 2 43) (J : HJ) (x1 : Int32) (x2 : Int32) (Post : HI → Prop) (hret : ∀ (pc : Nat) (lv : List (Nat × Value)) (Iy : HI), decode cX7_hear pc = .ok (.return_, 1) → Post Iy → kf_M g x 5 pc lv [] Iy J) (E32 : HI → Prop) (hE32 : ∀ (Iy : HI), E32 Iy → kf_M g x 5 117 [] [] Iy J) (K32 : (Int32 × HI) → Prop) (hK32 : ∀ (y3 : Int32) (Iy : HI), K32 (y3, Iy) → kf_M g x 5 32 [(0, .ref (g.2.2.2 48)), (1, .int x1), (2, .int x2), (3, .int y3)] [] Iy J) (x3 : Int32) (I : HI) (h : wb_X7_hear_32 J x1 x2 Post E32 K32 (x3, I)) : kf_M g x 5 32 [(0, .ref (g.2.2.2 48)), (1, .int x1), (2, .int x2), (3, .int x3)] [] I J := by
  unfold wb_X7_hear_32 at h
  refine kf_iload_n hx dX7_hear_32 rfl 3 rfl ?_
  refine kf_aload_n hx dX7_hear_33 rfl 0 rfl ?_
  refine kf_getR (n := 12) hx sl_48_0 fl_RX7_21 dX7_hear_34 ?_
  refine kf_getI hx sl_12_12 fl_RX7_66 dX7_hear_37 ?_
  refine kf_icmp_ge hx 117 dX7_hear_40 (by decide) (fun c => ?_) (fun c => ?_)
  · replace h := h.1 c
    refine kf_sub [] rfl ?_
    exact hE32 _ h
  · replace h := h.2 c
    refine kf_iload_n hx dX7_hear_43 rfl 2 rfl ?_
    refine kf_iload_n hx dX7_hear_44 rfl 3 rfl ?_
    refine kf_ishr hx dX7_hear_45 ?_
    refine kf_if_eq hx 117 dX7_hear_46 (by decide) (fun c => ?_) (fun c => ?_)
    · replace h := h.1 c
      refine kf_sub [] rfl ?_
      exact hE32 _ h
    · replace h := h.2 c
      refine kf_aload_n hx dX7_hear_49 rfl 0 rfl ?_
      refine kf_getR (n := 12) hx sl_48_0 fl_RX7_21 dX7_hear_50 ?_
      refine kf_getR (n := 20) hx sl_12_7 fl_RX7_69 dX7_hear_53 ?_
      refine kf_iload_n hx dX7_hear_56 rfl 3 rfl ?_
      refine kf_iald hx ar_20 h.1 dX7_hear_57 ?_
      replace h := h.2
      refine kf_istore (lv' := [(4, .int (I 20 (Int32.toNatClampNeg x3))), (0, .ref (g.2.2.2 48)), (1, .int x1), (2, .int x2), (3, .int x3)]) hx dX7_hear_58 (by decide) rfl ?_
      refine kf_iload_n hx dX7_hear_60 rfl 3 rfl ?_
      refine kf_iload_n hx dX7_hear_61 rfl 4 rfl ?_
      refine kf_callSbP (st := []) hx (m_X10_has g hg x2 x3 I J _ h) lk_RX7_72 km_X10_has rfl (by decide) rfl (Nat.le_of_ble_eq_true rfl) dX7_hear_62 (fun r_4 h => ?_)
      refine kf_ifB_eq hx 111 dX7_hear_65 (by decide) (fun c => ?_) (fun c => ?_)
      · replace h := h.1 c
        refine kf_iinc (w := (x3 + 1)) (lv' := [(3, .int (x3 + 1)), (4, .int (I 20 (Int32.toNatClampNeg x3))), (0, .ref (g.2.2.2 48)), (1, .int x1), (2, .int x2)]) hx dX7_hear_111 4 rfl rfl (by decide) rfl ?_
        refine kf_goto hx 32 dX7_hear_114 (by decide) ?_
        refine kf_sub [2, 3, 4, 0] rfl ?_
        exact hK32 _ _ h
      · replace h := h.2 c
        refine kf_aload_n hx dX7_hear_68 rfl 1 rfl ?_
        refine kf_getI hx sl_48_5 fl_RX7_35 dX7_hear_69 ?_
        refine kf_aload_n hx dX7_hear_72 rfl 1 rfl ?_
        refine kf_getR (n := 12) hx sl_48_0 fl_RX7_21 dX7_hear_73 ?_
        refine kf_getI hx sl_12_13 fl_RX7_76 dX7_hear_76 ?_
        refine kf_ior hx dX7_hear_79 ?_
        refine kf_iload hx dX7_hear_80 0 rfl ?_
        refine kf_callSbP (st := []) hx (m_X10_has g hg ((I 48 5) ||| (I 12 13)) (I 20 (Int32.toNatClampNeg x3)) I J _ h) lk_RX7_72 km_X10_has rfl (by decide) rfl (Nat.le_of_ble_eq_true rfl) dX7_hear_82 (fun r_5 h => ?_)
        refine kf_ifB_ne hx 111 dX7_hear_85 (by decide) (fun c => ?_) (fun c => ?_)
        · replace h := h.1 c
          refine kf_iinc (w := (x3 + 1)) (lv' := [(3, .int (x3 + 1)), (4, .int (I 20 (Int32.toNatClampNeg x3))), (0, .ref (g.2.2.2 48)), (1, .int x1), (2, .int x2)]) hx dX7_hear_111 4 rfl rfl (by decide) rfl ?_
          refine kf_goto hx 32 dX7_hear_114 (by decide) ?_
          refine kf_sub [2, 3, 4, 0] rfl ?_
          exact hK32 _ _ h
        · replace h := h.2 c
          refine kf_aload_n hx dX7_hear_88 rfl 1 rfl ?_
          refine kf_getR (n := 12) hx sl_48_0 fl_RX7_21 dX7_hear_89 ?_
          refine kf_iload hx dX7_hear_92 0 rfl ?_
          refine kf_aload_n hx dX7_hear_94 rfl 1 rfl ?_
          refine kf_getI hx sl_48_9 fl_RX7_53 dX7_hear_95 ?_
          refine kf_callVbP (st := []) hx (m_X4_isTold g hg (I 20 (Int32.toNatClampNeg x3)) (I 48 9) I J _ h) lk_RX7_79 km_X4_isTold ob_12 rfl (by decide) rfl (Nat.le_of_ble_eq_true rfl) dX7_hear_98 (fun r_6 h => ?_)
          refine kf_ifB_eq hx 111 dX7_hear_101 (by decide) (fun c => ?_) (fun c => ?_)
          · replace h := h.1 c
            refine kf_iinc (w := (x3 + 1)) (lv' := [(3, .int (x3 + 1)), (4, .int (I 20 (Int32.toNatClampNeg x3))), (0, .ref (g.2.2.2 48)), (1, .int x1), (2, .int x2)]) hx dX7_hear_111 4 rfl rfl (by decide) rfl ?_
            refine kf_goto hx 32 dX7_hear_114 (by decide) ?_
            refine kf_sub [2, 3, 4, 0] rfl ?_
            exact hK32 _ _ h
          · replace h := h.2 c
            refine kf_aload_n hx dX7_hear_104 rfl 1 rfl ?_
            refine kf_iload hx dX7_hear_105 0 rfl ?_
            refine kf_iload_n hx dX7_hear_107 rfl 2 rfl ?_
            refine kf_callVvI (st := []) hx (m_X7_decide g hg (I 20 (Int32.toNatClampNeg x3)) x1 I J _ h) lk_RX7_82 km_X7_decide ob_48 rfl (by decide) rfl (Nat.le_of_ble_eq_true rfl) dX7_hear_108 (fun I_7 h => ?_)
            refine kf_iinc (w := (x3 + 1)) (lv' := [(3, .int (x3 + 1)), (4, .int (I 20 (Int32.toNatClampNeg x3))), (0, .ref (g.2.2.2 48)), (1, .int x1), (2, .int x2)]) hx dX7_hear_111 4 rfl rfl (by decide) rfl ?_
            refine kf_goto hx 32 dX7_hear_114 (by decide) ?_
            refine kf_sub [2, 3, 4, 0] rfl ?_
            exact hK32 _ _ h
theorem wl_X7_hear_32 (g : kf_G) (hg : kf_g g) {x : kf_X} (hx : kf_ok g x RX7 cX7_hear 5 2 43) (J : HJ) (x1 : Int32) (x2 : Int32) (Post : HI → Prop) (hret : ∀ (pc : Nat) (lv : List (Nat × Value)) (Iy : HI), decode cX7_hear pc = .ok (.return_, 1) → Post Iy → kf_M g x 5 pc lv [] Iy J) (E32 : HI → Prop) (hE32 : ∀ (Iy : HI), E32 Iy → kf_M g x 5 117 [] [] Iy J) : ∀ (n : Nat) (x3 : Int32) (I : HI), lp (wb_X7_hear_32 J x1 x2 Post E32) n (x3, I) → kf_M g x 5 32 [(0, .ref (g.2.2.2 48)), (1, .int x1), (2, .int x2), (3, .int x3)] [] I J := by
  intro n
  induction n with
  | zero => intro x3 I h; exact h.elim
  | succ n ih => intro x3 I h; exact ws_X7_hear_32 g hg hx J x1 x2 Post hret E32 hE32 (lp (wb_X7_hear_32 J x1 x2 Post E32) n) ih x3 I h
def w_X7_hear (x1 : Int32) (I : HI) (J : HJ) (Post : HI → Prop) : Prop :=
  vp_in (x1 - (x1 / 8) * 8) 8 ∧ (∀ z_1 : Int32, z_1 = (I 51 (Int32.toNatClampNeg (x1 - (x1 / 8) * 8))) → (vp_in (x1 - (x1 / 8) * 8) 8 ∧ (∀ I_2 : HI, I_2 = hI I 51 (Int32.toNatClampNeg (x1 - (x1 / 8) * 8)) 0 → (∀ I_3 : HI, I_3 = hI I_2 48 9 ((I_2 48 9) ||| z_1) → (∃ n, lp (wb_X7_hear_32 J x1 z_1 Post (fun (I_8 : HI) => Post I_8)) n (0, I_3))))))
set_option maxHeartbeats 4000000 in
set_option maxRecDepth 20000 in
theorem we_X7_hear (g : kf_G) (hg : kf_g g) {x : kf_X} (hx : kf_ok g x RX7 cX7_hear 5 2 43) (x1 : Int32) (I : HI) (J : HJ) (Post : HI → Prop) (hret : ∀ (pc : Nat) (lv : List (Nat × Value)) (Iy : HI), decode cX7_hear pc = .ok (.return_, 1) → Post Iy → kf_M g x 5 pc lv [] Iy J) (h : w_X7_hear x1 I J Post) : kf_M g x 5 0 [(0, .ref (g.2.2.2 48)), (1, .int x1)] [] I J := by
  unfold w_X7_hear at h
  refine kf_aload_n hx dX7_hear_0 rfl 0 rfl ?_
  refine kf_getR (n := 51) hx sl_48_3 fl_RX7_18 dX7_hear_1 ?_
  refine kf_iload_n hx dX7_hear_4 rfl 1 rfl ?_
  refine kf_bipush (v := 8) hx dX7_hear_5 (by decide) ?_
  refine kf_irem hx dX7_hear_7 (by decide) ?_
  refine kf_iald hx ar_51 h.1 dX7_hear_8 ?_
  replace h := h.2
  refine kf_topi (fun z_1 ez_1 => ?_)
  replace h := h z_1 ez_1
  refine kf_istore_n (lv' := [(2, .int z_1), (0, .ref (g.2.2.2 48)), (1, .int x1)]) hx dX7_hear_9 rfl (by decide) rfl ?_
  refine kf_aload_n hx dX7_hear_10 rfl 1 rfl ?_
  refine kf_getR (n := 51) hx sl_48_3 fl_RX7_18 dX7_hear_11 ?_
  refine kf_iload_n hx dX7_hear_14 rfl 2 rfl ?_
  refine kf_bipush (v := 8) hx dX7_hear_15 (by decide) ?_
  refine kf_irem hx dX7_hear_17 (by decide) ?_
  refine kf_iconst (v := 0) hx dX7_hear_18 (by decide) ?_
  refine kf_iast hx ar_51 h.1 dX7_hear_19 ?_
  replace h := h.2
  refine kf_nmI (fun I_2 eI_2 => ?_)
  replace h := h I_2 eI_2
  refine kf_aload_n hx dX7_hear_20 rfl 1 rfl ?_
  refine kf_dup hx dX7_hear_21 rfl ?_
  refine kf_getI hx sl_48_9 fl_RX7_53 dX7_hear_22 ?_
  refine kf_iload_n hx dX7_hear_25 rfl 0 rfl ?_
  refine kf_ior hx dX7_hear_26 ?_
  refine kf_putI hx sl_48_9 fl_RX7_53 fp_7_9 dX7_hear_27 ?_
  refine kf_nmI (fun I_3 eI_3 => ?_)
  replace h := h I_3 eI_3
  refine kf_iconst (v := 0) hx dX7_hear_30 (by decide) ?_
  refine kf_istore_n (lv' := [(3, .int 0), (2, .int z_1), (0, .ref (g.2.2.2 48)), (1, .int x1)]) hx dX7_hear_31 rfl (by decide) rfl ?_
  obtain ⟨n, h⟩ := h
  refine kf_sub [2, 3, 1, 0] rfl ?_
  refine wl_X7_hear_32 g hg hx J x1 z_1 _ hret _ (fun I_8 h => ?_) n _ _ h
  exact hret _ _ _ dX7_hear_117 h
set_option maxHeartbeats 4000000 in
set_option maxRecDepth 20000 in
theorem m_X7_hear (g : kf_G) (hg : kf_g g) (x1 : Int32) (I : HI) (J : HJ) (Post : HI → Prop) (h : w_X7_hear x1 I J Post) : kf_Mv g yX7_hear (kf_W yX7_hear cX7_hear 5 (Option.none : Option Jvm.ClassFile.FieldType)) 2 43 [.ref (g.2.2.2 48), .int x1] I J (fun I' J' => Post I' ∧ J' = J) :=
  kf_entv hg (by decide) (Nat.le_of_ble_eq_true rfl) rfl (fun x hx hr => we_X7_hear g hg hx x1 I J Post (fun pc lv I' hd hP => hr pc lv I' J hd ⟨hP, rfl⟩) h)
theorem dX7_tell_0 : decode cX7_tell 0 = .ok (.aload_n 0, 1) := by decide +kernel
theorem dX7_tell_1 : decode cX7_tell 1 = .ok (.dup, 1) := by decide +kernel
theorem dX7_tell_2 : decode cX7_tell 2 = .ok (.getfield 56, 3) := by decide +kernel
theorem dX7_tell_5 : decode cX7_tell 5 = .ok (.iload_n 1, 1) := by decide +kernel
theorem dX7_tell_6 : decode cX7_tell 6 = .ok (.ior, 1) := by decide +kernel
theorem dX7_tell_7 : decode cX7_tell 7 = .ok (.putfield 56, 3) := by decide +kernel
theorem dX7_tell_10 : decode cX7_tell 10 = .ok (.iconst 0, 1) := by decide +kernel
theorem dX7_tell_11 : decode cX7_tell 11 = .ok (.istore_n 3, 1) := by decide +kernel
theorem dX7_tell_12 : decode cX7_tell 12 = .ok (.iload_n 3, 1) := by decide +kernel
theorem dX7_tell_13 : decode cX7_tell 13 = .ok (.aload_n 0, 1) := by decide +kernel
theorem dX7_tell_14 : decode cX7_tell 14 = .ok (.getfield 21, 3) := by decide +kernel
theorem dX7_tell_17 : decode cX7_tell 17 = .ok (.getfield 66, 3) := by decide +kernel
theorem dX7_tell_20 : decode cX7_tell 20 = .ok (.if_icmp .ge 48, 3) := by decide +kernel
theorem dX7_tell_23 : decode cX7_tell 23 = .ok (.iload_n 1, 1) := by decide +kernel
theorem dX7_tell_24 : decode cX7_tell 24 = .ok (.iload_n 3, 1) := by decide +kernel
theorem dX7_tell_25 : decode cX7_tell 25 = .ok (.ishr, 1) := by decide +kernel
theorem dX7_tell_26 : decode cX7_tell 26 = .ok (.ifCond .eq 42, 3) := by decide +kernel
theorem dX7_tell_29 : decode cX7_tell 29 = .ok (.iload_n 1, 1) := by decide +kernel
theorem dX7_tell_30 : decode cX7_tell 30 = .ok (.iload_n 3, 1) := by decide +kernel
theorem dX7_tell_31 : decode cX7_tell 31 = .ok (.invokestatic 72, 3) := by decide +kernel
theorem dX7_tell_34 : decode cX7_tell 34 = .ok (.ifCond .eq 28, 3) := by decide +kernel
theorem dX7_tell_37 : decode cX7_tell 37 = .ok (.aload_n 0, 1) := by decide +kernel
theorem dX7_tell_38 : decode cX7_tell 38 = .ok (.getfield 18, 3) := by decide +kernel
theorem dX7_tell_41 : decode cX7_tell 41 = .ok (.iload_n 2, 1) := by decide +kernel
theorem dX7_tell_42 : decode cX7_tell 42 = .ok (.aload_n 0, 1) := by decide +kernel
theorem dX7_tell_43 : decode cX7_tell 43 = .ok (.getfield 21, 3) := by decide +kernel
theorem dX7_tell_46 : decode cX7_tell 46 = .ok (.getfield 106, 3) := by decide +kernel
theorem dX7_tell_49 : decode cX7_tell 49 = .ok (.iload_n 3, 1) := by decide +kernel
theorem dX7_tell_50 : decode cX7_tell 50 = .ok (.iaload, 1) := by decide +kernel
theorem dX7_tell_51 : decode cX7_tell 51 = .ok (.iadd, 1) := by decide +kernel
theorem dX7_tell_52 : decode cX7_tell 52 = .ok (.bipush 8, 2) := by decide +kernel
theorem dX7_tell_54 : decode cX7_tell 54 = .ok (.irem, 1) := by decide +kernel
theorem dX7_tell_55 : decode cX7_tell 55 = .ok (.dup2, 1) := by decide +kernel
theorem dX7_tell_56 : decode cX7_tell 56 = .ok (.iaload, 1) := by decide +kernel
theorem dX7_tell_57 : decode cX7_tell 57 = .ok (.iconst 1, 1) := by decide +kernel
theorem dX7_tell_58 : decode cX7_tell 58 = .ok (.iload_n 3, 1) := by decide +kernel
theorem dX7_tell_59 : decode cX7_tell 59 = .ok (.ishl, 1) := by decide +kernel
theorem dX7_tell_60 : decode cX7_tell 60 = .ok (.ior, 1) := by decide +kernel
theorem dX7_tell_61 : decode cX7_tell 61 = .ok (.iastore, 1) := by decide +kernel
theorem dX7_tell_62 : decode cX7_tell 62 = .ok (.iinc 3 1, 3) := by decide +kernel
theorem dX7_tell_65 : decode cX7_tell 65 = .ok (.goto (-53), 3) := by decide +kernel
theorem dX7_tell_68 : decode cX7_tell 68 = .ok (.return_, 1) := by decide +kernel
def wb_X7_tell_12 (J : HJ) (x1 : Int32) (x2 : Int32) (Post : HI → Prop) (E12 : HI → Prop) (K12 : (Int32 × HI) → Prop) (s : Int32 × HI) : Prop :=
  match s with
  | (x3, I) => ((I 12 12) ≤ x3 → (E12 I)) ∧ (¬ (I 12 12) ≤ x3 → (((x1 >>> (x3 &&& 31)) = 0 → (E12 I)) ∧ (¬ (x1 >>> (x3 &&& 31)) = 0 → (w_X10_has x1 x3 (fun (r_2 : Bool) => ((r_2 = false → (K12 ((x3 + 1), I))) ∧ (r_2 = true → (vp_in x3 10 ∧ (vp_in ((x2 + (I 22 (Int32.toNatClampNeg x3))) - ((x2 + (I 22 (Int32.toNatClampNeg x3))) / 8) * 8) 8 ∧ (vp_in ((x2 + (I 22 (Int32.toNatClampNeg x3))) - ((x2 + (I 22 (Int32.toNatClampNeg x3))) / 8) * 8) 8 ∧ (∀ I_3 : HI, I_3 = hI I 51 (Int32.toNatClampNeg ((x2 + (I 22 (Int32.toNatClampNeg x3))) - ((x2 + (I 22 (Int32.toNatClampNeg x3))) / 8) * 8)) ((I 51 (Int32.toNatClampNeg ((x2 + (I 22 (Int32.toNatClampNeg x3))) - ((x2 + (I 22 (Int32.toNatClampNeg x3))) / 8) * 8))) ||| (1 <<< (x3 &&& 31))) → (K12 ((x3 + 1), I_3)))))))))))))
set_option maxHeartbeats 4000000 in
set_option maxRecDepth 20000 in
theorem ws_X7_tell_12 (g : kf_G) (hg : kf_g g) {x : kf_X} (hx : kf_ok g x RX7 cX7_tell 4 1 21) (J : HJ) (x1 : Int32) (x2 : Int32) (Post : HI → Prop) (hret : ∀ (pc : Nat) (lv : List (Nat × Value)) (Iy : HI), decode cX7_tell pc = .ok (.return_, 1) → Post Iy → kf_M g x 4 pc lv [] Iy J) (E12 : HI → Prop) (hE12 : ∀ (Iy : HI), E12 Iy → kf_M g x 4 68 [] [] Iy J) (K12 : (Int32 × HI) → Prop) (hK12 : ∀ (y3 : Int32) (Iy : HI), K12 (y3, Iy) → kf_M g x 4 12 [(0, .ref (g.2.2.2 48)), (1, .int x1), (2, .int x2), (3, .int y3)] [] Iy J) (x3 : Int32) (I : HI) (h : wb_X7_tell_12 J x1 x2 Post E12 K12 (x3, I)) : kf_M g x 4 12 [(0, .ref (g.2.2.2 48)), (1, .int x1), (2, .int x2), (3, .int x3)] [] I J := by
  unfold wb_X7_tell_12 at h
  refine kf_iload_n hx dX7_tell_12 rfl 3 rfl ?_
  refine kf_aload_n hx dX7_tell_13 rfl 0 rfl ?_
  refine kf_getR (n := 12) hx sl_48_0 fl_RX7_21 dX7_tell_14 ?_
  refine kf_getI hx sl_12_12 fl_RX7_66 dX7_tell_17 ?_
  refine kf_icmp_ge hx 68 dX7_tell_20 (by decide) (fun c => ?_) (fun c => ?_)
  · replace h := h.1 c
    refine kf_sub [] rfl ?_
    exact hE12 _ h
  · replace h := h.2 c
    refine kf_iload_n hx dX7_tell_23 rfl 1 rfl ?_
    refine kf_iload_n hx dX7_tell_24 rfl 3 rfl ?_
    refine kf_ishr hx dX7_tell_25 ?_
    refine kf_if_eq hx 68 dX7_tell_26 (by decide) (fun c => ?_) (fun c => ?_)
    · replace h := h.1 c
      refine kf_sub [] rfl ?_
      exact hE12 _ h
    · replace h := h.2 c
      refine kf_iload_n hx dX7_tell_29 rfl 1 rfl ?_
      refine kf_iload_n hx dX7_tell_30 rfl 3 rfl ?_
      refine kf_callSbP (st := []) hx (m_X10_has g hg x1 x3 I J _ h) lk_RX7_72 km_X10_has rfl (by decide) rfl (Nat.le_of_ble_eq_true rfl) dX7_tell_31 (fun r_2 h => ?_)
      refine kf_ifB_eq hx 62 dX7_tell_34 (by decide) (fun c => ?_) (fun c => ?_)
      · replace h := h.1 c
        refine kf_iinc (w := (x3 + 1)) (lv' := [(3, .int (x3 + 1)), (0, .ref (g.2.2.2 48)), (1, .int x1), (2, .int x2)]) hx dX7_tell_62 3 rfl rfl (by decide) rfl ?_
        refine kf_goto hx 12 dX7_tell_65 (by decide) ?_
        refine kf_sub [1, 2, 3, 0] rfl ?_
        exact hK12 _ _ h
      · replace h := h.2 c
        refine kf_aload_n hx dX7_tell_37 rfl 0 rfl ?_
        refine kf_getR (n := 51) hx sl_48_3 fl_RX7_18 dX7_tell_38 ?_
        refine kf_iload_n hx dX7_tell_41 rfl 2 rfl ?_
        refine kf_aload_n hx dX7_tell_42 rfl 0 rfl ?_
        refine kf_getR (n := 12) hx sl_48_0 fl_RX7_21 dX7_tell_43 ?_
        refine kf_getR (n := 22) hx sl_12_9 fl_RX7_106 dX7_tell_46 ?_
        refine kf_iload_n hx dX7_tell_49 rfl 3 rfl ?_
        refine kf_iald hx ar_22 h.1 dX7_tell_50 ?_
        replace h := h.2
        refine kf_iadd hx dX7_tell_51 ?_
        refine kf_bipush (v := 8) hx dX7_tell_52 (by decide) ?_
        refine kf_irem hx dX7_tell_54 (by decide) ?_
        refine kf_dup2 hx dX7_tell_55 rfl rfl ?_
        refine kf_iald hx ar_51 h.1 dX7_tell_56 ?_
        replace h := h.2
        refine kf_iconst (v := 1) hx dX7_tell_57 (by decide) ?_
        refine kf_iload_n hx dX7_tell_58 rfl 3 rfl ?_
        refine kf_ishl hx dX7_tell_59 ?_
        refine kf_ior hx dX7_tell_60 ?_
        refine kf_iast hx ar_51 h.1 dX7_tell_61 ?_
        replace h := h.2
        refine kf_nmI (fun I_3 eI_3 => ?_)
        replace h := h I_3 eI_3
        refine kf_iinc (w := (x3 + 1)) (lv' := [(3, .int (x3 + 1)), (0, .ref (g.2.2.2 48)), (1, .int x1), (2, .int x2)]) hx dX7_tell_62 3 rfl rfl (by decide) rfl ?_
        refine kf_goto hx 12 dX7_tell_65 (by decide) ?_
        refine kf_sub [1, 2, 3, 0] rfl ?_
        exact hK12 _ _ h
theorem wl_X7_tell_12 (g : kf_G) (hg : kf_g g) {x : kf_X} (hx : kf_ok g x RX7 cX7_tell 4 1 21) (J : HJ) (x1 : Int32) (x2 : Int32) (Post : HI → Prop) (hret : ∀ (pc : Nat) (lv : List (Nat × Value)) (Iy : HI), decode cX7_tell pc = .ok (.return_, 1) → Post Iy → kf_M g x 4 pc lv [] Iy J) (E12 : HI → Prop) (hE12 : ∀ (Iy : HI), E12 Iy → kf_M g x 4 68 [] [] Iy J) : ∀ (n : Nat) (x3 : Int32) (I : HI), lp (wb_X7_tell_12 J x1 x2 Post E12) n (x3, I) → kf_M g x 4 12 [(0, .ref (g.2.2.2 48)), (1, .int x1), (2, .int x2), (3, .int x3)] [] I J := by
  intro n
  induction n with
  | zero => intro x3 I h; exact h.elim
  | succ n ih => intro x3 I h; exact ws_X7_tell_12 g hg hx J x1 x2 Post hret E12 hE12 (lp (wb_X7_tell_12 J x1 x2 Post E12) n) ih x3 I h
def w_X7_tell (x1 : Int32) (x2 : Int32) (I : HI) (J : HJ) (Post : HI → Prop) : Prop :=
  ∀ I_1 : HI, I_1 = hI I 48 10 ((I 48 10) ||| x1) → (∃ n, lp (wb_X7_tell_12 J x1 x2 Post (fun (I_4 : HI) => Post I_4)) n (0, I_1))
set_option maxHeartbeats 4000000 in
set_option maxRecDepth 20000 in
theorem we_X7_tell (g : kf_G) (hg : kf_g g) {x : kf_X} (hx : kf_ok g x RX7 cX7_tell 4 1 21) (x1 : Int32) (x2 : Int32) (I : HI) (J : HJ) (Post : HI → Prop) (hret : ∀ (pc : Nat) (lv : List (Nat × Value)) (Iy : HI), decode cX7_tell pc = .ok (.return_, 1) → Post Iy → kf_M g x 4 pc lv [] Iy J) (h : w_X7_tell x1 x2 I J Post) : kf_M g x 4 0 [(0, .ref (g.2.2.2 48)), (1, .int x1), (2, .int x2)] [] I J := by
  unfold w_X7_tell at h
  refine kf_aload_n hx dX7_tell_0 rfl 0 rfl ?_
  refine kf_dup hx dX7_tell_1 rfl ?_
  refine kf_getI hx sl_48_10 fl_RX7_56 dX7_tell_2 ?_
  refine kf_iload_n hx dX7_tell_5 rfl 1 rfl ?_
  refine kf_ior hx dX7_tell_6 ?_
  refine kf_putI hx sl_48_10 fl_RX7_56 fp_7_10 dX7_tell_7 ?_
  refine kf_nmI (fun I_1 eI_1 => ?_)
  replace h := h I_1 eI_1
  refine kf_iconst (v := 0) hx dX7_tell_10 (by decide) ?_
  refine kf_istore_n (lv' := [(3, .int 0), (0, .ref (g.2.2.2 48)), (1, .int x1), (2, .int x2)]) hx dX7_tell_11 rfl (by decide) rfl ?_
  obtain ⟨n, h⟩ := h
  refine kf_sub [1, 2, 3, 0] rfl ?_
  refine wl_X7_tell_12 g hg hx J x1 x2 _ hret _ (fun I_4 h => ?_) n _ _ h
  exact hret _ _ _ dX7_tell_68 h
set_option maxHeartbeats 4000000 in
set_option maxRecDepth 20000 in
theorem m_X7_tell (g : kf_G) (hg : kf_g g) (x1 : Int32) (x2 : Int32) (I : HI) (J : HJ) (Post : HI → Prop) (h : w_X7_tell x1 x2 I J Post) : kf_Mv g yX7_tell (kf_W yX7_tell cX7_tell 4 (Option.none : Option Jvm.ClassFile.FieldType)) 1 21 [.ref (g.2.2.2 48), .int x1, .int x2] I J (fun I' J' => Post I' ∧ J' = J) :=
  kf_entv hg (by decide) (Nat.le_of_ble_eq_true rfl) rfl (fun x hx hr => we_X7_tell g hg hx x1 x2 I J Post (fun pc lv I' hd hP => hr pc lv I' J hd ⟨hP, rfl⟩) h)
theorem dX7_take_0 : decode cX7_take 0 = .ok (.aload_n 0, 1) := by decide +kernel
theorem dX7_take_1 : decode cX7_take 1 = .ok (.getfield 15, 3) := by decide +kernel
theorem dX7_take_4 : decode cX7_take 4 = .ok (.iload_n 1, 1) := by decide +kernel
theorem dX7_take_5 : decode cX7_take 5 = .ok (.bipush 8, 2) := by decide +kernel
theorem dX7_take_7 : decode cX7_take 7 = .ok (.irem, 1) := by decide +kernel
theorem dX7_take_8 : decode cX7_take 8 = .ok (.iaload, 1) := by decide +kernel
theorem dX7_take_9 : decode cX7_take 9 = .ok (.istore_n 2, 1) := by decide +kernel
theorem dX7_take_10 : decode cX7_take 10 = .ok (.aload_n 0, 1) := by decide +kernel
theorem dX7_take_11 : decode cX7_take 11 = .ok (.getfield 15, 3) := by decide +kernel
theorem dX7_take_14 : decode cX7_take 14 = .ok (.iload_n 1, 1) := by decide +kernel
theorem dX7_take_15 : decode cX7_take 15 = .ok (.bipush 8, 2) := by decide +kernel
theorem dX7_take_17 : decode cX7_take 17 = .ok (.irem, 1) := by decide +kernel
theorem dX7_take_18 : decode cX7_take 18 = .ok (.iconst 0, 1) := by decide +kernel
theorem dX7_take_19 : decode cX7_take 19 = .ok (.iastore, 1) := by decide +kernel
theorem dX7_take_20 : decode cX7_take 20 = .ok (.aload_n 0, 1) := by decide +kernel
theorem dX7_take_21 : decode cX7_take 21 = .ok (.dup, 1) := by decide +kernel
theorem dX7_take_22 : decode cX7_take 22 = .ok (.getfield 50, 3) := by decide +kernel
theorem dX7_take_25 : decode cX7_take 25 = .ok (.iload_n 2, 1) := by decide +kernel
theorem dX7_take_26 : decode cX7_take 26 = .ok (.ior, 1) := by decide +kernel
theorem dX7_take_27 : decode cX7_take 27 = .ok (.putfield 50, 3) := by decide +kernel
theorem dX7_take_30 : decode cX7_take 30 = .ok (.iconst 0, 1) := by decide +kernel
theorem dX7_take_31 : decode cX7_take 31 = .ok (.istore_n 3, 1) := by decide +kernel
theorem dX7_take_32 : decode cX7_take 32 = .ok (.iload_n 3, 1) := by decide +kernel
theorem dX7_take_33 : decode cX7_take 33 = .ok (.aload_n 0, 1) := by decide +kernel
theorem dX7_take_34 : decode cX7_take 34 = .ok (.getfield 21, 3) := by decide +kernel
theorem dX7_take_37 : decode cX7_take 37 = .ok (.getfield 100, 3) := by decide +kernel
theorem dX7_take_40 : decode cX7_take 40 = .ok (.if_icmp .ge 49, 3) := by decide +kernel
theorem dX7_take_43 : decode cX7_take 43 = .ok (.iload_n 2, 1) := by decide +kernel
theorem dX7_take_44 : decode cX7_take 44 = .ok (.iload_n 3, 1) := by decide +kernel
theorem dX7_take_45 : decode cX7_take 45 = .ok (.ishr, 1) := by decide +kernel
theorem dX7_take_46 : decode cX7_take 46 = .ok (.ifCond .eq 43, 3) := by decide +kernel
theorem dX7_take_49 : decode cX7_take 49 = .ok (.iload_n 2, 1) := by decide +kernel
theorem dX7_take_50 : decode cX7_take 50 = .ok (.iload_n 3, 1) := by decide +kernel
theorem dX7_take_51 : decode cX7_take 51 = .ok (.invokestatic 72, 3) := by decide +kernel
theorem dX7_take_54 : decode cX7_take 54 = .ok (.ifCond .eq 29, 3) := by decide +kernel
theorem dX7_take_57 : decode cX7_take 57 = .ok (.aload_n 0, 1) := by decide +kernel
theorem dX7_take_58 : decode cX7_take 58 = .ok (.getfield 9, 3) := by decide +kernel
theorem dX7_take_61 : decode cX7_take 61 = .ok (.iload_n 3, 1) := by decide +kernel
theorem dX7_take_62 : decode cX7_take 62 = .ok (.iload_n 1, 1) := by decide +kernel
theorem dX7_take_63 : decode cX7_take 63 = .ok (.iastore, 1) := by decide +kernel
theorem dX7_take_64 : decode cX7_take 64 = .ok (.aload_n 0, 1) := by decide +kernel
theorem dX7_take_65 : decode cX7_take 65 = .ok (.aload_n 0, 1) := by decide +kernel
theorem dX7_take_66 : decode cX7_take 66 = .ok (.getfield 21, 3) := by decide +kernel
theorem dX7_take_69 : decode cX7_take 69 = .ok (.getfield 94, 3) := by decide +kernel
theorem dX7_take_72 : decode cX7_take 72 = .ok (.iload_n 3, 1) := by decide +kernel
theorem dX7_take_73 : decode cX7_take 73 = .ok (.iaload, 1) := by decide +kernel
theorem dX7_take_74 : decode cX7_take 74 = .ok (.aload_n 0, 1) := by decide +kernel
theorem dX7_take_75 : decode cX7_take 75 = .ok (.getfield 31, 3) := by decide +kernel
theorem dX7_take_78 : decode cX7_take 78 = .ok (.iand, 1) := by decide +kernel
theorem dX7_take_79 : decode cX7_take 79 = .ok (.iload_n 1, 1) := by decide +kernel
theorem dX7_take_80 : decode cX7_take 80 = .ok (.invokevirtual 103, 3) := by decide +kernel
theorem dX7_take_83 : decode cX7_take 83 = .ok (.iinc 3 1, 3) := by decide +kernel
theorem dX7_take_86 : decode cX7_take 86 = .ok (.goto (-54), 3) := by decide +kernel
theorem dX7_take_89 : decode cX7_take 89 = .ok (.return_, 1) := by decide +kernel
def wb_X7_take_32 (J : HJ) (x1 : Int32) (x2 : Int32) (Post : HI → Prop) (E32 : HI → Prop) (K32 : (Int32 × HI) → Prop) (s : Int32 × HI) : Prop :=
  match s with
  | (x3, I) => ((I 12 11) ≤ x3 → (E32 I)) ∧ (¬ (I 12 11) ≤ x3 → (((x2 >>> (x3 &&& 31)) = 0 → (E32 I)) ∧ (¬ (x2 >>> (x3 &&& 31)) = 0 → (w_X10_has x2 x3 (fun (r_4 : Bool) => ((r_4 = false → (K32 ((x3 + 1), I))) ∧ (r_4 = true → (vp_in x3 12 ∧ (∀ I_5 : HI, I_5 = hI I 49 (Int32.toNatClampNeg x3) x1 → (vp_in x3 12 ∧ (w_X7_tell ((I_5 18 (Int32.toNatClampNeg x3)) &&& (I_5 48 4)) x1 I_5 J (fun (I_6 : HI) => (K32 ((x3 + 1), I_6))))))))))))))
set_option maxHeartbeats 4000000 in
set_option maxRecDepth 20000 in
theorem ws_X7_take_32 (g : kf_G) (hg : kf_g g) {x : kf_X} (hx : kf_ok g x RX7 cX7_take 4 2 44) (J : HJ) (x1 : Int32) (x2 : Int32) (Post : HI → Prop) (hret : ∀ (pc : Nat) (lv : List (Nat × Value)) (Iy : HI), decode cX7_take pc = .ok (.return_, 1) → Post Iy → kf_M g x 4 pc lv [] Iy J) (E32 : HI → Prop) (hE32 : ∀ (Iy : HI), E32 Iy → kf_M g x 4 89 [] [] Iy J) (K32 : (Int32 × HI) → Prop) (hK32 : ∀ (y3 : Int32) (Iy : HI), K32 (y3, Iy) → kf_M g x 4 32 [(0, .ref (g.2.2.2 48)), (1, .int x1), (2, .int x2), (3, .int y3)] [] Iy J) (x3 : Int32) (I : HI) (h : wb_X7_take_32 J x1 x2 Post E32 K32 (x3, I)) : kf_M g x 4 32 [(0, .ref (g.2.2.2 48)), (1, .int x1), (2, .int x2), (3, .int x3)] [] I J := by
  unfold wb_X7_take_32 at h
  refine kf_iload_n hx dX7_take_32 rfl 3 rfl ?_
  refine kf_aload_n hx dX7_take_33 rfl 0 rfl ?_
  refine kf_getR (n := 12) hx sl_48_0 fl_RX7_21 dX7_take_34 ?_
  refine kf_getI hx sl_12_11 fl_RX7_100 dX7_take_37 ?_
  refine kf_icmp_ge hx 89 dX7_take_40 (by decide) (fun c => ?_) (fun c => ?_)
  · replace h := h.1 c
    refine kf_sub [] rfl ?_
    exact hE32 _ h
  · replace h := h.2 c
    refine kf_iload_n hx dX7_take_43 rfl 2 rfl ?_
    refine kf_iload_n hx dX7_take_44 rfl 3 rfl ?_
    refine kf_ishr hx dX7_take_45 ?_
    refine kf_if_eq hx 89 dX7_take_46 (by decide) (fun c => ?_) (fun c => ?_)
    · replace h := h.1 c
      refine kf_sub [] rfl ?_
      exact hE32 _ h
    · replace h := h.2 c
      refine kf_iload_n hx dX7_take_49 rfl 2 rfl ?_
      refine kf_iload_n hx dX7_take_50 rfl 3 rfl ?_
      refine kf_callSbP (st := []) hx (m_X10_has g hg x2 x3 I J _ h) lk_RX7_72 km_X10_has rfl (by decide) rfl (Nat.le_of_ble_eq_true rfl) dX7_take_51 (fun r_4 h => ?_)
      refine kf_ifB_eq hx 83 dX7_take_54 (by decide) (fun c => ?_) (fun c => ?_)
      · replace h := h.1 c
        refine kf_iinc (w := (x3 + 1)) (lv' := [(3, .int (x3 + 1)), (0, .ref (g.2.2.2 48)), (1, .int x1), (2, .int x2)]) hx dX7_take_83 3 rfl rfl (by decide) rfl ?_
        refine kf_goto hx 32 dX7_take_86 (by decide) ?_
        refine kf_sub [1, 2, 3, 0] rfl ?_
        exact hK32 _ _ h
      · replace h := h.2 c
        refine kf_aload_n hx dX7_take_57 rfl 0 rfl ?_
        refine kf_getR (n := 49) hx sl_48_1 fl_RX7_9 dX7_take_58 ?_
        refine kf_iload_n hx dX7_take_61 rfl 3 rfl ?_
        refine kf_iload_n hx dX7_take_62 rfl 1 rfl ?_
        refine kf_iast hx ar_49 h.1 dX7_take_63 ?_
        replace h := h.2
        refine kf_nmI (fun I_5 eI_5 => ?_)
        replace h := h I_5 eI_5
        refine kf_aload_n hx dX7_take_64 rfl 0 rfl ?_
        refine kf_aload_n hx dX7_take_65 rfl 0 rfl ?_
        refine kf_getR (n := 12) hx sl_48_0 fl_RX7_21 dX7_take_66 ?_
        refine kf_getR (n := 18) hx sl_12_5 fl_RX7_94 dX7_take_69 ?_
        refine kf_iload_n hx dX7_take_72 rfl 3 rfl ?_
        refine kf_iald hx ar_18 h.1 dX7_take_73 ?_
        replace h := h.2
        refine kf_aload_n hx dX7_take_74 rfl 0 rfl ?_
        refine kf_getI hx sl_48_4 fl_RX7_31 dX7_take_75 ?_
        refine kf_iand hx dX7_take_78 ?_
        refine kf_iload_n hx dX7_take_79 rfl 1 rfl ?_
        refine kf_callVvI (st := []) hx (m_X7_tell g hg ((I_5 18 (Int32.toNatClampNeg x3)) &&& (I_5 48 4)) x1 I_5 J _ h) lk_RX7_103 km_X7_tell ob_48 rfl (by decide) rfl (Nat.le_of_ble_eq_true rfl) dX7_take_80 (fun I_6 h => ?_)
        refine kf_iinc (w := (x3 + 1)) (lv' := [(3, .int (x3 + 1)), (0, .ref (g.2.2.2 48)), (1, .int x1), (2, .int x2)]) hx dX7_take_83 3 rfl rfl (by decide) rfl ?_
        refine kf_goto hx 32 dX7_take_86 (by decide) ?_
        refine kf_sub [1, 2, 3, 0] rfl ?_
        exact hK32 _ _ h
theorem wl_X7_take_32 (g : kf_G) (hg : kf_g g) {x : kf_X} (hx : kf_ok g x RX7 cX7_take 4 2 44) (J : HJ) (x1 : Int32) (x2 : Int32) (Post : HI → Prop) (hret : ∀ (pc : Nat) (lv : List (Nat × Value)) (Iy : HI), decode cX7_take pc = .ok (.return_, 1) → Post Iy → kf_M g x 4 pc lv [] Iy J) (E32 : HI → Prop) (hE32 : ∀ (Iy : HI), E32 Iy → kf_M g x 4 89 [] [] Iy J) : ∀ (n : Nat) (x3 : Int32) (I : HI), lp (wb_X7_take_32 J x1 x2 Post E32) n (x3, I) → kf_M g x 4 32 [(0, .ref (g.2.2.2 48)), (1, .int x1), (2, .int x2), (3, .int x3)] [] I J := by
  intro n
  induction n with
  | zero => intro x3 I h; exact h.elim
  | succ n ih => intro x3 I h; exact ws_X7_take_32 g hg hx J x1 x2 Post hret E32 hE32 (lp (wb_X7_take_32 J x1 x2 Post E32) n) ih x3 I h
def w_X7_take (x1 : Int32) (I : HI) (J : HJ) (Post : HI → Prop) : Prop :=
  vp_in (x1 - (x1 / 8) * 8) 8 ∧ (∀ z_1 : Int32, z_1 = (I 50 (Int32.toNatClampNeg (x1 - (x1 / 8) * 8))) → (vp_in (x1 - (x1 / 8) * 8) 8 ∧ (∀ I_2 : HI, I_2 = hI I 50 (Int32.toNatClampNeg (x1 - (x1 / 8) * 8)) 0 → (∀ I_3 : HI, I_3 = hI I_2 48 8 ((I_2 48 8) ||| z_1) → (∃ n, lp (wb_X7_take_32 J x1 z_1 Post (fun (I_7 : HI) => Post I_7)) n (0, I_3))))))
set_option maxHeartbeats 4000000 in
set_option maxRecDepth 20000 in
theorem we_X7_take (g : kf_G) (hg : kf_g g) {x : kf_X} (hx : kf_ok g x RX7 cX7_take 4 2 44) (x1 : Int32) (I : HI) (J : HJ) (Post : HI → Prop) (hret : ∀ (pc : Nat) (lv : List (Nat × Value)) (Iy : HI), decode cX7_take pc = .ok (.return_, 1) → Post Iy → kf_M g x 4 pc lv [] Iy J) (h : w_X7_take x1 I J Post) : kf_M g x 4 0 [(0, .ref (g.2.2.2 48)), (1, .int x1)] [] I J := by
  unfold w_X7_take at h
  refine kf_aload_n hx dX7_take_0 rfl 0 rfl ?_
  refine kf_getR (n := 50) hx sl_48_2 fl_RX7_15 dX7_take_1 ?_
  refine kf_iload_n hx dX7_take_4 rfl 1 rfl ?_
  refine kf_bipush (v := 8) hx dX7_take_5 (by decide) ?_
  refine kf_irem hx dX7_take_7 (by decide) ?_
  refine kf_iald hx ar_50 h.1 dX7_take_8 ?_
  replace h := h.2
  refine kf_topi (fun z_1 ez_1 => ?_)
  replace h := h z_1 ez_1
  refine kf_istore_n (lv' := [(2, .int z_1), (0, .ref (g.2.2.2 48)), (1, .int x1)]) hx dX7_take_9 rfl (by decide) rfl ?_
  refine kf_aload_n hx dX7_take_10 rfl 1 rfl ?_
  refine kf_getR (n := 50) hx sl_48_2 fl_RX7_15 dX7_take_11 ?_
  refine kf_iload_n hx dX7_take_14 rfl 2 rfl ?_
  refine kf_bipush (v := 8) hx dX7_take_15 (by decide) ?_
  refine kf_irem hx dX7_take_17 (by decide) ?_
  refine kf_iconst (v := 0) hx dX7_take_18 (by decide) ?_
  refine kf_iast hx ar_50 h.1 dX7_take_19 ?_
  replace h := h.2
  refine kf_nmI (fun I_2 eI_2 => ?_)
  replace h := h I_2 eI_2
  refine kf_aload_n hx dX7_take_20 rfl 1 rfl ?_
  refine kf_dup hx dX7_take_21 rfl ?_
  refine kf_getI hx sl_48_8 fl_RX7_50 dX7_take_22 ?_
  refine kf_iload_n hx dX7_take_25 rfl 0 rfl ?_
  refine kf_ior hx dX7_take_26 ?_
  refine kf_putI hx sl_48_8 fl_RX7_50 fp_7_8 dX7_take_27 ?_
  refine kf_nmI (fun I_3 eI_3 => ?_)
  replace h := h I_3 eI_3
  refine kf_iconst (v := 0) hx dX7_take_30 (by decide) ?_
  refine kf_istore_n (lv' := [(3, .int 0), (2, .int z_1), (0, .ref (g.2.2.2 48)), (1, .int x1)]) hx dX7_take_31 rfl (by decide) rfl ?_
  obtain ⟨n, h⟩ := h
  refine kf_sub [2, 3, 1, 0] rfl ?_
  refine wl_X7_take_32 g hg hx J x1 z_1 _ hret _ (fun I_7 h => ?_) n _ _ h
  exact hret _ _ _ dX7_take_89 h
set_option maxHeartbeats 4000000 in
set_option maxRecDepth 20000 in
theorem m_X7_take (g : kf_G) (hg : kf_g g) (x1 : Int32) (I : HI) (J : HJ) (Post : HI → Prop) (h : w_X7_take x1 I J Post) : kf_Mv g yX7_take (kf_W yX7_take cX7_take 4 (Option.none : Option Jvm.ClassFile.FieldType)) 2 44 [.ref (g.2.2.2 48), .int x1] I J (fun I' J' => Post I' ∧ J' = J) :=
  kf_entv hg (by decide) (Nat.le_of_ble_eq_true rfl) rfl (fun x hx hr => we_X7_take g hg hx x1 I J Post (fun pc lv I' hd hP => hr pc lv I' J hd ⟨hP, rfl⟩) h)
theorem dX7_play_0 : decode cX7_play 0 = .ok (.aload_n 0, 1) := by decide +kernel
theorem dX7_play_1 : decode cX7_play 1 = .ok (.getfield 15, 3) := by decide +kernel
theorem dX7_play_4 : decode cX7_play 4 = .ok (.iconst 0, 1) := by decide +kernel
theorem dX7_play_5 : decode cX7_play 5 = .ok (.invokestatic 25, 3) := by decide +kernel
theorem dX7_play_8 : decode cX7_play 8 = .ok (.aload_n 0, 1) := by decide +kernel
theorem dX7_play_9 : decode cX7_play 9 = .ok (.getfield 18, 3) := by decide +kernel
theorem dX7_play_12 : decode cX7_play 12 = .ok (.iconst 0, 1) := by decide +kernel
theorem dX7_play_13 : decode cX7_play 13 = .ok (.invokestatic 25, 3) := by decide +kernel
theorem dX7_play_16 : decode cX7_play 16 = .ok (.aload_n 0, 1) := by decide +kernel
theorem dX7_play_17 : decode cX7_play 17 = .ok (.iload 4, 2) := by decide +kernel
theorem dX7_play_19 : decode cX7_play 19 = .ok (.putfield 31, 3) := by decide +kernel
theorem dX7_play_22 : decode cX7_play 22 = .ok (.aload_n 0, 1) := by decide +kernel
theorem dX7_play_23 : decode cX7_play 23 = .ok (.iload_n 1, 1) := by decide +kernel
theorem dX7_play_24 : decode cX7_play 24 = .ok (.putfield 35, 3) := by decide +kernel
theorem dX7_play_27 : decode cX7_play 27 = .ok (.aload_n 0, 1) := by decide +kernel
theorem dX7_play_28 : decode cX7_play 28 = .ok (.iload_n 1, 1) := by decide +kernel
theorem dX7_play_29 : decode cX7_play 29 = .ok (.putfield 38, 3) := by decide +kernel
theorem dX7_play_32 : decode cX7_play 32 = .ok (.aload_n 0, 1) := by decide +kernel
theorem dX7_play_33 : decode cX7_play 33 = .ok (.aload_n 0, 1) := by decide +kernel
theorem dX7_play_34 : decode cX7_play 34 = .ok (.getfield 21, 3) := by decide +kernel
theorem dX7_play_37 : decode cX7_play 37 = .ok (.iload_n 1, 1) := by decide +kernel
theorem dX7_play_38 : decode cX7_play 38 = .ok (.invokevirtual 41, 3) := by decide +kernel
theorem dX7_play_41 : decode cX7_play 41 = .ok (.putfield 47, 3) := by decide +kernel
theorem dX7_play_44 : decode cX7_play 44 = .ok (.aload_n 0, 1) := by decide +kernel
theorem dX7_play_45 : decode cX7_play 45 = .ok (.iconst 0, 1) := by decide +kernel
theorem dX7_play_46 : decode cX7_play 46 = .ok (.putfield 50, 3) := by decide +kernel
theorem dX7_play_49 : decode cX7_play 49 = .ok (.aload_n 0, 1) := by decide +kernel
theorem dX7_play_50 : decode cX7_play 50 = .ok (.iconst 0, 1) := by decide +kernel
theorem dX7_play_51 : decode cX7_play 51 = .ok (.putfield 53, 3) := by decide +kernel
theorem dX7_play_54 : decode cX7_play 54 = .ok (.aload_n 0, 1) := by decide +kernel
theorem dX7_play_55 : decode cX7_play 55 = .ok (.iconst 0, 1) := by decide +kernel
theorem dX7_play_56 : decode cX7_play 56 = .ok (.putfield 56, 3) := by decide +kernel
theorem dX7_play_59 : decode cX7_play 59 = .ok (.aload_n 0, 1) := by decide +kernel
theorem dX7_play_60 : decode cX7_play 60 = .ok (.getfield 15, 3) := by decide +kernel
theorem dX7_play_63 : decode cX7_play 63 = .ok (.iconst 0, 1) := by decide +kernel
theorem dX7_play_64 : decode cX7_play 64 = .ok (.iload_n 1, 1) := by decide +kernel
theorem dX7_play_65 : decode cX7_play 65 = .ok (.iastore, 1) := by decide +kernel
theorem dX7_play_66 : decode cX7_play 66 = .ok (.iconst 0, 1) := by decide +kernel
theorem dX7_play_67 : decode cX7_play 67 = .ok (.istore 5, 2) := by decide +kernel
theorem dX7_play_69 : decode cX7_play 69 = .ok (.iload 5, 2) := by decide +kernel
theorem dX7_play_71 : decode cX7_play 71 = .ok (.sipush 149, 3) := by decide +kernel
theorem dX7_play_74 : decode cX7_play 74 = .ok (.if_icmp .gt 87, 3) := by decide +kernel
theorem dX7_play_77 : decode cX7_play 77 = .ok (.iload 5, 2) := by decide +kernel
theorem dX7_play_79 : decode cX7_play 79 = .ok (.iload_n 3, 1) := by decide +kernel
theorem dX7_play_80 : decode cX7_play 80 = .ok (.if_icmp .ne 34, 3) := by decide +kernel
theorem dX7_play_83 : decode cX7_play 83 = .ok (.aload_n 0, 1) := by decide +kernel
theorem dX7_play_84 : decode cX7_play 84 = .ok (.getfield 15, 3) := by decide +kernel
theorem dX7_play_87 : decode cX7_play 87 = .ok (.iload 5, 2) := by decide +kernel
theorem dX7_play_89 : decode cX7_play 89 = .ok (.bipush 8, 2) := by decide +kernel
theorem dX7_play_91 : decode cX7_play 91 = .ok (.irem, 1) := by decide +kernel
theorem dX7_play_92 : decode cX7_play 92 = .ok (.dup2, 1) := by decide +kernel
theorem dX7_play_93 : decode cX7_play 93 = .ok (.iaload, 1) := by decide +kernel
theorem dX7_play_94 : decode cX7_play 94 = .ok (.iload_n 2, 1) := by decide +kernel
theorem dX7_play_95 : decode cX7_play 95 = .ok (.aload_n 0, 1) := by decide +kernel
theorem dX7_play_96 : decode cX7_play 96 = .ok (.getfield 35, 3) := by decide +kernel
theorem dX7_play_99 : decode cX7_play 99 = .ok (.iconst (-1), 1) := by decide +kernel
theorem dX7_play_100 : decode cX7_play 100 = .ok (.ixor, 1) := by decide +kernel
theorem dX7_play_101 : decode cX7_play 101 = .ok (.iand, 1) := by decide +kernel
theorem dX7_play_102 : decode cX7_play 102 = .ok (.ior, 1) := by decide +kernel
theorem dX7_play_103 : decode cX7_play 103 = .ok (.iastore, 1) := by decide +kernel
theorem dX7_play_104 : decode cX7_play 104 = .ok (.aload_n 0, 1) := by decide +kernel
theorem dX7_play_105 : decode cX7_play 105 = .ok (.dup, 1) := by decide +kernel
theorem dX7_play_106 : decode cX7_play 106 = .ok (.getfield 35, 3) := by decide +kernel
theorem dX7_play_109 : decode cX7_play 109 = .ok (.iload_n 2, 1) := by decide +kernel
theorem dX7_play_110 : decode cX7_play 110 = .ok (.ior, 1) := by decide +kernel
theorem dX7_play_111 : decode cX7_play 111 = .ok (.putfield 35, 3) := by decide +kernel
theorem dX7_play_114 : decode cX7_play 114 = .ok (.aload_n 0, 1) := by decide +kernel
theorem dX7_play_115 : decode cX7_play 115 = .ok (.iload 5, 2) := by decide +kernel
theorem dX7_play_117 : decode cX7_play 117 = .ok (.invokevirtual 59, 3) := by decide +kernel
theorem dX7_play_120 : decode cX7_play 120 = .ok (.aload_n 0, 1) := by decide +kernel
theorem dX7_play_121 : decode cX7_play 121 = .ok (.iload 5, 2) := by decide +kernel
theorem dX7_play_123 : decode cX7_play 123 = .ok (.invokevirtual 63, 3) := by decide +kernel
theorem dX7_play_126 : decode cX7_play 126 = .ok (.iload 5, 2) := by decide +kernel
theorem dX7_play_128 : decode cX7_play 128 = .ok (.iload_n 3, 1) := by decide +kernel
theorem dX7_play_129 : decode cX7_play 129 = .ok (.if_icmp .lt 26, 3) := by decide +kernel
theorem dX7_play_132 : decode cX7_play 132 = .ok (.aload_n 0, 1) := by decide +kernel
theorem dX7_play_133 : decode cX7_play 133 = .ok (.getfield 50, 3) := by decide +kernel
theorem dX7_play_136 : decode cX7_play 136 = .ok (.aload_n 0, 1) := by decide +kernel
theorem dX7_play_137 : decode cX7_play 137 = .ok (.getfield 35, 3) := by decide +kernel
theorem dX7_play_140 : decode cX7_play 140 = .ok (.if_icmp .ne 15, 3) := by decide +kernel
theorem dX7_play_143 : decode cX7_play 143 = .ok (.aload_n 0, 1) := by decide +kernel
theorem dX7_play_144 : decode cX7_play 144 = .ok (.getfield 53, 3) := by decide +kernel
theorem dX7_play_147 : decode cX7_play 147 = .ok (.aload_n 0, 1) := by decide +kernel
theorem dX7_play_148 : decode cX7_play 148 = .ok (.getfield 56, 3) := by decide +kernel
theorem dX7_play_151 : decode cX7_play 151 = .ok (.if_icmp .ne 4, 3) := by decide +kernel
theorem dX7_play_154 : decode cX7_play 154 = .ok (.return_, 1) := by decide +kernel
theorem dX7_play_155 : decode cX7_play 155 = .ok (.iinc 5 1, 3) := by decide +kernel
theorem dX7_play_158 : decode cX7_play 158 = .ok (.goto (-89), 3) := by decide +kernel
theorem dX7_play_161 : decode cX7_play 161 = .ok (.return_, 1) := by decide +kernel
def wj_X7_play_114 (I : HI) (J : HJ) (x2 : Int32) (x3 : Int32) (x5 : Int32) (E69 : HI → Prop) (K69 : Int32 × HI → Prop) (Post : HI → Prop) : Prop :=
  w_X7_hear x5 I J (fun (I_12 : HI) => (w_X7_take x5 I_12 J (fun (I_13 : HI) => ((x5 < x3 → (K69 ((x5 + 1), I_13))) ∧ (¬ x5 < x3 → ((¬ (I_13 48 8) = (I_13 48 5) → (K69 ((x5 + 1), I_13))) ∧ ((I_13 48 8) = (I_13 48 5) → ((¬ (I_13 48 9) = (I_13 48 10) → (K69 ((x5 + 1), I_13))) ∧ ((I_13 48 9) = (I_13 48 10) → (Post I_13))))))))))
set_option maxHeartbeats 4000000 in
set_option maxRecDepth 20000 in
theorem wk_X7_play_114 (g : kf_G) (hg : kf_g g) {x : kf_X} (hx : kf_ok g x RX7 cX7_play 6 3 67) (I : HI) (J : HJ) (x2 : Int32) (x3 : Int32) (x5 : Int32) (E69 : HI → Prop) (K69 : Int32 × HI → Prop) (hE69 : ∀ (Iy : HI), E69 Iy → kf_M g x 6 161 [] [] Iy J) (hK69 : ∀ (y5 : Int32) (Iy : HI), K69 (y5, Iy) → kf_M g x 6 69 [(0, .ref (g.2.2.2 48)), (2, .int x2), (3, .int x3), (5, .int y5)] [] Iy J) (Post : HI → Prop) (hret : ∀ (pc : Nat) (lv : List (Nat × Value)) (Iy : HI), decode cX7_play pc = .ok (.return_, 1) → Post Iy → kf_M g x 6 pc lv [] Iy J) (h : wj_X7_play_114 I J x2 x3 x5 E69 K69 Post) : kf_M g x 6 114 [(0, .ref (g.2.2.2 48)), (2, .int x2), (3, .int x3), (5, .int x5)] [] I J := by
  unfold wj_X7_play_114 at h
  refine kf_aload_n hx dX7_play_114 rfl 0 rfl ?_
  refine kf_iload hx dX7_play_115 3 rfl ?_
  refine kf_callVvI (st := []) hx (m_X7_hear g hg x5 I J _ h) lk_RX7_59 km_X7_hear ob_48 rfl (by decide) rfl (Nat.le_of_ble_eq_true rfl) dX7_play_117 (fun I_12 h => ?_)
  refine kf_aload_n hx dX7_play_120 rfl 0 rfl ?_
  refine kf_iload hx dX7_play_121 3 rfl ?_
  refine kf_callVvI (st := []) hx (m_X7_take g hg x5 I_12 J _ h) lk_RX7_63 km_X7_take ob_48 rfl (by decide) rfl (Nat.le_of_ble_eq_true rfl) dX7_play_123 (fun I_13 h => ?_)
  refine kf_iload hx dX7_play_126 3 rfl ?_
  refine kf_iload_n hx dX7_play_128 rfl 2 rfl ?_
  refine kf_icmp_lt hx 155 dX7_play_129 (by decide) (fun c => ?_) (fun c => ?_)
  · replace h := h.1 c
    refine kf_iinc (w := (x5 + 1)) (lv' := [(5, .int (x5 + 1)), (0, .ref (g.2.2.2 48)), (2, .int x2), (3, .int x3)]) hx dX7_play_155 3 rfl rfl (by decide) rfl ?_
    refine kf_goto hx 69 dX7_play_158 (by decide) ?_
    refine kf_sub [1, 2, 3, 0] rfl ?_
    exact hK69 _ _ h
  · replace h := h.2 c
    refine kf_aload_n hx dX7_play_132 rfl 0 rfl ?_
    refine kf_getI hx sl_48_8 fl_RX7_50 dX7_play_133 ?_
    refine kf_aload_n hx dX7_play_136 rfl 0 rfl ?_
    refine kf_getI hx sl_48_5 fl_RX7_35 dX7_play_137 ?_
    refine kf_icmp_ne hx 155 dX7_play_140 (by decide) (fun c => ?_) (fun c => ?_)
    · replace h := h.1 c
      refine kf_iinc (w := (x5 + 1)) (lv' := [(5, .int (x5 + 1)), (0, .ref (g.2.2.2 48)), (2, .int x2), (3, .int x3)]) hx dX7_play_155 3 rfl rfl (by decide) rfl ?_
      refine kf_goto hx 69 dX7_play_158 (by decide) ?_
      refine kf_sub [1, 2, 3, 0] rfl ?_
      exact hK69 _ _ h
    · replace h := h.2 c
      refine kf_aload_n hx dX7_play_143 rfl 0 rfl ?_
      refine kf_getI hx sl_48_9 fl_RX7_53 dX7_play_144 ?_
      refine kf_aload_n hx dX7_play_147 rfl 0 rfl ?_
      refine kf_getI hx sl_48_10 fl_RX7_56 dX7_play_148 ?_
      refine kf_icmp_ne hx 155 dX7_play_151 (by decide) (fun c => ?_) (fun c => ?_)
      · replace h := h.1 c
        refine kf_iinc (w := (x5 + 1)) (lv' := [(5, .int (x5 + 1)), (0, .ref (g.2.2.2 48)), (2, .int x2), (3, .int x3)]) hx dX7_play_155 3 rfl rfl (by decide) rfl ?_
        refine kf_goto hx 69 dX7_play_158 (by decide) ?_
        refine kf_sub [1, 2, 3, 0] rfl ?_
        exact hK69 _ _ h
      · replace h := h.2 c
        exact hret _ _ _ dX7_play_154 h
def wb_X7_play_69 (J : HJ) (x2 : Int32) (x3 : Int32) (Post : HI → Prop) (E69 : HI → Prop) (K69 : (Int32 × HI) → Prop) (s : Int32 × HI) : Prop :=
  match s with
  | (x5, I) => (149 < x5 → (E69 I)) ∧ (¬ 149 < x5 → ((¬ x5 = x3 → (wj_X7_play_114 I J x2 x3 x5 E69 K69 Post)) ∧ (x5 = x3 → (vp_in (x5 - (x5 / 8) * 8) 8 ∧ (vp_in (x5 - (x5 / 8) * 8) 8 ∧ (∀ I_14 : HI, I_14 = hI I 50 (Int32.toNatClampNeg (x5 - (x5 / 8) * 8)) ((I 50 (Int32.toNatClampNeg (x5 - (x5 / 8) * 8))) ||| (x2 &&& ((I 48 5) ^^^ (-1)))) → (∀ I_15 : HI, I_15 = hI I_14 48 5 ((I_14 48 5) ||| x2) → (wj_X7_play_114 I_15 J x2 x3 x5 E69 K69 Post))))))))
set_option maxHeartbeats 4000000 in
set_option maxRecDepth 20000 in
theorem ws_X7_play_69 (g : kf_G) (hg : kf_g g) {x : kf_X} (hx : kf_ok g x RX7 cX7_play 6 3 67) (J : HJ) (x2 : Int32) (x3 : Int32) (Post : HI → Prop) (hret : ∀ (pc : Nat) (lv : List (Nat × Value)) (Iy : HI), decode cX7_play pc = .ok (.return_, 1) → Post Iy → kf_M g x 6 pc lv [] Iy J) (E69 : HI → Prop) (hE69 : ∀ (Iy : HI), E69 Iy → kf_M g x 6 161 [] [] Iy J) (K69 : (Int32 × HI) → Prop) (hK69 : ∀ (y5 : Int32) (Iy : HI), K69 (y5, Iy) → kf_M g x 6 69 [(0, .ref (g.2.2.2 48)), (2, .int x2), (3, .int x3), (5, .int y5)] [] Iy J) (x5 : Int32) (I : HI) (h : wb_X7_play_69 J x2 x3 Post E69 K69 (x5, I)) : kf_M g x 6 69 [(0, .ref (g.2.2.2 48)), (2, .int x2), (3, .int x3), (5, .int x5)] [] I J := by
  unfold wb_X7_play_69 at h
  refine kf_iload hx dX7_play_69 3 rfl ?_
  refine kf_sipush (v := 149) hx dX7_play_71 (by decide) ?_
  refine kf_icmp_gt hx 161 dX7_play_74 (by decide) (fun c => ?_) (fun c => ?_)
  · replace h := h.1 c
    refine kf_sub [] rfl ?_
    exact hE69 _ h
  · replace h := h.2 c
    refine kf_iload hx dX7_play_77 3 rfl ?_
    refine kf_iload_n hx dX7_play_79 rfl 2 rfl ?_
    refine kf_icmp_ne hx 114 dX7_play_80 (by decide) (fun c => ?_) (fun c => ?_)
    · replace h := h.1 c
      exact wk_X7_play_114 g hg hx I J x2 x3 x5 _ _ hE69 hK69 _ hret h
    · replace h := h.2 c
      refine kf_aload_n hx dX7_play_83 rfl 0 rfl ?_
      refine kf_getR (n := 50) hx sl_48_2 fl_RX7_15 dX7_play_84 ?_
      refine kf_iload hx dX7_play_87 3 rfl ?_
      refine kf_bipush (v := 8) hx dX7_play_89 (by decide) ?_
      refine kf_irem hx dX7_play_91 (by decide) ?_
      refine kf_dup2 hx dX7_play_92 rfl rfl ?_
      refine kf_iald hx ar_50 h.1 dX7_play_93 ?_
      replace h := h.2
      refine kf_iload_n hx dX7_play_94 rfl 1 rfl ?_
      refine kf_aload_n hx dX7_play_95 rfl 0 rfl ?_
      refine kf_getI hx sl_48_5 fl_RX7_35 dX7_play_96 ?_
      refine kf_iconst (v := (-1)) hx dX7_play_99 (by decide) ?_
      refine kf_ixor hx dX7_play_100 ?_
      refine kf_iand hx dX7_play_101 ?_
      refine kf_ior hx dX7_play_102 ?_
      refine kf_iast hx ar_50 h.1 dX7_play_103 ?_
      replace h := h.2
      refine kf_nmI (fun I_14 eI_14 => ?_)
      replace h := h I_14 eI_14
      refine kf_aload_n hx dX7_play_104 rfl 0 rfl ?_
      refine kf_dup hx dX7_play_105 rfl ?_
      refine kf_getI hx sl_48_5 fl_RX7_35 dX7_play_106 ?_
      refine kf_iload_n hx dX7_play_109 rfl 1 rfl ?_
      refine kf_ior hx dX7_play_110 ?_
      refine kf_putI hx sl_48_5 fl_RX7_35 fp_7_5 dX7_play_111 ?_
      refine kf_nmI (fun I_15 eI_15 => ?_)
      replace h := h I_15 eI_15
      exact wk_X7_play_114 g hg hx I_15 J x2 x3 x5 _ _ hE69 hK69 _ hret h
theorem wl_X7_play_69 (g : kf_G) (hg : kf_g g) {x : kf_X} (hx : kf_ok g x RX7 cX7_play 6 3 67) (J : HJ) (x2 : Int32) (x3 : Int32) (Post : HI → Prop) (hret : ∀ (pc : Nat) (lv : List (Nat × Value)) (Iy : HI), decode cX7_play pc = .ok (.return_, 1) → Post Iy → kf_M g x 6 pc lv [] Iy J) (E69 : HI → Prop) (hE69 : ∀ (Iy : HI), E69 Iy → kf_M g x 6 161 [] [] Iy J) : ∀ (n : Nat) (x5 : Int32) (I : HI), lp (wb_X7_play_69 J x2 x3 Post E69) n (x5, I) → kf_M g x 6 69 [(0, .ref (g.2.2.2 48)), (2, .int x2), (3, .int x3), (5, .int x5)] [] I J := by
  intro n
  induction n with
  | zero => intro x5 I h; exact h.elim
  | succ n ih => intro x5 I h; exact ws_X7_play_69 g hg hx J x2 x3 Post hret E69 hE69 (lp (wb_X7_play_69 J x2 x3 Post E69) n) ih x5 I h
def w_X7_play (x1 : Int32) (x2 : Int32) (x3 : Int32) (x4 : Int32) (I : HI) (J : HJ) (Post : HI → Prop) : Prop :=
  w_J7_fill_53178 50 8 0 I J (fun (I_1 : HI) => (w_J7_fill_53178 51 8 0 I_1 J (fun (I_2 : HI) => (∀ I_3 : HI, I_3 = hI I_2 48 4 x4 → (∀ I_4 : HI, I_4 = hI I_3 48 5 x1 → (∀ I_5 : HI, I_5 = hI I_4 48 6 x1 → (w_X4_tiesFrom x1 I_5 J (fun (r_6 : Int32) => (∀ I_7 : HI, I_7 = hI I_5 48 7 r_6 → (∀ I_8 : HI, I_8 = hI I_7 48 8 0 → (∀ I_9 : HI, I_9 = hI I_8 48 9 0 → (∀ I_10 : HI, I_10 = hI I_9 48 10 0 → (∀ I_11 : HI, I_11 = hI I_10 50 0 x1 → (∃ n, lp (wb_X7_play_69 J x2 x3 Post (fun (I_16 : HI) => Post I_16)) n (0, I_11)))))))))))))))
set_option maxHeartbeats 4000000 in
set_option maxRecDepth 20000 in
theorem we_X7_play (g : kf_G) (hg : kf_g g) {x : kf_X} (hx : kf_ok g x RX7 cX7_play 6 3 67) (x1 : Int32) (x2 : Int32) (x3 : Int32) (x4 : Int32) (I : HI) (J : HJ) (Post : HI → Prop) (hret : ∀ (pc : Nat) (lv : List (Nat × Value)) (Iy : HI), decode cX7_play pc = .ok (.return_, 1) → Post Iy → kf_M g x 6 pc lv [] Iy J) (h : w_X7_play x1 x2 x3 x4 I J Post) : kf_M g x 6 0 [(0, .ref (g.2.2.2 48)), (1, .int x1), (2, .int x2), (3, .int x3), (4, .int x4)] [] I J := by
  unfold w_X7_play at h
  refine kf_aload_n hx dX7_play_0 rfl 0 rfl ?_
  refine kf_getR (n := 50) hx sl_48_2 fl_RX7_15 dX7_play_1 ?_
  refine kf_iconst (v := 0) hx dX7_play_4 (by decide) ?_
  refine kf_callSvI (st := []) hx (m_J7_fill_53178 g hg 50 8 0 ar_50 I J _ h) lk_RX7_25 km_J7_fill_53178 rfl (by decide) rfl (Nat.le_of_ble_eq_true rfl) dX7_play_5 (fun I_1 h => ?_)
  refine kf_aload_n hx dX7_play_8 rfl 0 rfl ?_
  refine kf_getR (n := 51) hx sl_48_3 fl_RX7_18 dX7_play_9 ?_
  refine kf_iconst (v := 0) hx dX7_play_12 (by decide) ?_
  refine kf_callSvI (st := []) hx (m_J7_fill_53178 g hg 51 8 0 ar_51 I_1 J _ h) lk_RX7_25 km_J7_fill_53178 rfl (by decide) rfl (Nat.le_of_ble_eq_true rfl) dX7_play_13 (fun I_2 h => ?_)
  refine kf_aload_n hx dX7_play_16 rfl 0 rfl ?_
  refine kf_iload hx dX7_play_17 4 rfl ?_
  refine kf_putI hx sl_48_4 fl_RX7_31 fp_7_4 dX7_play_19 ?_
  refine kf_nmI (fun I_3 eI_3 => ?_)
  replace h := h I_3 eI_3
  refine kf_aload_n hx dX7_play_22 rfl 0 rfl ?_
  refine kf_iload_n hx dX7_play_23 rfl 1 rfl ?_
  refine kf_putI hx sl_48_5 fl_RX7_35 fp_7_5 dX7_play_24 ?_
  refine kf_nmI (fun I_4 eI_4 => ?_)
  replace h := h I_4 eI_4
  refine kf_aload_n hx dX7_play_27 rfl 0 rfl ?_
  refine kf_iload_n hx dX7_play_28 rfl 1 rfl ?_
  refine kf_putI hx sl_48_6 fl_RX7_38 fp_7_6 dX7_play_29 ?_
  refine kf_nmI (fun I_5 eI_5 => ?_)
  replace h := h I_5 eI_5
  refine kf_aload_n hx dX7_play_32 rfl 0 rfl ?_
  refine kf_aload_n hx dX7_play_33 rfl 0 rfl ?_
  refine kf_getR (n := 12) hx sl_48_0 fl_RX7_21 dX7_play_34 ?_
  refine kf_iload_n hx dX7_play_37 rfl 1 rfl ?_
  refine kf_callViP (st := [.ref (g.2.2.2 48)]) hx (m_X4_tiesFrom g hg x1 I_5 J _ h) lk_RX7_41 km_X4_tiesFrom ob_12 rfl (by decide) rfl (Nat.le_of_ble_eq_true rfl) dX7_play_38 (fun r_6 h => ?_)
  refine kf_putI hx sl_48_7 fl_RX7_47 fp_7_7 dX7_play_41 ?_
  refine kf_nmI (fun I_7 eI_7 => ?_)
  replace h := h I_7 eI_7
  refine kf_aload_n hx dX7_play_44 rfl 0 rfl ?_
  refine kf_iconst (v := 0) hx dX7_play_45 (by decide) ?_
  refine kf_putI hx sl_48_8 fl_RX7_50 fp_7_8 dX7_play_46 ?_
  refine kf_nmI (fun I_8 eI_8 => ?_)
  replace h := h I_8 eI_8
  refine kf_aload_n hx dX7_play_49 rfl 0 rfl ?_
  refine kf_iconst (v := 0) hx dX7_play_50 (by decide) ?_
  refine kf_putI hx sl_48_9 fl_RX7_53 fp_7_9 dX7_play_51 ?_
  refine kf_nmI (fun I_9 eI_9 => ?_)
  replace h := h I_9 eI_9
  refine kf_aload_n hx dX7_play_54 rfl 0 rfl ?_
  refine kf_iconst (v := 0) hx dX7_play_55 (by decide) ?_
  refine kf_putI hx sl_48_10 fl_RX7_56 fp_7_10 dX7_play_56 ?_
  refine kf_nmI (fun I_10 eI_10 => ?_)
  replace h := h I_10 eI_10
  refine kf_aload_n hx dX7_play_59 rfl 0 rfl ?_
  refine kf_getR (n := 50) hx sl_48_2 fl_RX7_15 dX7_play_60 ?_
  refine kf_iconst (v := 0) hx dX7_play_63 (by decide) ?_
  refine kf_iload_n hx dX7_play_64 rfl 1 rfl ?_
  refine kf_iast hx ar_50 (by unfold vp_in; decide) dX7_play_65 ?_
  refine kf_nmI (fun I_11 eI_11 => ?_)
  replace h := h I_11 eI_11
  refine kf_iconst (v := 0) hx dX7_play_66 (by decide) ?_
  refine kf_istore (lv' := [(5, .int 0), (0, .ref (g.2.2.2 48)), (1, .int x1), (2, .int x2), (3, .int x3), (4, .int x4)]) hx dX7_play_67 (by decide) rfl ?_
  obtain ⟨n, h⟩ := h
  refine kf_sub [1, 3, 4, 0] rfl ?_
  refine wl_X7_play_69 g hg hx J x2 x3 _ hret _ (fun I_16 h => ?_) n _ _ h
  exact hret _ _ _ dX7_play_161 h
set_option maxHeartbeats 4000000 in
set_option maxRecDepth 20000 in
theorem m_X7_play (g : kf_G) (hg : kf_g g) (x1 : Int32) (x2 : Int32) (x3 : Int32) (x4 : Int32) (I : HI) (J : HJ) (Post : HI → Prop) (h : w_X7_play x1 x2 x3 x4 I J Post) : kf_Mv g yX7_play (kf_W yX7_play cX7_play 6 (Option.none : Option Jvm.ClassFile.FieldType)) 3 67 [.ref (g.2.2.2 48), .int x1, .int x2, .int x3, .int x4] I J (fun I' J' => Post I' ∧ J' = J) :=
  kf_entv hg (by decide) (Nat.le_of_ble_eq_true rfl) rfl (fun x hx hr => we_X7_play g hg hx x1 x2 x3 x4 I J Post (fun pc lv I' hd hP => hr pc lv I' J hd ⟨hP, rfl⟩) h)
theorem dX3_fought_0 : decode cX3_fought 0 = .ok (.lconst 0, 1) := by decide +kernel
theorem dX3_fought_1 : decode cX3_fought 1 = .ok (.lstore 5, 2) := by decide +kernel
theorem dX3_fought_3 : decode cX3_fought 3 = .ok (.iconst 0, 1) := by decide +kernel
theorem dX3_fought_4 : decode cX3_fought 4 = .ok (.istore 7, 2) := by decide +kernel
theorem dX3_fought_6 : decode cX3_fought 6 = .ok (.iload 7, 2) := by decide +kernel
theorem dX3_fought_8 : decode cX3_fought 8 = .ok (.aload_n 0, 1) := by decide +kernel
theorem dX3_fought_9 : decode cX3_fought 9 = .ok (.getfield 19, 3) := by decide +kernel
theorem dX3_fought_12 : decode cX3_fought 12 = .ok (.invokevirtual 27, 3) := by decide +kernel
theorem dX3_fought_15 : decode cX3_fought 15 = .ok (.if_icmp .ge 100, 3) := by decide +kernel
theorem dX3_fought_18 : decode cX3_fought 18 = .ok (.aload_n 0, 1) := by decide +kernel
theorem dX3_fought_19 : decode cX3_fought 19 = .ok (.getfield 19, 3) := by decide +kernel
theorem dX3_fought_22 : decode cX3_fought 22 = .ok (.getfield 33, 3) := by decide +kernel
theorem dX3_fought_25 : decode cX3_fought 25 = .ok (.iload 7, 2) := by decide +kernel
theorem dX3_fought_27 : decode cX3_fought 27 = .ok (.laload, 1) := by decide +kernel
theorem dX3_fought_28 : decode cX3_fought 28 = .ok (.lconst 0, 1) := by decide +kernel
theorem dX3_fought_29 : decode cX3_fought 29 = .ok (.lcmp, 1) := by decide +kernel
theorem dX3_fought_30 : decode cX3_fought 30 = .ok (.ifCond .eq 79, 3) := by decide +kernel
theorem dX3_fought_33 : decode cX3_fought 33 = .ok (.aload_n 0, 1) := by decide +kernel
theorem dX3_fought_34 : decode cX3_fought 34 = .ok (.getfield 23, 3) := by decide +kernel
theorem dX3_fought_37 : decode cX3_fought 37 = .ok (.iload_n 1, 1) := by decide +kernel
theorem dX3_fought_38 : decode cX3_fought 38 = .ok (.iload_n 2, 1) := by decide +kernel
theorem dX3_fought_39 : decode cX3_fought 39 = .ok (.iload_n 3, 1) := by decide +kernel
theorem dX3_fought_40 : decode cX3_fought 40 = .ok (.iload 7, 2) := by decide +kernel
theorem dX3_fought_42 : decode cX3_fought 42 = .ok (.invokevirtual 36, 3) := by decide +kernel
theorem dX3_fought_45 : decode cX3_fought 45 = .ok (.iload 4, 2) := by decide +kernel
theorem dX3_fought_47 : decode cX3_fought 47 = .ok (.ifCond .eq 21, 3) := by decide +kernel
theorem dX3_fought_50 : decode cX3_fought 50 = .ok (.aload_n 0, 1) := by decide +kernel
theorem dX3_fought_51 : decode cX3_fought 51 = .ok (.getfield 23, 3) := by decide +kernel
theorem dX3_fought_54 : decode cX3_fought 54 = .ok (.getfield 42, 3) := by decide +kernel
theorem dX3_fought_57 : decode cX3_fought 57 = .ok (.aload_n 0, 1) := by decide +kernel
theorem dX3_fought_58 : decode cX3_fought 58 = .ok (.getfield 23, 3) := by decide +kernel
theorem dX3_fought_61 : decode cX3_fought 61 = .ok (.getfield 46, 3) := by decide +kernel
theorem dX3_fought_64 : decode cX3_fought 64 = .ok (.iand, 1) := by decide +kernel
theorem dX3_fought_65 : decode cX3_fought 65 = .ok (.goto 20, 3) := by decide +kernel
theorem dX3_fought_68 : decode cX3_fought 68 = .ok (.aload_n 0, 1) := by decide +kernel
theorem dX3_fought_69 : decode cX3_fought 69 = .ok (.getfield 23, 3) := by decide +kernel
theorem dX3_fought_72 : decode cX3_fought 72 = .ok (.getfield 42, 3) := by decide +kernel
theorem dX3_fought_75 : decode cX3_fought 75 = .ok (.aload_n 0, 1) := by decide +kernel
theorem dX3_fought_76 : decode cX3_fought 76 = .ok (.getfield 23, 3) := by decide +kernel
theorem dX3_fought_79 : decode cX3_fought 79 = .ok (.getfield 46, 3) := by decide +kernel
theorem dX3_fought_82 : decode cX3_fought 82 = .ok (.iconst (-1), 1) := by decide +kernel
theorem dX3_fought_83 : decode cX3_fought 83 = .ok (.ixor, 1) := by decide +kernel
theorem dX3_fought_84 : decode cX3_fought 84 = .ok (.iand, 1) := by decide +kernel
theorem dX3_fought_85 : decode cX3_fought 85 = .ok (.istore 8, 2) := by decide +kernel
theorem dX3_fought_87 : decode cX3_fought 87 = .ok (.lload 5, 2) := by decide +kernel
theorem dX3_fought_89 : decode cX3_fought 89 = .ok (.aload_n 0, 1) := by decide +kernel
theorem dX3_fought_90 : decode cX3_fought 90 = .ok (.getfield 19, 3) := by decide +kernel
theorem dX3_fought_93 : decode cX3_fought 93 = .ok (.getfield 33, 3) := by decide +kernel
theorem dX3_fought_96 : decode cX3_fought 96 = .ok (.iload 7, 2) := by decide +kernel
theorem dX3_fought_98 : decode cX3_fought 98 = .ok (.laload, 1) := by decide +kernel
theorem dX3_fought_99 : decode cX3_fought 99 = .ok (.iload 8, 2) := by decide +kernel
theorem dX3_fought_101 : decode cX3_fought 101 = .ok (.invokestatic 49, 3) := by decide +kernel
theorem dX3_fought_104 : decode cX3_fought 104 = .ok (.i2l, 1) := by decide +kernel
theorem dX3_fought_105 : decode cX3_fought 105 = .ok (.lmul, 1) := by decide +kernel
theorem dX3_fought_106 : decode cX3_fought 106 = .ok (.ladd, 1) := by decide +kernel
theorem dX3_fought_107 : decode cX3_fought 107 = .ok (.lstore 5, 2) := by decide +kernel
theorem dX3_fought_109 : decode cX3_fought 109 = .ok (.iinc 7 1, 3) := by decide +kernel
theorem dX3_fought_112 : decode cX3_fought 112 = .ok (.goto (-106), 3) := by decide +kernel
theorem dX3_fought_115 : decode cX3_fought 115 = .ok (.lload 5, 2) := by decide +kernel
theorem dX3_fought_117 : decode cX3_fought 117 = .ok (.lreturn, 1) := by decide +kernel
def wj_X3_fought_85 (I : HI) (J : HJ) (x1 : Int32) (x2 : Int32) (x3 : Int32) (x4 : Int32) (x5 : Int64) (x7 : Int32) (t0 : Int32) (E6 : Int64 → HI → Prop) (K6 : Int64 × Int32 × HI → Prop) (Post : Int64 → HI → Prop) : Prop :=
  vp_in x7 1024 ∧ (w_J6_bitCount_0f7a4 t0 (fun (r_3 : Int32) => (∀ z_4 : Int64, z_4 = (x5 + ((J 40 (Int32.toNatClampNeg x7)) * (Int32.toInt64 r_3))) → (K6 (z_4, (x7 + 1), I)))))
set_option maxHeartbeats 4000000 in
set_option maxRecDepth 20000 in
theorem wk_X3_fought_85 (g : kf_G) (hg : kf_g g) {x : kf_X} (hx : kf_ok g x RX3 cX3_fought 9 4 92) (I : HI) (J : HJ) (x1 : Int32) (x2 : Int32) (x3 : Int32) (x4 : Int32) (x5 : Int64) (x7 : Int32) (t0 : Int32) (E6 : Int64 → HI → Prop) (K6 : Int64 × Int32 × HI → Prop) (hE6 : ∀ (y5 : Int64) (Iy : HI), E6 y5 Iy → kf_M g x 9 115 [(5, .long y5)] [] Iy J) (hK6 : ∀ (y5 : Int64) (y7 : Int32) (Iy : HI), K6 (y5, y7, Iy) → kf_M g x 9 6 [(0, .ref (g.2.2.2 52)), (1, .int x1), (2, .int x2), (3, .int x3), (4, .int x4), (5, .long y5), (7, .int y7)] [] Iy J) (Post : Int64 → HI → Prop) (hret : ∀ (pc : Nat) (lv : List (Nat × Value)) (v : Int64) (Iy : HI), decode cX3_fought pc = .ok (.lreturn, 1) → Post v Iy → kf_M g x 9 pc lv [.long v] Iy J) (h : wj_X3_fought_85 I J x1 x2 x3 x4 x5 x7 t0 E6 K6 Post) : kf_M g x 9 85 [(0, .ref (g.2.2.2 52)), (1, .int x1), (2, .int x2), (3, .int x3), (4, .int x4), (5, .long x5), (7, .int x7)] [.int t0] I J := by
  unfold wj_X3_fought_85 at h
  refine kf_istore (lv' := [(8, .int t0), (0, .ref (g.2.2.2 52)), (1, .int x1), (2, .int x2), (3, .int x3), (4, .int x4), (5, .long x5), (7, .int x7)]) hx dX3_fought_85 (by decide) rfl ?_
  refine kf_lload hx dX3_fought_87 6 rfl ?_
  refine kf_aload_n hx dX3_fought_89 rfl 1 rfl ?_
  refine kf_getR (n := 39) hx sl_52_1 fl_RX3_19 dX3_fought_90 ?_
  refine kf_getR (n := 40) hx sl_39_1 fl_RX3_33 dX3_fought_93 ?_
  refine kf_iload hx dX3_fought_96 7 rfl ?_
  refine kf_lald hx ar_40 h.1 dX3_fought_98 ?_
  replace h := h.2
  refine kf_iload hx dX3_fought_99 0 rfl ?_
  refine kf_callSiP (st := [.long (J 40 (Int32.toNatClampNeg x7)), .long x5]) hx (m_J6_bitCount_0f7a4 g hg t0 I J _ h) lk_RX3_49 km_J6_bitCount_0f7a4 rfl (by decide) rfl (Nat.le_of_ble_eq_true rfl) dX3_fought_101 (fun r_3 h => ?_)
  refine kf_i2l hx dX3_fought_104 ?_
  refine kf_lmul hx dX3_fought_105 ?_
  refine kf_ladd hx dX3_fought_106 ?_
  refine kf_topl (fun z_4 ez_4 => ?_)
  replace h := h z_4 ez_4
  refine kf_lstore (lv' := [(5, .long z_4), (8, .int t0), (0, .ref (g.2.2.2 52)), (1, .int x1), (2, .int x2), (3, .int x3), (4, .int x4), (7, .int x7)]) hx dX3_fought_107 (by decide) rfl ?_
  refine kf_iinc (w := (x7 + 1)) (lv' := [(7, .int (x7 + 1)), (5, .long z_4), (8, .int t0), (0, .ref (g.2.2.2 52)), (1, .int x1), (2, .int x2), (3, .int x3), (4, .int x4)]) hx dX3_fought_109 7 rfl rfl (by decide) rfl ?_
  refine kf_goto hx 6 dX3_fought_112 (by decide) ?_
  refine kf_sub [3, 4, 5, 6, 7, 1, 0] rfl ?_
  exact hK6 _ _ _ h
def wb_X3_fought_6 (J : HJ) (x1 : Int32) (x2 : Int32) (x3 : Int32) (x4 : Int32) (Post : Int64 → HI → Prop) (E6 : Int64 → HI → Prop) (K6 : (Int64 × Int32 × HI) → Prop) (s : Int64 × Int32 × HI) : Prop :=
  match s with
  | (x5, x7, I) => w_X2_count  I J (fun (r_1 : Int32) => ((r_1 ≤ x7 → (E6 x5 I)) ∧ (¬ r_1 ≤ x7 → (vp_in x7 1024 ∧ (((J 40 (Int32.toNatClampNeg x7)) = 0 → (K6 (x5, (x7 + 1), I))) ∧ (¬ (J 40 (Int32.toNatClampNeg x7)) = 0 → (w_X7_play x1 x2 x3 x7 I J (fun (I_2 : HI) => ((x4 = 0 → (wj_X3_fought_85 I_2 J x1 x2 x3 x4 x5 x7 ((I_2 48 8) &&& ((I_2 48 6) ^^^ (-1))) E6 K6 Post)) ∧ (¬ x4 = 0 → (wj_X3_fought_85 I_2 J x1 x2 x3 x4 x5 x7 ((I_2 48 8) &&& (I_2 48 6)) E6 K6 Post)))))))))))
set_option maxHeartbeats 4000000 in
set_option maxRecDepth 20000 in
theorem ws_X3_fought_6 (g : kf_G) (hg : kf_g g) {x : kf_X} (hx : kf_ok g x RX3 cX3_fought 9 4 92) (J : HJ) (x1 : Int32) (x2 : Int32) (x3 : Int32) (x4 : Int32) (Post : Int64 → HI → Prop) (hret : ∀ (pc : Nat) (lv : List (Nat × Value)) (v : Int64) (Iy : HI), decode cX3_fought pc = .ok (.lreturn, 1) → Post v Iy → kf_M g x 9 pc lv [.long v] Iy J) (E6 : Int64 → HI → Prop) (hE6 : ∀ (y5 : Int64) (Iy : HI), E6 y5 Iy → kf_M g x 9 115 [(5, .long y5)] [] Iy J) (K6 : (Int64 × Int32 × HI) → Prop) (hK6 : ∀ (y5 : Int64) (y7 : Int32) (Iy : HI), K6 (y5, y7, Iy) → kf_M g x 9 6 [(0, .ref (g.2.2.2 52)), (1, .int x1), (2, .int x2), (3, .int x3), (4, .int x4), (5, .long y5), (7, .int y7)] [] Iy J) (x5 : Int64) (x7 : Int32) (I : HI) (h : wb_X3_fought_6 J x1 x2 x3 x4 Post E6 K6 (x5, x7, I)) : kf_M g x 9 6 [(0, .ref (g.2.2.2 52)), (1, .int x1), (2, .int x2), (3, .int x3), (4, .int x4), (5, .long x5), (7, .int x7)] [] I J := by
  unfold wb_X3_fought_6 at h
  refine kf_iload hx dX3_fought_6 6 rfl ?_
  refine kf_aload_n hx dX3_fought_8 rfl 0 rfl ?_
  refine kf_getR (n := 39) hx sl_52_1 fl_RX3_19 dX3_fought_9 ?_
  refine kf_callViP (st := [.int x7]) hx (m_X2_count g hg  I J _ h) lk_RX3_27 km_X2_count ob_39 rfl (by decide) rfl (Nat.le_of_ble_eq_true rfl) dX3_fought_12 (fun r_1 h => ?_)
  refine kf_icmp_ge hx 115 dX3_fought_15 (by decide) (fun c => ?_) (fun c => ?_)
  · replace h := h.1 c
    refine kf_sub [5] rfl ?_
    exact hE6 _ _ h
  · replace h := h.2 c
    refine kf_aload_n hx dX3_fought_18 rfl 0 rfl ?_
    refine kf_getR (n := 39) hx sl_52_1 fl_RX3_19 dX3_fought_19 ?_
    refine kf_getR (n := 40) hx sl_39_1 fl_RX3_33 dX3_fought_22 ?_
    refine kf_iload hx dX3_fought_25 6 rfl ?_
    refine kf_lald hx ar_40 h.1 dX3_fought_27 ?_
    replace h := h.2
    refine kf_lconst (v := 0) hx dX3_fought_28 (by decide) ?_
    refine kf_l_eq hx 109 dX3_fought_29 dX3_fought_30 (by decide) (fun c => ?_) (fun c => ?_)
    · replace h := h.1 c
      refine kf_iinc (w := (x7 + 1)) (lv' := [(7, .int (x7 + 1)), (0, .ref (g.2.2.2 52)), (1, .int x1), (2, .int x2), (3, .int x3), (4, .int x4), (5, .long x5)]) hx dX3_fought_109 6 rfl rfl (by decide) rfl ?_
      refine kf_goto hx 6 dX3_fought_112 (by decide) ?_
      refine kf_sub [1, 2, 3, 4, 5, 6, 0] rfl ?_
      exact hK6 _ _ _ h
    · replace h := h.2 c
      refine kf_aload_n hx dX3_fought_33 rfl 0 rfl ?_
      refine kf_getR (n := 48) hx sl_52_2 fl_RX3_23 dX3_fought_34 ?_
      refine kf_iload_n hx dX3_fought_37 rfl 1 rfl ?_
      refine kf_iload_n hx dX3_fought_38 rfl 2 rfl ?_
      refine kf_iload_n hx dX3_fought_39 rfl 3 rfl ?_
      refine kf_iload hx dX3_fought_40 6 rfl ?_
      refine kf_callVvI (st := []) hx (m_X7_play g hg x1 x2 x3 x7 I J _ h) lk_RX3_36 km_X7_play ob_48 rfl (by decide) rfl (Nat.le_of_ble_eq_true rfl) dX3_fought_42 (fun I_2 h => ?_)
      refine kf_iload hx dX3_fought_45 4 rfl ?_
      refine kf_if_eq hx 68 dX3_fought_47 (by decide) (fun c => ?_) (fun c => ?_)
      · replace h := h.1 c
        refine kf_aload_n hx dX3_fought_68 rfl 0 rfl ?_
        refine kf_getR (n := 48) hx sl_52_2 fl_RX3_23 dX3_fought_69 ?_
        refine kf_getI hx sl_48_8 fl_RX3_42 dX3_fought_72 ?_
        refine kf_aload_n hx dX3_fought_75 rfl 0 rfl ?_
        refine kf_getR (n := 48) hx sl_52_2 fl_RX3_23 dX3_fought_76 ?_
        refine kf_getI hx sl_48_6 fl_RX3_46 dX3_fought_79 ?_
        refine kf_iconst (v := (-1)) hx dX3_fought_82 (by decide) ?_
        refine kf_ixor hx dX3_fought_83 ?_
        refine kf_iand hx dX3_fought_84 ?_
        exact wk_X3_fought_85 g hg hx I_2 J x1 x2 x3 x4 x5 x7 ((I_2 48 8) &&& ((I_2 48 6) ^^^ (-1))) _ _ hE6 hK6 _ hret h
      · replace h := h.2 c
        refine kf_aload_n hx dX3_fought_50 rfl 0 rfl ?_
        refine kf_getR (n := 48) hx sl_52_2 fl_RX3_23 dX3_fought_51 ?_
        refine kf_getI hx sl_48_8 fl_RX3_42 dX3_fought_54 ?_
        refine kf_aload_n hx dX3_fought_57 rfl 0 rfl ?_
        refine kf_getR (n := 48) hx sl_52_2 fl_RX3_23 dX3_fought_58 ?_
        refine kf_getI hx sl_48_6 fl_RX3_46 dX3_fought_61 ?_
        refine kf_iand hx dX3_fought_64 ?_
        refine kf_goto hx 85 dX3_fought_65 (by decide) ?_
        exact wk_X3_fought_85 g hg hx I_2 J x1 x2 x3 x4 x5 x7 ((I_2 48 8) &&& (I_2 48 6)) _ _ hE6 hK6 _ hret h
theorem wl_X3_fought_6 (g : kf_G) (hg : kf_g g) {x : kf_X} (hx : kf_ok g x RX3 cX3_fought 9 4 92) (J : HJ) (x1 : Int32) (x2 : Int32) (x3 : Int32) (x4 : Int32) (Post : Int64 → HI → Prop) (hret : ∀ (pc : Nat) (lv : List (Nat × Value)) (v : Int64) (Iy : HI), decode cX3_fought pc = .ok (.lreturn, 1) → Post v Iy → kf_M g x 9 pc lv [.long v] Iy J) (E6 : Int64 → HI → Prop) (hE6 : ∀ (y5 : Int64) (Iy : HI), E6 y5 Iy → kf_M g x 9 115 [(5, .long y5)] [] Iy J) : ∀ (n : Nat) (x5 : Int64) (x7 : Int32) (I : HI), lp (wb_X3_fought_6 J x1 x2 x3 x4 Post E6) n (x5, x7, I) → kf_M g x 9 6 [(0, .ref (g.2.2.2 52)), (1, .int x1), (2, .int x2), (3, .int x3), (4, .int x4), (5, .long x5), (7, .int x7)] [] I J := by
  intro n
  induction n with
  | zero => intro x5 x7 I h; exact h.elim
  | succ n ih => intro x5 x7 I h; exact ws_X3_fought_6 g hg hx J x1 x2 x3 x4 Post hret E6 hE6 (lp (wb_X3_fought_6 J x1 x2 x3 x4 Post E6) n) ih x5 x7 I h
def w_X3_fought (x1 : Int32) (x2 : Int32) (x3 : Int32) (x4 : Int32) (I : HI) (J : HJ) (Post : Int64 → HI → Prop) : Prop :=
  ∃ n, lp (wb_X3_fought_6 J x1 x2 x3 x4 Post (fun (x5_5 : Int64) (I_6 : HI) => Post x5_5 I_6)) n (0, 0, I)
set_option maxHeartbeats 4000000 in
set_option maxRecDepth 20000 in
theorem we_X3_fought (g : kf_G) (hg : kf_g g) {x : kf_X} (hx : kf_ok g x RX3 cX3_fought 9 4 92) (x1 : Int32) (x2 : Int32) (x3 : Int32) (x4 : Int32) (I : HI) (J : HJ) (Post : Int64 → HI → Prop) (hret : ∀ (pc : Nat) (lv : List (Nat × Value)) (v : Int64) (Iy : HI), decode cX3_fought pc = .ok (.lreturn, 1) → Post v Iy → kf_M g x 9 pc lv [.long v] Iy J) (h : w_X3_fought x1 x2 x3 x4 I J Post) : kf_M g x 9 0 [(0, .ref (g.2.2.2 52)), (1, .int x1), (2, .int x2), (3, .int x3), (4, .int x4)] [] I J := by
  unfold w_X3_fought at h
  refine kf_lconst (v := 0) hx dX3_fought_0 (by decide) ?_
  refine kf_lstore (lv' := [(5, .long 0), (0, .ref (g.2.2.2 52)), (1, .int x1), (2, .int x2), (3, .int x3), (4, .int x4)]) hx dX3_fought_1 (by decide) rfl ?_
  refine kf_iconst (v := 0) hx dX3_fought_3 (by decide) ?_
  refine kf_istore (lv' := [(7, .int 0), (5, .long 0), (0, .ref (g.2.2.2 52)), (1, .int x1), (2, .int x2), (3, .int x3), (4, .int x4)]) hx dX3_fought_4 (by decide) rfl ?_
  obtain ⟨n, h⟩ := h
  refine kf_sub [2, 3, 4, 5, 6, 1, 0] rfl ?_
  refine wl_X3_fought_6 g hg hx J x1 x2 x3 x4 _ hret _ (fun x5_5 I_6 h => ?_) n _ _ _ h
  refine kf_lload hx dX3_fought_115 0 rfl ?_
  exact hret _ _ x5_5 _ dX3_fought_117 h
set_option maxHeartbeats 4000000 in
set_option maxRecDepth 20000 in
theorem m_X3_fought (g : kf_G) (hg : kf_g g) (x1 : Int32) (x2 : Int32) (x3 : Int32) (x4 : Int32) (I : HI) (J : HJ) (Post : Int64 → HI → Prop) (h : w_X3_fought x1 x2 x3 x4 I J Post) : kf_Ml g yX3_fought (kf_W yX3_fought cX3_fought 9 (Option.some Jvm.ClassFile.FieldType.long)) 4 92 [.ref (g.2.2.2 52), .int x1, .int x2, .int x3, .int x4] I J (fun v I' J' => Post v I' ∧ J' = J) :=
  kf_entl hg (by decide) (Nat.le_of_ble_eq_true rfl) rfl (fun x hx hr => we_X3_fought g hg hx x1 x2 x3 x4 I J Post (fun pc lv v I' hd hP => hr pc lv v I' J hd ⟨hP, rfl⟩) h)
theorem dX3_bestAnswer_0 : decode cX3_bestAnswer 0 = .ok (.iconst (-1), 1) := by decide +kernel
theorem dX3_bestAnswer_1 : decode cX3_bestAnswer 1 = .ok (.istore_n 3, 1) := by decide +kernel
theorem dX3_bestAnswer_2 : decode cX3_bestAnswer 2 = .ok (.aload_n 0, 1) := by decide +kernel
theorem dX3_bestAnswer_3 : decode cX3_bestAnswer 3 = .ok (.ldc2_w 55, 3) := by decide +kernel
theorem dX3_bestAnswer_6 : decode cX3_bestAnswer 6 = .ok (.putfield 57, 3) := by decide +kernel
theorem dX3_bestAnswer_9 : decode cX3_bestAnswer 9 = .ok (.iconst 0, 1) := by decide +kernel
theorem dX3_bestAnswer_10 : decode cX3_bestAnswer 10 = .ok (.istore 4, 2) := by decide +kernel
theorem dX3_bestAnswer_12 : decode cX3_bestAnswer 12 = .ok (.iload 4, 2) := by decide +kernel
theorem dX3_bestAnswer_14 : decode cX3_bestAnswer 14 = .ok (.aload_n 0, 1) := by decide +kernel
theorem dX3_bestAnswer_15 : decode cX3_bestAnswer 15 = .ok (.getfield 15, 3) := by decide +kernel
theorem dX3_bestAnswer_18 : decode cX3_bestAnswer 18 = .ok (.getfield 61, 3) := by decide +kernel
theorem dX3_bestAnswer_21 : decode cX3_bestAnswer 21 = .ok (.if_icmp .ge 41, 3) := by decide +kernel
theorem dX3_bestAnswer_24 : decode cX3_bestAnswer 24 = .ok (.aload_n 0, 1) := by decide +kernel
theorem dX3_bestAnswer_25 : decode cX3_bestAnswer 25 = .ok (.iload_n 1, 1) := by decide +kernel
theorem dX3_bestAnswer_26 : decode cX3_bestAnswer 26 = .ok (.iconst 1, 1) := by decide +kernel
theorem dX3_bestAnswer_27 : decode cX3_bestAnswer 27 = .ok (.iload 4, 2) := by decide +kernel
theorem dX3_bestAnswer_29 : decode cX3_bestAnswer 29 = .ok (.ishl, 1) := by decide +kernel
theorem dX3_bestAnswer_30 : decode cX3_bestAnswer 30 = .ok (.iload_n 2, 1) := by decide +kernel
theorem dX3_bestAnswer_31 : decode cX3_bestAnswer 31 = .ok (.iconst 0, 1) := by decide +kernel
theorem dX3_bestAnswer_32 : decode cX3_bestAnswer 32 = .ok (.invokevirtual 66, 3) := by decide +kernel
theorem dX3_bestAnswer_35 : decode cX3_bestAnswer 35 = .ok (.lstore 5, 2) := by decide +kernel
theorem dX3_bestAnswer_37 : decode cX3_bestAnswer 37 = .ok (.lload 5, 2) := by decide +kernel
theorem dX3_bestAnswer_39 : decode cX3_bestAnswer 39 = .ok (.aload_n 0, 1) := by decide +kernel
theorem dX3_bestAnswer_40 : decode cX3_bestAnswer 40 = .ok (.getfield 57, 3) := by decide +kernel
theorem dX3_bestAnswer_43 : decode cX3_bestAnswer 43 = .ok (.lcmp, 1) := by decide +kernel
theorem dX3_bestAnswer_44 : decode cX3_bestAnswer 44 = .ok (.ifCond .le 12, 3) := by decide +kernel
theorem dX3_bestAnswer_47 : decode cX3_bestAnswer 47 = .ok (.aload_n 0, 1) := by decide +kernel
theorem dX3_bestAnswer_48 : decode cX3_bestAnswer 48 = .ok (.lload 5, 2) := by decide +kernel
theorem dX3_bestAnswer_50 : decode cX3_bestAnswer 50 = .ok (.putfield 57, 3) := by decide +kernel
theorem dX3_bestAnswer_53 : decode cX3_bestAnswer 53 = .ok (.iload 4, 2) := by decide +kernel
theorem dX3_bestAnswer_55 : decode cX3_bestAnswer 55 = .ok (.istore_n 3, 1) := by decide +kernel
theorem dX3_bestAnswer_56 : decode cX3_bestAnswer 56 = .ok (.iinc 4 1, 3) := by decide +kernel
theorem dX3_bestAnswer_59 : decode cX3_bestAnswer 59 = .ok (.goto (-47), 3) := by decide +kernel
theorem dX3_bestAnswer_62 : decode cX3_bestAnswer 62 = .ok (.iload_n 3, 1) := by decide +kernel
theorem dX3_bestAnswer_63 : decode cX3_bestAnswer 63 = .ok (.ireturn, 1) := by decide +kernel
def wb_X3_bestAnswer_12 (x1 : Int32) (x2 : Int32) (Post : Int32 → HI → HJ → Prop) (E12 : Int32 → HI → HJ → Prop) (K12 : (Int32 × Int32 × HI × HJ) → Prop) (s : Int32 × Int32 × HI × HJ) : Prop :=
  match s with
  | (x3, x4, I, J) => ((I 12 11) ≤ x4 → (E12 x3 I J)) ∧ (¬ (I 12 11) ≤ x4 → (w_X3_fought x1 (1 <<< (x4 &&& 31)) x2 0 I J (fun (r_2 : Int64) (I_3 : HI) => ((r_2 ≤ (J 52 4) → (K12 (x3, (x4 + 1), I_3, J))) ∧ (¬ r_2 ≤ (J 52 4) → (∀ J_4 : HJ, J_4 = hJ J 52 4 r_2 → (K12 (x4, (x4 + 1), I_3, J_4))))))))
set_option maxHeartbeats 4000000 in
set_option maxRecDepth 20000 in
theorem ws_X3_bestAnswer_12 (g : kf_G) (hg : kf_g g) {x : kf_X} (hx : kf_ok g x RX3 cX3_bestAnswer 7 5 120) (x1 : Int32) (x2 : Int32) (Post : Int32 → HI → HJ → Prop) (hret : ∀ (pc : Nat) (lv : List (Nat × Value)) (v : Int32) (Iy : HI) (Jy : HJ), decode cX3_bestAnswer pc = .ok (.ireturn, 1) → Post v Iy Jy → kf_M g x 7 pc lv [.int v] Iy Jy) (E12 : Int32 → HI → HJ → Prop) (hE12 : ∀ (y3 : Int32) (Iy : HI) (Jy : HJ), E12 y3 Iy Jy → kf_M g x 7 62 [(3, .int y3)] [] Iy Jy) (K12 : (Int32 × Int32 × HI × HJ) → Prop) (hK12 : ∀ (y3 : Int32) (y4 : Int32) (Iy : HI) (Jy : HJ), K12 (y3, y4, Iy, Jy) → kf_M g x 7 12 [(0, .ref (g.2.2.2 52)), (1, .int x1), (2, .int x2), (3, .int y3), (4, .int y4)] [] Iy Jy) (x3 : Int32) (x4 : Int32) (I : HI) (J : HJ) (h : wb_X3_bestAnswer_12 x1 x2 Post E12 K12 (x3, x4, I, J)) : kf_M g x 7 12 [(0, .ref (g.2.2.2 52)), (1, .int x1), (2, .int x2), (3, .int x3), (4, .int x4)] [] I J := by
  unfold wb_X3_bestAnswer_12 at h
  refine kf_iload hx dX3_bestAnswer_12 4 rfl ?_
  refine kf_aload_n hx dX3_bestAnswer_14 rfl 0 rfl ?_
  refine kf_getR (n := 12) hx sl_52_0 fl_RX3_15 dX3_bestAnswer_15 ?_
  refine kf_getI hx sl_12_11 fl_RX3_61 dX3_bestAnswer_18 ?_
  refine kf_icmp_ge hx 62 dX3_bestAnswer_21 (by decide) (fun c => ?_) (fun c => ?_)
  · replace h := h.1 c
    refine kf_sub [3] rfl ?_
    exact hE12 _ _ _ h
  · replace h := h.2 c
    refine kf_aload_n hx dX3_bestAnswer_24 rfl 0 rfl ?_
    refine kf_iload_n hx dX3_bestAnswer_25 rfl 1 rfl ?_
    refine kf_iconst (v := 1) hx dX3_bestAnswer_26 (by decide) ?_
    refine kf_iload hx dX3_bestAnswer_27 4 rfl ?_
    refine kf_ishl hx dX3_bestAnswer_29 ?_
    refine kf_iload_n hx dX3_bestAnswer_30 rfl 2 rfl ?_
    refine kf_iconst (v := 0) hx dX3_bestAnswer_31 (by decide) ?_
    refine kf_callVlI (st := []) hx (m_X3_fought g hg x1 (1 <<< (x4 &&& 31)) x2 0 I J _ h) lk_RX3_66 km_X3_fought ob_52 rfl (by decide) rfl (Nat.le_of_ble_eq_true rfl) dX3_bestAnswer_32 (fun r_2 I_3 h => ?_)
    refine kf_lstore (lv' := [(5, .long r_2), (0, .ref (g.2.2.2 52)), (1, .int x1), (2, .int x2), (3, .int x3), (4, .int x4)]) hx dX3_bestAnswer_35 (by decide) rfl ?_
    refine kf_lload hx dX3_bestAnswer_37 0 rfl ?_
    refine kf_aload_n hx dX3_bestAnswer_39 rfl 1 rfl ?_
    refine kf_getJ hx sl_52_4 fl_RX3_57 dX3_bestAnswer_40 ?_
    refine kf_l_le hx 56 dX3_bestAnswer_43 dX3_bestAnswer_44 (by decide) (fun c => ?_) (fun c => ?_)
    · replace h := h.1 c
      refine kf_iinc (w := (x4 + 1)) (lv' := [(4, .int (x4 + 1)), (5, .long r_2), (0, .ref (g.2.2.2 52)), (1, .int x1), (2, .int x2), (3, .int x3)]) hx dX3_bestAnswer_56 5 rfl rfl (by decide) rfl ?_
      refine kf_goto hx 12 dX3_bestAnswer_59 (by decide) ?_
      refine kf_sub [2, 3, 4, 5, 0] rfl ?_
      exact hK12 _ _ _ _ h
    · replace h := h.2 c
      refine kf_aload_n hx dX3_bestAnswer_47 rfl 1 rfl ?_
      refine kf_lload hx dX3_bestAnswer_48 0 rfl ?_
      refine kf_putJ hx sl_52_4 fl_RX3_57 fp_3_4 dX3_bestAnswer_50 ?_
      refine kf_nmJ (fun J_4 eJ_4 => ?_)
      replace h := h J_4 eJ_4
      refine kf_iload hx dX3_bestAnswer_53 5 rfl ?_
      refine kf_istore_n (lv' := [(3, .int x4), (5, .long r_2), (0, .ref (g.2.2.2 52)), (1, .int x1), (2, .int x2), (4, .int x4)]) hx dX3_bestAnswer_55 rfl (by decide) rfl ?_
      refine kf_iinc (w := (x4 + 1)) (lv' := [(4, .int (x4 + 1)), (3, .int x4), (5, .long r_2), (0, .ref (g.2.2.2 52)), (1, .int x1), (2, .int x2)]) hx dX3_bestAnswer_56 5 rfl rfl (by decide) rfl ?_
      refine kf_goto hx 12 dX3_bestAnswer_59 (by decide) ?_
      refine kf_sub [3, 4, 5, 1, 0] rfl ?_
      exact hK12 _ _ _ _ h
theorem wl_X3_bestAnswer_12 (g : kf_G) (hg : kf_g g) {x : kf_X} (hx : kf_ok g x RX3 cX3_bestAnswer 7 5 120) (x1 : Int32) (x2 : Int32) (Post : Int32 → HI → HJ → Prop) (hret : ∀ (pc : Nat) (lv : List (Nat × Value)) (v : Int32) (Iy : HI) (Jy : HJ), decode cX3_bestAnswer pc = .ok (.ireturn, 1) → Post v Iy Jy → kf_M g x 7 pc lv [.int v] Iy Jy) (E12 : Int32 → HI → HJ → Prop) (hE12 : ∀ (y3 : Int32) (Iy : HI) (Jy : HJ), E12 y3 Iy Jy → kf_M g x 7 62 [(3, .int y3)] [] Iy Jy) : ∀ (n : Nat) (x3 : Int32) (x4 : Int32) (I : HI) (J : HJ), lp (wb_X3_bestAnswer_12 x1 x2 Post E12) n (x3, x4, I, J) → kf_M g x 7 12 [(0, .ref (g.2.2.2 52)), (1, .int x1), (2, .int x2), (3, .int x3), (4, .int x4)] [] I J := by
  intro n
  induction n with
  | zero => intro x3 x4 I J h; exact h.elim
  | succ n ih => intro x3 x4 I J h; exact ws_X3_bestAnswer_12 g hg hx x1 x2 Post hret E12 hE12 (lp (wb_X3_bestAnswer_12 x1 x2 Post E12) n) ih x3 x4 I J h
def w_X3_bestAnswer (x1 : Int32) (x2 : Int32) (I : HI) (J : HJ) (Post : Int32 → HI → HJ → Prop) : Prop :=
  ∀ J_1 : HJ, J_1 = hJ J 52 4 (-1) → (∃ n, lp (wb_X3_bestAnswer_12 x1 x2 Post (fun (x3_5 : Int32) (I_6 : HI) (J_7 : HJ) => Post x3_5 I_6 J_7)) n ((-1), 0, I, J_1))
set_option maxHeartbeats 4000000 in
set_option maxRecDepth 20000 in
theorem we_X3_bestAnswer (g : kf_G) (hg : kf_g g) {x : kf_X} (hx : kf_ok g x RX3 cX3_bestAnswer 7 5 120) (x1 : Int32) (x2 : Int32) (I : HI) (J : HJ) (Post : Int32 → HI → HJ → Prop) (hret : ∀ (pc : Nat) (lv : List (Nat × Value)) (v : Int32) (Iy : HI) (Jy : HJ), decode cX3_bestAnswer pc = .ok (.ireturn, 1) → Post v Iy Jy → kf_M g x 7 pc lv [.int v] Iy Jy) (h : w_X3_bestAnswer x1 x2 I J Post) : kf_M g x 7 0 [(0, .ref (g.2.2.2 52)), (1, .int x1), (2, .int x2)] [] I J := by
  unfold w_X3_bestAnswer at h
  refine kf_iconst (v := (-1)) hx dX3_bestAnswer_0 (by decide) ?_
  refine kf_istore_n (lv' := [(3, .int (-1)), (0, .ref (g.2.2.2 52)), (1, .int x1), (2, .int x2)]) hx dX3_bestAnswer_1 rfl (by decide) rfl ?_
  refine kf_aload_n hx dX3_bestAnswer_2 rfl 1 rfl ?_
  refine kf_ldc2 hx ko_RX3_55 dX3_bestAnswer_3 ?_
  refine kf_putJ hx sl_52_4 fl_RX3_57 fp_3_4 dX3_bestAnswer_6 ?_
  refine kf_nmJ (fun J_1 eJ_1 => ?_)
  replace h := h J_1 eJ_1
  refine kf_iconst (v := 0) hx dX3_bestAnswer_9 (by decide) ?_
  refine kf_istore (lv' := [(4, .int 0), (3, .int (-1)), (0, .ref (g.2.2.2 52)), (1, .int x1), (2, .int x2)]) hx dX3_bestAnswer_10 (by decide) rfl ?_
  obtain ⟨n, h⟩ := h
  refine kf_sub [2, 3, 4, 1, 0] rfl ?_
  refine wl_X3_bestAnswer_12 g hg hx  x1 x2 _ hret _ (fun x3_5 I_6 J_7 h => ?_) n _ _ _ _ h
  refine kf_iload_n hx dX3_bestAnswer_62 rfl 0 rfl ?_
  exact hret _ _ x3_5 _ _ dX3_bestAnswer_63 h
set_option maxHeartbeats 4000000 in
set_option maxRecDepth 20000 in
theorem m_X3_bestAnswer (g : kf_G) (hg : kf_g g) (x1 : Int32) (x2 : Int32) (I : HI) (J : HJ) (Post : Int32 → HI → HJ → Prop) (h : w_X3_bestAnswer x1 x2 I J Post) : kf_Mi g yX3_bestAnswer (kf_W yX3_bestAnswer cX3_bestAnswer 7 (Option.some Jvm.ClassFile.FieldType.int)) 5 120 [.ref (g.2.2.2 52), .int x1, .int x2] I J Post :=
  kf_enti hg (by decide) (Nat.le_of_ble_eq_true rfl) rfl (fun x hx hr => we_X3_bestAnswer g hg hx x1 x2 I J Post (fun pc lv v I' J' hd hP => hr pc lv v I' J' hd hP) h)
theorem dX3_lastHour_0 : decode cX3_lastHour 0 = .ok (.aload_n 0, 1) := by decide +kernel
theorem dX3_lastHour_1 : decode cX3_lastHour 1 = .ok (.iload_n 1, 1) := by decide +kernel
theorem dX3_lastHour_2 : decode cX3_lastHour 2 = .ok (.iconst 0, 1) := by decide +kernel
theorem dX3_lastHour_3 : decode cX3_lastHour 3 = .ok (.iconst 0, 1) := by decide +kernel
theorem dX3_lastHour_4 : decode cX3_lastHour 4 = .ok (.iconst 1, 1) := by decide +kernel
theorem dX3_lastHour_5 : decode cX3_lastHour 5 = .ok (.invokevirtual 66, 3) := by decide +kernel
theorem dX3_lastHour_8 : decode cX3_lastHour 8 = .ok (.lstore_n 3, 1) := by decide +kernel
theorem dX3_lastHour_9 : decode cX3_lastHour 9 = .ok (.bipush 20, 2) := by decide +kernel
theorem dX3_lastHour_11 : decode cX3_lastHour 11 = .ok (.istore 5, 2) := by decide +kernel
theorem dX3_lastHour_13 : decode cX3_lastHour 13 = .ok (.iload 5, 2) := by decide +kernel
theorem dX3_lastHour_15 : decode cX3_lastHour 15 = .ok (.ifCond .lt 32, 3) := by decide +kernel
theorem dX3_lastHour_18 : decode cX3_lastHour 18 = .ok (.ldc2_w 70, 3) := by decide +kernel
theorem dX3_lastHour_21 : decode cX3_lastHour 21 = .ok (.aload_n 0, 1) := by decide +kernel
theorem dX3_lastHour_22 : decode cX3_lastHour 22 = .ok (.iload_n 1, 1) := by decide +kernel
theorem dX3_lastHour_23 : decode cX3_lastHour 23 = .ok (.iconst 1, 1) := by decide +kernel
theorem dX3_lastHour_24 : decode cX3_lastHour 24 = .ok (.iload_n 2, 1) := by decide +kernel
theorem dX3_lastHour_25 : decode cX3_lastHour 25 = .ok (.ishl, 1) := by decide +kernel
theorem dX3_lastHour_26 : decode cX3_lastHour 26 = .ok (.iload 5, 2) := by decide +kernel
theorem dX3_lastHour_28 : decode cX3_lastHour 28 = .ok (.iconst 1, 1) := by decide +kernel
theorem dX3_lastHour_29 : decode cX3_lastHour 29 = .ok (.invokevirtual 66, 3) := by decide +kernel
theorem dX3_lastHour_32 : decode cX3_lastHour 32 = .ok (.lmul, 1) := by decide +kernel
theorem dX3_lastHour_33 : decode cX3_lastHour 33 = .ok (.lload_n 3, 1) := by decide +kernel
theorem dX3_lastHour_34 : decode cX3_lastHour 34 = .ok (.lcmp, 1) := by decide +kernel
theorem dX3_lastHour_35 : decode cX3_lastHour 35 = .ok (.ifCond .gt 6, 3) := by decide +kernel
theorem dX3_lastHour_38 : decode cX3_lastHour 38 = .ok (.iload 5, 2) := by decide +kernel
theorem dX3_lastHour_40 : decode cX3_lastHour 40 = .ok (.ireturn, 1) := by decide +kernel
theorem dX3_lastHour_41 : decode cX3_lastHour 41 = .ok (.iinc 5 (-1), 3) := by decide +kernel
theorem dX3_lastHour_44 : decode cX3_lastHour 44 = .ok (.goto (-31), 3) := by decide +kernel
theorem dX3_lastHour_47 : decode cX3_lastHour 47 = .ok (.iconst (-1), 1) := by decide +kernel
theorem dX3_lastHour_48 : decode cX3_lastHour 48 = .ok (.ireturn, 1) := by decide +kernel
def wb_X3_lastHour_13 (J : HJ) (x1 : Int32) (x2 : Int32) (x3 : Int64) (Post : Int32 → HI → Prop) (E13 : HI → Prop) (K13 : (Int32 × HI) → Prop) (s : Int32 × HI) : Prop :=
  match s with
  | (x5, I) => (x5 < 0 → (E13 I)) ∧ (¬ x5 < 0 → (w_X3_fought x1 (1 <<< (x2 &&& 31)) x5 1 I J (fun (r_3 : Int64) (I_4 : HI) => ((x3 < (2 * r_3) → (K13 ((x5 + (-1)), I_4))) ∧ (¬ x3 < (2 * r_3) → (Post x5 I_4))))))
set_option maxHeartbeats 4000000 in
set_option maxRecDepth 20000 in
theorem ws_X3_lastHour_13 (g : kf_G) (hg : kf_g g) {x : kf_X} (hx : kf_ok g x RX3 cX3_lastHour 6 5 120) (J : HJ) (x1 : Int32) (x2 : Int32) (x3 : Int64) (Post : Int32 → HI → Prop) (hret : ∀ (pc : Nat) (lv : List (Nat × Value)) (v : Int32) (Iy : HI), decode cX3_lastHour pc = .ok (.ireturn, 1) → Post v Iy → kf_M g x 6 pc lv [.int v] Iy J) (E13 : HI → Prop) (hE13 : ∀ (Iy : HI), E13 Iy → kf_M g x 6 47 [] [] Iy J) (K13 : (Int32 × HI) → Prop) (hK13 : ∀ (y5 : Int32) (Iy : HI), K13 (y5, Iy) → kf_M g x 6 13 [(0, .ref (g.2.2.2 52)), (1, .int x1), (2, .int x2), (3, .long x3), (5, .int y5)] [] Iy J) (x5 : Int32) (I : HI) (h : wb_X3_lastHour_13 J x1 x2 x3 Post E13 K13 (x5, I)) : kf_M g x 6 13 [(0, .ref (g.2.2.2 52)), (1, .int x1), (2, .int x2), (3, .long x3), (5, .int x5)] [] I J := by
  unfold wb_X3_lastHour_13 at h
  refine kf_iload hx dX3_lastHour_13 4 rfl ?_
  refine kf_if_lt hx 47 dX3_lastHour_15 (by decide) (fun c => ?_) (fun c => ?_)
  · replace h := h.1 c
    refine kf_sub [] rfl ?_
    exact hE13 _ h
  · replace h := h.2 c
    refine kf_ldc2 hx ko_RX3_70 dX3_lastHour_18 ?_
    refine kf_aload_n hx dX3_lastHour_21 rfl 0 rfl ?_
    refine kf_iload_n hx dX3_lastHour_22 rfl 1 rfl ?_
    refine kf_iconst (v := 1) hx dX3_lastHour_23 (by decide) ?_
    refine kf_iload_n hx dX3_lastHour_24 rfl 2 rfl ?_
    refine kf_ishl hx dX3_lastHour_25 ?_
    refine kf_iload hx dX3_lastHour_26 4 rfl ?_
    refine kf_iconst (v := 1) hx dX3_lastHour_28 (by decide) ?_
    refine kf_callVlI (st := [.long 2]) hx (m_X3_fought g hg x1 (1 <<< (x2 &&& 31)) x5 1 I J _ h) lk_RX3_66 km_X3_fought ob_52 rfl (by decide) rfl (Nat.le_of_ble_eq_true rfl) dX3_lastHour_29 (fun r_3 I_4 h => ?_)
    refine kf_lmul hx dX3_lastHour_32 ?_
    refine kf_lload_n hx dX3_lastHour_33 rfl 3 rfl ?_
    refine kf_l_gt hx 41 dX3_lastHour_34 dX3_lastHour_35 (by decide) (fun c => ?_) (fun c => ?_)
    · replace h := h.1 c
      refine kf_iinc (w := (x5 + (-1))) (lv' := [(5, .int (x5 + (-1))), (0, .ref (g.2.2.2 52)), (1, .int x1), (2, .int x2), (3, .long x3)]) hx dX3_lastHour_41 4 rfl rfl (by decide) rfl ?_
      refine kf_goto hx 13 dX3_lastHour_44 (by decide) ?_
      refine kf_sub [1, 2, 3, 4, 0] rfl ?_
      exact hK13 _ _ h
    · replace h := h.2 c
      refine kf_iload hx dX3_lastHour_38 4 rfl ?_
      exact hret _ _ x5 _ dX3_lastHour_40 h
theorem wl_X3_lastHour_13 (g : kf_G) (hg : kf_g g) {x : kf_X} (hx : kf_ok g x RX3 cX3_lastHour 6 5 120) (J : HJ) (x1 : Int32) (x2 : Int32) (x3 : Int64) (Post : Int32 → HI → Prop) (hret : ∀ (pc : Nat) (lv : List (Nat × Value)) (v : Int32) (Iy : HI), decode cX3_lastHour pc = .ok (.ireturn, 1) → Post v Iy → kf_M g x 6 pc lv [.int v] Iy J) (E13 : HI → Prop) (hE13 : ∀ (Iy : HI), E13 Iy → kf_M g x 6 47 [] [] Iy J) : ∀ (n : Nat) (x5 : Int32) (I : HI), lp (wb_X3_lastHour_13 J x1 x2 x3 Post E13) n (x5, I) → kf_M g x 6 13 [(0, .ref (g.2.2.2 52)), (1, .int x1), (2, .int x2), (3, .long x3), (5, .int x5)] [] I J := by
  intro n
  induction n with
  | zero => intro x5 I h; exact h.elim
  | succ n ih => intro x5 I h; exact ws_X3_lastHour_13 g hg hx J x1 x2 x3 Post hret E13 hE13 (lp (wb_X3_lastHour_13 J x1 x2 x3 Post E13) n) ih x5 I h
def w_X3_lastHour (x1 : Int32) (x2 : Int32) (I : HI) (J : HJ) (Post : Int32 → HI → Prop) : Prop :=
  w_X3_fought x1 0 0 1 I J (fun (r_1 : Int64) (I_2 : HI) => (∃ n, lp (wb_X3_lastHour_13 J x1 x2 r_1 Post (fun (I_5 : HI) => Post (-1) I_5)) n (20, I_2)))
set_option maxHeartbeats 4000000 in
set_option maxRecDepth 20000 in
theorem we_X3_lastHour (g : kf_G) (hg : kf_g g) {x : kf_X} (hx : kf_ok g x RX3 cX3_lastHour 6 5 120) (x1 : Int32) (x2 : Int32) (I : HI) (J : HJ) (Post : Int32 → HI → Prop) (hret : ∀ (pc : Nat) (lv : List (Nat × Value)) (v : Int32) (Iy : HI), decode cX3_lastHour pc = .ok (.ireturn, 1) → Post v Iy → kf_M g x 6 pc lv [.int v] Iy J) (h : w_X3_lastHour x1 x2 I J Post) : kf_M g x 6 0 [(0, .ref (g.2.2.2 52)), (1, .int x1), (2, .int x2)] [] I J := by
  unfold w_X3_lastHour at h
  refine kf_aload_n hx dX3_lastHour_0 rfl 0 rfl ?_
  refine kf_iload_n hx dX3_lastHour_1 rfl 1 rfl ?_
  refine kf_iconst (v := 0) hx dX3_lastHour_2 (by decide) ?_
  refine kf_iconst (v := 0) hx dX3_lastHour_3 (by decide) ?_
  refine kf_iconst (v := 1) hx dX3_lastHour_4 (by decide) ?_
  refine kf_callVlI (st := []) hx (m_X3_fought g hg x1 0 0 1 I J _ h) lk_RX3_66 km_X3_fought ob_52 rfl (by decide) rfl (Nat.le_of_ble_eq_true rfl) dX3_lastHour_5 (fun r_1 I_2 h => ?_)
  refine kf_lstore_n (lv' := [(3, .long r_1), (0, .ref (g.2.2.2 52)), (1, .int x1), (2, .int x2)]) hx dX3_lastHour_8 rfl (by decide) rfl ?_
  refine kf_bipush (v := 20) hx dX3_lastHour_9 (by decide) ?_
  refine kf_istore (lv' := [(5, .int 20), (3, .long r_1), (0, .ref (g.2.2.2 52)), (1, .int x1), (2, .int x2)]) hx dX3_lastHour_11 (by decide) rfl ?_
  obtain ⟨n, h⟩ := h
  refine kf_sub [2, 3, 4, 1, 0] rfl ?_
  refine wl_X3_lastHour_13 g hg hx J x1 x2 r_1 _ hret _ (fun I_5 h => ?_) n _ _ h
  refine kf_iconst (v := (-1)) hx dX3_lastHour_47 (by decide) ?_
  exact hret _ _ (-1) _ dX3_lastHour_48 h
set_option maxHeartbeats 4000000 in
set_option maxRecDepth 20000 in
theorem m_X3_lastHour (g : kf_G) (hg : kf_g g) (x1 : Int32) (x2 : Int32) (I : HI) (J : HJ) (Post : Int32 → HI → Prop) (h : w_X3_lastHour x1 x2 I J Post) : kf_Mi g yX3_lastHour (kf_W yX3_lastHour cX3_lastHour 6 (Option.some Jvm.ClassFile.FieldType.int)) 5 120 [.ref (g.2.2.2 52), .int x1, .int x2] I J (fun v I' J' => Post v I' ∧ J' = J) :=
  kf_enti hg (by decide) (Nat.le_of_ble_eq_true rfl) rfl (fun x hx hr => we_X3_lastHour g hg hx x1 x2 I J Post (fun pc lv v I' hd hP => hr pc lv v I' J hd ⟨hP, rfl⟩) h)
theorem dX7_tookBy_0 : decode cX7_tookBy 0 = .ok (.iconst 0, 1) := by decide +kernel
theorem dX7_tookBy_1 : decode cX7_tookBy 1 = .ok (.istore_n 2, 1) := by decide +kernel
theorem dX7_tookBy_2 : decode cX7_tookBy 2 = .ok (.iconst 0, 1) := by decide +kernel
theorem dX7_tookBy_3 : decode cX7_tookBy 3 = .ok (.istore_n 3, 1) := by decide +kernel
theorem dX7_tookBy_4 : decode cX7_tookBy 4 = .ok (.iload_n 3, 1) := by decide +kernel
theorem dX7_tookBy_5 : decode cX7_tookBy 5 = .ok (.aload_n 0, 1) := by decide +kernel
theorem dX7_tookBy_6 : decode cX7_tookBy 6 = .ok (.getfield 21, 3) := by decide +kernel
theorem dX7_tookBy_9 : decode cX7_tookBy 9 = .ok (.getfield 100, 3) := by decide +kernel
theorem dX7_tookBy_12 : decode cX7_tookBy 12 = .ok (.if_icmp .ge 36, 3) := by decide +kernel
theorem dX7_tookBy_15 : decode cX7_tookBy 15 = .ok (.aload_n 0, 1) := by decide +kernel
theorem dX7_tookBy_16 : decode cX7_tookBy 16 = .ok (.getfield 50, 3) := by decide +kernel
theorem dX7_tookBy_19 : decode cX7_tookBy 19 = .ok (.iload_n 3, 1) := by decide +kernel
theorem dX7_tookBy_20 : decode cX7_tookBy 20 = .ok (.invokestatic 72, 3) := by decide +kernel
theorem dX7_tookBy_23 : decode cX7_tookBy 23 = .ok (.ifCond .eq 19, 3) := by decide +kernel
theorem dX7_tookBy_26 : decode cX7_tookBy 26 = .ok (.aload_n 0, 1) := by decide +kernel
theorem dX7_tookBy_27 : decode cX7_tookBy 27 = .ok (.getfield 9, 3) := by decide +kernel
theorem dX7_tookBy_30 : decode cX7_tookBy 30 = .ok (.iload_n 3, 1) := by decide +kernel
theorem dX7_tookBy_31 : decode cX7_tookBy 31 = .ok (.iaload, 1) := by decide +kernel
theorem dX7_tookBy_32 : decode cX7_tookBy 32 = .ok (.iload_n 1, 1) := by decide +kernel
theorem dX7_tookBy_33 : decode cX7_tookBy 33 = .ok (.if_icmp .gt 9, 3) := by decide +kernel
theorem dX7_tookBy_36 : decode cX7_tookBy 36 = .ok (.iload_n 2, 1) := by decide +kernel
theorem dX7_tookBy_37 : decode cX7_tookBy 37 = .ok (.iconst 1, 1) := by decide +kernel
theorem dX7_tookBy_38 : decode cX7_tookBy 38 = .ok (.iload_n 3, 1) := by decide +kernel
theorem dX7_tookBy_39 : decode cX7_tookBy 39 = .ok (.ishl, 1) := by decide +kernel
theorem dX7_tookBy_40 : decode cX7_tookBy 40 = .ok (.ior, 1) := by decide +kernel
theorem dX7_tookBy_41 : decode cX7_tookBy 41 = .ok (.istore_n 2, 1) := by decide +kernel
theorem dX7_tookBy_42 : decode cX7_tookBy 42 = .ok (.iinc 3 1, 3) := by decide +kernel
theorem dX7_tookBy_45 : decode cX7_tookBy 45 = .ok (.goto (-41), 3) := by decide +kernel
theorem dX7_tookBy_48 : decode cX7_tookBy 48 = .ok (.iload_n 2, 1) := by decide +kernel
theorem dX7_tookBy_49 : decode cX7_tookBy 49 = .ok (.ireturn, 1) := by decide +kernel
def wb_X7_tookBy_4 (I : HI) (J : HJ) (x1 : Int32) (Post : Int32 → Prop) (E4 : Int32 → Prop) (K4 : (Int32 × Int32) → Prop) (s : Int32 × Int32) : Prop :=
  match s with
  | (x2, x3) => ((I 12 11) ≤ x3 → (E4 x2)) ∧ (¬ (I 12 11) ≤ x3 → (w_X10_has (I 48 8) x3 (fun (r_1 : Bool) => ((r_1 = false → (K4 (x2, (x3 + 1)))) ∧ (r_1 = true → (vp_in x3 12 ∧ ((x1 < (I 49 (Int32.toNatClampNeg x3)) → (K4 (x2, (x3 + 1)))) ∧ (¬ x1 < (I 49 (Int32.toNatClampNeg x3)) → (K4 ((x2 ||| (1 <<< (x3 &&& 31))), (x3 + 1)))))))))))
set_option maxHeartbeats 4000000 in
set_option maxRecDepth 20000 in
theorem ws_X7_tookBy_4 (g : kf_G) (hg : kf_g g) {x : kf_X} (hx : kf_ok g x RX7 cX7_tookBy 4 1 21) (I : HI) (J : HJ) (x1 : Int32) (Post : Int32 → Prop) (hret : ∀ (pc : Nat) (lv : List (Nat × Value)) (v : Int32), decode cX7_tookBy pc = .ok (.ireturn, 1) → Post v → kf_M g x 4 pc lv [.int v] I J) (E4 : Int32 → Prop) (hE4 : ∀ (y2 : Int32), E4 y2 → kf_M g x 4 48 [(2, .int y2)] [] I J) (K4 : (Int32 × Int32) → Prop) (hK4 : ∀ (y2 : Int32) (y3 : Int32), K4 (y2, y3) → kf_M g x 4 4 [(0, .ref (g.2.2.2 48)), (1, .int x1), (2, .int y2), (3, .int y3)] [] I J) (x2 : Int32) (x3 : Int32) (h : wb_X7_tookBy_4 I J x1 Post E4 K4 (x2, x3)) : kf_M g x 4 4 [(0, .ref (g.2.2.2 48)), (1, .int x1), (2, .int x2), (3, .int x3)] [] I J := by
  unfold wb_X7_tookBy_4 at h
  refine kf_iload_n hx dX7_tookBy_4 rfl 3 rfl ?_
  refine kf_aload_n hx dX7_tookBy_5 rfl 0 rfl ?_
  refine kf_getR (n := 12) hx sl_48_0 fl_RX7_21 dX7_tookBy_6 ?_
  refine kf_getI hx sl_12_11 fl_RX7_100 dX7_tookBy_9 ?_
  refine kf_icmp_ge hx 48 dX7_tookBy_12 (by decide) (fun c => ?_) (fun c => ?_)
  · replace h := h.1 c
    refine kf_sub [2] rfl ?_
    exact hE4 _ h
  · replace h := h.2 c
    refine kf_aload_n hx dX7_tookBy_15 rfl 0 rfl ?_
    refine kf_getI hx sl_48_8 fl_RX7_50 dX7_tookBy_16 ?_
    refine kf_iload_n hx dX7_tookBy_19 rfl 3 rfl ?_
    refine kf_callSbP (st := []) hx (m_X10_has g hg (I 48 8) x3 I J _ h) lk_RX7_72 km_X10_has rfl (by decide) rfl (Nat.le_of_ble_eq_true rfl) dX7_tookBy_20 (fun r_1 h => ?_)
    refine kf_ifB_eq hx 42 dX7_tookBy_23 (by decide) (fun c => ?_) (fun c => ?_)
    · replace h := h.1 c
      refine kf_iinc (w := (x3 + 1)) (lv' := [(3, .int (x3 + 1)), (0, .ref (g.2.2.2 48)), (1, .int x1), (2, .int x2)]) hx dX7_tookBy_42 3 rfl rfl (by decide) rfl ?_
      refine kf_goto hx 4 dX7_tookBy_45 (by decide) ?_
      refine kf_sub [1, 2, 3, 0] rfl ?_
      exact hK4 _ _ h
    · replace h := h.2 c
      refine kf_aload_n hx dX7_tookBy_26 rfl 0 rfl ?_
      refine kf_getR (n := 49) hx sl_48_1 fl_RX7_9 dX7_tookBy_27 ?_
      refine kf_iload_n hx dX7_tookBy_30 rfl 3 rfl ?_
      refine kf_iald hx ar_49 h.1 dX7_tookBy_31 ?_
      replace h := h.2
      refine kf_iload_n hx dX7_tookBy_32 rfl 1 rfl ?_
      refine kf_icmp_gt hx 42 dX7_tookBy_33 (by decide) (fun c => ?_) (fun c => ?_)
      · replace h := h.1 c
        refine kf_iinc (w := (x3 + 1)) (lv' := [(3, .int (x3 + 1)), (0, .ref (g.2.2.2 48)), (1, .int x1), (2, .int x2)]) hx dX7_tookBy_42 3 rfl rfl (by decide) rfl ?_
        refine kf_goto hx 4 dX7_tookBy_45 (by decide) ?_
        refine kf_sub [1, 2, 3, 0] rfl ?_
        exact hK4 _ _ h
      · replace h := h.2 c
        refine kf_iload_n hx dX7_tookBy_36 rfl 2 rfl ?_
        refine kf_iconst (v := 1) hx dX7_tookBy_37 (by decide) ?_
        refine kf_iload_n hx dX7_tookBy_38 rfl 3 rfl ?_
        refine kf_ishl hx dX7_tookBy_39 ?_
        refine kf_ior hx dX7_tookBy_40 ?_
        refine kf_istore_n (lv' := [(2, .int (x2 ||| (1 <<< (x3 &&& 31)))), (0, .ref (g.2.2.2 48)), (1, .int x1), (3, .int x3)]) hx dX7_tookBy_41 rfl (by decide) rfl ?_
        refine kf_iinc (w := (x3 + 1)) (lv' := [(3, .int (x3 + 1)), (2, .int (x2 ||| (1 <<< (x3 &&& 31)))), (0, .ref (g.2.2.2 48)), (1, .int x1)]) hx dX7_tookBy_42 3 rfl rfl (by decide) rfl ?_
        refine kf_goto hx 4 dX7_tookBy_45 (by decide) ?_
        refine kf_sub [2, 3, 1, 0] rfl ?_
        exact hK4 _ _ h
theorem wl_X7_tookBy_4 (g : kf_G) (hg : kf_g g) {x : kf_X} (hx : kf_ok g x RX7 cX7_tookBy 4 1 21) (I : HI) (J : HJ) (x1 : Int32) (Post : Int32 → Prop) (hret : ∀ (pc : Nat) (lv : List (Nat × Value)) (v : Int32), decode cX7_tookBy pc = .ok (.ireturn, 1) → Post v → kf_M g x 4 pc lv [.int v] I J) (E4 : Int32 → Prop) (hE4 : ∀ (y2 : Int32), E4 y2 → kf_M g x 4 48 [(2, .int y2)] [] I J) : ∀ (n : Nat) (x2 : Int32) (x3 : Int32), lp (wb_X7_tookBy_4 I J x1 Post E4) n (x2, x3) → kf_M g x 4 4 [(0, .ref (g.2.2.2 48)), (1, .int x1), (2, .int x2), (3, .int x3)] [] I J := by
  intro n
  induction n with
  | zero => intro x2 x3 h; exact h.elim
  | succ n ih => intro x2 x3 h; exact ws_X7_tookBy_4 g hg hx I J x1 Post hret E4 hE4 (lp (wb_X7_tookBy_4 I J x1 Post E4) n) ih x2 x3 h
def w_X7_tookBy (x1 : Int32) (I : HI) (J : HJ) (Post : Int32 → Prop) : Prop :=
  ∃ n, lp (wb_X7_tookBy_4 I J x1 Post (fun (x2_2 : Int32) => Post x2_2)) n (0, 0)
set_option maxHeartbeats 4000000 in
set_option maxRecDepth 20000 in
theorem we_X7_tookBy (g : kf_G) (hg : kf_g g) {x : kf_X} (hx : kf_ok g x RX7 cX7_tookBy 4 1 21) (x1 : Int32) (I : HI) (J : HJ) (Post : Int32 → Prop) (hret : ∀ (pc : Nat) (lv : List (Nat × Value)) (v : Int32), decode cX7_tookBy pc = .ok (.ireturn, 1) → Post v → kf_M g x 4 pc lv [.int v] I J) (h : w_X7_tookBy x1 I J Post) : kf_M g x 4 0 [(0, .ref (g.2.2.2 48)), (1, .int x1)] [] I J := by
  unfold w_X7_tookBy at h
  refine kf_iconst (v := 0) hx dX7_tookBy_0 (by decide) ?_
  refine kf_istore_n (lv' := [(2, .int 0), (0, .ref (g.2.2.2 48)), (1, .int x1)]) hx dX7_tookBy_1 rfl (by decide) rfl ?_
  refine kf_iconst (v := 0) hx dX7_tookBy_2 (by decide) ?_
  refine kf_istore_n (lv' := [(3, .int 0), (2, .int 0), (0, .ref (g.2.2.2 48)), (1, .int x1)]) hx dX7_tookBy_3 rfl (by decide) rfl ?_
  obtain ⟨n, h⟩ := h
  refine kf_sub [2, 3, 1, 0] rfl ?_
  refine wl_X7_tookBy_4 g hg hx I J x1 _ hret _ (fun x2_2 h => ?_) n _ _ h
  refine kf_iload_n hx dX7_tookBy_48 rfl 0 rfl ?_
  exact hret _ _ x2_2  dX7_tookBy_49 h
set_option maxHeartbeats 4000000 in
set_option maxRecDepth 20000 in
theorem m_X7_tookBy (g : kf_G) (hg : kf_g g) (x1 : Int32) (I : HI) (J : HJ) (Post : Int32 → Prop) (h : w_X7_tookBy x1 I J Post) : kf_Mi g yX7_tookBy (kf_W yX7_tookBy cX7_tookBy 4 (Option.some Jvm.ClassFile.FieldType.int)) 1 21 [.ref (g.2.2.2 48), .int x1] I J (fun v I' J' => Post v ∧ I' = I ∧ J' = J) :=
  kf_enti hg (by decide) (Nat.le_of_ble_eq_true rfl) rfl (fun x hx hr => we_X7_tookBy g hg hx x1 I J Post (fun pc lv v hd hP => hr pc lv v I J hd ⟨hP, rfl, rfl⟩) h)
theorem dX3_weighSource_0 : decode cX3_weighSource 0 = .ok (.lconst 0, 1) := by decide +kernel
theorem dX3_weighSource_1 : decode cX3_weighSource 1 = .ok (.lstore 5, 2) := by decide +kernel
theorem dX3_weighSource_3 : decode cX3_weighSource 3 = .ok (.iconst 0, 1) := by decide +kernel
theorem dX3_weighSource_4 : decode cX3_weighSource 4 = .ok (.istore 7, 2) := by decide +kernel
theorem dX3_weighSource_6 : decode cX3_weighSource 6 = .ok (.iload 7, 2) := by decide +kernel
theorem dX3_weighSource_8 : decode cX3_weighSource 8 = .ok (.aload_n 0, 1) := by decide +kernel
theorem dX3_weighSource_9 : decode cX3_weighSource 9 = .ok (.getfield 19, 3) := by decide +kernel
theorem dX3_weighSource_12 : decode cX3_weighSource 12 = .ok (.invokevirtual 27, 3) := by decide +kernel
theorem dX3_weighSource_15 : decode cX3_weighSource 15 = .ok (.if_icmp .ge 79, 3) := by decide +kernel
theorem dX3_weighSource_18 : decode cX3_weighSource 18 = .ok (.aload_n 0, 1) := by decide +kernel
theorem dX3_weighSource_19 : decode cX3_weighSource 19 = .ok (.getfield 19, 3) := by decide +kernel
theorem dX3_weighSource_22 : decode cX3_weighSource 22 = .ok (.getfield 33, 3) := by decide +kernel
theorem dX3_weighSource_25 : decode cX3_weighSource 25 = .ok (.iload 7, 2) := by decide +kernel
theorem dX3_weighSource_27 : decode cX3_weighSource 27 = .ok (.laload, 1) := by decide +kernel
theorem dX3_weighSource_28 : decode cX3_weighSource 28 = .ok (.lconst 0, 1) := by decide +kernel
theorem dX3_weighSource_29 : decode cX3_weighSource 29 = .ok (.lcmp, 1) := by decide +kernel
theorem dX3_weighSource_30 : decode cX3_weighSource 30 = .ok (.ifCond .eq 58, 3) := by decide +kernel
theorem dX3_weighSource_33 : decode cX3_weighSource 33 = .ok (.aload_n 0, 1) := by decide +kernel
theorem dX3_weighSource_34 : decode cX3_weighSource 34 = .ok (.getfield 23, 3) := by decide +kernel
theorem dX3_weighSource_37 : decode cX3_weighSource 37 = .ok (.iconst 1, 1) := by decide +kernel
theorem dX3_weighSource_38 : decode cX3_weighSource 38 = .ok (.iload_n 1, 1) := by decide +kernel
theorem dX3_weighSource_39 : decode cX3_weighSource 39 = .ok (.ishl, 1) := by decide +kernel
theorem dX3_weighSource_40 : decode cX3_weighSource 40 = .ok (.iconst 0, 1) := by decide +kernel
theorem dX3_weighSource_41 : decode cX3_weighSource 41 = .ok (.iconst 0, 1) := by decide +kernel
theorem dX3_weighSource_42 : decode cX3_weighSource 42 = .ok (.iload 7, 2) := by decide +kernel
theorem dX3_weighSource_44 : decode cX3_weighSource 44 = .ok (.invokevirtual 36, 3) := by decide +kernel
theorem dX3_weighSource_47 : decode cX3_weighSource 47 = .ok (.aload_n 0, 1) := by decide +kernel
theorem dX3_weighSource_48 : decode cX3_weighSource 48 = .ok (.getfield 23, 3) := by decide +kernel
theorem dX3_weighSource_51 : decode cX3_weighSource 51 = .ok (.iload_n 2, 1) := by decide +kernel
theorem dX3_weighSource_52 : decode cX3_weighSource 52 = .ok (.invokevirtual 80, 3) := by decide +kernel
theorem dX3_weighSource_55 : decode cX3_weighSource 55 = .ok (.istore 8, 2) := by decide +kernel
theorem dX3_weighSource_57 : decode cX3_weighSource 57 = .ok (.iload 8, 2) := by decide +kernel
theorem dX3_weighSource_59 : decode cX3_weighSource 59 = .ok (.iload_n 3, 1) := by decide +kernel
theorem dX3_weighSource_60 : decode cX3_weighSource 60 = .ok (.iand, 1) := by decide +kernel
theorem dX3_weighSource_61 : decode cX3_weighSource 61 = .ok (.iload_n 3, 1) := by decide +kernel
theorem dX3_weighSource_62 : decode cX3_weighSource 62 = .ok (.if_icmp .ne 26, 3) := by decide +kernel
theorem dX3_weighSource_65 : decode cX3_weighSource 65 = .ok (.iload 8, 2) := by decide +kernel
theorem dX3_weighSource_67 : decode cX3_weighSource 67 = .ok (.iload 4, 2) := by decide +kernel
theorem dX3_weighSource_69 : decode cX3_weighSource 69 = .ok (.iand, 1) := by decide +kernel
theorem dX3_weighSource_70 : decode cX3_weighSource 70 = .ok (.ifCond .ne 18, 3) := by decide +kernel
theorem dX3_weighSource_73 : decode cX3_weighSource 73 = .ok (.lload 5, 2) := by decide +kernel
theorem dX3_weighSource_75 : decode cX3_weighSource 75 = .ok (.aload_n 0, 1) := by decide +kernel
theorem dX3_weighSource_76 : decode cX3_weighSource 76 = .ok (.getfield 19, 3) := by decide +kernel
theorem dX3_weighSource_79 : decode cX3_weighSource 79 = .ok (.getfield 33, 3) := by decide +kernel
theorem dX3_weighSource_82 : decode cX3_weighSource 82 = .ok (.iload 7, 2) := by decide +kernel
theorem dX3_weighSource_84 : decode cX3_weighSource 84 = .ok (.laload, 1) := by decide +kernel
theorem dX3_weighSource_85 : decode cX3_weighSource 85 = .ok (.ladd, 1) := by decide +kernel
theorem dX3_weighSource_86 : decode cX3_weighSource 86 = .ok (.lstore 5, 2) := by decide +kernel
theorem dX3_weighSource_88 : decode cX3_weighSource 88 = .ok (.iinc 7 1, 3) := by decide +kernel
theorem dX3_weighSource_91 : decode cX3_weighSource 91 = .ok (.goto (-85), 3) := by decide +kernel
theorem dX3_weighSource_94 : decode cX3_weighSource 94 = .ok (.lload 5, 2) := by decide +kernel
theorem dX3_weighSource_96 : decode cX3_weighSource 96 = .ok (.lreturn, 1) := by decide +kernel
def wb_X3_weighSource_6 (J : HJ) (x1 : Int32) (x2 : Int32) (x3 : Int32) (x4 : Int32) (Post : Int64 → HI → Prop) (E6 : Int64 → HI → Prop) (K6 : (Int64 × Int32 × HI) → Prop) (s : Int64 × Int32 × HI) : Prop :=
  match s with
  | (x5, x7, I) => w_X2_count  I J (fun (r_1 : Int32) => ((r_1 ≤ x7 → (E6 x5 I)) ∧ (¬ r_1 ≤ x7 → (vp_in x7 1024 ∧ (((J 40 (Int32.toNatClampNeg x7)) = 0 → (K6 (x5, (x7 + 1), I))) ∧ (¬ (J 40 (Int32.toNatClampNeg x7)) = 0 → (w_X7_play (1 <<< (x1 &&& 31)) 0 0 x7 I J (fun (I_2 : HI) => (w_X7_tookBy x2 I_2 J (fun (r_3 : Int32) => ((¬ (r_3 &&& x3) = x3 → (K6 (x5, (x7 + 1), I_2))) ∧ ((r_3 &&& x3) = x3 → ((¬ (r_3 &&& x4) = 0 → (K6 (x5, (x7 + 1), I_2))) ∧ ((r_3 &&& x4) = 0 → (vp_in x7 1024 ∧ (K6 ((x5 + (J 40 (Int32.toNatClampNeg x7))), (x7 + 1), I_2)))))))))))))))))
set_option maxHeartbeats 4000000 in
set_option maxRecDepth 20000 in
theorem ws_X3_weighSource_6 (g : kf_G) (hg : kf_g g) {x : kf_X} (hx : kf_ok g x RX3 cX3_weighSource 9 4 92) (J : HJ) (x1 : Int32) (x2 : Int32) (x3 : Int32) (x4 : Int32) (Post : Int64 → HI → Prop) (hret : ∀ (pc : Nat) (lv : List (Nat × Value)) (v : Int64) (Iy : HI), decode cX3_weighSource pc = .ok (.lreturn, 1) → Post v Iy → kf_M g x 9 pc lv [.long v] Iy J) (E6 : Int64 → HI → Prop) (hE6 : ∀ (y5 : Int64) (Iy : HI), E6 y5 Iy → kf_M g x 9 94 [(5, .long y5)] [] Iy J) (K6 : (Int64 × Int32 × HI) → Prop) (hK6 : ∀ (y5 : Int64) (y7 : Int32) (Iy : HI), K6 (y5, y7, Iy) → kf_M g x 9 6 [(0, .ref (g.2.2.2 52)), (1, .int x1), (2, .int x2), (3, .int x3), (4, .int x4), (5, .long y5), (7, .int y7)] [] Iy J) (x5 : Int64) (x7 : Int32) (I : HI) (h : wb_X3_weighSource_6 J x1 x2 x3 x4 Post E6 K6 (x5, x7, I)) : kf_M g x 9 6 [(0, .ref (g.2.2.2 52)), (1, .int x1), (2, .int x2), (3, .int x3), (4, .int x4), (5, .long x5), (7, .int x7)] [] I J := by
  unfold wb_X3_weighSource_6 at h
  refine kf_iload hx dX3_weighSource_6 6 rfl ?_
  refine kf_aload_n hx dX3_weighSource_8 rfl 0 rfl ?_
  refine kf_getR (n := 39) hx sl_52_1 fl_RX3_19 dX3_weighSource_9 ?_
  refine kf_callViP (st := [.int x7]) hx (m_X2_count g hg  I J _ h) lk_RX3_27 km_X2_count ob_39 rfl (by decide) rfl (Nat.le_of_ble_eq_true rfl) dX3_weighSource_12 (fun r_1 h => ?_)
  refine kf_icmp_ge hx 94 dX3_weighSource_15 (by decide) (fun c => ?_) (fun c => ?_)
  · replace h := h.1 c
    refine kf_sub [5] rfl ?_
    exact hE6 _ _ h
  · replace h := h.2 c
    refine kf_aload_n hx dX3_weighSource_18 rfl 0 rfl ?_
    refine kf_getR (n := 39) hx sl_52_1 fl_RX3_19 dX3_weighSource_19 ?_
    refine kf_getR (n := 40) hx sl_39_1 fl_RX3_33 dX3_weighSource_22 ?_
    refine kf_iload hx dX3_weighSource_25 6 rfl ?_
    refine kf_lald hx ar_40 h.1 dX3_weighSource_27 ?_
    replace h := h.2
    refine kf_lconst (v := 0) hx dX3_weighSource_28 (by decide) ?_
    refine kf_l_eq hx 88 dX3_weighSource_29 dX3_weighSource_30 (by decide) (fun c => ?_) (fun c => ?_)
    · replace h := h.1 c
      refine kf_iinc (w := (x7 + 1)) (lv' := [(7, .int (x7 + 1)), (0, .ref (g.2.2.2 52)), (1, .int x1), (2, .int x2), (3, .int x3), (4, .int x4), (5, .long x5)]) hx dX3_weighSource_88 6 rfl rfl (by decide) rfl ?_
      refine kf_goto hx 6 dX3_weighSource_91 (by decide) ?_
      refine kf_sub [1, 2, 3, 4, 5, 6, 0] rfl ?_
      exact hK6 _ _ _ h
    · replace h := h.2 c
      refine kf_aload_n hx dX3_weighSource_33 rfl 0 rfl ?_
      refine kf_getR (n := 48) hx sl_52_2 fl_RX3_23 dX3_weighSource_34 ?_
      refine kf_iconst (v := 1) hx dX3_weighSource_37 (by decide) ?_
      refine kf_iload_n hx dX3_weighSource_38 rfl 1 rfl ?_
      refine kf_ishl hx dX3_weighSource_39 ?_
      refine kf_iconst (v := 0) hx dX3_weighSource_40 (by decide) ?_
      refine kf_iconst (v := 0) hx dX3_weighSource_41 (by decide) ?_
      refine kf_iload hx dX3_weighSource_42 6 rfl ?_
      refine kf_callVvI (st := []) hx (m_X7_play g hg (1 <<< (x1 &&& 31)) 0 0 x7 I J _ h) lk_RX3_36 km_X7_play ob_48 rfl (by decide) rfl (Nat.le_of_ble_eq_true rfl) dX3_weighSource_44 (fun I_2 h => ?_)
      refine kf_aload_n hx dX3_weighSource_47 rfl 0 rfl ?_
      refine kf_getR (n := 48) hx sl_52_2 fl_RX3_23 dX3_weighSource_48 ?_
      refine kf_iload_n hx dX3_weighSource_51 rfl 2 rfl ?_
      refine kf_callViP (st := []) hx (m_X7_tookBy g hg x2 I_2 J _ h) lk_RX3_80 km_X7_tookBy ob_48 rfl (by decide) rfl (Nat.le_of_ble_eq_true rfl) dX3_weighSource_52 (fun r_3 h => ?_)
      refine kf_istore (lv' := [(8, .int r_3), (0, .ref (g.2.2.2 52)), (1, .int x1), (2, .int x2), (3, .int x3), (4, .int x4), (5, .long x5), (7, .int x7)]) hx dX3_weighSource_55 (by decide) rfl ?_
      refine kf_iload hx dX3_weighSource_57 0 rfl ?_
      refine kf_iload_n hx dX3_weighSource_59 rfl 4 rfl ?_
      refine kf_iand hx dX3_weighSource_60 ?_
      refine kf_iload_n hx dX3_weighSource_61 rfl 4 rfl ?_
      refine kf_icmp_ne hx 88 dX3_weighSource_62 (by decide) (fun c => ?_) (fun c => ?_)
      · replace h := h.1 c
        refine kf_iinc (w := (x7 + 1)) (lv' := [(7, .int (x7 + 1)), (8, .int r_3), (0, .ref (g.2.2.2 52)), (1, .int x1), (2, .int x2), (3, .int x3), (4, .int x4), (5, .long x5)]) hx dX3_weighSource_88 7 rfl rfl (by decide) rfl ?_
        refine kf_goto hx 6 dX3_weighSource_91 (by decide) ?_
        refine kf_sub [2, 3, 4, 5, 6, 7, 0] rfl ?_
        exact hK6 _ _ _ h
      · replace h := h.2 c
        refine kf_iload hx dX3_weighSource_65 0 rfl ?_
        refine kf_iload hx dX3_weighSource_67 5 rfl ?_
        refine kf_iand hx dX3_weighSource_69 ?_
        refine kf_if_ne hx 88 dX3_weighSource_70 (by decide) (fun c => ?_) (fun c => ?_)
        · replace h := h.1 c
          refine kf_iinc (w := (x7 + 1)) (lv' := [(7, .int (x7 + 1)), (8, .int r_3), (0, .ref (g.2.2.2 52)), (1, .int x1), (2, .int x2), (3, .int x3), (4, .int x4), (5, .long x5)]) hx dX3_weighSource_88 7 rfl rfl (by decide) rfl ?_
          refine kf_goto hx 6 dX3_weighSource_91 (by decide) ?_
          refine kf_sub [2, 3, 4, 5, 6, 7, 0] rfl ?_
          exact hK6 _ _ _ h
        · replace h := h.2 c
          refine kf_lload hx dX3_weighSource_73 6 rfl ?_
          refine kf_aload_n hx dX3_weighSource_75 rfl 1 rfl ?_
          refine kf_getR (n := 39) hx sl_52_1 fl_RX3_19 dX3_weighSource_76 ?_
          refine kf_getR (n := 40) hx sl_39_1 fl_RX3_33 dX3_weighSource_79 ?_
          refine kf_iload hx dX3_weighSource_82 7 rfl ?_
          refine kf_lald hx ar_40 h.1 dX3_weighSource_84 ?_
          replace h := h.2
          refine kf_ladd hx dX3_weighSource_85 ?_
          refine kf_lstore (lv' := [(5, .long (x5 + (J 40 (Int32.toNatClampNeg x7)))), (8, .int r_3), (0, .ref (g.2.2.2 52)), (1, .int x1), (2, .int x2), (3, .int x3), (4, .int x4), (7, .int x7)]) hx dX3_weighSource_86 (by decide) rfl ?_
          refine kf_iinc (w := (x7 + 1)) (lv' := [(7, .int (x7 + 1)), (5, .long (x5 + (J 40 (Int32.toNatClampNeg x7)))), (8, .int r_3), (0, .ref (g.2.2.2 52)), (1, .int x1), (2, .int x2), (3, .int x3), (4, .int x4)]) hx dX3_weighSource_88 7 rfl rfl (by decide) rfl ?_
          refine kf_goto hx 6 dX3_weighSource_91 (by decide) ?_
          refine kf_sub [3, 4, 5, 6, 7, 1, 0] rfl ?_
          exact hK6 _ _ _ h
theorem wl_X3_weighSource_6 (g : kf_G) (hg : kf_g g) {x : kf_X} (hx : kf_ok g x RX3 cX3_weighSource 9 4 92) (J : HJ) (x1 : Int32) (x2 : Int32) (x3 : Int32) (x4 : Int32) (Post : Int64 → HI → Prop) (hret : ∀ (pc : Nat) (lv : List (Nat × Value)) (v : Int64) (Iy : HI), decode cX3_weighSource pc = .ok (.lreturn, 1) → Post v Iy → kf_M g x 9 pc lv [.long v] Iy J) (E6 : Int64 → HI → Prop) (hE6 : ∀ (y5 : Int64) (Iy : HI), E6 y5 Iy → kf_M g x 9 94 [(5, .long y5)] [] Iy J) : ∀ (n : Nat) (x5 : Int64) (x7 : Int32) (I : HI), lp (wb_X3_weighSource_6 J x1 x2 x3 x4 Post E6) n (x5, x7, I) → kf_M g x 9 6 [(0, .ref (g.2.2.2 52)), (1, .int x1), (2, .int x2), (3, .int x3), (4, .int x4), (5, .long x5), (7, .int x7)] [] I J := by
  intro n
  induction n with
  | zero => intro x5 x7 I h; exact h.elim
  | succ n ih => intro x5 x7 I h; exact ws_X3_weighSource_6 g hg hx J x1 x2 x3 x4 Post hret E6 hE6 (lp (wb_X3_weighSource_6 J x1 x2 x3 x4 Post E6) n) ih x5 x7 I h
def w_X3_weighSource (x1 : Int32) (x2 : Int32) (x3 : Int32) (x4 : Int32) (I : HI) (J : HJ) (Post : Int64 → HI → Prop) : Prop :=
  ∃ n, lp (wb_X3_weighSource_6 J x1 x2 x3 x4 Post (fun (x5_4 : Int64) (I_5 : HI) => Post x5_4 I_5)) n (0, 0, I)
set_option maxHeartbeats 4000000 in
set_option maxRecDepth 20000 in
theorem we_X3_weighSource (g : kf_G) (hg : kf_g g) {x : kf_X} (hx : kf_ok g x RX3 cX3_weighSource 9 4 92) (x1 : Int32) (x2 : Int32) (x3 : Int32) (x4 : Int32) (I : HI) (J : HJ) (Post : Int64 → HI → Prop) (hret : ∀ (pc : Nat) (lv : List (Nat × Value)) (v : Int64) (Iy : HI), decode cX3_weighSource pc = .ok (.lreturn, 1) → Post v Iy → kf_M g x 9 pc lv [.long v] Iy J) (h : w_X3_weighSource x1 x2 x3 x4 I J Post) : kf_M g x 9 0 [(0, .ref (g.2.2.2 52)), (1, .int x1), (2, .int x2), (3, .int x3), (4, .int x4)] [] I J := by
  unfold w_X3_weighSource at h
  refine kf_lconst (v := 0) hx dX3_weighSource_0 (by decide) ?_
  refine kf_lstore (lv' := [(5, .long 0), (0, .ref (g.2.2.2 52)), (1, .int x1), (2, .int x2), (3, .int x3), (4, .int x4)]) hx dX3_weighSource_1 (by decide) rfl ?_
  refine kf_iconst (v := 0) hx dX3_weighSource_3 (by decide) ?_
  refine kf_istore (lv' := [(7, .int 0), (5, .long 0), (0, .ref (g.2.2.2 52)), (1, .int x1), (2, .int x2), (3, .int x3), (4, .int x4)]) hx dX3_weighSource_4 (by decide) rfl ?_
  obtain ⟨n, h⟩ := h
  refine kf_sub [2, 3, 4, 5, 6, 1, 0] rfl ?_
  refine wl_X3_weighSource_6 g hg hx J x1 x2 x3 x4 _ hret _ (fun x5_4 I_5 h => ?_) n _ _ _ h
  refine kf_lload hx dX3_weighSource_94 0 rfl ?_
  exact hret _ _ x5_4 _ dX3_weighSource_96 h
set_option maxHeartbeats 4000000 in
set_option maxRecDepth 20000 in
theorem m_X3_weighSource (g : kf_G) (hg : kf_g g) (x1 : Int32) (x2 : Int32) (x3 : Int32) (x4 : Int32) (I : HI) (J : HJ) (Post : Int64 → HI → Prop) (h : w_X3_weighSource x1 x2 x3 x4 I J Post) : kf_Ml g yX3_weighSource (kf_W yX3_weighSource cX3_weighSource 9 (Option.some Jvm.ClassFile.FieldType.long)) 4 92 [.ref (g.2.2.2 52), .int x1, .int x2, .int x3, .int x4] I J (fun v I' J' => Post v I' ∧ J' = J) :=
  kf_entl hg (by decide) (Nat.le_of_ble_eq_true rfl) rfl (fun x hx hr => we_X3_weighSource g hg hx x1 x2 x3 x4 I J Post (fun pc lv v I' hd hP => hr pc lv v I' J hd ⟨hP, rfl⟩) h)
theorem dX3_weighSources_0 : decode cX3_weighSources 0 = .ok (.iconst 0, 1) := by decide +kernel
theorem dX3_weighSources_1 : decode cX3_weighSources 1 = .ok (.istore_n 3, 1) := by decide +kernel
theorem dX3_weighSources_2 : decode cX3_weighSources 2 = .ok (.iconst 0, 1) := by decide +kernel
theorem dX3_weighSources_3 : decode cX3_weighSources 3 = .ok (.istore 4, 2) := by decide +kernel
theorem dX3_weighSources_5 : decode cX3_weighSources 5 = .ok (.iconst 0, 1) := by decide +kernel
theorem dX3_weighSources_6 : decode cX3_weighSources 6 = .ok (.istore 5, 2) := by decide +kernel
theorem dX3_weighSources_8 : decode cX3_weighSources 8 = .ok (.iload 5, 2) := by decide +kernel
theorem dX3_weighSources_10 : decode cX3_weighSources 10 = .ok (.aload_n 0, 1) := by decide +kernel
theorem dX3_weighSources_11 : decode cX3_weighSources 11 = .ok (.getfield 15, 3) := by decide +kernel
theorem dX3_weighSources_14 : decode cX3_weighSources 14 = .ok (.getfield 61, 3) := by decide +kernel
theorem dX3_weighSources_17 : decode cX3_weighSources 17 = .ok (.if_icmp .ge 58, 3) := by decide +kernel
theorem dX3_weighSources_20 : decode cX3_weighSources 20 = .ok (.iload 5, 2) := by decide +kernel
theorem dX3_weighSources_22 : decode cX3_weighSources 22 = .ok (.aload_n 1, 1) := by decide +kernel
theorem dX3_weighSources_23 : decode cX3_weighSources 23 = .ok (.arraylength, 1) := by decide +kernel
theorem dX3_weighSources_24 : decode cX3_weighSources 24 = .ok (.if_icmp .ge 51, 3) := by decide +kernel
theorem dX3_weighSources_27 : decode cX3_weighSources 27 = .ok (.iload_n 3, 1) := by decide +kernel
theorem dX3_weighSources_28 : decode cX3_weighSources 28 = .ok (.aload_n 1, 1) := by decide +kernel
theorem dX3_weighSources_29 : decode cX3_weighSources 29 = .ok (.iload 5, 2) := by decide +kernel
theorem dX3_weighSources_31 : decode cX3_weighSources 31 = .ok (.laload, 1) := by decide +kernel
theorem dX3_weighSources_32 : decode cX3_weighSources 32 = .ok (.lconst 1, 1) := by decide +kernel
theorem dX3_weighSources_33 : decode cX3_weighSources 33 = .ok (.lcmp, 1) := by decide +kernel
theorem dX3_weighSources_34 : decode cX3_weighSources 34 = .ok (.ifCond .ne 10, 3) := by decide +kernel
theorem dX3_weighSources_37 : decode cX3_weighSources 37 = .ok (.iconst 1, 1) := by decide +kernel
theorem dX3_weighSources_38 : decode cX3_weighSources 38 = .ok (.iload 5, 2) := by decide +kernel
theorem dX3_weighSources_40 : decode cX3_weighSources 40 = .ok (.ishl, 1) := by decide +kernel
theorem dX3_weighSources_41 : decode cX3_weighSources 41 = .ok (.goto 4, 3) := by decide +kernel
theorem dX3_weighSources_44 : decode cX3_weighSources 44 = .ok (.iconst 0, 1) := by decide +kernel
theorem dX3_weighSources_45 : decode cX3_weighSources 45 = .ok (.ior, 1) := by decide +kernel
theorem dX3_weighSources_46 : decode cX3_weighSources 46 = .ok (.istore_n 3, 1) := by decide +kernel
theorem dX3_weighSources_47 : decode cX3_weighSources 47 = .ok (.iload 4, 2) := by decide +kernel
theorem dX3_weighSources_49 : decode cX3_weighSources 49 = .ok (.aload_n 1, 1) := by decide +kernel
theorem dX3_weighSources_50 : decode cX3_weighSources 50 = .ok (.iload 5, 2) := by decide +kernel
theorem dX3_weighSources_52 : decode cX3_weighSources 52 = .ok (.laload, 1) := by decide +kernel
theorem dX3_weighSources_53 : decode cX3_weighSources 53 = .ok (.lconst 0, 1) := by decide +kernel
theorem dX3_weighSources_54 : decode cX3_weighSources 54 = .ok (.lcmp, 1) := by decide +kernel
theorem dX3_weighSources_55 : decode cX3_weighSources 55 = .ok (.ifCond .ne 10, 3) := by decide +kernel
theorem dX3_weighSources_58 : decode cX3_weighSources 58 = .ok (.iconst 1, 1) := by decide +kernel
theorem dX3_weighSources_59 : decode cX3_weighSources 59 = .ok (.iload 5, 2) := by decide +kernel
theorem dX3_weighSources_61 : decode cX3_weighSources 61 = .ok (.ishl, 1) := by decide +kernel
theorem dX3_weighSources_62 : decode cX3_weighSources 62 = .ok (.goto 4, 3) := by decide +kernel
theorem dX3_weighSources_65 : decode cX3_weighSources 65 = .ok (.iconst 0, 1) := by decide +kernel
theorem dX3_weighSources_66 : decode cX3_weighSources 66 = .ok (.ior, 1) := by decide +kernel
theorem dX3_weighSources_67 : decode cX3_weighSources 67 = .ok (.istore 4, 2) := by decide +kernel
theorem dX3_weighSources_69 : decode cX3_weighSources 69 = .ok (.iinc 5 1, 3) := by decide +kernel
theorem dX3_weighSources_72 : decode cX3_weighSources 72 = .ok (.goto (-64), 3) := by decide +kernel
theorem dX3_weighSources_75 : decode cX3_weighSources 75 = .ok (.lconst 0, 1) := by decide +kernel
theorem dX3_weighSources_76 : decode cX3_weighSources 76 = .ok (.lstore 5, 2) := by decide +kernel
theorem dX3_weighSources_78 : decode cX3_weighSources 78 = .ok (.iconst 0, 1) := by decide +kernel
theorem dX3_weighSources_79 : decode cX3_weighSources 79 = .ok (.istore 7, 2) := by decide +kernel
theorem dX3_weighSources_81 : decode cX3_weighSources 81 = .ok (.iload 7, 2) := by decide +kernel
theorem dX3_weighSources_83 : decode cX3_weighSources 83 = .ok (.aload_n 0, 1) := by decide +kernel
theorem dX3_weighSources_84 : decode cX3_weighSources 84 = .ok (.getfield 15, 3) := by decide +kernel
theorem dX3_weighSources_87 : decode cX3_weighSources 87 = .ok (.getfield 61, 3) := by decide +kernel
theorem dX3_weighSources_90 : decode cX3_weighSources 90 = .ok (.if_icmp .ge 52, 3) := by decide +kernel
theorem dX3_weighSources_93 : decode cX3_weighSources 93 = .ok (.aload_n 0, 1) := by decide +kernel
theorem dX3_weighSources_94 : decode cX3_weighSources 94 = .ok (.getfield 9, 3) := by decide +kernel
theorem dX3_weighSources_97 : decode cX3_weighSources 97 = .ok (.iload 7, 2) := by decide +kernel
theorem dX3_weighSources_99 : decode cX3_weighSources 99 = .ok (.iload 4, 2) := by decide +kernel
theorem dX3_weighSources_101 : decode cX3_weighSources 101 = .ok (.iload 7, 2) := by decide +kernel
theorem dX3_weighSources_103 : decode cX3_weighSources 103 = .ok (.invokestatic 72, 3) := by decide +kernel
theorem dX3_weighSources_106 : decode cX3_weighSources 106 = .ok (.ifCond .eq 7, 3) := by decide +kernel
theorem dX3_weighSources_109 : decode cX3_weighSources 109 = .ok (.lconst 0, 1) := by decide +kernel
theorem dX3_weighSources_110 : decode cX3_weighSources 110 = .ok (.goto 13, 3) := by decide +kernel
theorem dX3_weighSources_113 : decode cX3_weighSources 113 = .ok (.aload_n 0, 1) := by decide +kernel
theorem dX3_weighSources_114 : decode cX3_weighSources 114 = .ok (.iload 7, 2) := by decide +kernel
theorem dX3_weighSources_116 : decode cX3_weighSources 116 = .ok (.iload_n 2, 1) := by decide +kernel
theorem dX3_weighSources_117 : decode cX3_weighSources 117 = .ok (.iload_n 3, 1) := by decide +kernel
theorem dX3_weighSources_118 : decode cX3_weighSources 118 = .ok (.iload 4, 2) := by decide +kernel
theorem dX3_weighSources_120 : decode cX3_weighSources 120 = .ok (.invokevirtual 76, 3) := by decide +kernel
theorem dX3_weighSources_123 : decode cX3_weighSources 123 = .ok (.lastore, 1) := by decide +kernel
theorem dX3_weighSources_124 : decode cX3_weighSources 124 = .ok (.lload 5, 2) := by decide +kernel
theorem dX3_weighSources_126 : decode cX3_weighSources 126 = .ok (.aload_n 0, 1) := by decide +kernel
theorem dX3_weighSources_127 : decode cX3_weighSources 127 = .ok (.getfield 9, 3) := by decide +kernel
theorem dX3_weighSources_130 : decode cX3_weighSources 130 = .ok (.iload 7, 2) := by decide +kernel
theorem dX3_weighSources_132 : decode cX3_weighSources 132 = .ok (.laload, 1) := by decide +kernel
theorem dX3_weighSources_133 : decode cX3_weighSources 133 = .ok (.ladd, 1) := by decide +kernel
theorem dX3_weighSources_134 : decode cX3_weighSources 134 = .ok (.lstore 5, 2) := by decide +kernel
theorem dX3_weighSources_136 : decode cX3_weighSources 136 = .ok (.iinc 7 1, 3) := by decide +kernel
theorem dX3_weighSources_139 : decode cX3_weighSources 139 = .ok (.goto (-58), 3) := by decide +kernel
theorem dX3_weighSources_142 : decode cX3_weighSources 142 = .ok (.lload 5, 2) := by decide +kernel
theorem dX3_weighSources_144 : decode cX3_weighSources 144 = .ok (.lreturn, 1) := by decide +kernel
def wj_X3_weighSources_45 (I : HI) (J : HJ) (c1 : Nat) (x2 : Int32) (x4 : Int32) (x5 : Int32) (t0 : Int32) (t1 : Int32) (E8 : Int32 → Int32 → Prop) (K8 : Int32 × Int32 × Int32 → Prop) (Post : Int64 → HI → HJ → Prop) : Prop :=
  vp_in x5 40 ∧ ((¬ (J c1 (Int32.toNatClampNeg x5)) = 0 → (K8 ((t1 ||| t0), (x4 ||| 0), (x5 + 1)))) ∧ ((J c1 (Int32.toNatClampNeg x5)) = 0 → (K8 ((t1 ||| t0), (x4 ||| (1 <<< (x5 &&& 31))), (x5 + 1)))))
set_option maxHeartbeats 4000000 in
set_option maxRecDepth 20000 in
theorem wk_X3_weighSources_45 (g : kf_G) (hg : kf_g g) {x : kf_X} (hx : kf_ok g x RX3 cX3_weighSources 8 5 120) (I : HI) (J : HJ) (c1 : Nat) (x2 : Int32) (x4 : Int32) (x5 : Int32) (t0 : Int32) (t1 : Int32) (hc1 : kf_SH[c1]? = some (2, 40, [1])) (E8 : Int32 → Int32 → Prop) (K8 : Int32 × Int32 × Int32 → Prop) (hE8 : ∀ (y3 : Int32) (y4 : Int32), E8 y3 y4 → kf_M g x 8 75 [(0, .ref (g.2.2.2 52)), (2, .int x2), (3, .int y3), (4, .int y4)] [] I J) (hK8 : ∀ (y3 : Int32) (y4 : Int32) (y5 : Int32), K8 (y3, y4, y5) → kf_M g x 8 8 [(0, .ref (g.2.2.2 52)), (1, .ref (g.2.2.2 c1)), (2, .int x2), (3, .int y3), (4, .int y4), (5, .int y5)] [] I J) (Post : Int64 → HI → HJ → Prop) (hret : ∀ (pc : Nat) (lv : List (Nat × Value)) (v : Int64) (Iy : HI) (Jy : HJ), decode cX3_weighSources pc = .ok (.lreturn, 1) → Post v Iy Jy → kf_M g x 8 pc lv [.long v] Iy Jy) (h : wj_X3_weighSources_45 I J c1 x2 x4 x5 t0 t1 E8 K8 Post) : kf_M g x 8 45 [(0, .ref (g.2.2.2 52)), (1, .ref (g.2.2.2 c1)), (2, .int x2), (4, .int x4), (5, .int x5)] [.int t0, .int t1] I J := by
  unfold wj_X3_weighSources_45 at h
  refine kf_ior hx dX3_weighSources_45 ?_
  refine kf_istore_n (lv' := [(3, .int (t1 ||| t0)), (0, .ref (g.2.2.2 52)), (1, .ref (g.2.2.2 c1)), (2, .int x2), (4, .int x4), (5, .int x5)]) hx dX3_weighSources_46 rfl (by decide) rfl ?_
  refine kf_iload hx dX3_weighSources_47 4 rfl ?_
  refine kf_aload_n hx dX3_weighSources_49 rfl 2 rfl ?_
  refine kf_iload hx dX3_weighSources_50 5 rfl ?_
  refine kf_lald hx hc1 h.1 dX3_weighSources_52 ?_
  replace h := h.2
  refine kf_lconst (v := 0) hx dX3_weighSources_53 (by decide) ?_
  refine kf_l_ne hx 65 dX3_weighSources_54 dX3_weighSources_55 (by decide) (fun c => ?_) (fun c => ?_)
  · replace h := h.1 c
    refine kf_iconst (v := 0) hx dX3_weighSources_65 (by decide) ?_
    refine kf_ior hx dX3_weighSources_66 ?_
    refine kf_istore (lv' := [(4, .int (x4 ||| 0)), (3, .int (t1 ||| t0)), (0, .ref (g.2.2.2 52)), (1, .ref (g.2.2.2 c1)), (2, .int x2), (5, .int x5)]) hx dX3_weighSources_67 (by decide) rfl ?_
    refine kf_iinc (w := (x5 + 1)) (lv' := [(5, .int (x5 + 1)), (4, .int (x4 ||| 0)), (3, .int (t1 ||| t0)), (0, .ref (g.2.2.2 52)), (1, .ref (g.2.2.2 c1)), (2, .int x2)]) hx dX3_weighSources_69 5 rfl rfl (by decide) rfl ?_
    refine kf_goto hx 8 dX3_weighSources_72 (by decide) ?_
    refine kf_sub [3, 4, 5, 2, 1, 0] rfl ?_
    exact hK8 _ _ _ h
  · replace h := h.2 c
    refine kf_iconst (v := 1) hx dX3_weighSources_58 (by decide) ?_
    refine kf_iload hx dX3_weighSources_59 5 rfl ?_
    refine kf_ishl hx dX3_weighSources_61 ?_
    refine kf_goto hx 66 dX3_weighSources_62 (by decide) ?_
    refine kf_ior hx dX3_weighSources_66 ?_
    refine kf_istore (lv' := [(4, .int (x4 ||| (1 <<< (x5 &&& 31)))), (3, .int (t1 ||| t0)), (0, .ref (g.2.2.2 52)), (1, .ref (g.2.2.2 c1)), (2, .int x2), (5, .int x5)]) hx dX3_weighSources_67 (by decide) rfl ?_
    refine kf_iinc (w := (x5 + 1)) (lv' := [(5, .int (x5 + 1)), (4, .int (x4 ||| (1 <<< (x5 &&& 31)))), (3, .int (t1 ||| t0)), (0, .ref (g.2.2.2 52)), (1, .ref (g.2.2.2 c1)), (2, .int x2)]) hx dX3_weighSources_69 5 rfl rfl (by decide) rfl ?_
    refine kf_goto hx 8 dX3_weighSources_72 (by decide) ?_
    refine kf_sub [3, 4, 5, 2, 1, 0] rfl ?_
    exact hK8 _ _ _ h
def wb_X3_weighSources_8 (I : HI) (J : HJ) (c1 : Nat) (x2 : Int32) (Post : Int64 → HI → HJ → Prop) (E8 : Int32 → Int32 → Prop) (K8 : (Int32 × Int32 × Int32) → Prop) (s : Int32 × Int32 × Int32) : Prop :=
  match s with
  | (x3, x4, x5) => ((I 12 11) ≤ x5 → (E8 x3 x4)) ∧ (¬ (I 12 11) ≤ x5 → ((40 ≤ x5 → (E8 x3 x4)) ∧ (¬ 40 ≤ x5 → (vp_in x5 40 ∧ ((¬ (J c1 (Int32.toNatClampNeg x5)) = 1 → (wj_X3_weighSources_45 I J c1 x2 x4 x5 0 x3 E8 K8 Post)) ∧ ((J c1 (Int32.toNatClampNeg x5)) = 1 → (wj_X3_weighSources_45 I J c1 x2 x4 x5 (1 <<< (x5 &&& 31)) x3 E8 K8 Post)))))))
set_option maxHeartbeats 4000000 in
set_option maxRecDepth 20000 in
theorem ws_X3_weighSources_8 (g : kf_G) (hg : kf_g g) {x : kf_X} (hx : kf_ok g x RX3 cX3_weighSources 8 5 120) (I : HI) (J : HJ) (c1 : Nat) (x2 : Int32) (hc1 : kf_SH[c1]? = some (2, 40, [1])) (Post : Int64 → HI → HJ → Prop) (hret : ∀ (pc : Nat) (lv : List (Nat × Value)) (v : Int64) (Iy : HI) (Jy : HJ), decode cX3_weighSources pc = .ok (.lreturn, 1) → Post v Iy Jy → kf_M g x 8 pc lv [.long v] Iy Jy) (E8 : Int32 → Int32 → Prop) (hE8 : ∀ (y3 : Int32) (y4 : Int32), E8 y3 y4 → kf_M g x 8 75 [(0, .ref (g.2.2.2 52)), (2, .int x2), (3, .int y3), (4, .int y4)] [] I J) (K8 : (Int32 × Int32 × Int32) → Prop) (hK8 : ∀ (y3 : Int32) (y4 : Int32) (y5 : Int32), K8 (y3, y4, y5) → kf_M g x 8 8 [(0, .ref (g.2.2.2 52)), (1, .ref (g.2.2.2 c1)), (2, .int x2), (3, .int y3), (4, .int y4), (5, .int y5)] [] I J) (x3 : Int32) (x4 : Int32) (x5 : Int32) (h : wb_X3_weighSources_8 I J c1 x2 Post E8 K8 (x3, x4, x5)) : kf_M g x 8 8 [(0, .ref (g.2.2.2 52)), (1, .ref (g.2.2.2 c1)), (2, .int x2), (3, .int x3), (4, .int x4), (5, .int x5)] [] I J := by
  unfold wb_X3_weighSources_8 at h
  refine kf_iload hx dX3_weighSources_8 5 rfl ?_
  refine kf_aload_n hx dX3_weighSources_10 rfl 0 rfl ?_
  refine kf_getR (n := 12) hx sl_52_0 fl_RX3_15 dX3_weighSources_11 ?_
  refine kf_getI hx sl_12_11 fl_RX3_61 dX3_weighSources_14 ?_
  refine kf_icmp_ge hx 75 dX3_weighSources_17 (by decide) (fun c => ?_) (fun c => ?_)
  · replace h := h.1 c
    refine kf_sub [0, 2, 3, 4] rfl ?_
    exact hE8 _ _ h
  · replace h := h.2 c
    refine kf_iload hx dX3_weighSources_20 5 rfl ?_
    refine kf_aload_n hx dX3_weighSources_22 rfl 1 rfl ?_
    refine kf_alenJ (v := 40) hx hc1 (by decide) dX3_weighSources_23 ?_
    refine kf_icmp_ge hx 75 dX3_weighSources_24 (by decide) (fun c => ?_) (fun c => ?_)
    · replace h := h.1 c
      refine kf_sub [0, 2, 3, 4] rfl ?_
      exact hE8 _ _ h
    · replace h := h.2 c
      refine kf_iload_n hx dX3_weighSources_27 rfl 3 rfl ?_
      refine kf_aload_n hx dX3_weighSources_28 rfl 1 rfl ?_
      refine kf_iload hx dX3_weighSources_29 5 rfl ?_
      refine kf_lald hx hc1 h.1 dX3_weighSources_31 ?_
      replace h := h.2
      refine kf_lconst (v := 1) hx dX3_weighSources_32 (by decide) ?_
      refine kf_l_ne hx 44 dX3_weighSources_33 dX3_weighSources_34 (by decide) (fun c => ?_) (fun c => ?_)
      · replace h := h.1 c
        refine kf_iconst (v := 0) hx dX3_weighSources_44 (by decide) ?_
        refine kf_sub [0, 1, 2, 4, 5] rfl ?_
        exact wk_X3_weighSources_45 g hg hx I J c1 x2 x4 x5 0 x3 hc1 _ _ hE8 hK8 _ hret h
      · replace h := h.2 c
        refine kf_iconst (v := 1) hx dX3_weighSources_37 (by decide) ?_
        refine kf_iload hx dX3_weighSources_38 5 rfl ?_
        refine kf_ishl hx dX3_weighSources_40 ?_
        refine kf_goto hx 45 dX3_weighSources_41 (by decide) ?_
        refine kf_sub [0, 1, 2, 4, 5] rfl ?_
        exact wk_X3_weighSources_45 g hg hx I J c1 x2 x4 x5 (1 <<< (x5 &&& 31)) x3 hc1 _ _ hE8 hK8 _ hret h
theorem wl_X3_weighSources_8 (g : kf_G) (hg : kf_g g) {x : kf_X} (hx : kf_ok g x RX3 cX3_weighSources 8 5 120) (I : HI) (J : HJ) (c1 : Nat) (x2 : Int32) (hc1 : kf_SH[c1]? = some (2, 40, [1])) (Post : Int64 → HI → HJ → Prop) (hret : ∀ (pc : Nat) (lv : List (Nat × Value)) (v : Int64) (Iy : HI) (Jy : HJ), decode cX3_weighSources pc = .ok (.lreturn, 1) → Post v Iy Jy → kf_M g x 8 pc lv [.long v] Iy Jy) (E8 : Int32 → Int32 → Prop) (hE8 : ∀ (y3 : Int32) (y4 : Int32), E8 y3 y4 → kf_M g x 8 75 [(0, .ref (g.2.2.2 52)), (2, .int x2), (3, .int y3), (4, .int y4)] [] I J) : ∀ (n : Nat) (x3 : Int32) (x4 : Int32) (x5 : Int32), lp (wb_X3_weighSources_8 I J c1 x2 Post E8) n (x3, x4, x5) → kf_M g x 8 8 [(0, .ref (g.2.2.2 52)), (1, .ref (g.2.2.2 c1)), (2, .int x2), (3, .int x3), (4, .int x4), (5, .int x5)] [] I J := by
  intro n
  induction n with
  | zero => intro x3 x4 x5 h; exact h.elim
  | succ n ih => intro x3 x4 x5 h; exact ws_X3_weighSources_8 g hg hx I J c1 x2 hc1 Post hret E8 hE8 (lp (wb_X3_weighSources_8 I J c1 x2 Post E8) n) ih x3 x4 x5 h
def wj_X3_weighSources_123 (I : HI) (J : HJ) (x2 : Int32) (x3 : Int32) (x4 : Int32) (x5 : Int64) (x7 : Int32) (t0 : Int64) (t1 : Int32) (E81 : Int64 → HI → HJ → Prop) (K81 : Int64 × Int32 × HI × HJ → Prop) (Post : Int64 → HI → HJ → Prop) : Prop :=
  vp_in t1 12 ∧ (∀ J_6 : HJ, J_6 = hJ J 53 (Int32.toNatClampNeg t1) t0 → (vp_in x7 12 ∧ (∀ z_7 : Int64, z_7 = (x5 + (J_6 53 (Int32.toNatClampNeg x7))) → (K81 (z_7, (x7 + 1), I, J_6)))))
set_option maxHeartbeats 4000000 in
set_option maxRecDepth 20000 in
theorem wk_X3_weighSources_123 (g : kf_G) (hg : kf_g g) {x : kf_X} (hx : kf_ok g x RX3 cX3_weighSources 8 5 120) (I : HI) (J : HJ) (x2 : Int32) (x3 : Int32) (x4 : Int32) (x5 : Int64) (x7 : Int32) (t0 : Int64) (t1 : Int32) (E81 : Int64 → HI → HJ → Prop) (K81 : Int64 × Int32 × HI × HJ → Prop) (hE81 : ∀ (y5 : Int64) (Iy : HI) (Jy : HJ), E81 y5 Iy Jy → kf_M g x 8 142 [(5, .long y5)] [] Iy Jy) (hK81 : ∀ (y5 : Int64) (y7 : Int32) (Iy : HI) (Jy : HJ), K81 (y5, y7, Iy, Jy) → kf_M g x 8 81 [(0, .ref (g.2.2.2 52)), (2, .int x2), (3, .int x3), (4, .int x4), (5, .long y5), (7, .int y7)] [] Iy Jy) (Post : Int64 → HI → HJ → Prop) (hret : ∀ (pc : Nat) (lv : List (Nat × Value)) (v : Int64) (Iy : HI) (Jy : HJ), decode cX3_weighSources pc = .ok (.lreturn, 1) → Post v Iy Jy → kf_M g x 8 pc lv [.long v] Iy Jy) (h : wj_X3_weighSources_123 I J x2 x3 x4 x5 x7 t0 t1 E81 K81 Post) : kf_M g x 8 123 [(0, .ref (g.2.2.2 52)), (2, .int x2), (3, .int x3), (4, .int x4), (5, .long x5), (7, .int x7)] [.long t0, .int t1, .ref (g.2.2.2 53)] I J := by
  unfold wj_X3_weighSources_123 at h
  refine kf_last hx ar_53 h.1 dX3_weighSources_123 ?_
  replace h := h.2
  refine kf_nmJ (fun J_6 eJ_6 => ?_)
  replace h := h J_6 eJ_6
  refine kf_lload hx dX3_weighSources_124 4 rfl ?_
  refine kf_aload_n hx dX3_weighSources_126 rfl 0 rfl ?_
  refine kf_getR (n := 53) hx sl_52_3 fl_RX3_9 dX3_weighSources_127 ?_
  refine kf_iload hx dX3_weighSources_130 5 rfl ?_
  refine kf_lald hx ar_53 h.1 dX3_weighSources_132 ?_
  replace h := h.2
  refine kf_ladd hx dX3_weighSources_133 ?_
  refine kf_topl (fun z_7 ez_7 => ?_)
  replace h := h z_7 ez_7
  refine kf_lstore (lv' := [(5, .long z_7), (0, .ref (g.2.2.2 52)), (2, .int x2), (3, .int x3), (4, .int x4), (7, .int x7)]) hx dX3_weighSources_134 (by decide) rfl ?_
  refine kf_iinc (w := (x7 + 1)) (lv' := [(7, .int (x7 + 1)), (5, .long z_7), (0, .ref (g.2.2.2 52)), (2, .int x2), (3, .int x3), (4, .int x4)]) hx dX3_weighSources_136 5 rfl rfl (by decide) rfl ?_
  refine kf_goto hx 81 dX3_weighSources_139 (by decide) ?_
  refine kf_sub [2, 3, 4, 5, 1, 0] rfl ?_
  exact hK81 _ _ _ _ h
def wb_X3_weighSources_81 (x2 : Int32) (x3 : Int32) (x4 : Int32) (Post : Int64 → HI → HJ → Prop) (E81 : Int64 → HI → HJ → Prop) (K81 : (Int64 × Int32 × HI × HJ) → Prop) (s : Int64 × Int32 × HI × HJ) : Prop :=
  match s with
  | (x5, x7, I, J) => ((I 12 11) ≤ x7 → (E81 x5 I J)) ∧ (¬ (I 12 11) ≤ x7 → (w_X10_has x4 x7 (fun (r_3 : Bool) => ((r_3 = false → (w_X3_weighSource x7 x2 x3 x4 I J (fun (r_4 : Int64) (I_5 : HI) => (wj_X3_weighSources_123 I_5 J x2 x3 x4 x5 x7 r_4 x7 E81 K81 Post)))) ∧ (r_3 = true → (wj_X3_weighSources_123 I J x2 x3 x4 x5 x7 0 x7 E81 K81 Post))))))
set_option maxHeartbeats 4000000 in
set_option maxRecDepth 20000 in
theorem ws_X3_weighSources_81 (g : kf_G) (hg : kf_g g) {x : kf_X} (hx : kf_ok g x RX3 cX3_weighSources 8 5 120) (x2 : Int32) (x3 : Int32) (x4 : Int32) (Post : Int64 → HI → HJ → Prop) (hret : ∀ (pc : Nat) (lv : List (Nat × Value)) (v : Int64) (Iy : HI) (Jy : HJ), decode cX3_weighSources pc = .ok (.lreturn, 1) → Post v Iy Jy → kf_M g x 8 pc lv [.long v] Iy Jy) (E81 : Int64 → HI → HJ → Prop) (hE81 : ∀ (y5 : Int64) (Iy : HI) (Jy : HJ), E81 y5 Iy Jy → kf_M g x 8 142 [(5, .long y5)] [] Iy Jy) (K81 : (Int64 × Int32 × HI × HJ) → Prop) (hK81 : ∀ (y5 : Int64) (y7 : Int32) (Iy : HI) (Jy : HJ), K81 (y5, y7, Iy, Jy) → kf_M g x 8 81 [(0, .ref (g.2.2.2 52)), (2, .int x2), (3, .int x3), (4, .int x4), (5, .long y5), (7, .int y7)] [] Iy Jy) (x5 : Int64) (x7 : Int32) (I : HI) (J : HJ) (h : wb_X3_weighSources_81 x2 x3 x4 Post E81 K81 (x5, x7, I, J)) : kf_M g x 8 81 [(0, .ref (g.2.2.2 52)), (2, .int x2), (3, .int x3), (4, .int x4), (5, .long x5), (7, .int x7)] [] I J := by
  unfold wb_X3_weighSources_81 at h
  refine kf_iload hx dX3_weighSources_81 5 rfl ?_
  refine kf_aload_n hx dX3_weighSources_83 rfl 0 rfl ?_
  refine kf_getR (n := 12) hx sl_52_0 fl_RX3_15 dX3_weighSources_84 ?_
  refine kf_getI hx sl_12_11 fl_RX3_61 dX3_weighSources_87 ?_
  refine kf_icmp_ge hx 142 dX3_weighSources_90 (by decide) (fun c => ?_) (fun c => ?_)
  · replace h := h.1 c
    refine kf_sub [4] rfl ?_
    exact hE81 _ _ _ h
  · replace h := h.2 c
    refine kf_aload_n hx dX3_weighSources_93 rfl 0 rfl ?_
    refine kf_getR (n := 53) hx sl_52_3 fl_RX3_9 dX3_weighSources_94 ?_
    refine kf_iload hx dX3_weighSources_97 5 rfl ?_
    refine kf_iload hx dX3_weighSources_99 3 rfl ?_
    refine kf_iload hx dX3_weighSources_101 5 rfl ?_
    refine kf_callSbP (st := [.int x7, .ref (g.2.2.2 53)]) hx (m_X10_has g hg x4 x7 I J _ h) lk_RX3_72 km_X10_has rfl (by decide) rfl (Nat.le_of_ble_eq_true rfl) dX3_weighSources_103 (fun r_3 h => ?_)
    refine kf_ifB_eq hx 113 dX3_weighSources_106 (by decide) (fun c => ?_) (fun c => ?_)
    · replace h := h.1 c
      refine kf_aload_n hx dX3_weighSources_113 rfl 0 rfl ?_
      refine kf_iload hx dX3_weighSources_114 5 rfl ?_
      refine kf_iload_n hx dX3_weighSources_116 rfl 1 rfl ?_
      refine kf_iload_n hx dX3_weighSources_117 rfl 2 rfl ?_
      refine kf_iload hx dX3_weighSources_118 3 rfl ?_
      refine kf_callVlI (st := [.int x7, .ref (g.2.2.2 53)]) hx (m_X3_weighSource g hg x7 x2 x3 x4 I J _ h) lk_RX3_76 km_X3_weighSource ob_52 rfl (by decide) rfl (Nat.le_of_ble_eq_true rfl) dX3_weighSources_120 (fun r_4 I_5 h => ?_)
      exact wk_X3_weighSources_123 g hg hx I_5 J x2 x3 x4 x5 x7 r_4 x7 _ _ hE81 hK81 _ hret h
    · replace h := h.2 c
      refine kf_lconst (v := 0) hx dX3_weighSources_109 (by decide) ?_
      refine kf_goto hx 123 dX3_weighSources_110 (by decide) ?_
      exact wk_X3_weighSources_123 g hg hx I J x2 x3 x4 x5 x7 0 x7 _ _ hE81 hK81 _ hret h
theorem wl_X3_weighSources_81 (g : kf_G) (hg : kf_g g) {x : kf_X} (hx : kf_ok g x RX3 cX3_weighSources 8 5 120) (x2 : Int32) (x3 : Int32) (x4 : Int32) (Post : Int64 → HI → HJ → Prop) (hret : ∀ (pc : Nat) (lv : List (Nat × Value)) (v : Int64) (Iy : HI) (Jy : HJ), decode cX3_weighSources pc = .ok (.lreturn, 1) → Post v Iy Jy → kf_M g x 8 pc lv [.long v] Iy Jy) (E81 : Int64 → HI → HJ → Prop) (hE81 : ∀ (y5 : Int64) (Iy : HI) (Jy : HJ), E81 y5 Iy Jy → kf_M g x 8 142 [(5, .long y5)] [] Iy Jy) : ∀ (n : Nat) (x5 : Int64) (x7 : Int32) (I : HI) (J : HJ), lp (wb_X3_weighSources_81 x2 x3 x4 Post E81) n (x5, x7, I, J) → kf_M g x 8 81 [(0, .ref (g.2.2.2 52)), (2, .int x2), (3, .int x3), (4, .int x4), (5, .long x5), (7, .int x7)] [] I J := by
  intro n
  induction n with
  | zero => intro x5 x7 I J h; exact h.elim
  | succ n ih => intro x5 x7 I J h; exact ws_X3_weighSources_81 g hg hx x2 x3 x4 Post hret E81 hE81 (lp (wb_X3_weighSources_81 x2 x3 x4 Post E81) n) ih x5 x7 I J h
def w_X3_weighSources (c1 : Nat) (x2 : Int32) (I : HI) (J : HJ) (Post : Int64 → HI → HJ → Prop) : Prop :=
  ∃ n, lp (wb_X3_weighSources_8 I J c1 x2 Post (fun (x3_1 : Int32) (x4_2 : Int32) => ∃ n, lp (wb_X3_weighSources_81 x2 x3_1 x4_2 Post (fun (x5_8 : Int64) (I_9 : HI) (J_10 : HJ) => Post x5_8 I_9 J_10)) n (0, 0, I, J))) n (0, 0, 0)
set_option maxHeartbeats 4000000 in
set_option maxRecDepth 20000 in
theorem we_X3_weighSources (g : kf_G) (hg : kf_g g) {x : kf_X} (hx : kf_ok g x RX3 cX3_weighSources 8 5 120) (c1 : Nat) (x2 : Int32) (hc1 : kf_SH[c1]? = some (2, 40, [1])) (I : HI) (J : HJ) (Post : Int64 → HI → HJ → Prop) (hret : ∀ (pc : Nat) (lv : List (Nat × Value)) (v : Int64) (Iy : HI) (Jy : HJ), decode cX3_weighSources pc = .ok (.lreturn, 1) → Post v Iy Jy → kf_M g x 8 pc lv [.long v] Iy Jy) (h : w_X3_weighSources c1 x2 I J Post) : kf_M g x 8 0 [(0, .ref (g.2.2.2 52)), (1, .ref (g.2.2.2 c1)), (2, .int x2)] [] I J := by
  unfold w_X3_weighSources at h
  refine kf_iconst (v := 0) hx dX3_weighSources_0 (by decide) ?_
  refine kf_istore_n (lv' := [(3, .int 0), (0, .ref (g.2.2.2 52)), (1, .ref (g.2.2.2 c1)), (2, .int x2)]) hx dX3_weighSources_1 rfl (by decide) rfl ?_
  refine kf_iconst (v := 0) hx dX3_weighSources_2 (by decide) ?_
  refine kf_istore (lv' := [(4, .int 0), (3, .int 0), (0, .ref (g.2.2.2 52)), (1, .ref (g.2.2.2 c1)), (2, .int x2)]) hx dX3_weighSources_3 (by decide) rfl ?_
  refine kf_iconst (v := 0) hx dX3_weighSources_5 (by decide) ?_
  refine kf_istore (lv' := [(5, .int 0), (4, .int 0), (3, .int 0), (0, .ref (g.2.2.2 52)), (1, .ref (g.2.2.2 c1)), (2, .int x2)]) hx dX3_weighSources_6 (by decide) rfl ?_
  obtain ⟨n, h⟩ := h
  refine kf_sub [3, 4, 5, 2, 1, 0] rfl ?_
  refine wl_X3_weighSources_8 g hg hx I J c1 x2 hc1 _ hret _ (fun x3_1 x4_2 h => ?_) n _ _ _ h
  refine kf_lconst (v := 0) hx dX3_weighSources_75 (by decide) ?_
  refine kf_lstore (lv' := [(5, .long 0), (0, .ref (g.2.2.2 52)), (2, .int x2), (3, .int x3_1), (4, .int x4_2)]) hx dX3_weighSources_76 (by decide) rfl ?_
  refine kf_iconst (v := 0) hx dX3_weighSources_78 (by decide) ?_
  refine kf_istore (lv' := [(7, .int 0), (5, .long 0), (0, .ref (g.2.2.2 52)), (2, .int x2), (3, .int x3_1), (4, .int x4_2)]) hx dX3_weighSources_79 (by decide) rfl ?_
  obtain ⟨n, h⟩ := h
  refine kf_sub [2, 3, 4, 5, 1, 0] rfl ?_
  refine wl_X3_weighSources_81 g hg hx  x2 x3_1 x4_2 _ hret _ (fun x5_8 I_9 J_10 h => ?_) n _ _ _ _ h
  refine kf_lload hx dX3_weighSources_142 0 rfl ?_
  exact hret _ _ x5_8 _ _ dX3_weighSources_144 h
set_option maxHeartbeats 4000000 in
set_option maxRecDepth 20000 in
theorem m_X3_weighSources (g : kf_G) (hg : kf_g g) (c1 : Nat) (x2 : Int32) (hc1 : kf_SH[c1]? = some (2, 40, [1])) (I : HI) (J : HJ) (Post : Int64 → HI → HJ → Prop) (h : w_X3_weighSources c1 x2 I J Post) : kf_Ml g yX3_weighSources (kf_W yX3_weighSources cX3_weighSources 8 (Option.some Jvm.ClassFile.FieldType.long)) 5 120 [.ref (g.2.2.2 52), .ref (g.2.2.2 c1), .int x2] I J Post :=
  kf_entl hg (by decide) (Nat.le_of_ble_eq_true rfl) rfl (fun x hx hr => we_X3_weighSources g hg hx c1 x2 hc1 I J Post (fun pc lv v I' J' hd hP => hr pc lv v I' J' hd hP) h)
theorem dX4_empty_0 : decode cX4_empty 0 = .ok (.aload_n 0, 1) := by decide +kernel
theorem dX4_empty_1 : decode cX4_empty 1 = .ok (.iconst 0, 1) := by decide +kernel
theorem dX4_empty_2 : decode cX4_empty 2 = .ok (.putfield 45, 3) := by decide +kernel
theorem dX4_empty_5 : decode cX4_empty 5 = .ok (.aload_n 0, 1) := by decide +kernel
theorem dX4_empty_6 : decode cX4_empty 6 = .ok (.iconst 0, 1) := by decide +kernel
theorem dX4_empty_7 : decode cX4_empty 7 = .ok (.putfield 49, 3) := by decide +kernel
theorem dX4_empty_10 : decode cX4_empty 10 = .ok (.aload_n 0, 1) := by decide +kernel
theorem dX4_empty_11 : decode cX4_empty 11 = .ok (.iconst 0, 1) := by decide +kernel
theorem dX4_empty_12 : decode cX4_empty 12 = .ok (.putfield 52, 3) := by decide +kernel
theorem dX4_empty_15 : decode cX4_empty 15 = .ok (.aload_n 0, 1) := by decide +kernel
theorem dX4_empty_16 : decode cX4_empty 16 = .ok (.getfield 42, 3) := by decide +kernel
theorem dX4_empty_19 : decode cX4_empty 19 = .ok (.bipush 12, 2) := by decide +kernel
theorem dX4_empty_21 : decode cX4_empty 21 = .ok (.invokestatic 55, 3) := by decide +kernel
theorem dX4_empty_24 : decode cX4_empty 24 = .ok (.return_, 1) := by decide +kernel
def w_X4_empty  (I : HI) (J : HJ) (Post : HI → Prop) : Prop :=
  ∀ I_1 : HI, I_1 = hI I 24 11 0 → (∀ I_2 : HI, I_2 = hI I_1 24 12 0 → (∀ I_3 : HI, I_3 = hI I_2 24 13 0 → (w_J7_fill_53178 35 4 12 I_3 J (fun (I_4 : HI) => (Post I_4)))))
set_option maxHeartbeats 4000000 in
set_option maxRecDepth 20000 in
theorem we_X4_empty (g : kf_G) (hg : kf_g g) {x : kf_X} (hx : kf_ok g x RX4 cX4_empty 1 1 23)  (I : HI) (J : HJ) (Post : HI → Prop) (hret : ∀ (pc : Nat) (lv : List (Nat × Value)) (Iy : HI), decode cX4_empty pc = .ok (.return_, 1) → Post Iy → kf_M g x 1 pc lv [] Iy J) (h : w_X4_empty  I J Post) : kf_M g x 1 0 [(0, .ref (g.2.2.2 24))] [] I J := by
  unfold w_X4_empty at h
  refine kf_aload_n hx dX4_empty_0 rfl 0 rfl ?_
  refine kf_iconst (v := 0) hx dX4_empty_1 (by decide) ?_
  refine kf_putI hx sl_24_11 fl_RX4_45 fp_4_11 dX4_empty_2 ?_
  refine kf_nmI (fun I_1 eI_1 => ?_)
  replace h := h I_1 eI_1
  refine kf_aload_n hx dX4_empty_5 rfl 0 rfl ?_
  refine kf_iconst (v := 0) hx dX4_empty_6 (by decide) ?_
  refine kf_putI hx sl_24_12 fl_RX4_49 fp_4_12 dX4_empty_7 ?_
  refine kf_nmI (fun I_2 eI_2 => ?_)
  replace h := h I_2 eI_2
  refine kf_aload_n hx dX4_empty_10 rfl 0 rfl ?_
  refine kf_iconst (v := 0) hx dX4_empty_11 (by decide) ?_
  refine kf_putI hx sl_24_13 fl_RX4_52 fp_4_13 dX4_empty_12 ?_
  refine kf_nmI (fun I_3 eI_3 => ?_)
  replace h := h I_3 eI_3
  refine kf_aload_n hx dX4_empty_15 rfl 0 rfl ?_
  refine kf_getR (n := 35) hx sl_24_10 fl_RX4_42 dX4_empty_16 ?_
  refine kf_bipush (v := 12) hx dX4_empty_19 (by decide) ?_
  refine kf_callSvI (st := []) hx (m_J7_fill_53178 g hg 35 4 12 ar_35 I_3 J _ h) lk_RX4_55 km_J7_fill_53178 rfl (by decide) rfl (Nat.le_of_ble_eq_true rfl) dX4_empty_21 (fun I_4 h => ?_)
  exact hret _ _ _ dX4_empty_24 h
set_option maxHeartbeats 4000000 in
set_option maxRecDepth 20000 in
theorem m_X4_empty (g : kf_G) (hg : kf_g g)  (I : HI) (J : HJ) (Post : HI → Prop) (h : w_X4_empty  I J Post) : kf_Mv g yX4_empty (kf_W yX4_empty cX4_empty 1 (Option.none : Option Jvm.ClassFile.FieldType)) 1 23 [.ref (g.2.2.2 24)] I J (fun I' J' => Post I' ∧ J' = J) :=
  kf_entv hg (by decide) (Nat.le_of_ble_eq_true rfl) rfl (fun x hx hr => we_X4_empty g hg hx  I J Post (fun pc lv I' hd hP => hr pc lv I' J hd ⟨hP, rfl⟩) h)
theorem dX4_isPerson_0 : decode cX4_isPerson 0 = .ok (.iload_n 1, 1) := by decide +kernel
theorem dX4_isPerson_1 : decode cX4_isPerson 1 = .ok (.ifCond .lt 15, 3) := by decide +kernel
theorem dX4_isPerson_4 : decode cX4_isPerson 4 = .ok (.iload_n 1, 1) := by decide +kernel
theorem dX4_isPerson_5 : decode cX4_isPerson 5 = .ok (.aload_n 0, 1) := by decide +kernel
theorem dX4_isPerson_6 : decode cX4_isPerson 6 = .ok (.getfield 45, 3) := by decide +kernel
theorem dX4_isPerson_9 : decode cX4_isPerson 9 = .ok (.if_icmp .ge 7, 3) := by decide +kernel
theorem dX4_isPerson_12 : decode cX4_isPerson 12 = .ok (.iconst 1, 1) := by decide +kernel
theorem dX4_isPerson_13 : decode cX4_isPerson 13 = .ok (.goto 4, 3) := by decide +kernel
theorem dX4_isPerson_16 : decode cX4_isPerson 16 = .ok (.iconst 0, 1) := by decide +kernel
theorem dX4_isPerson_17 : decode cX4_isPerson 17 = .ok (.ireturn, 1) := by decide +kernel
def w_X4_isPerson_12 (x1 : Int32) (I : HI) (J : HJ) (Post : Bool → Prop) : Prop :=
  (x1 < 0 → (Post false)) ∧ (¬ x1 < 0 → (((I 12 11) ≤ x1 → (Post false)) ∧ (¬ (I 12 11) ≤ x1 → (Post true))))
set_option maxHeartbeats 4000000 in
set_option maxRecDepth 20000 in
theorem we_X4_isPerson_12 (g : kf_G) (hg : kf_g g) {x : kf_X} (hx : kf_ok g x RX4 cX4_isPerson 2 0 0) (x1 : Int32) (I : HI) (J : HJ) (Post : Bool → Prop) (hret : ∀ (pc : Nat) (lv : List (Nat × Value)) (v : Bool), decode cX4_isPerson pc = .ok (.ireturn, 1) → Post v → kf_M g x 2 pc lv [.int (kb v)] I J) (h : w_X4_isPerson_12 x1 I J Post) : kf_M g x 2 0 [(0, .ref (g.2.2.2 12)), (1, .int x1)] [] I J := by
  unfold w_X4_isPerson_12 at h
  refine kf_iload_n hx dX4_isPerson_0 rfl 1 rfl ?_
  refine kf_if_lt hx 16 dX4_isPerson_1 (by decide) (fun c => ?_) (fun c => ?_)
  · replace h := h.1 c
    refine kf_iconst (v := 0) hx dX4_isPerson_16 (by decide) ?_
    exact hret _ _ false  dX4_isPerson_17 h
  · replace h := h.2 c
    refine kf_iload_n hx dX4_isPerson_4 rfl 1 rfl ?_
    refine kf_aload_n hx dX4_isPerson_5 rfl 0 rfl ?_
    refine kf_getI hx sl_12_11 fl_RX4_45 dX4_isPerson_6 ?_
    refine kf_icmp_ge hx 16 dX4_isPerson_9 (by decide) (fun c => ?_) (fun c => ?_)
    · replace h := h.1 c
      refine kf_iconst (v := 0) hx dX4_isPerson_16 (by decide) ?_
      exact hret _ _ false  dX4_isPerson_17 h
    · replace h := h.2 c
      refine kf_iconst (v := 1) hx dX4_isPerson_12 (by decide) ?_
      refine kf_goto hx 17 dX4_isPerson_13 (by decide) ?_
      exact hret _ _ true  dX4_isPerson_17 h
set_option maxHeartbeats 4000000 in
set_option maxRecDepth 20000 in
theorem m_X4_isPerson_12 (g : kf_G) (hg : kf_g g) (x1 : Int32) (I : HI) (J : HJ) (Post : Bool → Prop) (h : w_X4_isPerson_12 x1 I J Post) : kf_Mb g yX4_isPerson (kf_W yX4_isPerson cX4_isPerson 2 (Option.some Jvm.ClassFile.FieldType.boolean)) 0 0 [.ref (g.2.2.2 12), .int x1] I J (fun v I' J' => Post v ∧ I' = I ∧ J' = J) :=
  kf_entb hg (by decide) (Nat.le_of_ble_eq_true rfl) rfl (fun x hx hr => we_X4_isPerson_12 g hg hx x1 I J Post (fun pc lv v hd hP => hr pc lv v I J hd ⟨hP, rfl, rfl⟩) h)
def w_X4_isPerson_24 (x1 : Int32) (I : HI) (J : HJ) (Post : Bool → Prop) : Prop :=
  (x1 < 0 → (Post false)) ∧ (¬ x1 < 0 → (((I 24 11) ≤ x1 → (Post false)) ∧ (¬ (I 24 11) ≤ x1 → (Post true))))
set_option maxHeartbeats 4000000 in
set_option maxRecDepth 20000 in
theorem we_X4_isPerson_24 (g : kf_G) (hg : kf_g g) {x : kf_X} (hx : kf_ok g x RX4 cX4_isPerson 2 0 0) (x1 : Int32) (I : HI) (J : HJ) (Post : Bool → Prop) (hret : ∀ (pc : Nat) (lv : List (Nat × Value)) (v : Bool), decode cX4_isPerson pc = .ok (.ireturn, 1) → Post v → kf_M g x 2 pc lv [.int (kb v)] I J) (h : w_X4_isPerson_24 x1 I J Post) : kf_M g x 2 0 [(0, .ref (g.2.2.2 24)), (1, .int x1)] [] I J := by
  unfold w_X4_isPerson_24 at h
  refine kf_iload_n hx dX4_isPerson_0 rfl 1 rfl ?_
  refine kf_if_lt hx 16 dX4_isPerson_1 (by decide) (fun c => ?_) (fun c => ?_)
  · replace h := h.1 c
    refine kf_iconst (v := 0) hx dX4_isPerson_16 (by decide) ?_
    exact hret _ _ false  dX4_isPerson_17 h
  · replace h := h.2 c
    refine kf_iload_n hx dX4_isPerson_4 rfl 1 rfl ?_
    refine kf_aload_n hx dX4_isPerson_5 rfl 0 rfl ?_
    refine kf_getI hx sl_24_11 fl_RX4_45 dX4_isPerson_6 ?_
    refine kf_icmp_ge hx 16 dX4_isPerson_9 (by decide) (fun c => ?_) (fun c => ?_)
    · replace h := h.1 c
      refine kf_iconst (v := 0) hx dX4_isPerson_16 (by decide) ?_
      exact hret _ _ false  dX4_isPerson_17 h
    · replace h := h.2 c
      refine kf_iconst (v := 1) hx dX4_isPerson_12 (by decide) ?_
      refine kf_goto hx 17 dX4_isPerson_13 (by decide) ?_
      exact hret _ _ true  dX4_isPerson_17 h
set_option maxHeartbeats 4000000 in
set_option maxRecDepth 20000 in
theorem m_X4_isPerson_24 (g : kf_G) (hg : kf_g g) (x1 : Int32) (I : HI) (J : HJ) (Post : Bool → Prop) (h : w_X4_isPerson_24 x1 I J Post) : kf_Mb g yX4_isPerson (kf_W yX4_isPerson cX4_isPerson 2 (Option.some Jvm.ClassFile.FieldType.boolean)) 0 0 [.ref (g.2.2.2 24), .int x1] I J (fun v I' J' => Post v ∧ I' = I ∧ J' = J) :=
  kf_entb hg (by decide) (Nat.le_of_ble_eq_true rfl) rfl (fun x hx hr => we_X4_isPerson_24 g hg hx x1 I J Post (fun pc lv v hd hP => hr pc lv v I J hd ⟨hP, rfl, rfl⟩) h)
theorem dX4_isTie_0 : decode cX4_isTie 0 = .ok (.iload_n 1, 1) := by decide +kernel
theorem dX4_isTie_1 : decode cX4_isTie 1 = .ok (.ifCond .lt 15, 3) := by decide +kernel
theorem dX4_isTie_4 : decode cX4_isTie 4 = .ok (.iload_n 1, 1) := by decide +kernel
theorem dX4_isTie_5 : decode cX4_isTie 5 = .ok (.aload_n 0, 1) := by decide +kernel
theorem dX4_isTie_6 : decode cX4_isTie 6 = .ok (.getfield 49, 3) := by decide +kernel
theorem dX4_isTie_9 : decode cX4_isTie 9 = .ok (.if_icmp .ge 7, 3) := by decide +kernel
theorem dX4_isTie_12 : decode cX4_isTie 12 = .ok (.iconst 1, 1) := by decide +kernel
theorem dX4_isTie_13 : decode cX4_isTie 13 = .ok (.goto 4, 3) := by decide +kernel
theorem dX4_isTie_16 : decode cX4_isTie 16 = .ok (.iconst 0, 1) := by decide +kernel
theorem dX4_isTie_17 : decode cX4_isTie 17 = .ok (.ireturn, 1) := by decide +kernel
def w_X4_isTie (x1 : Int32) (I : HI) (J : HJ) (Post : Bool → Prop) : Prop :=
  (x1 < 0 → (Post false)) ∧ (¬ x1 < 0 → (((I 12 12) ≤ x1 → (Post false)) ∧ (¬ (I 12 12) ≤ x1 → (Post true))))
set_option maxHeartbeats 4000000 in
set_option maxRecDepth 20000 in
theorem we_X4_isTie (g : kf_G) (hg : kf_g g) {x : kf_X} (hx : kf_ok g x RX4 cX4_isTie 2 0 0) (x1 : Int32) (I : HI) (J : HJ) (Post : Bool → Prop) (hret : ∀ (pc : Nat) (lv : List (Nat × Value)) (v : Bool), decode cX4_isTie pc = .ok (.ireturn, 1) → Post v → kf_M g x 2 pc lv [.int (kb v)] I J) (h : w_X4_isTie x1 I J Post) : kf_M g x 2 0 [(0, .ref (g.2.2.2 12)), (1, .int x1)] [] I J := by
  unfold w_X4_isTie at h
  refine kf_iload_n hx dX4_isTie_0 rfl 1 rfl ?_
  refine kf_if_lt hx 16 dX4_isTie_1 (by decide) (fun c => ?_) (fun c => ?_)
  · replace h := h.1 c
    refine kf_iconst (v := 0) hx dX4_isTie_16 (by decide) ?_
    exact hret _ _ false  dX4_isTie_17 h
  · replace h := h.2 c
    refine kf_iload_n hx dX4_isTie_4 rfl 1 rfl ?_
    refine kf_aload_n hx dX4_isTie_5 rfl 0 rfl ?_
    refine kf_getI hx sl_12_12 fl_RX4_49 dX4_isTie_6 ?_
    refine kf_icmp_ge hx 16 dX4_isTie_9 (by decide) (fun c => ?_) (fun c => ?_)
    · replace h := h.1 c
      refine kf_iconst (v := 0) hx dX4_isTie_16 (by decide) ?_
      exact hret _ _ false  dX4_isTie_17 h
    · replace h := h.2 c
      refine kf_iconst (v := 1) hx dX4_isTie_12 (by decide) ?_
      refine kf_goto hx 17 dX4_isTie_13 (by decide) ?_
      exact hret _ _ true  dX4_isTie_17 h
set_option maxHeartbeats 4000000 in
set_option maxRecDepth 20000 in
theorem m_X4_isTie (g : kf_G) (hg : kf_g g) (x1 : Int32) (I : HI) (J : HJ) (Post : Bool → Prop) (h : w_X4_isTie x1 I J Post) : kf_Mb g yX4_isTie (kf_W yX4_isTie cX4_isTie 2 (Option.some Jvm.ClassFile.FieldType.boolean)) 0 0 [.ref (g.2.2.2 12), .int x1] I J (fun v I' J' => Post v ∧ I' = I ∧ J' = J) :=
  kf_entb hg (by decide) (Nat.le_of_ble_eq_true rfl) rfl (fun x hx hr => we_X4_isTie g hg hx x1 I J Post (fun pc lv v hd hP => hr pc lv v I J hd ⟨hP, rfl, rfl⟩) h)
theorem dX4_arePeople_0 : decode cX4_arePeople 0 = .ok (.iload_n 1, 1) := by decide +kernel
theorem dX4_arePeople_1 : decode cX4_arePeople 1 = .ok (.aload_n 0, 1) := by decide +kernel
theorem dX4_arePeople_2 : decode cX4_arePeople 2 = .ok (.getfield 45, 3) := by decide +kernel
theorem dX4_arePeople_5 : decode cX4_arePeople 5 = .ok (.iushr, 1) := by decide +kernel
theorem dX4_arePeople_6 : decode cX4_arePeople 6 = .ok (.ifCond .ne 7, 3) := by decide +kernel
theorem dX4_arePeople_9 : decode cX4_arePeople 9 = .ok (.iconst 1, 1) := by decide +kernel
theorem dX4_arePeople_10 : decode cX4_arePeople 10 = .ok (.goto 4, 3) := by decide +kernel
theorem dX4_arePeople_13 : decode cX4_arePeople 13 = .ok (.iconst 0, 1) := by decide +kernel
theorem dX4_arePeople_14 : decode cX4_arePeople 14 = .ok (.ireturn, 1) := by decide +kernel
def w_X4_arePeople (x1 : Int32) (I : HI) (J : HJ) (Post : Bool → Prop) : Prop :=
  (¬ (UInt32.toInt32 (Int32.toUInt32 x1 >>> (Int32.toUInt32 (I 12 11) &&& Int32.toUInt32 31))) = 0 → (Post false)) ∧ ((UInt32.toInt32 (Int32.toUInt32 x1 >>> (Int32.toUInt32 (I 12 11) &&& Int32.toUInt32 31))) = 0 → (Post true))
set_option maxHeartbeats 4000000 in
set_option maxRecDepth 20000 in
theorem we_X4_arePeople (g : kf_G) (hg : kf_g g) {x : kf_X} (hx : kf_ok g x RX4 cX4_arePeople 2 0 0) (x1 : Int32) (I : HI) (J : HJ) (Post : Bool → Prop) (hret : ∀ (pc : Nat) (lv : List (Nat × Value)) (v : Bool), decode cX4_arePeople pc = .ok (.ireturn, 1) → Post v → kf_M g x 2 pc lv [.int (kb v)] I J) (h : w_X4_arePeople x1 I J Post) : kf_M g x 2 0 [(0, .ref (g.2.2.2 12)), (1, .int x1)] [] I J := by
  unfold w_X4_arePeople at h
  refine kf_iload_n hx dX4_arePeople_0 rfl 1 rfl ?_
  refine kf_aload_n hx dX4_arePeople_1 rfl 0 rfl ?_
  refine kf_getI hx sl_12_11 fl_RX4_45 dX4_arePeople_2 ?_
  refine kf_iushr hx dX4_arePeople_5 ?_
  refine kf_if_ne hx 13 dX4_arePeople_6 (by decide) (fun c => ?_) (fun c => ?_)
  · replace h := h.1 c
    refine kf_iconst (v := 0) hx dX4_arePeople_13 (by decide) ?_
    exact hret _ _ false  dX4_arePeople_14 h
  · replace h := h.2 c
    refine kf_iconst (v := 1) hx dX4_arePeople_9 (by decide) ?_
    refine kf_goto hx 14 dX4_arePeople_10 (by decide) ?_
    exact hret _ _ true  dX4_arePeople_14 h
set_option maxHeartbeats 4000000 in
set_option maxRecDepth 20000 in
theorem m_X4_arePeople (g : kf_G) (hg : kf_g g) (x1 : Int32) (I : HI) (J : HJ) (Post : Bool → Prop) (h : w_X4_arePeople x1 I J Post) : kf_Mb g yX4_arePeople (kf_W yX4_arePeople cX4_arePeople 2 (Option.some Jvm.ClassFile.FieldType.boolean)) 0 0 [.ref (g.2.2.2 12), .int x1] I J (fun v I' J' => Post v ∧ I' = I ∧ J' = J) :=
  kf_entb hg (by decide) (Nat.le_of_ble_eq_true rfl) rfl (fun x hx hr => we_X4_arePeople g hg hx x1 I J Post (fun pc lv v hd hP => hr pc lv v I J hd ⟨hP, rfl, rfl⟩) h)
theorem dX4_areTies_0 : decode cX4_areTies 0 = .ok (.iload_n 1, 1) := by decide +kernel
theorem dX4_areTies_1 : decode cX4_areTies 1 = .ok (.aload_n 0, 1) := by decide +kernel
theorem dX4_areTies_2 : decode cX4_areTies 2 = .ok (.getfield 49, 3) := by decide +kernel
theorem dX4_areTies_5 : decode cX4_areTies 5 = .ok (.iushr, 1) := by decide +kernel
theorem dX4_areTies_6 : decode cX4_areTies 6 = .ok (.ifCond .ne 7, 3) := by decide +kernel
theorem dX4_areTies_9 : decode cX4_areTies 9 = .ok (.iconst 1, 1) := by decide +kernel
theorem dX4_areTies_10 : decode cX4_areTies 10 = .ok (.goto 4, 3) := by decide +kernel
theorem dX4_areTies_13 : decode cX4_areTies 13 = .ok (.iconst 0, 1) := by decide +kernel
theorem dX4_areTies_14 : decode cX4_areTies 14 = .ok (.ireturn, 1) := by decide +kernel
def w_X4_areTies (x1 : Int32) (I : HI) (J : HJ) (Post : Bool → Prop) : Prop :=
  (¬ (UInt32.toInt32 (Int32.toUInt32 x1 >>> (Int32.toUInt32 (I 12 12) &&& Int32.toUInt32 31))) = 0 → (Post false)) ∧ ((UInt32.toInt32 (Int32.toUInt32 x1 >>> (Int32.toUInt32 (I 12 12) &&& Int32.toUInt32 31))) = 0 → (Post true))
set_option maxHeartbeats 4000000 in
set_option maxRecDepth 20000 in
theorem we_X4_areTies (g : kf_G) (hg : kf_g g) {x : kf_X} (hx : kf_ok g x RX4 cX4_areTies 2 0 0) (x1 : Int32) (I : HI) (J : HJ) (Post : Bool → Prop) (hret : ∀ (pc : Nat) (lv : List (Nat × Value)) (v : Bool), decode cX4_areTies pc = .ok (.ireturn, 1) → Post v → kf_M g x 2 pc lv [.int (kb v)] I J) (h : w_X4_areTies x1 I J Post) : kf_M g x 2 0 [(0, .ref (g.2.2.2 12)), (1, .int x1)] [] I J := by
  unfold w_X4_areTies at h
  refine kf_iload_n hx dX4_areTies_0 rfl 1 rfl ?_
  refine kf_aload_n hx dX4_areTies_1 rfl 0 rfl ?_
  refine kf_getI hx sl_12_12 fl_RX4_49 dX4_areTies_2 ?_
  refine kf_iushr hx dX4_areTies_5 ?_
  refine kf_if_ne hx 13 dX4_areTies_6 (by decide) (fun c => ?_) (fun c => ?_)
  · replace h := h.1 c
    refine kf_iconst (v := 0) hx dX4_areTies_13 (by decide) ?_
    exact hret _ _ false  dX4_areTies_14 h
  · replace h := h.2 c
    refine kf_iconst (v := 1) hx dX4_areTies_9 (by decide) ?_
    refine kf_goto hx 14 dX4_areTies_10 (by decide) ?_
    exact hret _ _ true  dX4_areTies_14 h
set_option maxHeartbeats 4000000 in
set_option maxRecDepth 20000 in
theorem m_X4_areTies (g : kf_G) (hg : kf_g g) (x1 : Int32) (I : HI) (J : HJ) (Post : Bool → Prop) (h : w_X4_areTies x1 I J Post) : kf_Mb g yX4_areTies (kf_W yX4_areTies cX4_areTies 2 (Option.some Jvm.ClassFile.FieldType.boolean)) 0 0 [.ref (g.2.2.2 12), .int x1] I J (fun v I' J' => Post v ∧ I' = I ∧ J' = J) :=
  kf_entb hg (by decide) (Nat.le_of_ble_eq_true rfl) rfl (fun x hx hr => we_X4_areTies g hg hx x1 I J Post (fun pc lv v hd hP => hr pc lv v I J hd ⟨hP, rfl, rfl⟩) h)
theorem dX4_isFullOfPeople_0 : decode cX4_isFullOfPeople 0 = .ok (.aload_n 0, 1) := by decide +kernel
theorem dX4_isFullOfPeople_1 : decode cX4_isFullOfPeople 1 = .ok (.getfield 45, 3) := by decide +kernel
theorem dX4_isFullOfPeople_4 : decode cX4_isFullOfPeople 4 = .ok (.bipush 12, 2) := by decide +kernel
theorem dX4_isFullOfPeople_6 : decode cX4_isFullOfPeople 6 = .ok (.if_icmp .lt 7, 3) := by decide +kernel
theorem dX4_isFullOfPeople_9 : decode cX4_isFullOfPeople 9 = .ok (.iconst 1, 1) := by decide +kernel
theorem dX4_isFullOfPeople_10 : decode cX4_isFullOfPeople 10 = .ok (.goto 4, 3) := by decide +kernel
theorem dX4_isFullOfPeople_13 : decode cX4_isFullOfPeople 13 = .ok (.iconst 0, 1) := by decide +kernel
theorem dX4_isFullOfPeople_14 : decode cX4_isFullOfPeople 14 = .ok (.ireturn, 1) := by decide +kernel
def w_X4_isFullOfPeople  (I : HI) (J : HJ) (Post : Bool → Prop) : Prop :=
  ((I 24 11) < 12 → (Post false)) ∧ (¬ (I 24 11) < 12 → (Post true))
set_option maxHeartbeats 4000000 in
set_option maxRecDepth 20000 in
theorem we_X4_isFullOfPeople (g : kf_G) (hg : kf_g g) {x : kf_X} (hx : kf_ok g x RX4 cX4_isFullOfPeople 1 0 0)  (I : HI) (J : HJ) (Post : Bool → Prop) (hret : ∀ (pc : Nat) (lv : List (Nat × Value)) (v : Bool), decode cX4_isFullOfPeople pc = .ok (.ireturn, 1) → Post v → kf_M g x 1 pc lv [.int (kb v)] I J) (h : w_X4_isFullOfPeople  I J Post) : kf_M g x 1 0 [(0, .ref (g.2.2.2 24))] [] I J := by
  unfold w_X4_isFullOfPeople at h
  refine kf_aload_n hx dX4_isFullOfPeople_0 rfl 0 rfl ?_
  refine kf_getI hx sl_24_11 fl_RX4_45 dX4_isFullOfPeople_1 ?_
  refine kf_bipush (v := 12) hx dX4_isFullOfPeople_4 (by decide) ?_
  refine kf_icmp_lt hx 13 dX4_isFullOfPeople_6 (by decide) (fun c => ?_) (fun c => ?_)
  · replace h := h.1 c
    refine kf_iconst (v := 0) hx dX4_isFullOfPeople_13 (by decide) ?_
    exact hret _ _ false  dX4_isFullOfPeople_14 h
  · replace h := h.2 c
    refine kf_iconst (v := 1) hx dX4_isFullOfPeople_9 (by decide) ?_
    refine kf_goto hx 14 dX4_isFullOfPeople_10 (by decide) ?_
    exact hret _ _ true  dX4_isFullOfPeople_14 h
set_option maxHeartbeats 4000000 in
set_option maxRecDepth 20000 in
theorem m_X4_isFullOfPeople (g : kf_G) (hg : kf_g g)  (I : HI) (J : HJ) (Post : Bool → Prop) (h : w_X4_isFullOfPeople  I J Post) : kf_Mb g yX4_isFullOfPeople (kf_W yX4_isFullOfPeople cX4_isFullOfPeople 1 (Option.some Jvm.ClassFile.FieldType.boolean)) 0 0 [.ref (g.2.2.2 24)] I J (fun v I' J' => Post v ∧ I' = I ∧ J' = J) :=
  kf_entb hg (by decide) (Nat.le_of_ble_eq_true rfl) rfl (fun x hx hr => we_X4_isFullOfPeople g hg hx  I J Post (fun pc lv v hd hP => hr pc lv v I J hd ⟨hP, rfl, rfl⟩) h)
theorem dX4_hasRoomForTies_0 : decode cX4_hasRoomForTies 0 = .ok (.aload_n 0, 1) := by decide +kernel
theorem dX4_hasRoomForTies_1 : decode cX4_hasRoomForTies 1 = .ok (.getfield 49, 3) := by decide +kernel
theorem dX4_hasRoomForTies_4 : decode cX4_hasRoomForTies 4 = .ok (.iload_n 1, 1) := by decide +kernel
theorem dX4_hasRoomForTies_5 : decode cX4_hasRoomForTies 5 = .ok (.iadd, 1) := by decide +kernel
theorem dX4_hasRoomForTies_6 : decode cX4_hasRoomForTies 6 = .ok (.bipush 10, 2) := by decide +kernel
theorem dX4_hasRoomForTies_8 : decode cX4_hasRoomForTies 8 = .ok (.if_icmp .gt 7, 3) := by decide +kernel
theorem dX4_hasRoomForTies_11 : decode cX4_hasRoomForTies 11 = .ok (.iconst 1, 1) := by decide +kernel
theorem dX4_hasRoomForTies_12 : decode cX4_hasRoomForTies 12 = .ok (.goto 4, 3) := by decide +kernel
theorem dX4_hasRoomForTies_15 : decode cX4_hasRoomForTies 15 = .ok (.iconst 0, 1) := by decide +kernel
theorem dX4_hasRoomForTies_16 : decode cX4_hasRoomForTies 16 = .ok (.ireturn, 1) := by decide +kernel
def w_X4_hasRoomForTies (x1 : Int32) (I : HI) (J : HJ) (Post : Bool → Prop) : Prop :=
  (10 < ((I 24 12) + x1) → (Post false)) ∧ (¬ 10 < ((I 24 12) + x1) → (Post true))
set_option maxHeartbeats 4000000 in
set_option maxRecDepth 20000 in
theorem we_X4_hasRoomForTies (g : kf_G) (hg : kf_g g) {x : kf_X} (hx : kf_ok g x RX4 cX4_hasRoomForTies 2 0 0) (x1 : Int32) (I : HI) (J : HJ) (Post : Bool → Prop) (hret : ∀ (pc : Nat) (lv : List (Nat × Value)) (v : Bool), decode cX4_hasRoomForTies pc = .ok (.ireturn, 1) → Post v → kf_M g x 2 pc lv [.int (kb v)] I J) (h : w_X4_hasRoomForTies x1 I J Post) : kf_M g x 2 0 [(0, .ref (g.2.2.2 24)), (1, .int x1)] [] I J := by
  unfold w_X4_hasRoomForTies at h
  refine kf_aload_n hx dX4_hasRoomForTies_0 rfl 0 rfl ?_
  refine kf_getI hx sl_24_12 fl_RX4_49 dX4_hasRoomForTies_1 ?_
  refine kf_iload_n hx dX4_hasRoomForTies_4 rfl 1 rfl ?_
  refine kf_iadd hx dX4_hasRoomForTies_5 ?_
  refine kf_bipush (v := 10) hx dX4_hasRoomForTies_6 (by decide) ?_
  refine kf_icmp_gt hx 15 dX4_hasRoomForTies_8 (by decide) (fun c => ?_) (fun c => ?_)
  · replace h := h.1 c
    refine kf_iconst (v := 0) hx dX4_hasRoomForTies_15 (by decide) ?_
    exact hret _ _ false  dX4_hasRoomForTies_16 h
  · replace h := h.2 c
    refine kf_iconst (v := 1) hx dX4_hasRoomForTies_11 (by decide) ?_
    refine kf_goto hx 16 dX4_hasRoomForTies_12 (by decide) ?_
    exact hret _ _ true  dX4_hasRoomForTies_16 h
set_option maxHeartbeats 4000000 in
set_option maxRecDepth 20000 in
theorem m_X4_hasRoomForTies (g : kf_G) (hg : kf_g g) (x1 : Int32) (I : HI) (J : HJ) (Post : Bool → Prop) (h : w_X4_hasRoomForTies x1 I J Post) : kf_Mb g yX4_hasRoomForTies (kf_W yX4_hasRoomForTies cX4_hasRoomForTies 2 (Option.some Jvm.ClassFile.FieldType.boolean)) 0 0 [.ref (g.2.2.2 24), .int x1] I J (fun v I' J' => Post v ∧ I' = I ∧ J' = J) :=
  kf_entb hg (by decide) (Nat.le_of_ble_eq_true rfl) rfl (fun x hx hr => we_X4_hasRoomForTies g hg hx x1 I J Post (fun pc lv v hd hP => hr pc lv v I J hd ⟨hP, rfl, rfl⟩) h)
theorem dX4_addPerson_0 : decode cX4_addPerson 0 = .ok (.aload_n 0, 1) := by decide +kernel
theorem dX4_addPerson_1 : decode cX4_addPerson 1 = .ok (.invokevirtual 61, 3) := by decide +kernel
theorem dX4_addPerson_4 : decode cX4_addPerson 4 = .ok (.ifCond .eq 5, 3) := by decide +kernel
theorem dX4_addPerson_7 : decode cX4_addPerson 7 = .ok (.iconst (-1), 1) := by decide +kernel
theorem dX4_addPerson_8 : decode cX4_addPerson 8 = .ok (.ireturn, 1) := by decide +kernel
theorem dX4_addPerson_9 : decode cX4_addPerson 9 = .ok (.aload_n 0, 1) := by decide +kernel
theorem dX4_addPerson_10 : decode cX4_addPerson 10 = .ok (.getfield 45, 3) := by decide +kernel
theorem dX4_addPerson_13 : decode cX4_addPerson 13 = .ok (.istore_n 1, 1) := by decide +kernel
theorem dX4_addPerson_14 : decode cX4_addPerson 14 = .ok (.aload_n 0, 1) := by decide +kernel
theorem dX4_addPerson_15 : decode cX4_addPerson 15 = .ok (.dup, 1) := by decide +kernel
theorem dX4_addPerson_16 : decode cX4_addPerson 16 = .ok (.getfield 45, 3) := by decide +kernel
theorem dX4_addPerson_19 : decode cX4_addPerson 19 = .ok (.iconst 1, 1) := by decide +kernel
theorem dX4_addPerson_20 : decode cX4_addPerson 20 = .ok (.iadd, 1) := by decide +kernel
theorem dX4_addPerson_21 : decode cX4_addPerson 21 = .ok (.putfield 45, 3) := by decide +kernel
theorem dX4_addPerson_24 : decode cX4_addPerson 24 = .ok (.aload_n 0, 1) := by decide +kernel
theorem dX4_addPerson_25 : decode cX4_addPerson 25 = .ok (.getfield 9, 3) := by decide +kernel
theorem dX4_addPerson_28 : decode cX4_addPerson 28 = .ok (.iload_n 1, 1) := by decide +kernel
theorem dX4_addPerson_29 : decode cX4_addPerson 29 = .ok (.iconst 0, 1) := by decide +kernel
theorem dX4_addPerson_30 : decode cX4_addPerson 30 = .ok (.iastore, 1) := by decide +kernel
theorem dX4_addPerson_31 : decode cX4_addPerson 31 = .ok (.aload_n 0, 1) := by decide +kernel
theorem dX4_addPerson_32 : decode cX4_addPerson 32 = .ok (.getfield 15, 3) := by decide +kernel
theorem dX4_addPerson_35 : decode cX4_addPerson 35 = .ok (.iload_n 1, 1) := by decide +kernel
theorem dX4_addPerson_36 : decode cX4_addPerson 36 = .ok (.iconst 1, 1) := by decide +kernel
theorem dX4_addPerson_37 : decode cX4_addPerson 37 = .ok (.iastore, 1) := by decide +kernel
theorem dX4_addPerson_38 : decode cX4_addPerson 38 = .ok (.aload_n 0, 1) := by decide +kernel
theorem dX4_addPerson_39 : decode cX4_addPerson 39 = .ok (.getfield 18, 3) := by decide +kernel
theorem dX4_addPerson_42 : decode cX4_addPerson 42 = .ok (.iload_n 1, 1) := by decide +kernel
theorem dX4_addPerson_43 : decode cX4_addPerson 43 = .ok (.iconst 0, 1) := by decide +kernel
theorem dX4_addPerson_44 : decode cX4_addPerson 44 = .ok (.iastore, 1) := by decide +kernel
theorem dX4_addPerson_45 : decode cX4_addPerson 45 = .ok (.aload_n 0, 1) := by decide +kernel
theorem dX4_addPerson_46 : decode cX4_addPerson 46 = .ok (.getfield 21, 3) := by decide +kernel
theorem dX4_addPerson_49 : decode cX4_addPerson 49 = .ok (.iload_n 1, 1) := by decide +kernel
theorem dX4_addPerson_50 : decode cX4_addPerson 50 = .ok (.iconst 1, 1) := by decide +kernel
theorem dX4_addPerson_51 : decode cX4_addPerson 51 = .ok (.iastore, 1) := by decide +kernel
theorem dX4_addPerson_52 : decode cX4_addPerson 52 = .ok (.aload_n 0, 1) := by decide +kernel
theorem dX4_addPerson_53 : decode cX4_addPerson 53 = .ok (.getfield 24, 3) := by decide +kernel
theorem dX4_addPerson_56 : decode cX4_addPerson 56 = .ok (.iload_n 1, 1) := by decide +kernel
theorem dX4_addPerson_57 : decode cX4_addPerson 57 = .ok (.iconst 0, 1) := by decide +kernel
theorem dX4_addPerson_58 : decode cX4_addPerson 58 = .ok (.iastore, 1) := by decide +kernel
theorem dX4_addPerson_59 : decode cX4_addPerson 59 = .ok (.aload_n 0, 1) := by decide +kernel
theorem dX4_addPerson_60 : decode cX4_addPerson 60 = .ok (.getfield 27, 3) := by decide +kernel
theorem dX4_addPerson_63 : decode cX4_addPerson 63 = .ok (.iload_n 1, 1) := by decide +kernel
theorem dX4_addPerson_64 : decode cX4_addPerson 64 = .ok (.iconst 0, 1) := by decide +kernel
theorem dX4_addPerson_65 : decode cX4_addPerson 65 = .ok (.iastore, 1) := by decide +kernel
theorem dX4_addPerson_66 : decode cX4_addPerson 66 = .ok (.iload_n 1, 1) := by decide +kernel
theorem dX4_addPerson_67 : decode cX4_addPerson 67 = .ok (.ireturn, 1) := by decide +kernel
def w_X4_addPerson  (I : HI) (J : HJ) (Post : Int32 → HI → Prop) : Prop :=
  w_X4_isFullOfPeople  I J (fun (r_1 : Bool) => ((r_1 = false → (∀ I_2 : HI, I_2 = hI I 24 11 ((I 24 11) + 1) → (vp_in (I 24 11) 12 ∧ (∀ I_3 : HI, I_3 = hI I_2 25 (Int32.toNatClampNeg (I 24 11)) 0 → (vp_in (I 24 11) 12 ∧ (∀ I_4 : HI, I_4 = hI I_3 26 (Int32.toNatClampNeg (I 24 11)) 1 → (vp_in (I 24 11) 12 ∧ (∀ I_5 : HI, I_5 = hI I_4 27 (Int32.toNatClampNeg (I 24 11)) 0 → (vp_in (I 24 11) 12 ∧ (∀ I_6 : HI, I_6 = hI I_5 28 (Int32.toNatClampNeg (I 24 11)) 1 → (vp_in (I 24 11) 12 ∧ (∀ I_7 : HI, I_7 = hI I_6 29 (Int32.toNatClampNeg (I 24 11)) 0 → (vp_in (I 24 11) 12 ∧ (∀ I_8 : HI, I_8 = hI I_7 30 (Int32.toNatClampNeg (I 24 11)) 0 → (Post (I 24 11) I_8))))))))))))))) ∧ (r_1 = true → (Post (-1) I))))
set_option maxHeartbeats 4000000 in
set_option maxRecDepth 20000 in
theorem we_X4_addPerson (g : kf_G) (hg : kf_g g) {x : kf_X} (hx : kf_ok g x RX4 cX4_addPerson 2 1 20)  (I : HI) (J : HJ) (Post : Int32 → HI → Prop) (hret : ∀ (pc : Nat) (lv : List (Nat × Value)) (v : Int32) (Iy : HI), decode cX4_addPerson pc = .ok (.ireturn, 1) → Post v Iy → kf_M g x 2 pc lv [.int v] Iy J) (h : w_X4_addPerson  I J Post) : kf_M g x 2 0 [(0, .ref (g.2.2.2 24))] [] I J := by
  unfold w_X4_addPerson at h
  refine kf_aload_n hx dX4_addPerson_0 rfl 0 rfl ?_
  refine kf_callVbP (st := []) hx (m_X4_isFullOfPeople g hg  I J _ h) lk_RX4_61 km_X4_isFullOfPeople ob_24 rfl (by decide) rfl (Nat.le_of_ble_eq_true rfl) dX4_addPerson_1 (fun r_1 h => ?_)
  refine kf_ifB_eq hx 9 dX4_addPerson_4 (by decide) (fun c => ?_) (fun c => ?_)
  · replace h := h.1 c
    refine kf_aload_n hx dX4_addPerson_9 rfl 0 rfl ?_
    refine kf_getI hx sl_24_11 fl_RX4_45 dX4_addPerson_10 ?_
    refine kf_istore_n (lv' := [(1, .int (I 24 11)), (0, .ref (g.2.2.2 24))]) hx dX4_addPerson_13 rfl (by decide) rfl ?_
    refine kf_aload_n hx dX4_addPerson_14 rfl 1 rfl ?_
    refine kf_dup hx dX4_addPerson_15 rfl ?_
    refine kf_getI hx sl_24_11 fl_RX4_45 dX4_addPerson_16 ?_
    refine kf_iconst (v := 1) hx dX4_addPerson_19 (by decide) ?_
    refine kf_iadd hx dX4_addPerson_20 ?_
    refine kf_putI hx sl_24_11 fl_RX4_45 fp_4_11 dX4_addPerson_21 ?_
    refine kf_nmI (fun I_2 eI_2 => ?_)
    replace h := h I_2 eI_2
    refine kf_aload_n hx dX4_addPerson_24 rfl 1 rfl ?_
    refine kf_getR (n := 25) hx sl_24_0 fl_RX4_9 dX4_addPerson_25 ?_
    refine kf_iload_n hx dX4_addPerson_28 rfl 0 rfl ?_
    refine kf_iconst (v := 0) hx dX4_addPerson_29 (by decide) ?_
    refine kf_iast hx ar_25 h.1 dX4_addPerson_30 ?_
    replace h := h.2
    refine kf_nmI (fun I_3 eI_3 => ?_)
    replace h := h I_3 eI_3
    refine kf_aload_n hx dX4_addPerson_31 rfl 1 rfl ?_
    refine kf_getR (n := 26) hx sl_24_1 fl_RX4_15 dX4_addPerson_32 ?_
    refine kf_iload_n hx dX4_addPerson_35 rfl 0 rfl ?_
    refine kf_iconst (v := 1) hx dX4_addPerson_36 (by decide) ?_
    refine kf_iast hx ar_26 h.1 dX4_addPerson_37 ?_
    replace h := h.2
    refine kf_nmI (fun I_4 eI_4 => ?_)
    replace h := h I_4 eI_4
    refine kf_aload_n hx dX4_addPerson_38 rfl 1 rfl ?_
    refine kf_getR (n := 27) hx sl_24_2 fl_RX4_18 dX4_addPerson_39 ?_
    refine kf_iload_n hx dX4_addPerson_42 rfl 0 rfl ?_
    refine kf_iconst (v := 0) hx dX4_addPerson_43 (by decide) ?_
    refine kf_iast hx ar_27 h.1 dX4_addPerson_44 ?_
    replace h := h.2
    refine kf_nmI (fun I_5 eI_5 => ?_)
    replace h := h I_5 eI_5
    refine kf_aload_n hx dX4_addPerson_45 rfl 1 rfl ?_
    refine kf_getR (n := 28) hx sl_24_3 fl_RX4_21 dX4_addPerson_46 ?_
    refine kf_iload_n hx dX4_addPerson_49 rfl 0 rfl ?_
    refine kf_iconst (v := 1) hx dX4_addPerson_50 (by decide) ?_
    refine kf_iast hx ar_28 h.1 dX4_addPerson_51 ?_
    replace h := h.2
    refine kf_nmI (fun I_6 eI_6 => ?_)
    replace h := h I_6 eI_6
    refine kf_aload_n hx dX4_addPerson_52 rfl 1 rfl ?_
    refine kf_getR (n := 29) hx sl_24_4 fl_RX4_24 dX4_addPerson_53 ?_
    refine kf_iload_n hx dX4_addPerson_56 rfl 0 rfl ?_
    refine kf_iconst (v := 0) hx dX4_addPerson_57 (by decide) ?_
    refine kf_iast hx ar_29 h.1 dX4_addPerson_58 ?_
    replace h := h.2
    refine kf_nmI (fun I_7 eI_7 => ?_)
    replace h := h I_7 eI_7
    refine kf_aload_n hx dX4_addPerson_59 rfl 1 rfl ?_
    refine kf_getR (n := 30) hx sl_24_5 fl_RX4_27 dX4_addPerson_60 ?_
    refine kf_iload_n hx dX4_addPerson_63 rfl 0 rfl ?_
    refine kf_iconst (v := 0) hx dX4_addPerson_64 (by decide) ?_
    refine kf_iast hx ar_30 h.1 dX4_addPerson_65 ?_
    replace h := h.2
    refine kf_nmI (fun I_8 eI_8 => ?_)
    replace h := h I_8 eI_8
    refine kf_iload_n hx dX4_addPerson_66 rfl 0 rfl ?_
    exact hret _ _ (I 24 11) _ dX4_addPerson_67 h
  · replace h := h.2 c
    refine kf_iconst (v := (-1)) hx dX4_addPerson_7 (by decide) ?_
    exact hret _ _ (-1) _ dX4_addPerson_8 h
set_option maxHeartbeats 4000000 in
set_option maxRecDepth 20000 in
theorem m_X4_addPerson (g : kf_G) (hg : kf_g g)  (I : HI) (J : HJ) (Post : Int32 → HI → Prop) (h : w_X4_addPerson  I J Post) : kf_Mi g yX4_addPerson (kf_W yX4_addPerson cX4_addPerson 2 (Option.some Jvm.ClassFile.FieldType.int)) 1 20 [.ref (g.2.2.2 24)] I J (fun v I' J' => Post v I' ∧ J' = J) :=
  kf_enti hg (by decide) (Nat.le_of_ble_eq_true rfl) rfl (fun x hx hr => we_X4_addPerson g hg hx  I J Post (fun pc lv v I' hd hP => hr pc lv v I' J hd ⟨hP, rfl⟩) h)
theorem dX4_addTie_0 : decode cX4_addTie 0 = .ok (.aload_n 0, 1) := by decide +kernel
theorem dX4_addTie_1 : decode cX4_addTie 1 = .ok (.iload_n 1, 1) := by decide +kernel
theorem dX4_addTie_2 : decode cX4_addTie 2 = .ok (.invokevirtual 65, 3) := by decide +kernel
theorem dX4_addTie_5 : decode cX4_addTie 5 = .ok (.ifCond .eq 19, 3) := by decide +kernel
theorem dX4_addTie_8 : decode cX4_addTie 8 = .ok (.aload_n 0, 1) := by decide +kernel
theorem dX4_addTie_9 : decode cX4_addTie 9 = .ok (.iload_n 2, 1) := by decide +kernel
theorem dX4_addTie_10 : decode cX4_addTie 10 = .ok (.invokevirtual 65, 3) := by decide +kernel
theorem dX4_addTie_13 : decode cX4_addTie 13 = .ok (.ifCond .eq 11, 3) := by decide +kernel
theorem dX4_addTie_16 : decode cX4_addTie 16 = .ok (.aload_n 0, 1) := by decide +kernel
theorem dX4_addTie_17 : decode cX4_addTie 17 = .ok (.iconst 1, 1) := by decide +kernel
theorem dX4_addTie_18 : decode cX4_addTie 18 = .ok (.invokevirtual 69, 3) := by decide +kernel
theorem dX4_addTie_21 : decode cX4_addTie 21 = .ok (.ifCond .ne 4, 3) := by decide +kernel
theorem dX4_addTie_24 : decode cX4_addTie 24 = .ok (.return_, 1) := by decide +kernel
theorem dX4_addTie_25 : decode cX4_addTie 25 = .ok (.aload_n 0, 1) := by decide +kernel
theorem dX4_addTie_26 : decode cX4_addTie 26 = .ok (.getfield 30, 3) := by decide +kernel
theorem dX4_addTie_29 : decode cX4_addTie 29 = .ok (.aload_n 0, 1) := by decide +kernel
theorem dX4_addTie_30 : decode cX4_addTie 30 = .ok (.getfield 49, 3) := by decide +kernel
theorem dX4_addTie_33 : decode cX4_addTie 33 = .ok (.iload_n 1, 1) := by decide +kernel
theorem dX4_addTie_34 : decode cX4_addTie 34 = .ok (.iastore, 1) := by decide +kernel
theorem dX4_addTie_35 : decode cX4_addTie 35 = .ok (.aload_n 0, 1) := by decide +kernel
theorem dX4_addTie_36 : decode cX4_addTie 36 = .ok (.getfield 33, 3) := by decide +kernel
theorem dX4_addTie_39 : decode cX4_addTie 39 = .ok (.aload_n 0, 1) := by decide +kernel
theorem dX4_addTie_40 : decode cX4_addTie 40 = .ok (.getfield 49, 3) := by decide +kernel
theorem dX4_addTie_43 : decode cX4_addTie 43 = .ok (.iload_n 2, 1) := by decide +kernel
theorem dX4_addTie_44 : decode cX4_addTie 44 = .ok (.iastore, 1) := by decide +kernel
theorem dX4_addTie_45 : decode cX4_addTie 45 = .ok (.aload_n 0, 1) := by decide +kernel
theorem dX4_addTie_46 : decode cX4_addTie 46 = .ok (.getfield 36, 3) := by decide +kernel
theorem dX4_addTie_49 : decode cX4_addTie 49 = .ok (.aload_n 0, 1) := by decide +kernel
theorem dX4_addTie_50 : decode cX4_addTie 50 = .ok (.getfield 49, 3) := by decide +kernel
theorem dX4_addTie_53 : decode cX4_addTie 53 = .ok (.iload_n 3, 1) := by decide +kernel
theorem dX4_addTie_54 : decode cX4_addTie 54 = .ok (.iastore, 1) := by decide +kernel
theorem dX4_addTie_55 : decode cX4_addTie 55 = .ok (.aload_n 0, 1) := by decide +kernel
theorem dX4_addTie_56 : decode cX4_addTie 56 = .ok (.getfield 39, 3) := by decide +kernel
theorem dX4_addTie_59 : decode cX4_addTie 59 = .ok (.aload_n 0, 1) := by decide +kernel
theorem dX4_addTie_60 : decode cX4_addTie 60 = .ok (.getfield 49, 3) := by decide +kernel
theorem dX4_addTie_63 : decode cX4_addTie 63 = .ok (.iload 4, 2) := by decide +kernel
theorem dX4_addTie_65 : decode cX4_addTie 65 = .ok (.iastore, 1) := by decide +kernel
theorem dX4_addTie_66 : decode cX4_addTie 66 = .ok (.aload_n 0, 1) := by decide +kernel
theorem dX4_addTie_67 : decode cX4_addTie 67 = .ok (.getfield 27, 3) := by decide +kernel
theorem dX4_addTie_70 : decode cX4_addTie 70 = .ok (.iload_n 1, 1) := by decide +kernel
theorem dX4_addTie_71 : decode cX4_addTie 71 = .ok (.dup2, 1) := by decide +kernel
theorem dX4_addTie_72 : decode cX4_addTie 72 = .ok (.iaload, 1) := by decide +kernel
theorem dX4_addTie_73 : decode cX4_addTie 73 = .ok (.iconst 1, 1) := by decide +kernel
theorem dX4_addTie_74 : decode cX4_addTie 74 = .ok (.aload_n 0, 1) := by decide +kernel
theorem dX4_addTie_75 : decode cX4_addTie 75 = .ok (.getfield 49, 3) := by decide +kernel
theorem dX4_addTie_78 : decode cX4_addTie 78 = .ok (.ishl, 1) := by decide +kernel
theorem dX4_addTie_79 : decode cX4_addTie 79 = .ok (.ior, 1) := by decide +kernel
theorem dX4_addTie_80 : decode cX4_addTie 80 = .ok (.iastore, 1) := by decide +kernel
theorem dX4_addTie_81 : decode cX4_addTie 81 = .ok (.aload_n 0, 1) := by decide +kernel
theorem dX4_addTie_82 : decode cX4_addTie 82 = .ok (.getfield 24, 3) := by decide +kernel
theorem dX4_addTie_85 : decode cX4_addTie 85 = .ok (.iload_n 2, 1) := by decide +kernel
theorem dX4_addTie_86 : decode cX4_addTie 86 = .ok (.dup2, 1) := by decide +kernel
theorem dX4_addTie_87 : decode cX4_addTie 87 = .ok (.iaload, 1) := by decide +kernel
theorem dX4_addTie_88 : decode cX4_addTie 88 = .ok (.iconst 1, 1) := by decide +kernel
theorem dX4_addTie_89 : decode cX4_addTie 89 = .ok (.aload_n 0, 1) := by decide +kernel
theorem dX4_addTie_90 : decode cX4_addTie 90 = .ok (.getfield 49, 3) := by decide +kernel
theorem dX4_addTie_93 : decode cX4_addTie 93 = .ok (.ishl, 1) := by decide +kernel
theorem dX4_addTie_94 : decode cX4_addTie 94 = .ok (.ior, 1) := by decide +kernel
theorem dX4_addTie_95 : decode cX4_addTie 95 = .ok (.iastore, 1) := by decide +kernel
theorem dX4_addTie_96 : decode cX4_addTie 96 = .ok (.aload_n 0, 1) := by decide +kernel
theorem dX4_addTie_97 : decode cX4_addTie 97 = .ok (.dup, 1) := by decide +kernel
theorem dX4_addTie_98 : decode cX4_addTie 98 = .ok (.getfield 49, 3) := by decide +kernel
theorem dX4_addTie_101 : decode cX4_addTie 101 = .ok (.iconst 1, 1) := by decide +kernel
theorem dX4_addTie_102 : decode cX4_addTie 102 = .ok (.iadd, 1) := by decide +kernel
theorem dX4_addTie_103 : decode cX4_addTie 103 = .ok (.putfield 49, 3) := by decide +kernel
theorem dX4_addTie_106 : decode cX4_addTie 106 = .ok (.return_, 1) := by decide +kernel
def w_X4_addTie (x1 : Int32) (x2 : Int32) (x3 : Int32) (x4 : Int32) (I : HI) (J : HJ) (Post : HI → Prop) : Prop :=
  w_X4_isPerson_24 x1 I J (fun (r_1 : Bool) => ((r_1 = false → (Post I)) ∧ (r_1 = true → (w_X4_isPerson_24 x2 I J (fun (r_2 : Bool) => ((r_2 = false → (Post I)) ∧ (r_2 = true → (w_X4_hasRoomForTies 1 I J (fun (r_3 : Bool) => ((r_3 = true → (vp_in (I 24 12) 10 ∧ (∀ I_4 : HI, I_4 = hI I 31 (Int32.toNatClampNeg (I 24 12)) x1 → (vp_in (I_4 24 12) 10 ∧ (∀ I_5 : HI, I_5 = hI I_4 32 (Int32.toNatClampNeg (I_4 24 12)) x2 → (vp_in (I_5 24 12) 10 ∧ (∀ I_6 : HI, I_6 = hI I_5 33 (Int32.toNatClampNeg (I_5 24 12)) x3 → (vp_in (I_6 24 12) 10 ∧ (∀ I_7 : HI, I_7 = hI I_6 34 (Int32.toNatClampNeg (I_6 24 12)) x4 → (vp_in x1 12 ∧ (vp_in x1 12 ∧ (∀ I_8 : HI, I_8 = hI I_7 30 (Int32.toNatClampNeg x1) ((I_7 30 (Int32.toNatClampNeg x1)) ||| (1 <<< ((I_7 24 12) &&& 31))) → (vp_in x2 12 ∧ (vp_in x2 12 ∧ (∀ I_9 : HI, I_9 = hI I_8 29 (Int32.toNatClampNeg x2) ((I_8 29 (Int32.toNatClampNeg x2)) ||| (1 <<< ((I_8 24 12) &&& 31))) → (∀ I_10 : HI, I_10 = hI I_9 24 12 ((I_9 24 12) + 1) → (Post I_10))))))))))))))))) ∧ (r_3 = false → (Post I))))))))))))
set_option maxHeartbeats 4000000 in
set_option maxRecDepth 20000 in
theorem we_X4_addTie (g : kf_G) (hg : kf_g g) {x : kf_X} (hx : kf_ok g x RX4 cX4_addTie 5 1 21) (x1 : Int32) (x2 : Int32) (x3 : Int32) (x4 : Int32) (I : HI) (J : HJ) (Post : HI → Prop) (hret : ∀ (pc : Nat) (lv : List (Nat × Value)) (Iy : HI), decode cX4_addTie pc = .ok (.return_, 1) → Post Iy → kf_M g x 5 pc lv [] Iy J) (h : w_X4_addTie x1 x2 x3 x4 I J Post) : kf_M g x 5 0 [(0, .ref (g.2.2.2 24)), (1, .int x1), (2, .int x2), (3, .int x3), (4, .int x4)] [] I J := by
  unfold w_X4_addTie at h
  refine kf_aload_n hx dX4_addTie_0 rfl 0 rfl ?_
  refine kf_iload_n hx dX4_addTie_1 rfl 1 rfl ?_
  refine kf_callVbP (st := []) hx (m_X4_isPerson_24 g hg x1 I J _ h) lk_RX4_65 km_X4_isPerson ob_24 rfl (by decide) rfl (Nat.le_of_ble_eq_true rfl) dX4_addTie_2 (fun r_1 h => ?_)
  refine kf_ifB_eq hx 24 dX4_addTie_5 (by decide) (fun c => ?_) (fun c => ?_)
  · replace h := h.1 c
    exact hret _ _ _ dX4_addTie_24 h
  · replace h := h.2 c
    refine kf_aload_n hx dX4_addTie_8 rfl 0 rfl ?_
    refine kf_iload_n hx dX4_addTie_9 rfl 2 rfl ?_
    refine kf_callVbP (st := []) hx (m_X4_isPerson_24 g hg x2 I J _ h) lk_RX4_65 km_X4_isPerson ob_24 rfl (by decide) rfl (Nat.le_of_ble_eq_true rfl) dX4_addTie_10 (fun r_2 h => ?_)
    refine kf_ifB_eq hx 24 dX4_addTie_13 (by decide) (fun c => ?_) (fun c => ?_)
    · replace h := h.1 c
      exact hret _ _ _ dX4_addTie_24 h
    · replace h := h.2 c
      refine kf_aload_n hx dX4_addTie_16 rfl 0 rfl ?_
      refine kf_iconst (v := 1) hx dX4_addTie_17 (by decide) ?_
      refine kf_callVbP (st := []) hx (m_X4_hasRoomForTies g hg 1 I J _ h) lk_RX4_69 km_X4_hasRoomForTies ob_24 rfl (by decide) rfl (Nat.le_of_ble_eq_true rfl) dX4_addTie_18 (fun r_3 h => ?_)
      refine kf_ifB_ne hx 25 dX4_addTie_21 (by decide) (fun c => ?_) (fun c => ?_)
      · replace h := h.1 c
        refine kf_aload_n hx dX4_addTie_25 rfl 0 rfl ?_
        refine kf_getR (n := 31) hx sl_24_6 fl_RX4_30 dX4_addTie_26 ?_
        refine kf_aload_n hx dX4_addTie_29 rfl 0 rfl ?_
        refine kf_getI hx sl_24_12 fl_RX4_49 dX4_addTie_30 ?_
        refine kf_iload_n hx dX4_addTie_33 rfl 1 rfl ?_
        refine kf_iast hx ar_31 h.1 dX4_addTie_34 ?_
        replace h := h.2
        refine kf_nmI (fun I_4 eI_4 => ?_)
        replace h := h I_4 eI_4
        refine kf_aload_n hx dX4_addTie_35 rfl 0 rfl ?_
        refine kf_getR (n := 32) hx sl_24_7 fl_RX4_33 dX4_addTie_36 ?_
        refine kf_aload_n hx dX4_addTie_39 rfl 0 rfl ?_
        refine kf_getI hx sl_24_12 fl_RX4_49 dX4_addTie_40 ?_
        refine kf_iload_n hx dX4_addTie_43 rfl 2 rfl ?_
        refine kf_iast hx ar_32 h.1 dX4_addTie_44 ?_
        replace h := h.2
        refine kf_nmI (fun I_5 eI_5 => ?_)
        replace h := h I_5 eI_5
        refine kf_aload_n hx dX4_addTie_45 rfl 0 rfl ?_
        refine kf_getR (n := 33) hx sl_24_8 fl_RX4_36 dX4_addTie_46 ?_
        refine kf_aload_n hx dX4_addTie_49 rfl 0 rfl ?_
        refine kf_getI hx sl_24_12 fl_RX4_49 dX4_addTie_50 ?_
        refine kf_iload_n hx dX4_addTie_53 rfl 3 rfl ?_
        refine kf_iast hx ar_33 h.1 dX4_addTie_54 ?_
        replace h := h.2
        refine kf_nmI (fun I_6 eI_6 => ?_)
        replace h := h I_6 eI_6
        refine kf_aload_n hx dX4_addTie_55 rfl 0 rfl ?_
        refine kf_getR (n := 34) hx sl_24_9 fl_RX4_39 dX4_addTie_56 ?_
        refine kf_aload_n hx dX4_addTie_59 rfl 0 rfl ?_
        refine kf_getI hx sl_24_12 fl_RX4_49 dX4_addTie_60 ?_
        refine kf_iload hx dX4_addTie_63 4 rfl ?_
        refine kf_iast hx ar_34 h.1 dX4_addTie_65 ?_
        replace h := h.2
        refine kf_nmI (fun I_7 eI_7 => ?_)
        replace h := h I_7 eI_7
        refine kf_aload_n hx dX4_addTie_66 rfl 0 rfl ?_
        refine kf_getR (n := 30) hx sl_24_5 fl_RX4_27 dX4_addTie_67 ?_
        refine kf_iload_n hx dX4_addTie_70 rfl 1 rfl ?_
        refine kf_dup2 hx dX4_addTie_71 rfl rfl ?_
        refine kf_iald hx ar_30 h.1 dX4_addTie_72 ?_
        replace h := h.2
        refine kf_iconst (v := 1) hx dX4_addTie_73 (by decide) ?_
        refine kf_aload_n hx dX4_addTie_74 rfl 0 rfl ?_
        refine kf_getI hx sl_24_12 fl_RX4_49 dX4_addTie_75 ?_
        refine kf_ishl hx dX4_addTie_78 ?_
        refine kf_ior hx dX4_addTie_79 ?_
        refine kf_iast hx ar_30 h.1 dX4_addTie_80 ?_
        replace h := h.2
        refine kf_nmI (fun I_8 eI_8 => ?_)
        replace h := h I_8 eI_8
        refine kf_aload_n hx dX4_addTie_81 rfl 0 rfl ?_
        refine kf_getR (n := 29) hx sl_24_4 fl_RX4_24 dX4_addTie_82 ?_
        refine kf_iload_n hx dX4_addTie_85 rfl 2 rfl ?_
        refine kf_dup2 hx dX4_addTie_86 rfl rfl ?_
        refine kf_iald hx ar_29 h.1 dX4_addTie_87 ?_
        replace h := h.2
        refine kf_iconst (v := 1) hx dX4_addTie_88 (by decide) ?_
        refine kf_aload_n hx dX4_addTie_89 rfl 0 rfl ?_
        refine kf_getI hx sl_24_12 fl_RX4_49 dX4_addTie_90 ?_
        refine kf_ishl hx dX4_addTie_93 ?_
        refine kf_ior hx dX4_addTie_94 ?_
        refine kf_iast hx ar_29 h.1 dX4_addTie_95 ?_
        replace h := h.2
        refine kf_nmI (fun I_9 eI_9 => ?_)
        replace h := h I_9 eI_9
        refine kf_aload_n hx dX4_addTie_96 rfl 0 rfl ?_
        refine kf_dup hx dX4_addTie_97 rfl ?_
        refine kf_getI hx sl_24_12 fl_RX4_49 dX4_addTie_98 ?_
        refine kf_iconst (v := 1) hx dX4_addTie_101 (by decide) ?_
        refine kf_iadd hx dX4_addTie_102 ?_
        refine kf_putI hx sl_24_12 fl_RX4_49 fp_4_12 dX4_addTie_103 ?_
        refine kf_nmI (fun I_10 eI_10 => ?_)
        replace h := h I_10 eI_10
        exact hret _ _ _ dX4_addTie_106 h
      · replace h := h.2 c
        exact hret _ _ _ dX4_addTie_24 h
set_option maxHeartbeats 4000000 in
set_option maxRecDepth 20000 in
theorem m_X4_addTie (g : kf_G) (hg : kf_g g) (x1 : Int32) (x2 : Int32) (x3 : Int32) (x4 : Int32) (I : HI) (J : HJ) (Post : HI → Prop) (h : w_X4_addTie x1 x2 x3 x4 I J Post) : kf_Mv g yX4_addTie (kf_W yX4_addTie cX4_addTie 5 (Option.none : Option Jvm.ClassFile.FieldType)) 1 21 [.ref (g.2.2.2 24), .int x1, .int x2, .int x3, .int x4] I J (fun I' J' => Post I' ∧ J' = J) :=
  kf_entv hg (by decide) (Nat.le_of_ble_eq_true rfl) rfl (fun x hx hr => we_X4_addTie g hg hx x1 x2 x3 x4 I J Post (fun pc lv I' hd hP => hr pc lv I' J hd ⟨hP, rfl⟩) h)
theorem dX4_hasTie_0 : decode cX4_hasTie 0 = .ok (.aload_n 0, 1) := by decide +kernel
theorem dX4_hasTie_1 : decode cX4_hasTie 1 = .ok (.iload_n 1, 1) := by decide +kernel
theorem dX4_hasTie_2 : decode cX4_hasTie 2 = .ok (.invokevirtual 65, 3) := by decide +kernel
theorem dX4_hasTie_5 : decode cX4_hasTie 5 = .ok (.ifCond .eq 31, 3) := by decide +kernel
theorem dX4_hasTie_8 : decode cX4_hasTie 8 = .ok (.aload_n 0, 1) := by decide +kernel
theorem dX4_hasTie_9 : decode cX4_hasTie 9 = .ok (.iload_n 2, 1) := by decide +kernel
theorem dX4_hasTie_10 : decode cX4_hasTie 10 = .ok (.invokevirtual 65, 3) := by decide +kernel
theorem dX4_hasTie_13 : decode cX4_hasTie 13 = .ok (.ifCond .eq 23, 3) := by decide +kernel
theorem dX4_hasTie_16 : decode cX4_hasTie 16 = .ok (.aload_n 0, 1) := by decide +kernel
theorem dX4_hasTie_17 : decode cX4_hasTie 17 = .ok (.getfield 27, 3) := by decide +kernel
theorem dX4_hasTie_20 : decode cX4_hasTie 20 = .ok (.iload_n 1, 1) := by decide +kernel
theorem dX4_hasTie_21 : decode cX4_hasTie 21 = .ok (.iaload, 1) := by decide +kernel
theorem dX4_hasTie_22 : decode cX4_hasTie 22 = .ok (.aload_n 0, 1) := by decide +kernel
theorem dX4_hasTie_23 : decode cX4_hasTie 23 = .ok (.getfield 24, 3) := by decide +kernel
theorem dX4_hasTie_26 : decode cX4_hasTie 26 = .ok (.iload_n 2, 1) := by decide +kernel
theorem dX4_hasTie_27 : decode cX4_hasTie 27 = .ok (.iaload, 1) := by decide +kernel
theorem dX4_hasTie_28 : decode cX4_hasTie 28 = .ok (.iand, 1) := by decide +kernel
theorem dX4_hasTie_29 : decode cX4_hasTie 29 = .ok (.ifCond .eq 7, 3) := by decide +kernel
theorem dX4_hasTie_32 : decode cX4_hasTie 32 = .ok (.iconst 1, 1) := by decide +kernel
theorem dX4_hasTie_33 : decode cX4_hasTie 33 = .ok (.goto 4, 3) := by decide +kernel
theorem dX4_hasTie_36 : decode cX4_hasTie 36 = .ok (.iconst 0, 1) := by decide +kernel
theorem dX4_hasTie_37 : decode cX4_hasTie 37 = .ok (.ireturn, 1) := by decide +kernel
def w_X4_hasTie (x1 : Int32) (x2 : Int32) (I : HI) (J : HJ) (Post : Bool → Prop) : Prop :=
  w_X4_isPerson_24 x1 I J (fun (r_1 : Bool) => ((r_1 = false → (Post false)) ∧ (r_1 = true → (w_X4_isPerson_24 x2 I J (fun (r_2 : Bool) => ((r_2 = false → (Post false)) ∧ (r_2 = true → (vp_in x1 12 ∧ (vp_in x2 12 ∧ ((((I 30 (Int32.toNatClampNeg x1)) &&& (I 29 (Int32.toNatClampNeg x2))) = 0 → (Post false)) ∧ (¬ ((I 30 (Int32.toNatClampNeg x1)) &&& (I 29 (Int32.toNatClampNeg x2))) = 0 → (Post true))))))))))))
set_option maxHeartbeats 4000000 in
set_option maxRecDepth 20000 in
theorem we_X4_hasTie (g : kf_G) (hg : kf_g g) {x : kf_X} (hx : kf_ok g x RX4 cX4_hasTie 3 1 21) (x1 : Int32) (x2 : Int32) (I : HI) (J : HJ) (Post : Bool → Prop) (hret : ∀ (pc : Nat) (lv : List (Nat × Value)) (v : Bool), decode cX4_hasTie pc = .ok (.ireturn, 1) → Post v → kf_M g x 3 pc lv [.int (kb v)] I J) (h : w_X4_hasTie x1 x2 I J Post) : kf_M g x 3 0 [(0, .ref (g.2.2.2 24)), (1, .int x1), (2, .int x2)] [] I J := by
  unfold w_X4_hasTie at h
  refine kf_aload_n hx dX4_hasTie_0 rfl 0 rfl ?_
  refine kf_iload_n hx dX4_hasTie_1 rfl 1 rfl ?_
  refine kf_callVbP (st := []) hx (m_X4_isPerson_24 g hg x1 I J _ h) lk_RX4_65 km_X4_isPerson ob_24 rfl (by decide) rfl (Nat.le_of_ble_eq_true rfl) dX4_hasTie_2 (fun r_1 h => ?_)
  refine kf_ifB_eq hx 36 dX4_hasTie_5 (by decide) (fun c => ?_) (fun c => ?_)
  · replace h := h.1 c
    refine kf_iconst (v := 0) hx dX4_hasTie_36 (by decide) ?_
    exact hret _ _ false  dX4_hasTie_37 h
  · replace h := h.2 c
    refine kf_aload_n hx dX4_hasTie_8 rfl 0 rfl ?_
    refine kf_iload_n hx dX4_hasTie_9 rfl 2 rfl ?_
    refine kf_callVbP (st := []) hx (m_X4_isPerson_24 g hg x2 I J _ h) lk_RX4_65 km_X4_isPerson ob_24 rfl (by decide) rfl (Nat.le_of_ble_eq_true rfl) dX4_hasTie_10 (fun r_2 h => ?_)
    refine kf_ifB_eq hx 36 dX4_hasTie_13 (by decide) (fun c => ?_) (fun c => ?_)
    · replace h := h.1 c
      refine kf_iconst (v := 0) hx dX4_hasTie_36 (by decide) ?_
      exact hret _ _ false  dX4_hasTie_37 h
    · replace h := h.2 c
      refine kf_aload_n hx dX4_hasTie_16 rfl 0 rfl ?_
      refine kf_getR (n := 30) hx sl_24_5 fl_RX4_27 dX4_hasTie_17 ?_
      refine kf_iload_n hx dX4_hasTie_20 rfl 1 rfl ?_
      refine kf_iald hx ar_30 h.1 dX4_hasTie_21 ?_
      replace h := h.2
      refine kf_aload_n hx dX4_hasTie_22 rfl 0 rfl ?_
      refine kf_getR (n := 29) hx sl_24_4 fl_RX4_24 dX4_hasTie_23 ?_
      refine kf_iload_n hx dX4_hasTie_26 rfl 2 rfl ?_
      refine kf_iald hx ar_29 h.1 dX4_hasTie_27 ?_
      replace h := h.2
      refine kf_iand hx dX4_hasTie_28 ?_
      refine kf_if_eq hx 36 dX4_hasTie_29 (by decide) (fun c => ?_) (fun c => ?_)
      · replace h := h.1 c
        refine kf_iconst (v := 0) hx dX4_hasTie_36 (by decide) ?_
        exact hret _ _ false  dX4_hasTie_37 h
      · replace h := h.2 c
        refine kf_iconst (v := 1) hx dX4_hasTie_32 (by decide) ?_
        refine kf_goto hx 37 dX4_hasTie_33 (by decide) ?_
        exact hret _ _ true  dX4_hasTie_37 h
set_option maxHeartbeats 4000000 in
set_option maxRecDepth 20000 in
theorem m_X4_hasTie (g : kf_G) (hg : kf_g g) (x1 : Int32) (x2 : Int32) (I : HI) (J : HJ) (Post : Bool → Prop) (h : w_X4_hasTie x1 x2 I J Post) : kf_Mb g yX4_hasTie (kf_W yX4_hasTie cX4_hasTie 3 (Option.some Jvm.ClassFile.FieldType.boolean)) 1 21 [.ref (g.2.2.2 24), .int x1, .int x2] I J (fun v I' J' => Post v ∧ I' = I ∧ J' = J) :=
  kf_entb hg (by decide) (Nat.le_of_ble_eq_true rfl) rfl (fun x hx hr => we_X4_hasTie g hg hx x1 x2 I J Post (fun pc lv v hd hP => hr pc lv v I J hd ⟨hP, rfl, rfl⟩) h)
theorem dX4_copyFrom_0 : decode cX4_copyFrom 0 = .ok (.aload_n 0, 1) := by decide +kernel
theorem dX4_copyFrom_1 : decode cX4_copyFrom 1 = .ok (.aload_n 1, 1) := by decide +kernel
theorem dX4_copyFrom_2 : decode cX4_copyFrom 2 = .ok (.getfield 45, 3) := by decide +kernel
theorem dX4_copyFrom_5 : decode cX4_copyFrom 5 = .ok (.putfield 45, 3) := by decide +kernel
theorem dX4_copyFrom_8 : decode cX4_copyFrom 8 = .ok (.aload_n 0, 1) := by decide +kernel
theorem dX4_copyFrom_9 : decode cX4_copyFrom 9 = .ok (.aload_n 1, 1) := by decide +kernel
theorem dX4_copyFrom_10 : decode cX4_copyFrom 10 = .ok (.getfield 49, 3) := by decide +kernel
theorem dX4_copyFrom_13 : decode cX4_copyFrom 13 = .ok (.putfield 49, 3) := by decide +kernel
theorem dX4_copyFrom_16 : decode cX4_copyFrom 16 = .ok (.aload_n 0, 1) := by decide +kernel
theorem dX4_copyFrom_17 : decode cX4_copyFrom 17 = .ok (.aload_n 1, 1) := by decide +kernel
theorem dX4_copyFrom_18 : decode cX4_copyFrom 18 = .ok (.getfield 52, 3) := by decide +kernel
theorem dX4_copyFrom_21 : decode cX4_copyFrom 21 = .ok (.putfield 52, 3) := by decide +kernel
theorem dX4_copyFrom_24 : decode cX4_copyFrom 24 = .ok (.aload_n 1, 1) := by decide +kernel
theorem dX4_copyFrom_25 : decode cX4_copyFrom 25 = .ok (.getfield 9, 3) := by decide +kernel
theorem dX4_copyFrom_28 : decode cX4_copyFrom 28 = .ok (.iconst 0, 1) := by decide +kernel
theorem dX4_copyFrom_29 : decode cX4_copyFrom 29 = .ok (.aload_n 0, 1) := by decide +kernel
theorem dX4_copyFrom_30 : decode cX4_copyFrom 30 = .ok (.getfield 9, 3) := by decide +kernel
theorem dX4_copyFrom_33 : decode cX4_copyFrom 33 = .ok (.iconst 0, 1) := by decide +kernel
theorem dX4_copyFrom_34 : decode cX4_copyFrom 34 = .ok (.bipush 12, 2) := by decide +kernel
theorem dX4_copyFrom_36 : decode cX4_copyFrom 36 = .ok (.invokestatic 82, 3) := by decide +kernel
theorem dX4_copyFrom_39 : decode cX4_copyFrom 39 = .ok (.aload_n 1, 1) := by decide +kernel
theorem dX4_copyFrom_40 : decode cX4_copyFrom 40 = .ok (.getfield 15, 3) := by decide +kernel
theorem dX4_copyFrom_43 : decode cX4_copyFrom 43 = .ok (.iconst 0, 1) := by decide +kernel
theorem dX4_copyFrom_44 : decode cX4_copyFrom 44 = .ok (.aload_n 0, 1) := by decide +kernel
theorem dX4_copyFrom_45 : decode cX4_copyFrom 45 = .ok (.getfield 15, 3) := by decide +kernel
theorem dX4_copyFrom_48 : decode cX4_copyFrom 48 = .ok (.iconst 0, 1) := by decide +kernel
theorem dX4_copyFrom_49 : decode cX4_copyFrom 49 = .ok (.bipush 12, 2) := by decide +kernel
theorem dX4_copyFrom_51 : decode cX4_copyFrom 51 = .ok (.invokestatic 82, 3) := by decide +kernel
theorem dX4_copyFrom_54 : decode cX4_copyFrom 54 = .ok (.aload_n 1, 1) := by decide +kernel
theorem dX4_copyFrom_55 : decode cX4_copyFrom 55 = .ok (.getfield 18, 3) := by decide +kernel
theorem dX4_copyFrom_58 : decode cX4_copyFrom 58 = .ok (.iconst 0, 1) := by decide +kernel
theorem dX4_copyFrom_59 : decode cX4_copyFrom 59 = .ok (.aload_n 0, 1) := by decide +kernel
theorem dX4_copyFrom_60 : decode cX4_copyFrom 60 = .ok (.getfield 18, 3) := by decide +kernel
theorem dX4_copyFrom_63 : decode cX4_copyFrom 63 = .ok (.iconst 0, 1) := by decide +kernel
theorem dX4_copyFrom_64 : decode cX4_copyFrom 64 = .ok (.bipush 12, 2) := by decide +kernel
theorem dX4_copyFrom_66 : decode cX4_copyFrom 66 = .ok (.invokestatic 82, 3) := by decide +kernel
theorem dX4_copyFrom_69 : decode cX4_copyFrom 69 = .ok (.aload_n 1, 1) := by decide +kernel
theorem dX4_copyFrom_70 : decode cX4_copyFrom 70 = .ok (.getfield 21, 3) := by decide +kernel
theorem dX4_copyFrom_73 : decode cX4_copyFrom 73 = .ok (.iconst 0, 1) := by decide +kernel
theorem dX4_copyFrom_74 : decode cX4_copyFrom 74 = .ok (.aload_n 0, 1) := by decide +kernel
theorem dX4_copyFrom_75 : decode cX4_copyFrom 75 = .ok (.getfield 21, 3) := by decide +kernel
theorem dX4_copyFrom_78 : decode cX4_copyFrom 78 = .ok (.iconst 0, 1) := by decide +kernel
theorem dX4_copyFrom_79 : decode cX4_copyFrom 79 = .ok (.bipush 12, 2) := by decide +kernel
theorem dX4_copyFrom_81 : decode cX4_copyFrom 81 = .ok (.invokestatic 82, 3) := by decide +kernel
theorem dX4_copyFrom_84 : decode cX4_copyFrom 84 = .ok (.aload_n 1, 1) := by decide +kernel
theorem dX4_copyFrom_85 : decode cX4_copyFrom 85 = .ok (.getfield 24, 3) := by decide +kernel
theorem dX4_copyFrom_88 : decode cX4_copyFrom 88 = .ok (.iconst 0, 1) := by decide +kernel
theorem dX4_copyFrom_89 : decode cX4_copyFrom 89 = .ok (.aload_n 0, 1) := by decide +kernel
theorem dX4_copyFrom_90 : decode cX4_copyFrom 90 = .ok (.getfield 24, 3) := by decide +kernel
theorem dX4_copyFrom_93 : decode cX4_copyFrom 93 = .ok (.iconst 0, 1) := by decide +kernel
theorem dX4_copyFrom_94 : decode cX4_copyFrom 94 = .ok (.bipush 12, 2) := by decide +kernel
theorem dX4_copyFrom_96 : decode cX4_copyFrom 96 = .ok (.invokestatic 82, 3) := by decide +kernel
theorem dX4_copyFrom_99 : decode cX4_copyFrom 99 = .ok (.aload_n 1, 1) := by decide +kernel
theorem dX4_copyFrom_100 : decode cX4_copyFrom 100 = .ok (.getfield 27, 3) := by decide +kernel
theorem dX4_copyFrom_103 : decode cX4_copyFrom 103 = .ok (.iconst 0, 1) := by decide +kernel
theorem dX4_copyFrom_104 : decode cX4_copyFrom 104 = .ok (.aload_n 0, 1) := by decide +kernel
theorem dX4_copyFrom_105 : decode cX4_copyFrom 105 = .ok (.getfield 27, 3) := by decide +kernel
theorem dX4_copyFrom_108 : decode cX4_copyFrom 108 = .ok (.iconst 0, 1) := by decide +kernel
theorem dX4_copyFrom_109 : decode cX4_copyFrom 109 = .ok (.bipush 12, 2) := by decide +kernel
theorem dX4_copyFrom_111 : decode cX4_copyFrom 111 = .ok (.invokestatic 82, 3) := by decide +kernel
theorem dX4_copyFrom_114 : decode cX4_copyFrom 114 = .ok (.aload_n 1, 1) := by decide +kernel
theorem dX4_copyFrom_115 : decode cX4_copyFrom 115 = .ok (.getfield 30, 3) := by decide +kernel
theorem dX4_copyFrom_118 : decode cX4_copyFrom 118 = .ok (.iconst 0, 1) := by decide +kernel
theorem dX4_copyFrom_119 : decode cX4_copyFrom 119 = .ok (.aload_n 0, 1) := by decide +kernel
theorem dX4_copyFrom_120 : decode cX4_copyFrom 120 = .ok (.getfield 30, 3) := by decide +kernel
theorem dX4_copyFrom_123 : decode cX4_copyFrom 123 = .ok (.iconst 0, 1) := by decide +kernel
theorem dX4_copyFrom_124 : decode cX4_copyFrom 124 = .ok (.bipush 10, 2) := by decide +kernel
theorem dX4_copyFrom_126 : decode cX4_copyFrom 126 = .ok (.invokestatic 82, 3) := by decide +kernel
theorem dX4_copyFrom_129 : decode cX4_copyFrom 129 = .ok (.aload_n 1, 1) := by decide +kernel
theorem dX4_copyFrom_130 : decode cX4_copyFrom 130 = .ok (.getfield 33, 3) := by decide +kernel
theorem dX4_copyFrom_133 : decode cX4_copyFrom 133 = .ok (.iconst 0, 1) := by decide +kernel
theorem dX4_copyFrom_134 : decode cX4_copyFrom 134 = .ok (.aload_n 0, 1) := by decide +kernel
theorem dX4_copyFrom_135 : decode cX4_copyFrom 135 = .ok (.getfield 33, 3) := by decide +kernel
theorem dX4_copyFrom_138 : decode cX4_copyFrom 138 = .ok (.iconst 0, 1) := by decide +kernel
theorem dX4_copyFrom_139 : decode cX4_copyFrom 139 = .ok (.bipush 10, 2) := by decide +kernel
theorem dX4_copyFrom_141 : decode cX4_copyFrom 141 = .ok (.invokestatic 82, 3) := by decide +kernel
theorem dX4_copyFrom_144 : decode cX4_copyFrom 144 = .ok (.aload_n 1, 1) := by decide +kernel
theorem dX4_copyFrom_145 : decode cX4_copyFrom 145 = .ok (.getfield 36, 3) := by decide +kernel
theorem dX4_copyFrom_148 : decode cX4_copyFrom 148 = .ok (.iconst 0, 1) := by decide +kernel
theorem dX4_copyFrom_149 : decode cX4_copyFrom 149 = .ok (.aload_n 0, 1) := by decide +kernel
theorem dX4_copyFrom_150 : decode cX4_copyFrom 150 = .ok (.getfield 36, 3) := by decide +kernel
theorem dX4_copyFrom_153 : decode cX4_copyFrom 153 = .ok (.iconst 0, 1) := by decide +kernel
theorem dX4_copyFrom_154 : decode cX4_copyFrom 154 = .ok (.bipush 10, 2) := by decide +kernel
theorem dX4_copyFrom_156 : decode cX4_copyFrom 156 = .ok (.invokestatic 82, 3) := by decide +kernel
theorem dX4_copyFrom_159 : decode cX4_copyFrom 159 = .ok (.aload_n 1, 1) := by decide +kernel
theorem dX4_copyFrom_160 : decode cX4_copyFrom 160 = .ok (.getfield 39, 3) := by decide +kernel
theorem dX4_copyFrom_163 : decode cX4_copyFrom 163 = .ok (.iconst 0, 1) := by decide +kernel
theorem dX4_copyFrom_164 : decode cX4_copyFrom 164 = .ok (.aload_n 0, 1) := by decide +kernel
theorem dX4_copyFrom_165 : decode cX4_copyFrom 165 = .ok (.getfield 39, 3) := by decide +kernel
theorem dX4_copyFrom_168 : decode cX4_copyFrom 168 = .ok (.iconst 0, 1) := by decide +kernel
theorem dX4_copyFrom_169 : decode cX4_copyFrom 169 = .ok (.bipush 10, 2) := by decide +kernel
theorem dX4_copyFrom_171 : decode cX4_copyFrom 171 = .ok (.invokestatic 82, 3) := by decide +kernel
theorem dX4_copyFrom_174 : decode cX4_copyFrom 174 = .ok (.aload_n 1, 1) := by decide +kernel
theorem dX4_copyFrom_175 : decode cX4_copyFrom 175 = .ok (.getfield 42, 3) := by decide +kernel
theorem dX4_copyFrom_178 : decode cX4_copyFrom 178 = .ok (.iconst 0, 1) := by decide +kernel
theorem dX4_copyFrom_179 : decode cX4_copyFrom 179 = .ok (.aload_n 0, 1) := by decide +kernel
theorem dX4_copyFrom_180 : decode cX4_copyFrom 180 = .ok (.getfield 42, 3) := by decide +kernel
theorem dX4_copyFrom_183 : decode cX4_copyFrom 183 = .ok (.iconst 0, 1) := by decide +kernel
theorem dX4_copyFrom_184 : decode cX4_copyFrom 184 = .ok (.iconst 4, 1) := by decide +kernel
theorem dX4_copyFrom_185 : decode cX4_copyFrom 185 = .ok (.invokestatic 82, 3) := by decide +kernel
theorem dX4_copyFrom_188 : decode cX4_copyFrom 188 = .ok (.return_, 1) := by decide +kernel
def w_X4_copyFrom  (I : HI) (J : HJ) (Post : HI → Prop) : Prop :=
  ∀ I_1 : HI, I_1 = hI I 12 11 (I 24 11) → (∀ I_2 : HI, I_2 = hI I_1 12 12 (I_1 24 12) → (∀ I_3 : HI, I_3 = hI I_2 12 13 (I_2 24 13) → (∀ I_4 : HI, I_4 = sI I_3 13 (va_cpy (I_3 25) (I_3 13) 0 0 12) → (∀ I_5 : HI, I_5 = sI I_4 14 (va_cpy (I_4 26) (I_4 14) 0 0 12) → (∀ I_6 : HI, I_6 = sI I_5 15 (va_cpy (I_5 27) (I_5 15) 0 0 12) → (∀ I_7 : HI, I_7 = sI I_6 16 (va_cpy (I_6 28) (I_6 16) 0 0 12) → (∀ I_8 : HI, I_8 = sI I_7 17 (va_cpy (I_7 29) (I_7 17) 0 0 12) → (∀ I_9 : HI, I_9 = sI I_8 18 (va_cpy (I_8 30) (I_8 18) 0 0 12) → (∀ I_10 : HI, I_10 = sI I_9 19 (va_cpy (I_9 31) (I_9 19) 0 0 10) → (∀ I_11 : HI, I_11 = sI I_10 20 (va_cpy (I_10 32) (I_10 20) 0 0 10) → (∀ I_12 : HI, I_12 = sI I_11 21 (va_cpy (I_11 33) (I_11 21) 0 0 10) → (∀ I_13 : HI, I_13 = sI I_12 22 (va_cpy (I_12 34) (I_12 22) 0 0 10) → (∀ I_14 : HI, I_14 = sI I_13 23 (va_cpy (I_13 35) (I_13 23) 0 0 4) → (Post I_14))))))))))))))
set_option maxHeartbeats 4000000 in
set_option maxRecDepth 20000 in
theorem we_X4_copyFrom (g : kf_G) (hg : kf_g g) {x : kf_X} (hx : kf_ok g x RX4 cX4_copyFrom 2 1 120)  (I : HI) (J : HJ) (Post : HI → Prop) (hret : ∀ (pc : Nat) (lv : List (Nat × Value)) (Iy : HI), decode cX4_copyFrom pc = .ok (.return_, 1) → Post Iy → kf_M g x 2 pc lv [] Iy J) (h : w_X4_copyFrom  I J Post) : kf_M g x 2 0 [(0, .ref (g.2.2.2 12)), (1, .ref (g.2.2.2 24))] [] I J := by
  unfold w_X4_copyFrom at h
  refine kf_aload_n hx dX4_copyFrom_0 rfl 0 rfl ?_
  refine kf_aload_n hx dX4_copyFrom_1 rfl 1 rfl ?_
  refine kf_getI hx sl_24_11 fl_RX4_45 dX4_copyFrom_2 ?_
  refine kf_putI hx sl_12_11 fl_RX4_45 fp_4_11 dX4_copyFrom_5 ?_
  refine kf_nmI (fun I_1 eI_1 => ?_)
  replace h := h I_1 eI_1
  refine kf_aload_n hx dX4_copyFrom_8 rfl 0 rfl ?_
  refine kf_aload_n hx dX4_copyFrom_9 rfl 1 rfl ?_
  refine kf_getI hx sl_24_12 fl_RX4_49 dX4_copyFrom_10 ?_
  refine kf_putI hx sl_12_12 fl_RX4_49 fp_4_12 dX4_copyFrom_13 ?_
  refine kf_nmI (fun I_2 eI_2 => ?_)
  replace h := h I_2 eI_2
  refine kf_aload_n hx dX4_copyFrom_16 rfl 0 rfl ?_
  refine kf_aload_n hx dX4_copyFrom_17 rfl 1 rfl ?_
  refine kf_getI hx sl_24_13 fl_RX4_52 dX4_copyFrom_18 ?_
  refine kf_putI hx sl_12_13 fl_RX4_52 fp_4_13 dX4_copyFrom_21 ?_
  refine kf_nmI (fun I_3 eI_3 => ?_)
  replace h := h I_3 eI_3
  refine kf_aload_n hx dX4_copyFrom_24 rfl 1 rfl ?_
  refine kf_getR (n := 25) hx sl_24_0 fl_RX4_9 dX4_copyFrom_25 ?_
  refine kf_iconst (v := 0) hx dX4_copyFrom_28 (by decide) ?_
  refine kf_aload_n hx dX4_copyFrom_29 rfl 0 rfl ?_
  refine kf_getR (n := 13) hx sl_12_0 fl_RX4_9 dX4_copyFrom_30 ?_
  refine kf_iconst (v := 0) hx dX4_copyFrom_33 (by decide) ?_
  refine kf_bipush (v := 12) hx dX4_copyFrom_34 (by decide) ?_
  refine kf_cpyI (st := []) hx la_RX4_82 la_w ar_25 ar_13 (by decide) (by decide) (by decide) (by decide) (by decide) (by decide) (by decide) dX4_copyFrom_36 ?_
  refine kf_nmI (fun I_4 eI_4 => ?_)
  replace h := h I_4 eI_4
  refine kf_aload_n hx dX4_copyFrom_39 rfl 1 rfl ?_
  refine kf_getR (n := 26) hx sl_24_1 fl_RX4_15 dX4_copyFrom_40 ?_
  refine kf_iconst (v := 0) hx dX4_copyFrom_43 (by decide) ?_
  refine kf_aload_n hx dX4_copyFrom_44 rfl 0 rfl ?_
  refine kf_getR (n := 14) hx sl_12_1 fl_RX4_15 dX4_copyFrom_45 ?_
  refine kf_iconst (v := 0) hx dX4_copyFrom_48 (by decide) ?_
  refine kf_bipush (v := 12) hx dX4_copyFrom_49 (by decide) ?_
  refine kf_cpyI (st := []) hx la_RX4_82 la_w ar_26 ar_14 (by decide) (by decide) (by decide) (by decide) (by decide) (by decide) (by decide) dX4_copyFrom_51 ?_
  refine kf_nmI (fun I_5 eI_5 => ?_)
  replace h := h I_5 eI_5
  refine kf_aload_n hx dX4_copyFrom_54 rfl 1 rfl ?_
  refine kf_getR (n := 27) hx sl_24_2 fl_RX4_18 dX4_copyFrom_55 ?_
  refine kf_iconst (v := 0) hx dX4_copyFrom_58 (by decide) ?_
  refine kf_aload_n hx dX4_copyFrom_59 rfl 0 rfl ?_
  refine kf_getR (n := 15) hx sl_12_2 fl_RX4_18 dX4_copyFrom_60 ?_
  refine kf_iconst (v := 0) hx dX4_copyFrom_63 (by decide) ?_
  refine kf_bipush (v := 12) hx dX4_copyFrom_64 (by decide) ?_
  refine kf_cpyI (st := []) hx la_RX4_82 la_w ar_27 ar_15 (by decide) (by decide) (by decide) (by decide) (by decide) (by decide) (by decide) dX4_copyFrom_66 ?_
  refine kf_nmI (fun I_6 eI_6 => ?_)
  replace h := h I_6 eI_6
  refine kf_aload_n hx dX4_copyFrom_69 rfl 1 rfl ?_
  refine kf_getR (n := 28) hx sl_24_3 fl_RX4_21 dX4_copyFrom_70 ?_
  refine kf_iconst (v := 0) hx dX4_copyFrom_73 (by decide) ?_
  refine kf_aload_n hx dX4_copyFrom_74 rfl 0 rfl ?_
  refine kf_getR (n := 16) hx sl_12_3 fl_RX4_21 dX4_copyFrom_75 ?_
  refine kf_iconst (v := 0) hx dX4_copyFrom_78 (by decide) ?_
  refine kf_bipush (v := 12) hx dX4_copyFrom_79 (by decide) ?_
  refine kf_cpyI (st := []) hx la_RX4_82 la_w ar_28 ar_16 (by decide) (by decide) (by decide) (by decide) (by decide) (by decide) (by decide) dX4_copyFrom_81 ?_
  refine kf_nmI (fun I_7 eI_7 => ?_)
  replace h := h I_7 eI_7
  refine kf_aload_n hx dX4_copyFrom_84 rfl 1 rfl ?_
  refine kf_getR (n := 29) hx sl_24_4 fl_RX4_24 dX4_copyFrom_85 ?_
  refine kf_iconst (v := 0) hx dX4_copyFrom_88 (by decide) ?_
  refine kf_aload_n hx dX4_copyFrom_89 rfl 0 rfl ?_
  refine kf_getR (n := 17) hx sl_12_4 fl_RX4_24 dX4_copyFrom_90 ?_
  refine kf_iconst (v := 0) hx dX4_copyFrom_93 (by decide) ?_
  refine kf_bipush (v := 12) hx dX4_copyFrom_94 (by decide) ?_
  refine kf_cpyI (st := []) hx la_RX4_82 la_w ar_29 ar_17 (by decide) (by decide) (by decide) (by decide) (by decide) (by decide) (by decide) dX4_copyFrom_96 ?_
  refine kf_nmI (fun I_8 eI_8 => ?_)
  replace h := h I_8 eI_8
  refine kf_aload_n hx dX4_copyFrom_99 rfl 1 rfl ?_
  refine kf_getR (n := 30) hx sl_24_5 fl_RX4_27 dX4_copyFrom_100 ?_
  refine kf_iconst (v := 0) hx dX4_copyFrom_103 (by decide) ?_
  refine kf_aload_n hx dX4_copyFrom_104 rfl 0 rfl ?_
  refine kf_getR (n := 18) hx sl_12_5 fl_RX4_27 dX4_copyFrom_105 ?_
  refine kf_iconst (v := 0) hx dX4_copyFrom_108 (by decide) ?_
  refine kf_bipush (v := 12) hx dX4_copyFrom_109 (by decide) ?_
  refine kf_cpyI (st := []) hx la_RX4_82 la_w ar_30 ar_18 (by decide) (by decide) (by decide) (by decide) (by decide) (by decide) (by decide) dX4_copyFrom_111 ?_
  refine kf_nmI (fun I_9 eI_9 => ?_)
  replace h := h I_9 eI_9
  refine kf_aload_n hx dX4_copyFrom_114 rfl 1 rfl ?_
  refine kf_getR (n := 31) hx sl_24_6 fl_RX4_30 dX4_copyFrom_115 ?_
  refine kf_iconst (v := 0) hx dX4_copyFrom_118 (by decide) ?_
  refine kf_aload_n hx dX4_copyFrom_119 rfl 0 rfl ?_
  refine kf_getR (n := 19) hx sl_12_6 fl_RX4_30 dX4_copyFrom_120 ?_
  refine kf_iconst (v := 0) hx dX4_copyFrom_123 (by decide) ?_
  refine kf_bipush (v := 10) hx dX4_copyFrom_124 (by decide) ?_
  refine kf_cpyI (st := []) hx la_RX4_82 la_w ar_31 ar_19 (by decide) (by decide) (by decide) (by decide) (by decide) (by decide) (by decide) dX4_copyFrom_126 ?_
  refine kf_nmI (fun I_10 eI_10 => ?_)
  replace h := h I_10 eI_10
  refine kf_aload_n hx dX4_copyFrom_129 rfl 1 rfl ?_
  refine kf_getR (n := 32) hx sl_24_7 fl_RX4_33 dX4_copyFrom_130 ?_
  refine kf_iconst (v := 0) hx dX4_copyFrom_133 (by decide) ?_
  refine kf_aload_n hx dX4_copyFrom_134 rfl 0 rfl ?_
  refine kf_getR (n := 20) hx sl_12_7 fl_RX4_33 dX4_copyFrom_135 ?_
  refine kf_iconst (v := 0) hx dX4_copyFrom_138 (by decide) ?_
  refine kf_bipush (v := 10) hx dX4_copyFrom_139 (by decide) ?_
  refine kf_cpyI (st := []) hx la_RX4_82 la_w ar_32 ar_20 (by decide) (by decide) (by decide) (by decide) (by decide) (by decide) (by decide) dX4_copyFrom_141 ?_
  refine kf_nmI (fun I_11 eI_11 => ?_)
  replace h := h I_11 eI_11
  refine kf_aload_n hx dX4_copyFrom_144 rfl 1 rfl ?_
  refine kf_getR (n := 33) hx sl_24_8 fl_RX4_36 dX4_copyFrom_145 ?_
  refine kf_iconst (v := 0) hx dX4_copyFrom_148 (by decide) ?_
  refine kf_aload_n hx dX4_copyFrom_149 rfl 0 rfl ?_
  refine kf_getR (n := 21) hx sl_12_8 fl_RX4_36 dX4_copyFrom_150 ?_
  refine kf_iconst (v := 0) hx dX4_copyFrom_153 (by decide) ?_
  refine kf_bipush (v := 10) hx dX4_copyFrom_154 (by decide) ?_
  refine kf_cpyI (st := []) hx la_RX4_82 la_w ar_33 ar_21 (by decide) (by decide) (by decide) (by decide) (by decide) (by decide) (by decide) dX4_copyFrom_156 ?_
  refine kf_nmI (fun I_12 eI_12 => ?_)
  replace h := h I_12 eI_12
  refine kf_aload_n hx dX4_copyFrom_159 rfl 1 rfl ?_
  refine kf_getR (n := 34) hx sl_24_9 fl_RX4_39 dX4_copyFrom_160 ?_
  refine kf_iconst (v := 0) hx dX4_copyFrom_163 (by decide) ?_
  refine kf_aload_n hx dX4_copyFrom_164 rfl 0 rfl ?_
  refine kf_getR (n := 22) hx sl_12_9 fl_RX4_39 dX4_copyFrom_165 ?_
  refine kf_iconst (v := 0) hx dX4_copyFrom_168 (by decide) ?_
  refine kf_bipush (v := 10) hx dX4_copyFrom_169 (by decide) ?_
  refine kf_cpyI (st := []) hx la_RX4_82 la_w ar_34 ar_22 (by decide) (by decide) (by decide) (by decide) (by decide) (by decide) (by decide) dX4_copyFrom_171 ?_
  refine kf_nmI (fun I_13 eI_13 => ?_)
  replace h := h I_13 eI_13
  refine kf_aload_n hx dX4_copyFrom_174 rfl 1 rfl ?_
  refine kf_getR (n := 35) hx sl_24_10 fl_RX4_42 dX4_copyFrom_175 ?_
  refine kf_iconst (v := 0) hx dX4_copyFrom_178 (by decide) ?_
  refine kf_aload_n hx dX4_copyFrom_179 rfl 0 rfl ?_
  refine kf_getR (n := 23) hx sl_12_10 fl_RX4_42 dX4_copyFrom_180 ?_
  refine kf_iconst (v := 0) hx dX4_copyFrom_183 (by decide) ?_
  refine kf_iconst (v := 4) hx dX4_copyFrom_184 (by decide) ?_
  refine kf_cpyI (st := []) hx la_RX4_82 la_w ar_35 ar_23 (by decide) (by decide) (by decide) (by decide) (by decide) (by decide) (by decide) dX4_copyFrom_185 ?_
  refine kf_nmI (fun I_14 eI_14 => ?_)
  replace h := h I_14 eI_14
  exact hret _ _ _ dX4_copyFrom_188 h
set_option maxHeartbeats 4000000 in
set_option maxRecDepth 20000 in
theorem m_X4_copyFrom (g : kf_G) (hg : kf_g g)  (I : HI) (J : HJ) (Post : HI → Prop) (h : w_X4_copyFrom  I J Post) : kf_Mv g yX4_copyFrom (kf_W yX4_copyFrom cX4_copyFrom 2 (Option.none : Option Jvm.ClassFile.FieldType)) 1 120 [.ref (g.2.2.2 12), .ref (g.2.2.2 24)] I J (fun I' J' => Post I' ∧ J' = J) :=
  kf_entv hg (by decide) (Nat.le_of_ble_eq_true rfl) rfl (fun x hx hr => we_X4_copyFrom g hg hx  I J Post (fun pc lv I' hd hP => hr pc lv I' J hd ⟨hP, rfl⟩) h)
theorem dX5_goesOn_0 : decode cX5_goesOn 0 = .ok (.aload_n 0, 1) := by decide +kernel
theorem dX5_goesOn_1 : decode cX5_goesOn 1 = .ok (.getfield 58, 3) := by decide +kernel
theorem dX5_goesOn_4 : decode cX5_goesOn 4 = .ok (.ifCond .ne 7, 3) := by decide +kernel
theorem dX5_goesOn_7 : decode cX5_goesOn 7 = .ok (.iconst 1, 1) := by decide +kernel
theorem dX5_goesOn_8 : decode cX5_goesOn 8 = .ok (.goto 4, 3) := by decide +kernel
theorem dX5_goesOn_11 : decode cX5_goesOn 11 = .ok (.iconst 0, 1) := by decide +kernel
theorem dX5_goesOn_12 : decode cX5_goesOn 12 = .ok (.ireturn, 1) := by decide +kernel
def w_X5_goesOn  (I : HI) (J : HJ) (Post : Bool → Prop) : Prop :=
  (¬ (I 36 11) = 0 → (Post false)) ∧ ((I 36 11) = 0 → (Post true))
set_option maxHeartbeats 4000000 in
set_option maxRecDepth 20000 in
theorem we_X5_goesOn (g : kf_G) (hg : kf_g g) {x : kf_X} (hx : kf_ok g x RX5 cX5_goesOn 1 0 0)  (I : HI) (J : HJ) (Post : Bool → Prop) (hret : ∀ (pc : Nat) (lv : List (Nat × Value)) (v : Bool), decode cX5_goesOn pc = .ok (.ireturn, 1) → Post v → kf_M g x 1 pc lv [.int (kb v)] I J) (h : w_X5_goesOn  I J Post) : kf_M g x 1 0 [(0, .ref (g.2.2.2 36))] [] I J := by
  unfold w_X5_goesOn at h
  refine kf_aload_n hx dX5_goesOn_0 rfl 0 rfl ?_
  refine kf_getI hx sl_36_11 fl_RX5_58 dX5_goesOn_1 ?_
  refine kf_if_ne hx 11 dX5_goesOn_4 (by decide) (fun c => ?_) (fun c => ?_)
  · replace h := h.1 c
    refine kf_iconst (v := 0) hx dX5_goesOn_11 (by decide) ?_
    exact hret _ _ false  dX5_goesOn_12 h
  · replace h := h.2 c
    refine kf_iconst (v := 1) hx dX5_goesOn_7 (by decide) ?_
    refine kf_goto hx 12 dX5_goesOn_8 (by decide) ?_
    exact hret _ _ true  dX5_goesOn_12 h
set_option maxHeartbeats 4000000 in
set_option maxRecDepth 20000 in
theorem m_X5_goesOn (g : kf_G) (hg : kf_g g)  (I : HI) (J : HJ) (Post : Bool → Prop) (h : w_X5_goesOn  I J Post) : kf_Mb g yX5_goesOn (kf_W yX5_goesOn cX5_goesOn 1 (Option.some Jvm.ClassFile.FieldType.boolean)) 0 0 [.ref (g.2.2.2 36)] I J (fun v I' J' => Post v ∧ I' = I ∧ J' = J) :=
  kf_entb hg (by decide) (Nat.le_of_ble_eq_true rfl) rfl (fun x hx hr => we_X5_goesOn g hg hx  I J Post (fun pc lv v hd hP => hr pc lv v I J hd ⟨hP, rfl, rfl⟩) h)
theorem dX5_takeWord_0 : decode cX5_takeWord 0 = .ok (.aload_n 0, 1) := by decide +kernel
theorem dX5_takeWord_1 : decode cX5_takeWord 1 = .ok (.lconst 0, 1) := by decide +kernel
theorem dX5_takeWord_2 : decode cX5_takeWord 2 = .ok (.putfield 102, 3) := by decide +kernel
theorem dX5_takeWord_5 : decode cX5_takeWord 5 = .ok (.aload_n 0, 1) := by decide +kernel
theorem dX5_takeWord_6 : decode cX5_takeWord 6 = .ok (.getfield 47, 3) := by decide +kernel
theorem dX5_takeWord_9 : decode cX5_takeWord 9 = .ok (.aload_n 0, 1) := by decide +kernel
theorem dX5_takeWord_10 : decode cX5_takeWord 10 = .ok (.getfield 44, 3) := by decide +kernel
theorem dX5_takeWord_13 : decode cX5_takeWord 13 = .ok (.if_icmp .ge 70, 3) := by decide +kernel
theorem dX5_takeWord_16 : decode cX5_takeWord 16 = .ok (.aload_n 0, 1) := by decide +kernel
theorem dX5_takeWord_17 : decode cX5_takeWord 17 = .ok (.getfield 18, 3) := by decide +kernel
theorem dX5_takeWord_20 : decode cX5_takeWord 20 = .ok (.aload_n 0, 1) := by decide +kernel
theorem dX5_takeWord_21 : decode cX5_takeWord 21 = .ok (.getfield 47, 3) := by decide +kernel
theorem dX5_takeWord_24 : decode cX5_takeWord 24 = .ok (.baload, 1) := by decide +kernel
theorem dX5_takeWord_25 : decode cX5_takeWord 25 = .ok (.bipush 97, 2) := by decide +kernel
theorem dX5_takeWord_27 : decode cX5_takeWord 27 = .ok (.if_icmp .lt 56, 3) := by decide +kernel
theorem dX5_takeWord_30 : decode cX5_takeWord 30 = .ok (.aload_n 0, 1) := by decide +kernel
theorem dX5_takeWord_31 : decode cX5_takeWord 31 = .ok (.getfield 18, 3) := by decide +kernel
theorem dX5_takeWord_34 : decode cX5_takeWord 34 = .ok (.aload_n 0, 1) := by decide +kernel
theorem dX5_takeWord_35 : decode cX5_takeWord 35 = .ok (.getfield 47, 3) := by decide +kernel
theorem dX5_takeWord_38 : decode cX5_takeWord 38 = .ok (.baload, 1) := by decide +kernel
theorem dX5_takeWord_39 : decode cX5_takeWord 39 = .ok (.bipush 122, 2) := by decide +kernel
theorem dX5_takeWord_41 : decode cX5_takeWord 41 = .ok (.if_icmp .gt 42, 3) := by decide +kernel
theorem dX5_takeWord_44 : decode cX5_takeWord 44 = .ok (.aload_n 0, 1) := by decide +kernel
theorem dX5_takeWord_45 : decode cX5_takeWord 45 = .ok (.aload_n 0, 1) := by decide +kernel
theorem dX5_takeWord_46 : decode cX5_takeWord 46 = .ok (.getfield 102, 3) := by decide +kernel
theorem dX5_takeWord_49 : decode cX5_takeWord 49 = .ok (.iconst 5, 1) := by decide +kernel
theorem dX5_takeWord_50 : decode cX5_takeWord 50 = .ok (.lshl, 1) := by decide +kernel
theorem dX5_takeWord_51 : decode cX5_takeWord 51 = .ok (.aload_n 0, 1) := by decide +kernel
theorem dX5_takeWord_52 : decode cX5_takeWord 52 = .ok (.getfield 18, 3) := by decide +kernel
theorem dX5_takeWord_55 : decode cX5_takeWord 55 = .ok (.aload_n 0, 1) := by decide +kernel
theorem dX5_takeWord_56 : decode cX5_takeWord 56 = .ok (.getfield 47, 3) := by decide +kernel
theorem dX5_takeWord_59 : decode cX5_takeWord 59 = .ok (.baload, 1) := by decide +kernel
theorem dX5_takeWord_60 : decode cX5_takeWord 60 = .ok (.bipush 97, 2) := by decide +kernel
theorem dX5_takeWord_62 : decode cX5_takeWord 62 = .ok (.isub, 1) := by decide +kernel
theorem dX5_takeWord_63 : decode cX5_takeWord 63 = .ok (.iconst 1, 1) := by decide +kernel
theorem dX5_takeWord_64 : decode cX5_takeWord 64 = .ok (.iadd, 1) := by decide +kernel
theorem dX5_takeWord_65 : decode cX5_takeWord 65 = .ok (.i2l, 1) := by decide +kernel
theorem dX5_takeWord_66 : decode cX5_takeWord 66 = .ok (.lor, 1) := by decide +kernel
theorem dX5_takeWord_67 : decode cX5_takeWord 67 = .ok (.putfield 102, 3) := by decide +kernel
theorem dX5_takeWord_70 : decode cX5_takeWord 70 = .ok (.aload_n 0, 1) := by decide +kernel
theorem dX5_takeWord_71 : decode cX5_takeWord 71 = .ok (.dup, 1) := by decide +kernel
theorem dX5_takeWord_72 : decode cX5_takeWord 72 = .ok (.getfield 47, 3) := by decide +kernel
theorem dX5_takeWord_75 : decode cX5_takeWord 75 = .ok (.iconst 1, 1) := by decide +kernel
theorem dX5_takeWord_76 : decode cX5_takeWord 76 = .ok (.iadd, 1) := by decide +kernel
theorem dX5_takeWord_77 : decode cX5_takeWord 77 = .ok (.putfield 47, 3) := by decide +kernel
theorem dX5_takeWord_80 : decode cX5_takeWord 80 = .ok (.goto (-75), 3) := by decide +kernel
theorem dX5_takeWord_83 : decode cX5_takeWord 83 = .ok (.aload_n 0, 1) := by decide +kernel
theorem dX5_takeWord_84 : decode cX5_takeWord 84 = .ok (.iconst 4, 1) := by decide +kernel
theorem dX5_takeWord_85 : decode cX5_takeWord 85 = .ok (.putfield 71, 3) := by decide +kernel
theorem dX5_takeWord_88 : decode cX5_takeWord 88 = .ok (.aload_n 0, 1) := by decide +kernel
theorem dX5_takeWord_89 : decode cX5_takeWord 89 = .ok (.getfield 47, 3) := by decide +kernel
theorem dX5_takeWord_92 : decode cX5_takeWord 92 = .ok (.aload_n 0, 1) := by decide +kernel
theorem dX5_takeWord_93 : decode cX5_takeWord 93 = .ok (.getfield 90, 3) := by decide +kernel
theorem dX5_takeWord_96 : decode cX5_takeWord 96 = .ok (.isub, 1) := by decide +kernel
theorem dX5_takeWord_97 : decode cX5_takeWord 97 = .ok (.bipush 8, 2) := by decide +kernel
theorem dX5_takeWord_99 : decode cX5_takeWord 99 = .ok (.if_icmp .gt 44, 3) := by decide +kernel
theorem dX5_takeWord_102 : decode cX5_takeWord 102 = .ok (.aload_n 0, 1) := by decide +kernel
theorem dX5_takeWord_103 : decode cX5_takeWord 103 = .ok (.iconst 5, 1) := by decide +kernel
theorem dX5_takeWord_104 : decode cX5_takeWord 104 = .ok (.putfield 71, 3) := by decide +kernel
theorem dX5_takeWord_107 : decode cX5_takeWord 107 = .ok (.iconst 0, 1) := by decide +kernel
theorem dX5_takeWord_108 : decode cX5_takeWord 108 = .ok (.istore_n 1, 1) := by decide +kernel
theorem dX5_takeWord_109 : decode cX5_takeWord 109 = .ok (.iload_n 1, 1) := by decide +kernel
theorem dX5_takeWord_110 : decode cX5_takeWord 110 = .ok (.bipush 13, 2) := by decide +kernel
theorem dX5_takeWord_112 : decode cX5_takeWord 112 = .ok (.if_icmp .ge 31, 3) := by decide +kernel
theorem dX5_takeWord_115 : decode cX5_takeWord 115 = .ok (.aload_n 0, 1) := by decide +kernel
theorem dX5_takeWord_116 : decode cX5_takeWord 116 = .ok (.getfield 11, 3) := by decide +kernel
theorem dX5_takeWord_119 : decode cX5_takeWord 119 = .ok (.iload_n 1, 1) := by decide +kernel
theorem dX5_takeWord_120 : decode cX5_takeWord 120 = .ok (.laload, 1) := by decide +kernel
theorem dX5_takeWord_121 : decode cX5_takeWord 121 = .ok (.aload_n 0, 1) := by decide +kernel
theorem dX5_takeWord_122 : decode cX5_takeWord 122 = .ok (.getfield 102, 3) := by decide +kernel
theorem dX5_takeWord_125 : decode cX5_takeWord 125 = .ok (.lcmp, 1) := by decide +kernel
theorem dX5_takeWord_126 : decode cX5_takeWord 126 = .ok (.ifCond .ne 11, 3) := by decide +kernel
theorem dX5_takeWord_129 : decode cX5_takeWord 129 = .ok (.aload_n 0, 1) := by decide +kernel
theorem dX5_takeWord_130 : decode cX5_takeWord 130 = .ok (.bipush 6, 2) := by decide +kernel
theorem dX5_takeWord_132 : decode cX5_takeWord 132 = .ok (.iload_n 1, 1) := by decide +kernel
theorem dX5_takeWord_133 : decode cX5_takeWord 133 = .ok (.iadd, 1) := by decide +kernel
theorem dX5_takeWord_134 : decode cX5_takeWord 134 = .ok (.putfield 71, 3) := by decide +kernel
theorem dX5_takeWord_137 : decode cX5_takeWord 137 = .ok (.iinc 1 1, 3) := by decide +kernel
theorem dX5_takeWord_140 : decode cX5_takeWord 140 = .ok (.goto (-31), 3) := by decide +kernel
theorem dX5_takeWord_143 : decode cX5_takeWord 143 = .ok (.return_, 1) := by decide +kernel
def wb_X5_takeWord_5  (Post : HI → HJ → Prop) (E5 : HI → HJ → Prop) (K5 : (HI × HJ) → Prop) (s : HI × HJ) : Prop :=
  match s with
  | (I, J) => ((I 36 4) ≤ (I 36 6) → (E5 I J)) ∧ (¬ (I 36 4) ≤ (I 36 6) → (vp_in (I 36 6) 600 ∧ (((I 10 (Int32.toNatClampNeg (I 36 6))) < 97 → (E5 I J)) ∧ (¬ (I 10 (Int32.toNatClampNeg (I 36 6))) < 97 → (vp_in (I 36 6) 600 ∧ ((122 < (I 10 (Int32.toNatClampNeg (I 36 6))) → (E5 I J)) ∧ (¬ 122 < (I 10 (Int32.toNatClampNeg (I 36 6))) → (vp_in (I 36 6) 600 ∧ (∀ J_2 : HJ, J_2 = hJ J 36 9 (((J 36 9) <<< (Int32.toInt64 5 &&& 63)) ||| (Int32.toInt64 (((I 10 (Int32.toNatClampNeg (I 36 6))) - 97) + 1))) → (∀ I_3 : HI, I_3 = hI I 36 6 ((I 36 6) + 1) → (K5 (I_3, J_2))))))))))))
set_option maxHeartbeats 4000000 in
set_option maxRecDepth 20000 in
theorem ws_X5_takeWord_5 (g : kf_G) (hg : kf_g g) {x : kf_X} (hx : kf_ok g x RX5 cX5_takeWord 2 0 0)  (Post : HI → HJ → Prop) (hret : ∀ (pc : Nat) (lv : List (Nat × Value)) (Iy : HI) (Jy : HJ), decode cX5_takeWord pc = .ok (.return_, 1) → Post Iy Jy → kf_M g x 2 pc lv [] Iy Jy) (E5 : HI → HJ → Prop) (hE5 : ∀ (Iy : HI) (Jy : HJ), E5 Iy Jy → kf_M g x 2 83 [(0, .ref (g.2.2.2 36))] [] Iy Jy) (K5 : (HI × HJ) → Prop) (hK5 : ∀ (Iy : HI) (Jy : HJ), K5 (Iy, Jy) → kf_M g x 2 5 [(0, .ref (g.2.2.2 36))] [] Iy Jy) (I : HI) (J : HJ) (h : wb_X5_takeWord_5  Post E5 K5 (I, J)) : kf_M g x 2 5 [(0, .ref (g.2.2.2 36))] [] I J := by
  unfold wb_X5_takeWord_5 at h
  refine kf_aload_n hx dX5_takeWord_5 rfl 0 rfl ?_
  refine kf_getI hx sl_36_6 fl_RX5_47 dX5_takeWord_6 ?_
  refine kf_aload_n hx dX5_takeWord_9 rfl 0 rfl ?_
  refine kf_getI hx sl_36_4 fl_RX5_44 dX5_takeWord_10 ?_
  refine kf_icmp_ge hx 83 dX5_takeWord_13 (by decide) (fun c => ?_) (fun c => ?_)
  · replace h := h.1 c
    exact hE5 _ _ h
  · replace h := h.2 c
    refine kf_aload_n hx dX5_takeWord_16 rfl 0 rfl ?_
    refine kf_getR (n := 10) hx sl_36_2 fl_RX5_18 dX5_takeWord_17 ?_
    refine kf_aload_n hx dX5_takeWord_20 rfl 0 rfl ?_
    refine kf_getI hx sl_36_6 fl_RX5_47 dX5_takeWord_21 ?_
    refine kf_bald hx ar_10 h.1 dX5_takeWord_24 ?_
    replace h := h.2
    refine kf_bipush (v := 97) hx dX5_takeWord_25 (by decide) ?_
    refine kf_icmp_lt hx 83 dX5_takeWord_27 (by decide) (fun c => ?_) (fun c => ?_)
    · replace h := h.1 c
      exact hE5 _ _ h
    · replace h := h.2 c
      refine kf_aload_n hx dX5_takeWord_30 rfl 0 rfl ?_
      refine kf_getR (n := 10) hx sl_36_2 fl_RX5_18 dX5_takeWord_31 ?_
      refine kf_aload_n hx dX5_takeWord_34 rfl 0 rfl ?_
      refine kf_getI hx sl_36_6 fl_RX5_47 dX5_takeWord_35 ?_
      refine kf_bald hx ar_10 h.1 dX5_takeWord_38 ?_
      replace h := h.2
      refine kf_bipush (v := 122) hx dX5_takeWord_39 (by decide) ?_
      refine kf_icmp_gt hx 83 dX5_takeWord_41 (by decide) (fun c => ?_) (fun c => ?_)
      · replace h := h.1 c
        exact hE5 _ _ h
      · replace h := h.2 c
        refine kf_aload_n hx dX5_takeWord_44 rfl 0 rfl ?_
        refine kf_aload_n hx dX5_takeWord_45 rfl 0 rfl ?_
        refine kf_getJ hx sl_36_9 fl_RX5_102 dX5_takeWord_46 ?_
        refine kf_iconst (v := 5) hx dX5_takeWord_49 (by decide) ?_
        refine kf_lshl hx dX5_takeWord_50 ?_
        refine kf_aload_n hx dX5_takeWord_51 rfl 0 rfl ?_
        refine kf_getR (n := 10) hx sl_36_2 fl_RX5_18 dX5_takeWord_52 ?_
        refine kf_aload_n hx dX5_takeWord_55 rfl 0 rfl ?_
        refine kf_getI hx sl_36_6 fl_RX5_47 dX5_takeWord_56 ?_
        refine kf_bald hx ar_10 h.1 dX5_takeWord_59 ?_
        replace h := h.2
        refine kf_bipush (v := 97) hx dX5_takeWord_60 (by decide) ?_
        refine kf_isub hx dX5_takeWord_62 ?_
        refine kf_iconst (v := 1) hx dX5_takeWord_63 (by decide) ?_
        refine kf_iadd hx dX5_takeWord_64 ?_
        refine kf_i2l hx dX5_takeWord_65 ?_
        refine kf_lor hx dX5_takeWord_66 ?_
        refine kf_putJ hx sl_36_9 fl_RX5_102 fp_5_9 dX5_takeWord_67 ?_
        refine kf_nmJ (fun J_2 eJ_2 => ?_)
        replace h := h J_2 eJ_2
        refine kf_aload_n hx dX5_takeWord_70 rfl 0 rfl ?_
        refine kf_dup hx dX5_takeWord_71 rfl ?_
        refine kf_getI hx sl_36_6 fl_RX5_47 dX5_takeWord_72 ?_
        refine kf_iconst (v := 1) hx dX5_takeWord_75 (by decide) ?_
        refine kf_iadd hx dX5_takeWord_76 ?_
        refine kf_putI hx sl_36_6 fl_RX5_47 fp_5_6 dX5_takeWord_77 ?_
        refine kf_nmI (fun I_3 eI_3 => ?_)
        replace h := h I_3 eI_3
        refine kf_goto hx 5 dX5_takeWord_80 (by decide) ?_
        exact hK5 _ _ h
theorem wl_X5_takeWord_5 (g : kf_G) (hg : kf_g g) {x : kf_X} (hx : kf_ok g x RX5 cX5_takeWord 2 0 0)  (Post : HI → HJ → Prop) (hret : ∀ (pc : Nat) (lv : List (Nat × Value)) (Iy : HI) (Jy : HJ), decode cX5_takeWord pc = .ok (.return_, 1) → Post Iy Jy → kf_M g x 2 pc lv [] Iy Jy) (E5 : HI → HJ → Prop) (hE5 : ∀ (Iy : HI) (Jy : HJ), E5 Iy Jy → kf_M g x 2 83 [(0, .ref (g.2.2.2 36))] [] Iy Jy) : ∀ (n : Nat) (I : HI) (J : HJ), lp (wb_X5_takeWord_5  Post E5) n (I, J) → kf_M g x 2 5 [(0, .ref (g.2.2.2 36))] [] I J := by
  intro n
  induction n with
  | zero => intro I J h; exact h.elim
  | succ n ih => intro I J h; exact ws_X5_takeWord_5 g hg hx Post hret E5 hE5 (lp (wb_X5_takeWord_5  Post E5) n) ih I J h
def wb_X5_takeWord_109 (J : HJ) (Post : HI → HJ → Prop) (E109 : HI → Prop) (K109 : (Int32 × HI) → Prop) (s : Int32 × HI) : Prop :=
  match s with
  | (x1, I) => (13 ≤ x1 → (E109 I)) ∧ (¬ 13 ≤ x1 → (vp_in x1 13 ∧ ((¬ (J 37 (Int32.toNatClampNeg x1)) = (J 36 9) → (K109 ((x1 + 1), I))) ∧ ((J 37 (Int32.toNatClampNeg x1)) = (J 36 9) → (∀ I_8 : HI, I_8 = hI I 36 7 (6 + x1) → (K109 ((x1 + 1), I_8)))))))
set_option maxHeartbeats 4000000 in
set_option maxRecDepth 20000 in
theorem ws_X5_takeWord_109 (g : kf_G) (hg : kf_g g) {x : kf_X} (hx : kf_ok g x RX5 cX5_takeWord 2 0 0) (J : HJ) (Post : HI → HJ → Prop) (hret : ∀ (pc : Nat) (lv : List (Nat × Value)) (Iy : HI) (Jy : HJ), decode cX5_takeWord pc = .ok (.return_, 1) → Post Iy Jy → kf_M g x 2 pc lv [] Iy Jy) (E109 : HI → Prop) (hE109 : ∀ (Iy : HI), E109 Iy → kf_M g x 2 143 [] [] Iy J) (K109 : (Int32 × HI) → Prop) (hK109 : ∀ (y1 : Int32) (Iy : HI), K109 (y1, Iy) → kf_M g x 2 109 [(0, .ref (g.2.2.2 36)), (1, .int y1)] [] Iy J) (x1 : Int32) (I : HI) (h : wb_X5_takeWord_109 J Post E109 K109 (x1, I)) : kf_M g x 2 109 [(0, .ref (g.2.2.2 36)), (1, .int x1)] [] I J := by
  unfold wb_X5_takeWord_109 at h
  refine kf_iload_n hx dX5_takeWord_109 rfl 1 rfl ?_
  refine kf_bipush (v := 13) hx dX5_takeWord_110 (by decide) ?_
  refine kf_icmp_ge hx 143 dX5_takeWord_112 (by decide) (fun c => ?_) (fun c => ?_)
  · replace h := h.1 c
    refine kf_sub [] rfl ?_
    exact hE109 _ h
  · replace h := h.2 c
    refine kf_aload_n hx dX5_takeWord_115 rfl 0 rfl ?_
    refine kf_getR (n := 37) hx sl_36_0 fl_RX5_11 dX5_takeWord_116 ?_
    refine kf_iload_n hx dX5_takeWord_119 rfl 1 rfl ?_
    refine kf_lald hx ar_37 h.1 dX5_takeWord_120 ?_
    replace h := h.2
    refine kf_aload_n hx dX5_takeWord_121 rfl 0 rfl ?_
    refine kf_getJ hx sl_36_9 fl_RX5_102 dX5_takeWord_122 ?_
    refine kf_l_ne hx 137 dX5_takeWord_125 dX5_takeWord_126 (by decide) (fun c => ?_) (fun c => ?_)
    · replace h := h.1 c
      refine kf_iinc (w := (x1 + 1)) (lv' := [(1, .int (x1 + 1)), (0, .ref (g.2.2.2 36))]) hx dX5_takeWord_137 1 rfl rfl (by decide) rfl ?_
      refine kf_goto hx 109 dX5_takeWord_140 (by decide) ?_
      refine kf_sub [1, 0] rfl ?_
      exact hK109 _ _ h
    · replace h := h.2 c
      refine kf_aload_n hx dX5_takeWord_129 rfl 0 rfl ?_
      refine kf_bipush (v := 6) hx dX5_takeWord_130 (by decide) ?_
      refine kf_iload_n hx dX5_takeWord_132 rfl 1 rfl ?_
      refine kf_iadd hx dX5_takeWord_133 ?_
      refine kf_putI hx sl_36_7 fl_RX5_71 fp_5_7 dX5_takeWord_134 ?_
      refine kf_nmI (fun I_8 eI_8 => ?_)
      replace h := h I_8 eI_8
      refine kf_iinc (w := (x1 + 1)) (lv' := [(1, .int (x1 + 1)), (0, .ref (g.2.2.2 36))]) hx dX5_takeWord_137 1 rfl rfl (by decide) rfl ?_
      refine kf_goto hx 109 dX5_takeWord_140 (by decide) ?_
      refine kf_sub [1, 0] rfl ?_
      exact hK109 _ _ h
theorem wl_X5_takeWord_109 (g : kf_G) (hg : kf_g g) {x : kf_X} (hx : kf_ok g x RX5 cX5_takeWord 2 0 0) (J : HJ) (Post : HI → HJ → Prop) (hret : ∀ (pc : Nat) (lv : List (Nat × Value)) (Iy : HI) (Jy : HJ), decode cX5_takeWord pc = .ok (.return_, 1) → Post Iy Jy → kf_M g x 2 pc lv [] Iy Jy) (E109 : HI → Prop) (hE109 : ∀ (Iy : HI), E109 Iy → kf_M g x 2 143 [] [] Iy J) : ∀ (n : Nat) (x1 : Int32) (I : HI), lp (wb_X5_takeWord_109 J Post E109) n (x1, I) → kf_M g x 2 109 [(0, .ref (g.2.2.2 36)), (1, .int x1)] [] I J := by
  intro n
  induction n with
  | zero => intro x1 I h; exact h.elim
  | succ n ih => intro x1 I h; exact ws_X5_takeWord_109 g hg hx J Post hret E109 hE109 (lp (wb_X5_takeWord_109 J Post E109) n) ih x1 I h
def w_X5_takeWord  (I : HI) (J : HJ) (Post : HI → HJ → Prop) : Prop :=
  ∀ J_1 : HJ, J_1 = hJ J 36 9 0 → (∃ n, lp (wb_X5_takeWord_5 Post (fun (I_4 : HI) (J_5 : HJ) => ∀ I_6 : HI, I_6 = hI I_4 36 7 4 → ((8 < ((I_6 36 6) - (I_6 36 5)) → (Post I_6 J_5)) ∧ (¬ 8 < ((I_6 36 6) - (I_6 36 5)) → (∀ I_7 : HI, I_7 = hI I_6 36 7 5 → (∃ n, lp (wb_X5_takeWord_109 J_5 Post (fun (I_9 : HI) => Post I_9 J_5)) n (0, I_7))))))) n (I, J_1))
set_option maxHeartbeats 4000000 in
set_option maxRecDepth 20000 in
theorem we_X5_takeWord (g : kf_G) (hg : kf_g g) {x : kf_X} (hx : kf_ok g x RX5 cX5_takeWord 2 0 0)  (I : HI) (J : HJ) (Post : HI → HJ → Prop) (hret : ∀ (pc : Nat) (lv : List (Nat × Value)) (Iy : HI) (Jy : HJ), decode cX5_takeWord pc = .ok (.return_, 1) → Post Iy Jy → kf_M g x 2 pc lv [] Iy Jy) (h : w_X5_takeWord  I J Post) : kf_M g x 2 0 [(0, .ref (g.2.2.2 36))] [] I J := by
  unfold w_X5_takeWord at h
  refine kf_aload_n hx dX5_takeWord_0 rfl 0 rfl ?_
  refine kf_lconst (v := 0) hx dX5_takeWord_1 (by decide) ?_
  refine kf_putJ hx sl_36_9 fl_RX5_102 fp_5_9 dX5_takeWord_2 ?_
  refine kf_nmJ (fun J_1 eJ_1 => ?_)
  replace h := h J_1 eJ_1
  obtain ⟨n, h⟩ := h
  refine wl_X5_takeWord_5 g hg hx   _ hret _ (fun I_4 J_5 h => ?_) n _ _ h
  refine kf_aload_n hx dX5_takeWord_83 rfl 0 rfl ?_
  refine kf_iconst (v := 4) hx dX5_takeWord_84 (by decide) ?_
  refine kf_putI hx sl_36_7 fl_RX5_71 fp_5_7 dX5_takeWord_85 ?_
  refine kf_nmI (fun I_6 eI_6 => ?_)
  replace h := h I_6 eI_6
  refine kf_aload_n hx dX5_takeWord_88 rfl 0 rfl ?_
  refine kf_getI hx sl_36_6 fl_RX5_47 dX5_takeWord_89 ?_
  refine kf_aload_n hx dX5_takeWord_92 rfl 0 rfl ?_
  refine kf_getI hx sl_36_5 fl_RX5_90 dX5_takeWord_93 ?_
  refine kf_isub hx dX5_takeWord_96 ?_
  refine kf_bipush (v := 8) hx dX5_takeWord_97 (by decide) ?_
  refine kf_icmp_gt hx 143 dX5_takeWord_99 (by decide) (fun c => ?_) (fun c => ?_)
  · replace h := h.1 c
    exact hret _ _ _ _ dX5_takeWord_143 h
  · replace h := h.2 c
    refine kf_aload_n hx dX5_takeWord_102 rfl 0 rfl ?_
    refine kf_iconst (v := 5) hx dX5_takeWord_103 (by decide) ?_
    refine kf_putI hx sl_36_7 fl_RX5_71 fp_5_7 dX5_takeWord_104 ?_
    refine kf_nmI (fun I_7 eI_7 => ?_)
    replace h := h I_7 eI_7
    refine kf_iconst (v := 0) hx dX5_takeWord_107 (by decide) ?_
    refine kf_istore_n (lv' := [(1, .int 0), (0, .ref (g.2.2.2 36))]) hx dX5_takeWord_108 rfl (by decide) rfl ?_
    obtain ⟨n, h⟩ := h
    refine kf_sub [1, 0] rfl ?_
    refine wl_X5_takeWord_109 g hg hx J_5  _ hret _ (fun I_9 h => ?_) n _ _ h
    exact hret _ _ _ _ dX5_takeWord_143 h
set_option maxHeartbeats 4000000 in
set_option maxRecDepth 20000 in
theorem m_X5_takeWord (g : kf_G) (hg : kf_g g)  (I : HI) (J : HJ) (Post : HI → HJ → Prop) (h : w_X5_takeWord  I J Post) : kf_Mv g yX5_takeWord (kf_W yX5_takeWord cX5_takeWord 2 (Option.none : Option Jvm.ClassFile.FieldType)) 0 0 [.ref (g.2.2.2 36)] I J Post :=
  kf_entv hg (by decide) (Nat.le_of_ble_eq_true rfl) rfl (fun x hx hr => we_X5_takeWord g hg hx  I J Post (fun pc lv I' J' hd hP => hr pc lv I' J' hd hP) h)
theorem dX5_takeNumber_0 : decode cX5_takeNumber 0 = .ok (.aload_n 0, 1) := by decide +kernel
theorem dX5_takeNumber_1 : decode cX5_takeNumber 1 = .ok (.iconst 0, 1) := by decide +kernel
theorem dX5_takeNumber_2 : decode cX5_takeNumber 2 = .ok (.putfield 165, 3) := by decide +kernel
theorem dX5_takeNumber_5 : decode cX5_takeNumber 5 = .ok (.aload_n 0, 1) := by decide +kernel
theorem dX5_takeNumber_6 : decode cX5_takeNumber 6 = .ok (.getfield 47, 3) := by decide +kernel
theorem dX5_takeNumber_9 : decode cX5_takeNumber 9 = .ok (.aload_n 0, 1) := by decide +kernel
theorem dX5_takeNumber_10 : decode cX5_takeNumber 10 = .ok (.getfield 44, 3) := by decide +kernel
theorem dX5_takeNumber_13 : decode cX5_takeNumber 13 = .ok (.if_icmp .ge 81, 3) := by decide +kernel
theorem dX5_takeNumber_16 : decode cX5_takeNumber 16 = .ok (.aload_n 0, 1) := by decide +kernel
theorem dX5_takeNumber_17 : decode cX5_takeNumber 17 = .ok (.getfield 18, 3) := by decide +kernel
theorem dX5_takeNumber_20 : decode cX5_takeNumber 20 = .ok (.aload_n 0, 1) := by decide +kernel
theorem dX5_takeNumber_21 : decode cX5_takeNumber 21 = .ok (.getfield 47, 3) := by decide +kernel
theorem dX5_takeNumber_24 : decode cX5_takeNumber 24 = .ok (.baload, 1) := by decide +kernel
theorem dX5_takeNumber_25 : decode cX5_takeNumber 25 = .ok (.bipush 48, 2) := by decide +kernel
theorem dX5_takeNumber_27 : decode cX5_takeNumber 27 = .ok (.if_icmp .lt 67, 3) := by decide +kernel
theorem dX5_takeNumber_30 : decode cX5_takeNumber 30 = .ok (.aload_n 0, 1) := by decide +kernel
theorem dX5_takeNumber_31 : decode cX5_takeNumber 31 = .ok (.getfield 18, 3) := by decide +kernel
theorem dX5_takeNumber_34 : decode cX5_takeNumber 34 = .ok (.aload_n 0, 1) := by decide +kernel
theorem dX5_takeNumber_35 : decode cX5_takeNumber 35 = .ok (.getfield 47, 3) := by decide +kernel
theorem dX5_takeNumber_38 : decode cX5_takeNumber 38 = .ok (.baload, 1) := by decide +kernel
theorem dX5_takeNumber_39 : decode cX5_takeNumber 39 = .ok (.bipush 57, 2) := by decide +kernel
theorem dX5_takeNumber_41 : decode cX5_takeNumber 41 = .ok (.if_icmp .gt 53, 3) := by decide +kernel
theorem dX5_takeNumber_44 : decode cX5_takeNumber 44 = .ok (.aload_n 0, 1) := by decide +kernel
theorem dX5_takeNumber_45 : decode cX5_takeNumber 45 = .ok (.getfield 47, 3) := by decide +kernel
theorem dX5_takeNumber_48 : decode cX5_takeNumber 48 = .ok (.aload_n 0, 1) := by decide +kernel
theorem dX5_takeNumber_49 : decode cX5_takeNumber 49 = .ok (.getfield 90, 3) := by decide +kernel
theorem dX5_takeNumber_52 : decode cX5_takeNumber 52 = .ok (.isub, 1) := by decide +kernel
theorem dX5_takeNumber_53 : decode cX5_takeNumber 53 = .ok (.iconst 3, 1) := by decide +kernel
theorem dX5_takeNumber_54 : decode cX5_takeNumber 54 = .ok (.if_icmp .ge 27, 3) := by decide +kernel
theorem dX5_takeNumber_57 : decode cX5_takeNumber 57 = .ok (.aload_n 0, 1) := by decide +kernel
theorem dX5_takeNumber_58 : decode cX5_takeNumber 58 = .ok (.aload_n 0, 1) := by decide +kernel
theorem dX5_takeNumber_59 : decode cX5_takeNumber 59 = .ok (.getfield 165, 3) := by decide +kernel
theorem dX5_takeNumber_62 : decode cX5_takeNumber 62 = .ok (.bipush 10, 2) := by decide +kernel
theorem dX5_takeNumber_64 : decode cX5_takeNumber 64 = .ok (.imul, 1) := by decide +kernel
theorem dX5_takeNumber_65 : decode cX5_takeNumber 65 = .ok (.aload_n 0, 1) := by decide +kernel
theorem dX5_takeNumber_66 : decode cX5_takeNumber 66 = .ok (.getfield 18, 3) := by decide +kernel
theorem dX5_takeNumber_69 : decode cX5_takeNumber 69 = .ok (.aload_n 0, 1) := by decide +kernel
theorem dX5_takeNumber_70 : decode cX5_takeNumber 70 = .ok (.getfield 47, 3) := by decide +kernel
theorem dX5_takeNumber_73 : decode cX5_takeNumber 73 = .ok (.baload, 1) := by decide +kernel
theorem dX5_takeNumber_74 : decode cX5_takeNumber 74 = .ok (.iadd, 1) := by decide +kernel
theorem dX5_takeNumber_75 : decode cX5_takeNumber 75 = .ok (.bipush 48, 2) := by decide +kernel
theorem dX5_takeNumber_77 : decode cX5_takeNumber 77 = .ok (.isub, 1) := by decide +kernel
theorem dX5_takeNumber_78 : decode cX5_takeNumber 78 = .ok (.putfield 165, 3) := by decide +kernel
theorem dX5_takeNumber_81 : decode cX5_takeNumber 81 = .ok (.aload_n 0, 1) := by decide +kernel
theorem dX5_takeNumber_82 : decode cX5_takeNumber 82 = .ok (.dup, 1) := by decide +kernel
theorem dX5_takeNumber_83 : decode cX5_takeNumber 83 = .ok (.getfield 47, 3) := by decide +kernel
theorem dX5_takeNumber_86 : decode cX5_takeNumber 86 = .ok (.iconst 1, 1) := by decide +kernel
theorem dX5_takeNumber_87 : decode cX5_takeNumber 87 = .ok (.iadd, 1) := by decide +kernel
theorem dX5_takeNumber_88 : decode cX5_takeNumber 88 = .ok (.putfield 47, 3) := by decide +kernel
theorem dX5_takeNumber_91 : decode cX5_takeNumber 91 = .ok (.goto (-86), 3) := by decide +kernel
theorem dX5_takeNumber_94 : decode cX5_takeNumber 94 = .ok (.aload_n 0, 1) := by decide +kernel
theorem dX5_takeNumber_95 : decode cX5_takeNumber 95 = .ok (.aload_n 0, 1) := by decide +kernel
theorem dX5_takeNumber_96 : decode cX5_takeNumber 96 = .ok (.getfield 47, 3) := by decide +kernel
theorem dX5_takeNumber_99 : decode cX5_takeNumber 99 = .ok (.aload_n 0, 1) := by decide +kernel
theorem dX5_takeNumber_100 : decode cX5_takeNumber 100 = .ok (.getfield 90, 3) := by decide +kernel
theorem dX5_takeNumber_103 : decode cX5_takeNumber 103 = .ok (.isub, 1) := by decide +kernel
theorem dX5_takeNumber_104 : decode cX5_takeNumber 104 = .ok (.iconst 3, 1) := by decide +kernel
theorem dX5_takeNumber_105 : decode cX5_takeNumber 105 = .ok (.if_icmp .gt 7, 3) := by decide +kernel
theorem dX5_takeNumber_108 : decode cX5_takeNumber 108 = .ok (.iconst 2, 1) := by decide +kernel
theorem dX5_takeNumber_109 : decode cX5_takeNumber 109 = .ok (.goto 4, 3) := by decide +kernel
theorem dX5_takeNumber_112 : decode cX5_takeNumber 112 = .ok (.iconst 1, 1) := by decide +kernel
theorem dX5_takeNumber_113 : decode cX5_takeNumber 113 = .ok (.putfield 71, 3) := by decide +kernel
theorem dX5_takeNumber_116 : decode cX5_takeNumber 116 = .ok (.return_, 1) := by decide +kernel
def wb_X5_takeNumber_5 (J : HJ) (Post : HI → Prop) (E5 : HI → Prop) (K5 : HI → Prop) (I : HI) : Prop :=
  ((I 36 4) ≤ (I 36 6) → (E5 I)) ∧ (¬ (I 36 4) ≤ (I 36 6) → (vp_in (I 36 6) 600 ∧ (((I 10 (Int32.toNatClampNeg (I 36 6))) < 48 → (E5 I)) ∧ (¬ (I 10 (Int32.toNatClampNeg (I 36 6))) < 48 → (vp_in (I 36 6) 600 ∧ ((57 < (I 10 (Int32.toNatClampNeg (I 36 6))) → (E5 I)) ∧ (¬ 57 < (I 10 (Int32.toNatClampNeg (I 36 6))) → ((3 ≤ ((I 36 6) - (I 36 5)) → (∀ I_2 : HI, I_2 = hI I 36 6 ((I 36 6) + 1) → (K5 I_2))) ∧ (¬ 3 ≤ ((I 36 6) - (I 36 5)) → (vp_in (I 36 6) 600 ∧ (∀ I_3 : HI, I_3 = hI I 36 8 ((((I 36 8) * 10) + (I 10 (Int32.toNatClampNeg (I 36 6)))) - 48) → (∀ I_4 : HI, I_4 = hI I_3 36 6 ((I_3 36 6) + 1) → (K5 I_4)))))))))))))
set_option maxHeartbeats 4000000 in
set_option maxRecDepth 20000 in
theorem ws_X5_takeNumber_5 (g : kf_G) (hg : kf_g g) {x : kf_X} (hx : kf_ok g x RX5 cX5_takeNumber 1 0 0) (J : HJ) (Post : HI → Prop) (hret : ∀ (pc : Nat) (lv : List (Nat × Value)) (Iy : HI), decode cX5_takeNumber pc = .ok (.return_, 1) → Post Iy → kf_M g x 1 pc lv [] Iy J) (E5 : HI → Prop) (hE5 : ∀ (Iy : HI), E5 Iy → kf_M g x 1 94 [(0, .ref (g.2.2.2 36))] [] Iy J) (K5 : HI → Prop) (hK5 : ∀ (Iy : HI), K5 Iy → kf_M g x 1 5 [(0, .ref (g.2.2.2 36))] [] Iy J) (I : HI) (h : wb_X5_takeNumber_5 J Post E5 K5 I) : kf_M g x 1 5 [(0, .ref (g.2.2.2 36))] [] I J := by
  unfold wb_X5_takeNumber_5 at h
  refine kf_aload_n hx dX5_takeNumber_5 rfl 0 rfl ?_
  refine kf_getI hx sl_36_6 fl_RX5_47 dX5_takeNumber_6 ?_
  refine kf_aload_n hx dX5_takeNumber_9 rfl 0 rfl ?_
  refine kf_getI hx sl_36_4 fl_RX5_44 dX5_takeNumber_10 ?_
  refine kf_icmp_ge hx 94 dX5_takeNumber_13 (by decide) (fun c => ?_) (fun c => ?_)
  · replace h := h.1 c
    exact hE5 _ h
  · replace h := h.2 c
    refine kf_aload_n hx dX5_takeNumber_16 rfl 0 rfl ?_
    refine kf_getR (n := 10) hx sl_36_2 fl_RX5_18 dX5_takeNumber_17 ?_
    refine kf_aload_n hx dX5_takeNumber_20 rfl 0 rfl ?_
    refine kf_getI hx sl_36_6 fl_RX5_47 dX5_takeNumber_21 ?_
    refine kf_bald hx ar_10 h.1 dX5_takeNumber_24 ?_
    replace h := h.2
    refine kf_bipush (v := 48) hx dX5_takeNumber_25 (by decide) ?_
    refine kf_icmp_lt hx 94 dX5_takeNumber_27 (by decide) (fun c => ?_) (fun c => ?_)
    · replace h := h.1 c
      exact hE5 _ h
    · replace h := h.2 c
      refine kf_aload_n hx dX5_takeNumber_30 rfl 0 rfl ?_
      refine kf_getR (n := 10) hx sl_36_2 fl_RX5_18 dX5_takeNumber_31 ?_
      refine kf_aload_n hx dX5_takeNumber_34 rfl 0 rfl ?_
      refine kf_getI hx sl_36_6 fl_RX5_47 dX5_takeNumber_35 ?_
      refine kf_bald hx ar_10 h.1 dX5_takeNumber_38 ?_
      replace h := h.2
      refine kf_bipush (v := 57) hx dX5_takeNumber_39 (by decide) ?_
      refine kf_icmp_gt hx 94 dX5_takeNumber_41 (by decide) (fun c => ?_) (fun c => ?_)
      · replace h := h.1 c
        exact hE5 _ h
      · replace h := h.2 c
        refine kf_aload_n hx dX5_takeNumber_44 rfl 0 rfl ?_
        refine kf_getI hx sl_36_6 fl_RX5_47 dX5_takeNumber_45 ?_
        refine kf_aload_n hx dX5_takeNumber_48 rfl 0 rfl ?_
        refine kf_getI hx sl_36_5 fl_RX5_90 dX5_takeNumber_49 ?_
        refine kf_isub hx dX5_takeNumber_52 ?_
        refine kf_iconst (v := 3) hx dX5_takeNumber_53 (by decide) ?_
        refine kf_icmp_ge hx 81 dX5_takeNumber_54 (by decide) (fun c => ?_) (fun c => ?_)
        · replace h := h.1 c
          refine kf_aload_n hx dX5_takeNumber_81 rfl 0 rfl ?_
          refine kf_dup hx dX5_takeNumber_82 rfl ?_
          refine kf_getI hx sl_36_6 fl_RX5_47 dX5_takeNumber_83 ?_
          refine kf_iconst (v := 1) hx dX5_takeNumber_86 (by decide) ?_
          refine kf_iadd hx dX5_takeNumber_87 ?_
          refine kf_putI hx sl_36_6 fl_RX5_47 fp_5_6 dX5_takeNumber_88 ?_
          refine kf_nmI (fun I_2 eI_2 => ?_)
          replace h := h I_2 eI_2
          refine kf_goto hx 5 dX5_takeNumber_91 (by decide) ?_
          exact hK5 _ h
        · replace h := h.2 c
          refine kf_aload_n hx dX5_takeNumber_57 rfl 0 rfl ?_
          refine kf_aload_n hx dX5_takeNumber_58 rfl 0 rfl ?_
          refine kf_getI hx sl_36_8 fl_RX5_165 dX5_takeNumber_59 ?_
          refine kf_bipush (v := 10) hx dX5_takeNumber_62 (by decide) ?_
          refine kf_imul hx dX5_takeNumber_64 ?_
          refine kf_aload_n hx dX5_takeNumber_65 rfl 0 rfl ?_
          refine kf_getR (n := 10) hx sl_36_2 fl_RX5_18 dX5_takeNumber_66 ?_
          refine kf_aload_n hx dX5_takeNumber_69 rfl 0 rfl ?_
          refine kf_getI hx sl_36_6 fl_RX5_47 dX5_takeNumber_70 ?_
          refine kf_bald hx ar_10 h.1 dX5_takeNumber_73 ?_
          replace h := h.2
          refine kf_iadd hx dX5_takeNumber_74 ?_
          refine kf_bipush (v := 48) hx dX5_takeNumber_75 (by decide) ?_
          refine kf_isub hx dX5_takeNumber_77 ?_
          refine kf_putI hx sl_36_8 fl_RX5_165 fp_5_8 dX5_takeNumber_78 ?_
          refine kf_nmI (fun I_3 eI_3 => ?_)
          replace h := h I_3 eI_3
          refine kf_aload_n hx dX5_takeNumber_81 rfl 0 rfl ?_
          refine kf_dup hx dX5_takeNumber_82 rfl ?_
          refine kf_getI hx sl_36_6 fl_RX5_47 dX5_takeNumber_83 ?_
          refine kf_iconst (v := 1) hx dX5_takeNumber_86 (by decide) ?_
          refine kf_iadd hx dX5_takeNumber_87 ?_
          refine kf_putI hx sl_36_6 fl_RX5_47 fp_5_6 dX5_takeNumber_88 ?_
          refine kf_nmI (fun I_4 eI_4 => ?_)
          replace h := h I_4 eI_4
          refine kf_goto hx 5 dX5_takeNumber_91 (by decide) ?_
          exact hK5 _ h
theorem wl_X5_takeNumber_5 (g : kf_G) (hg : kf_g g) {x : kf_X} (hx : kf_ok g x RX5 cX5_takeNumber 1 0 0) (J : HJ) (Post : HI → Prop) (hret : ∀ (pc : Nat) (lv : List (Nat × Value)) (Iy : HI), decode cX5_takeNumber pc = .ok (.return_, 1) → Post Iy → kf_M g x 1 pc lv [] Iy J) (E5 : HI → Prop) (hE5 : ∀ (Iy : HI), E5 Iy → kf_M g x 1 94 [(0, .ref (g.2.2.2 36))] [] Iy J) : ∀ (n : Nat) (I : HI), lp (wb_X5_takeNumber_5 J Post E5) n I → kf_M g x 1 5 [(0, .ref (g.2.2.2 36))] [] I J := by
  intro n
  induction n with
  | zero => intro I h; exact h.elim
  | succ n ih => intro I h; exact ws_X5_takeNumber_5 g hg hx J Post hret E5 hE5 (lp (wb_X5_takeNumber_5 J Post E5) n) ih I h
def w_X5_takeNumber  (I : HI) (J : HJ) (Post : HI → Prop) : Prop :=
  ∀ I_1 : HI, I_1 = hI I 36 8 0 → (∃ n, lp (wb_X5_takeNumber_5 J Post (fun (I_5 : HI) => (3 < ((I_5 36 6) - (I_5 36 5)) → (∀ I_6 : HI, I_6 = hI I_5 36 7 1 → (Post I_6))) ∧ (¬ 3 < ((I_5 36 6) - (I_5 36 5)) → (∀ I_7 : HI, I_7 = hI I_5 36 7 2 → (Post I_7))))) n I_1)
set_option maxHeartbeats 4000000 in
set_option maxRecDepth 20000 in
theorem we_X5_takeNumber (g : kf_G) (hg : kf_g g) {x : kf_X} (hx : kf_ok g x RX5 cX5_takeNumber 1 0 0)  (I : HI) (J : HJ) (Post : HI → Prop) (hret : ∀ (pc : Nat) (lv : List (Nat × Value)) (Iy : HI), decode cX5_takeNumber pc = .ok (.return_, 1) → Post Iy → kf_M g x 1 pc lv [] Iy J) (h : w_X5_takeNumber  I J Post) : kf_M g x 1 0 [(0, .ref (g.2.2.2 36))] [] I J := by
  unfold w_X5_takeNumber at h
  refine kf_aload_n hx dX5_takeNumber_0 rfl 0 rfl ?_
  refine kf_iconst (v := 0) hx dX5_takeNumber_1 (by decide) ?_
  refine kf_putI hx sl_36_8 fl_RX5_165 fp_5_8 dX5_takeNumber_2 ?_
  refine kf_nmI (fun I_1 eI_1 => ?_)
  replace h := h I_1 eI_1
  obtain ⟨n, h⟩ := h
  refine wl_X5_takeNumber_5 g hg hx J  _ hret _ (fun I_5 h => ?_) n _ h
  refine kf_aload_n hx dX5_takeNumber_94 rfl 0 rfl ?_
  refine kf_aload_n hx dX5_takeNumber_95 rfl 0 rfl ?_
  refine kf_getI hx sl_36_6 fl_RX5_47 dX5_takeNumber_96 ?_
  refine kf_aload_n hx dX5_takeNumber_99 rfl 0 rfl ?_
  refine kf_getI hx sl_36_5 fl_RX5_90 dX5_takeNumber_100 ?_
  refine kf_isub hx dX5_takeNumber_103 ?_
  refine kf_iconst (v := 3) hx dX5_takeNumber_104 (by decide) ?_
  refine kf_icmp_gt hx 112 dX5_takeNumber_105 (by decide) (fun c => ?_) (fun c => ?_)
  · replace h := h.1 c
    refine kf_iconst (v := 1) hx dX5_takeNumber_112 (by decide) ?_
    refine kf_putI hx sl_36_7 fl_RX5_71 fp_5_7 dX5_takeNumber_113 ?_
    refine kf_nmI (fun I_6 eI_6 => ?_)
    replace h := h I_6 eI_6
    exact hret _ _ _ dX5_takeNumber_116 h
  · replace h := h.2 c
    refine kf_iconst (v := 2) hx dX5_takeNumber_108 (by decide) ?_
    refine kf_goto hx 113 dX5_takeNumber_109 (by decide) ?_
    refine kf_putI hx sl_36_7 fl_RX5_71 fp_5_7 dX5_takeNumber_113 ?_
    refine kf_nmI (fun I_7 eI_7 => ?_)
    replace h := h I_7 eI_7
    exact hret _ _ _ dX5_takeNumber_116 h
set_option maxHeartbeats 4000000 in
set_option maxRecDepth 20000 in
theorem m_X5_takeNumber (g : kf_G) (hg : kf_g g)  (I : HI) (J : HJ) (Post : HI → Prop) (h : w_X5_takeNumber  I J Post) : kf_Mv g yX5_takeNumber (kf_W yX5_takeNumber cX5_takeNumber 1 (Option.none : Option Jvm.ClassFile.FieldType)) 0 0 [.ref (g.2.2.2 36)] I J (fun I' J' => Post I' ∧ J' = J) :=
  kf_entv hg (by decide) (Nat.le_of_ble_eq_true rfl) rfl (fun x hx hr => we_X5_takeNumber g hg hx  I J Post (fun pc lv I' hd hP => hr pc lv I' J hd ⟨hP, rfl⟩) h)
theorem dX5_fail_0 : decode cX5_fail 0 = .ok (.aload_n 0, 1) := by decide +kernel
theorem dX5_fail_1 : decode cX5_fail 1 = .ok (.getfield 58, 3) := by decide +kernel
theorem dX5_fail_4 : decode cX5_fail 4 = .ok (.ifCond .ne 16, 3) := by decide +kernel
theorem dX5_fail_7 : decode cX5_fail 7 = .ok (.aload_n 0, 1) := by decide +kernel
theorem dX5_fail_8 : decode cX5_fail 8 = .ok (.iload_n 1, 1) := by decide +kernel
theorem dX5_fail_9 : decode cX5_fail 9 = .ok (.putfield 58, 3) := by decide +kernel
theorem dX5_fail_12 : decode cX5_fail 12 = .ok (.aload_n 0, 1) := by decide +kernel
theorem dX5_fail_13 : decode cX5_fail 13 = .ok (.aload_n 0, 1) := by decide +kernel
theorem dX5_fail_14 : decode cX5_fail 14 = .ok (.getfield 90, 3) := by decide +kernel
theorem dX5_fail_17 : decode cX5_fail 17 = .ok (.putfield 61, 3) := by decide +kernel
theorem dX5_fail_20 : decode cX5_fail 20 = .ok (.return_, 1) := by decide +kernel
def w_X5_fail (x1 : Int32) (I : HI) (J : HJ) (Post : HI → Prop) : Prop :=
  (¬ (I 36 11) = 0 → (Post I)) ∧ ((I 36 11) = 0 → (∀ I_1 : HI, I_1 = hI I 36 11 x1 → (∀ I_2 : HI, I_2 = hI I_1 36 12 (I_1 36 5) → (Post I_2))))
set_option maxHeartbeats 4000000 in
set_option maxRecDepth 20000 in
theorem we_X5_fail (g : kf_G) (hg : kf_g g) {x : kf_X} (hx : kf_ok g x RX5 cX5_fail 2 0 0) (x1 : Int32) (I : HI) (J : HJ) (Post : HI → Prop) (hret : ∀ (pc : Nat) (lv : List (Nat × Value)) (Iy : HI), decode cX5_fail pc = .ok (.return_, 1) → Post Iy → kf_M g x 2 pc lv [] Iy J) (h : w_X5_fail x1 I J Post) : kf_M g x 2 0 [(0, .ref (g.2.2.2 36)), (1, .int x1)] [] I J := by
  unfold w_X5_fail at h
  refine kf_aload_n hx dX5_fail_0 rfl 0 rfl ?_
  refine kf_getI hx sl_36_11 fl_RX5_58 dX5_fail_1 ?_
  refine kf_if_ne hx 20 dX5_fail_4 (by decide) (fun c => ?_) (fun c => ?_)
  · replace h := h.1 c
    exact hret _ _ _ dX5_fail_20 h
  · replace h := h.2 c
    refine kf_aload_n hx dX5_fail_7 rfl 0 rfl ?_
    refine kf_iload_n hx dX5_fail_8 rfl 1 rfl ?_
    refine kf_putI hx sl_36_11 fl_RX5_58 fp_5_11 dX5_fail_9 ?_
    refine kf_nmI (fun I_1 eI_1 => ?_)
    replace h := h I_1 eI_1
    refine kf_aload_n hx dX5_fail_12 rfl 0 rfl ?_
    refine kf_aload_n hx dX5_fail_13 rfl 0 rfl ?_
    refine kf_getI hx sl_36_5 fl_RX5_90 dX5_fail_14 ?_
    refine kf_putI hx sl_36_12 fl_RX5_61 fp_5_12 dX5_fail_17 ?_
    refine kf_nmI (fun I_2 eI_2 => ?_)
    replace h := h I_2 eI_2
    exact hret _ _ _ dX5_fail_20 h
set_option maxHeartbeats 4000000 in
set_option maxRecDepth 20000 in
theorem m_X5_fail (g : kf_G) (hg : kf_g g) (x1 : Int32) (I : HI) (J : HJ) (Post : HI → Prop) (h : w_X5_fail x1 I J Post) : kf_Mv g yX5_fail (kf_W yX5_fail cX5_fail 2 (Option.none : Option Jvm.ClassFile.FieldType)) 0 0 [.ref (g.2.2.2 36), .int x1] I J (fun I' J' => Post I' ∧ J' = J) :=
  kf_entv hg (by decide) (Nat.le_of_ble_eq_true rfl) rfl (fun x hx hr => we_X5_fail g hg hx x1 I J Post (fun pc lv I' hd hP => hr pc lv I' J hd ⟨hP, rfl⟩) h)
theorem dX5_advance_0 : decode cX5_advance 0 = .ok (.aload_n 0, 1) := by decide +kernel
theorem dX5_advance_1 : decode cX5_advance 1 = .ok (.invokevirtual 67, 3) := by decide +kernel
theorem dX5_advance_4 : decode cX5_advance 4 = .ok (.ifCond .ne 4, 3) := by decide +kernel
theorem dX5_advance_7 : decode cX5_advance 7 = .ok (.return_, 1) := by decide +kernel
theorem dX5_advance_8 : decode cX5_advance 8 = .ok (.aload_n 0, 1) := by decide +kernel
theorem dX5_advance_9 : decode cX5_advance 9 = .ok (.aload_n 0, 1) := by decide +kernel
theorem dX5_advance_10 : decode cX5_advance 10 = .ok (.getfield 47, 3) := by decide +kernel
theorem dX5_advance_13 : decode cX5_advance 13 = .ok (.putfield 90, 3) := by decide +kernel
theorem dX5_advance_16 : decode cX5_advance 16 = .ok (.aload_n 0, 1) := by decide +kernel
theorem dX5_advance_17 : decode cX5_advance 17 = .ok (.getfield 90, 3) := by decide +kernel
theorem dX5_advance_20 : decode cX5_advance 20 = .ok (.aload_n 0, 1) := by decide +kernel
theorem dX5_advance_21 : decode cX5_advance 21 = .ok (.getfield 44, 3) := by decide +kernel
theorem dX5_advance_24 : decode cX5_advance 24 = .ok (.if_icmp .ge 44, 3) := by decide +kernel
theorem dX5_advance_27 : decode cX5_advance 27 = .ok (.aload_n 0, 1) := by decide +kernel
theorem dX5_advance_28 : decode cX5_advance 28 = .ok (.getfield 18, 3) := by decide +kernel
theorem dX5_advance_31 : decode cX5_advance 31 = .ok (.aload_n 0, 1) := by decide +kernel
theorem dX5_advance_32 : decode cX5_advance 32 = .ok (.getfield 90, 3) := by decide +kernel
theorem dX5_advance_35 : decode cX5_advance 35 = .ok (.baload, 1) := by decide +kernel
theorem dX5_advance_36 : decode cX5_advance 36 = .ok (.bipush 10, 2) := by decide +kernel
theorem dX5_advance_38 : decode cX5_advance 38 = .ok (.if_icmp .eq 17, 3) := by decide +kernel
theorem dX5_advance_41 : decode cX5_advance 41 = .ok (.aload_n 0, 1) := by decide +kernel
theorem dX5_advance_42 : decode cX5_advance 42 = .ok (.getfield 18, 3) := by decide +kernel
theorem dX5_advance_45 : decode cX5_advance 45 = .ok (.aload_n 0, 1) := by decide +kernel
theorem dX5_advance_46 : decode cX5_advance 46 = .ok (.getfield 90, 3) := by decide +kernel
theorem dX5_advance_49 : decode cX5_advance 49 = .ok (.baload, 1) := by decide +kernel
theorem dX5_advance_50 : decode cX5_advance 50 = .ok (.bipush 32, 2) := by decide +kernel
theorem dX5_advance_52 : decode cX5_advance 52 = .ok (.if_icmp .ne 16, 3) := by decide +kernel
theorem dX5_advance_55 : decode cX5_advance 55 = .ok (.aload_n 0, 1) := by decide +kernel
theorem dX5_advance_56 : decode cX5_advance 56 = .ok (.dup, 1) := by decide +kernel
theorem dX5_advance_57 : decode cX5_advance 57 = .ok (.getfield 90, 3) := by decide +kernel
theorem dX5_advance_60 : decode cX5_advance 60 = .ok (.iconst 1, 1) := by decide +kernel
theorem dX5_advance_61 : decode cX5_advance 61 = .ok (.iadd, 1) := by decide +kernel
theorem dX5_advance_62 : decode cX5_advance 62 = .ok (.putfield 90, 3) := by decide +kernel
theorem dX5_advance_65 : decode cX5_advance 65 = .ok (.goto (-49), 3) := by decide +kernel
theorem dX5_advance_68 : decode cX5_advance 68 = .ok (.aload_n 0, 1) := by decide +kernel
theorem dX5_advance_69 : decode cX5_advance 69 = .ok (.aload_n 0, 1) := by decide +kernel
theorem dX5_advance_70 : decode cX5_advance 70 = .ok (.getfield 90, 3) := by decide +kernel
theorem dX5_advance_73 : decode cX5_advance 73 = .ok (.putfield 47, 3) := by decide +kernel
theorem dX5_advance_76 : decode cX5_advance 76 = .ok (.aload_n 0, 1) := by decide +kernel
theorem dX5_advance_77 : decode cX5_advance 77 = .ok (.getfield 90, 3) := by decide +kernel
theorem dX5_advance_80 : decode cX5_advance 80 = .ok (.aload_n 0, 1) := by decide +kernel
theorem dX5_advance_81 : decode cX5_advance 81 = .ok (.getfield 44, 3) := by decide +kernel
theorem dX5_advance_84 : decode cX5_advance 84 = .ok (.if_icmp .ge 15, 3) := by decide +kernel
theorem dX5_advance_87 : decode cX5_advance 87 = .ok (.aload_n 0, 1) := by decide +kernel
theorem dX5_advance_88 : decode cX5_advance 88 = .ok (.getfield 18, 3) := by decide +kernel
theorem dX5_advance_91 : decode cX5_advance 91 = .ok (.aload_n 0, 1) := by decide +kernel
theorem dX5_advance_92 : decode cX5_advance 92 = .ok (.getfield 90, 3) := by decide +kernel
theorem dX5_advance_95 : decode cX5_advance 95 = .ok (.baload, 1) := by decide +kernel
theorem dX5_advance_96 : decode cX5_advance 96 = .ok (.goto 4, 3) := by decide +kernel
theorem dX5_advance_99 : decode cX5_advance 99 = .ok (.iconst 0, 1) := by decide +kernel
theorem dX5_advance_100 : decode cX5_advance 100 = .ok (.istore_n 1, 1) := by decide +kernel
theorem dX5_advance_101 : decode cX5_advance 101 = .ok (.aload_n 0, 1) := by decide +kernel
theorem dX5_advance_102 : decode cX5_advance 102 = .ok (.getfield 90, 3) := by decide +kernel
theorem dX5_advance_105 : decode cX5_advance 105 = .ok (.aload_n 0, 1) := by decide +kernel
theorem dX5_advance_106 : decode cX5_advance 106 = .ok (.getfield 44, 3) := by decide +kernel
theorem dX5_advance_109 : decode cX5_advance 109 = .ok (.if_icmp .ne 11, 3) := by decide +kernel
theorem dX5_advance_112 : decode cX5_advance 112 = .ok (.aload_n 0, 1) := by decide +kernel
theorem dX5_advance_113 : decode cX5_advance 113 = .ok (.iconst 0, 1) := by decide +kernel
theorem dX5_advance_114 : decode cX5_advance 114 = .ok (.putfield 71, 3) := by decide +kernel
theorem dX5_advance_117 : decode cX5_advance 117 = .ok (.goto 66, 3) := by decide +kernel
theorem dX5_advance_120 : decode cX5_advance 120 = .ok (.iload_n 1, 1) := by decide +kernel
theorem dX5_advance_121 : decode cX5_advance 121 = .ok (.bipush 97, 2) := by decide +kernel
theorem dX5_advance_123 : decode cX5_advance 123 = .ok (.if_icmp .lt 16, 3) := by decide +kernel
theorem dX5_advance_126 : decode cX5_advance 126 = .ok (.iload_n 1, 1) := by decide +kernel
theorem dX5_advance_127 : decode cX5_advance 127 = .ok (.bipush 122, 2) := by decide +kernel
theorem dX5_advance_129 : decode cX5_advance 129 = .ok (.if_icmp .gt 10, 3) := by decide +kernel
theorem dX5_advance_132 : decode cX5_advance 132 = .ok (.aload_n 0, 1) := by decide +kernel
theorem dX5_advance_133 : decode cX5_advance 133 = .ok (.invokevirtual 171, 3) := by decide +kernel
theorem dX5_advance_136 : decode cX5_advance 136 = .ok (.goto 47, 3) := by decide +kernel
theorem dX5_advance_139 : decode cX5_advance 139 = .ok (.iload_n 1, 1) := by decide +kernel
theorem dX5_advance_140 : decode cX5_advance 140 = .ok (.bipush 48, 2) := by decide +kernel
theorem dX5_advance_142 : decode cX5_advance 142 = .ok (.if_icmp .lt 16, 3) := by decide +kernel
theorem dX5_advance_145 : decode cX5_advance 145 = .ok (.iload_n 1, 1) := by decide +kernel
theorem dX5_advance_146 : decode cX5_advance 146 = .ok (.bipush 57, 2) := by decide +kernel
theorem dX5_advance_148 : decode cX5_advance 148 = .ok (.if_icmp .gt 10, 3) := by decide +kernel
theorem dX5_advance_151 : decode cX5_advance 151 = .ok (.aload_n 0, 1) := by decide +kernel
theorem dX5_advance_152 : decode cX5_advance 152 = .ok (.invokevirtual 174, 3) := by decide +kernel
theorem dX5_advance_155 : decode cX5_advance 155 = .ok (.goto 28, 3) := by decide +kernel
theorem dX5_advance_158 : decode cX5_advance 158 = .ok (.aload_n 0, 1) := by decide +kernel
theorem dX5_advance_159 : decode cX5_advance 159 = .ok (.iload_n 1, 1) := by decide +kernel
theorem dX5_advance_160 : decode cX5_advance 160 = .ok (.bipush 59, 2) := by decide +kernel
theorem dX5_advance_162 : decode cX5_advance 162 = .ok (.if_icmp .ne 7, 3) := by decide +kernel
theorem dX5_advance_165 : decode cX5_advance 165 = .ok (.iconst 3, 1) := by decide +kernel
theorem dX5_advance_166 : decode cX5_advance 166 = .ok (.goto 4, 3) := by decide +kernel
theorem dX5_advance_169 : decode cX5_advance 169 = .ok (.iconst 1, 1) := by decide +kernel
theorem dX5_advance_170 : decode cX5_advance 170 = .ok (.putfield 71, 3) := by decide +kernel
theorem dX5_advance_173 : decode cX5_advance 173 = .ok (.aload_n 0, 1) := by decide +kernel
theorem dX5_advance_174 : decode cX5_advance 174 = .ok (.aload_n 0, 1) := by decide +kernel
theorem dX5_advance_175 : decode cX5_advance 175 = .ok (.getfield 90, 3) := by decide +kernel
theorem dX5_advance_178 : decode cX5_advance 178 = .ok (.iconst 1, 1) := by decide +kernel
theorem dX5_advance_179 : decode cX5_advance 179 = .ok (.iadd, 1) := by decide +kernel
theorem dX5_advance_180 : decode cX5_advance 180 = .ok (.putfield 47, 3) := by decide +kernel
theorem dX5_advance_183 : decode cX5_advance 183 = .ok (.aload_n 0, 1) := by decide +kernel
theorem dX5_advance_184 : decode cX5_advance 184 = .ok (.getfield 71, 3) := by decide +kernel
theorem dX5_advance_187 : decode cX5_advance 187 = .ok (.iconst 1, 1) := by decide +kernel
theorem dX5_advance_188 : decode cX5_advance 188 = .ok (.if_icmp .ne 8, 3) := by decide +kernel
theorem dX5_advance_191 : decode cX5_advance 191 = .ok (.aload_n 0, 1) := by decide +kernel
theorem dX5_advance_192 : decode cX5_advance 192 = .ok (.iconst 1, 1) := by decide +kernel
theorem dX5_advance_193 : decode cX5_advance 193 = .ok (.invokevirtual 83, 3) := by decide +kernel
theorem dX5_advance_196 : decode cX5_advance 196 = .ok (.return_, 1) := by decide +kernel
def wb_X5_advance_16 (J : HJ) (Post : HI → HJ → Prop) (E16 : HI → Prop) (K16 : HI → Prop) (I : HI) : Prop :=
  ((I 36 4) ≤ (I 36 5) → (E16 I)) ∧ (¬ (I 36 4) ≤ (I 36 5) → (vp_in (I 36 5) 600 ∧ (((I 10 (Int32.toNatClampNeg (I 36 5))) = 10 → (∀ I_3 : HI, I_3 = hI I 36 5 ((I 36 5) + 1) → (K16 I_3))) ∧ (¬ (I 10 (Int32.toNatClampNeg (I 36 5))) = 10 → (vp_in (I 36 5) 600 ∧ ((¬ (I 10 (Int32.toNatClampNeg (I 36 5))) = 32 → (E16 I)) ∧ ((I 10 (Int32.toNatClampNeg (I 36 5))) = 32 → (∀ I_4 : HI, I_4 = hI I 36 5 ((I 36 5) + 1) → (K16 I_4)))))))))
set_option maxHeartbeats 4000000 in
set_option maxRecDepth 20000 in
theorem ws_X5_advance_16 (g : kf_G) (hg : kf_g g) {x : kf_X} (hx : kf_ok g x RX5 cX5_advance 2 1 21) (J : HJ) (Post : HI → HJ → Prop) (hret : ∀ (pc : Nat) (lv : List (Nat × Value)) (Iy : HI) (Jy : HJ), decode cX5_advance pc = .ok (.return_, 1) → Post Iy Jy → kf_M g x 2 pc lv [] Iy Jy) (E16 : HI → Prop) (hE16 : ∀ (Iy : HI), E16 Iy → kf_M g x 2 68 [(0, .ref (g.2.2.2 36))] [] Iy J) (K16 : HI → Prop) (hK16 : ∀ (Iy : HI), K16 Iy → kf_M g x 2 16 [(0, .ref (g.2.2.2 36))] [] Iy J) (I : HI) (h : wb_X5_advance_16 J Post E16 K16 I) : kf_M g x 2 16 [(0, .ref (g.2.2.2 36))] [] I J := by
  unfold wb_X5_advance_16 at h
  refine kf_aload_n hx dX5_advance_16 rfl 0 rfl ?_
  refine kf_getI hx sl_36_5 fl_RX5_90 dX5_advance_17 ?_
  refine kf_aload_n hx dX5_advance_20 rfl 0 rfl ?_
  refine kf_getI hx sl_36_4 fl_RX5_44 dX5_advance_21 ?_
  refine kf_icmp_ge hx 68 dX5_advance_24 (by decide) (fun c => ?_) (fun c => ?_)
  · replace h := h.1 c
    exact hE16 _ h
  · replace h := h.2 c
    refine kf_aload_n hx dX5_advance_27 rfl 0 rfl ?_
    refine kf_getR (n := 10) hx sl_36_2 fl_RX5_18 dX5_advance_28 ?_
    refine kf_aload_n hx dX5_advance_31 rfl 0 rfl ?_
    refine kf_getI hx sl_36_5 fl_RX5_90 dX5_advance_32 ?_
    refine kf_bald hx ar_10 h.1 dX5_advance_35 ?_
    replace h := h.2
    refine kf_bipush (v := 10) hx dX5_advance_36 (by decide) ?_
    refine kf_icmp_eq hx 55 dX5_advance_38 (by decide) (fun c => ?_) (fun c => ?_)
    · replace h := h.1 c
      refine kf_aload_n hx dX5_advance_55 rfl 0 rfl ?_
      refine kf_dup hx dX5_advance_56 rfl ?_
      refine kf_getI hx sl_36_5 fl_RX5_90 dX5_advance_57 ?_
      refine kf_iconst (v := 1) hx dX5_advance_60 (by decide) ?_
      refine kf_iadd hx dX5_advance_61 ?_
      refine kf_putI hx sl_36_5 fl_RX5_90 fp_5_5 dX5_advance_62 ?_
      refine kf_nmI (fun I_3 eI_3 => ?_)
      replace h := h I_3 eI_3
      refine kf_goto hx 16 dX5_advance_65 (by decide) ?_
      exact hK16 _ h
    · replace h := h.2 c
      refine kf_aload_n hx dX5_advance_41 rfl 0 rfl ?_
      refine kf_getR (n := 10) hx sl_36_2 fl_RX5_18 dX5_advance_42 ?_
      refine kf_aload_n hx dX5_advance_45 rfl 0 rfl ?_
      refine kf_getI hx sl_36_5 fl_RX5_90 dX5_advance_46 ?_
      refine kf_bald hx ar_10 h.1 dX5_advance_49 ?_
      replace h := h.2
      refine kf_bipush (v := 32) hx dX5_advance_50 (by decide) ?_
      refine kf_icmp_ne hx 68 dX5_advance_52 (by decide) (fun c => ?_) (fun c => ?_)
      · replace h := h.1 c
        exact hE16 _ h
      · replace h := h.2 c
        refine kf_aload_n hx dX5_advance_55 rfl 0 rfl ?_
        refine kf_dup hx dX5_advance_56 rfl ?_
        refine kf_getI hx sl_36_5 fl_RX5_90 dX5_advance_57 ?_
        refine kf_iconst (v := 1) hx dX5_advance_60 (by decide) ?_
        refine kf_iadd hx dX5_advance_61 ?_
        refine kf_putI hx sl_36_5 fl_RX5_90 fp_5_5 dX5_advance_62 ?_
        refine kf_nmI (fun I_4 eI_4 => ?_)
        replace h := h I_4 eI_4
        refine kf_goto hx 16 dX5_advance_65 (by decide) ?_
        exact hK16 _ h
theorem wl_X5_advance_16 (g : kf_G) (hg : kf_g g) {x : kf_X} (hx : kf_ok g x RX5 cX5_advance 2 1 21) (J : HJ) (Post : HI → HJ → Prop) (hret : ∀ (pc : Nat) (lv : List (Nat × Value)) (Iy : HI) (Jy : HJ), decode cX5_advance pc = .ok (.return_, 1) → Post Iy Jy → kf_M g x 2 pc lv [] Iy Jy) (E16 : HI → Prop) (hE16 : ∀ (Iy : HI), E16 Iy → kf_M g x 2 68 [(0, .ref (g.2.2.2 36))] [] Iy J) : ∀ (n : Nat) (I : HI), lp (wb_X5_advance_16 J Post E16) n I → kf_M g x 2 16 [(0, .ref (g.2.2.2 36))] [] I J := by
  intro n
  induction n with
  | zero => intro I h; exact h.elim
  | succ n ih => intro I h; exact ws_X5_advance_16 g hg hx J Post hret E16 hE16 (lp (wb_X5_advance_16 J Post E16) n) ih I h
def wj_X5_advance_183 (I : HI) (J : HJ)  (Post : HI → HJ → Prop) : Prop :=
  (¬ (I 36 7) = 1 → (Post I J)) ∧ ((I 36 7) = 1 → (w_X5_fail 1 I J (fun (I_9 : HI) => (Post I_9 J))))
set_option maxHeartbeats 4000000 in
set_option maxRecDepth 20000 in
theorem wk_X5_advance_183 (g : kf_G) (hg : kf_g g) {x : kf_X} (hx : kf_ok g x RX5 cX5_advance 2 1 21) (I : HI) (J : HJ)  (Post : HI → HJ → Prop) (hret : ∀ (pc : Nat) (lv : List (Nat × Value)) (Iy : HI) (Jy : HJ), decode cX5_advance pc = .ok (.return_, 1) → Post Iy Jy → kf_M g x 2 pc lv [] Iy Jy) (h : wj_X5_advance_183 I J  Post) : kf_M g x 2 183 [(0, .ref (g.2.2.2 36))] [] I J := by
  unfold wj_X5_advance_183 at h
  refine kf_aload_n hx dX5_advance_183 rfl 0 rfl ?_
  refine kf_getI hx sl_36_7 fl_RX5_71 dX5_advance_184 ?_
  refine kf_iconst (v := 1) hx dX5_advance_187 (by decide) ?_
  refine kf_icmp_ne hx 196 dX5_advance_188 (by decide) (fun c => ?_) (fun c => ?_)
  · replace h := h.1 c
    exact hret _ _ _ _ dX5_advance_196 h
  · replace h := h.2 c
    refine kf_aload_n hx dX5_advance_191 rfl 0 rfl ?_
    refine kf_iconst (v := 1) hx dX5_advance_192 (by decide) ?_
    refine kf_callVvI (st := []) hx (m_X5_fail g hg 1 I J _ h) lk_RX5_83 km_X5_fail ob_36 rfl (by decide) rfl (Nat.le_of_ble_eq_true rfl) dX5_advance_193 (fun I_9 h => ?_)
    exact hret _ _ _ _ dX5_advance_196 h
def wj_X5_advance_170 (I : HI) (J : HJ) (t0 : Int32) (Post : HI → HJ → Prop) : Prop :=
  ∀ I_7 : HI, I_7 = hI I 36 7 t0 → (∀ I_8 : HI, I_8 = hI I_7 36 6 ((I_7 36 5) + 1) → (wj_X5_advance_183 I_8 J Post))
set_option maxHeartbeats 4000000 in
set_option maxRecDepth 20000 in
theorem wk_X5_advance_170 (g : kf_G) (hg : kf_g g) {x : kf_X} (hx : kf_ok g x RX5 cX5_advance 2 1 21) (I : HI) (J : HJ) (t0 : Int32) (Post : HI → HJ → Prop) (hret : ∀ (pc : Nat) (lv : List (Nat × Value)) (Iy : HI) (Jy : HJ), decode cX5_advance pc = .ok (.return_, 1) → Post Iy Jy → kf_M g x 2 pc lv [] Iy Jy) (h : wj_X5_advance_170 I J t0 Post) : kf_M g x 2 170 [(0, .ref (g.2.2.2 36))] [.int t0, .ref (g.2.2.2 36)] I J := by
  unfold wj_X5_advance_170 at h
  refine kf_putI hx sl_36_7 fl_RX5_71 fp_5_7 dX5_advance_170 ?_
  refine kf_nmI (fun I_7 eI_7 => ?_)
  replace h := h I_7 eI_7
  refine kf_aload_n hx dX5_advance_173 rfl 0 rfl ?_
  refine kf_aload_n hx dX5_advance_174 rfl 0 rfl ?_
  refine kf_getI hx sl_36_5 fl_RX5_90 dX5_advance_175 ?_
  refine kf_iconst (v := 1) hx dX5_advance_178 (by decide) ?_
  refine kf_iadd hx dX5_advance_179 ?_
  refine kf_putI hx sl_36_6 fl_RX5_47 fp_5_6 dX5_advance_180 ?_
  refine kf_nmI (fun I_8 eI_8 => ?_)
  replace h := h I_8 eI_8
  exact wk_X5_advance_183 g hg hx I_8 J  _ hret h
def wj_X5_advance_158 (I : HI) (J : HJ) (x1 : Int32) (Post : HI → HJ → Prop) : Prop :=
  (¬ x1 = 59 → (wj_X5_advance_170 I J 1 Post)) ∧ (x1 = 59 → (wj_X5_advance_170 I J 3 Post))
set_option maxHeartbeats 4000000 in
set_option maxRecDepth 20000 in
theorem wk_X5_advance_158 (g : kf_G) (hg : kf_g g) {x : kf_X} (hx : kf_ok g x RX5 cX5_advance 2 1 21) (I : HI) (J : HJ) (x1 : Int32) (Post : HI → HJ → Prop) (hret : ∀ (pc : Nat) (lv : List (Nat × Value)) (Iy : HI) (Jy : HJ), decode cX5_advance pc = .ok (.return_, 1) → Post Iy Jy → kf_M g x 2 pc lv [] Iy Jy) (h : wj_X5_advance_158 I J x1 Post) : kf_M g x 2 158 [(0, .ref (g.2.2.2 36)), (1, .int x1)] [] I J := by
  unfold wj_X5_advance_158 at h
  refine kf_aload_n hx dX5_advance_158 rfl 0 rfl ?_
  refine kf_iload_n hx dX5_advance_159 rfl 1 rfl ?_
  refine kf_bipush (v := 59) hx dX5_advance_160 (by decide) ?_
  refine kf_icmp_ne hx 169 dX5_advance_162 (by decide) (fun c => ?_) (fun c => ?_)
  · replace h := h.1 c
    refine kf_iconst (v := 1) hx dX5_advance_169 (by decide) ?_
    refine kf_sub [0] rfl ?_
    exact wk_X5_advance_170 g hg hx I J 1 _ hret h
  · replace h := h.2 c
    refine kf_iconst (v := 3) hx dX5_advance_165 (by decide) ?_
    refine kf_goto hx 170 dX5_advance_166 (by decide) ?_
    refine kf_sub [0] rfl ?_
    exact wk_X5_advance_170 g hg hx I J 3 _ hret h
def wj_X5_advance_139 (I : HI) (J : HJ) (x1 : Int32) (Post : HI → HJ → Prop) : Prop :=
  (x1 < 48 → (wj_X5_advance_158 I J x1 Post)) ∧ (¬ x1 < 48 → ((57 < x1 → (wj_X5_advance_158 I J x1 Post)) ∧ (¬ 57 < x1 → (w_X5_takeNumber  I J (fun (I_10 : HI) => (wj_X5_advance_183 I_10 J Post))))))
set_option maxHeartbeats 4000000 in
set_option maxRecDepth 20000 in
theorem wk_X5_advance_139 (g : kf_G) (hg : kf_g g) {x : kf_X} (hx : kf_ok g x RX5 cX5_advance 2 1 21) (I : HI) (J : HJ) (x1 : Int32) (Post : HI → HJ → Prop) (hret : ∀ (pc : Nat) (lv : List (Nat × Value)) (Iy : HI) (Jy : HJ), decode cX5_advance pc = .ok (.return_, 1) → Post Iy Jy → kf_M g x 2 pc lv [] Iy Jy) (h : wj_X5_advance_139 I J x1 Post) : kf_M g x 2 139 [(0, .ref (g.2.2.2 36)), (1, .int x1)] [] I J := by
  unfold wj_X5_advance_139 at h
  refine kf_iload_n hx dX5_advance_139 rfl 1 rfl ?_
  refine kf_bipush (v := 48) hx dX5_advance_140 (by decide) ?_
  refine kf_icmp_lt hx 158 dX5_advance_142 (by decide) (fun c => ?_) (fun c => ?_)
  · replace h := h.1 c
    exact wk_X5_advance_158 g hg hx I J x1 _ hret h
  · replace h := h.2 c
    refine kf_iload_n hx dX5_advance_145 rfl 1 rfl ?_
    refine kf_bipush (v := 57) hx dX5_advance_146 (by decide) ?_
    refine kf_icmp_gt hx 158 dX5_advance_148 (by decide) (fun c => ?_) (fun c => ?_)
    · replace h := h.1 c
      exact wk_X5_advance_158 g hg hx I J x1 _ hret h
    · replace h := h.2 c
      refine kf_aload_n hx dX5_advance_151 rfl 0 rfl ?_
      refine kf_callVvI (st := []) hx (m_X5_takeNumber g hg  I J _ h) lk_RX5_174 km_X5_takeNumber ob_36 rfl (by decide) rfl (Nat.le_of_ble_eq_true rfl) dX5_advance_152 (fun I_10 h => ?_)
      refine kf_goto hx 183 dX5_advance_155 (by decide) ?_
      refine kf_sub [0] rfl ?_
      exact wk_X5_advance_183 g hg hx I_10 J  _ hret h
def wj_X5_advance_100 (I : HI) (J : HJ) (t0 : Int32) (Post : HI → HJ → Prop) : Prop :=
  (¬ (I 36 5) = (I 36 4) → ((t0 < 97 → (wj_X5_advance_139 I J t0 Post)) ∧ (¬ t0 < 97 → ((122 < t0 → (wj_X5_advance_139 I J t0 Post)) ∧ (¬ 122 < t0 → (w_X5_takeWord  I J (fun (I_11 : HI) (J_12 : HJ) => (wj_X5_advance_183 I_11 J_12 Post)))))))) ∧ ((I 36 5) = (I 36 4) → (∀ I_13 : HI, I_13 = hI I 36 7 0 → (wj_X5_advance_183 I_13 J Post)))
set_option maxHeartbeats 4000000 in
set_option maxRecDepth 20000 in
theorem wk_X5_advance_100 (g : kf_G) (hg : kf_g g) {x : kf_X} (hx : kf_ok g x RX5 cX5_advance 2 1 21) (I : HI) (J : HJ) (t0 : Int32) (Post : HI → HJ → Prop) (hret : ∀ (pc : Nat) (lv : List (Nat × Value)) (Iy : HI) (Jy : HJ), decode cX5_advance pc = .ok (.return_, 1) → Post Iy Jy → kf_M g x 2 pc lv [] Iy Jy) (h : wj_X5_advance_100 I J t0 Post) : kf_M g x 2 100 [(0, .ref (g.2.2.2 36))] [.int t0] I J := by
  unfold wj_X5_advance_100 at h
  refine kf_istore_n (lv' := [(1, .int t0), (0, .ref (g.2.2.2 36))]) hx dX5_advance_100 rfl (by decide) rfl ?_
  refine kf_aload_n hx dX5_advance_101 rfl 1 rfl ?_
  refine kf_getI hx sl_36_5 fl_RX5_90 dX5_advance_102 ?_
  refine kf_aload_n hx dX5_advance_105 rfl 1 rfl ?_
  refine kf_getI hx sl_36_4 fl_RX5_44 dX5_advance_106 ?_
  refine kf_icmp_ne hx 120 dX5_advance_109 (by decide) (fun c => ?_) (fun c => ?_)
  · replace h := h.1 c
    refine kf_iload_n hx dX5_advance_120 rfl 0 rfl ?_
    refine kf_bipush (v := 97) hx dX5_advance_121 (by decide) ?_
    refine kf_icmp_lt hx 139 dX5_advance_123 (by decide) (fun c => ?_) (fun c => ?_)
    · replace h := h.1 c
      refine kf_sub [1, 0] rfl ?_
      exact wk_X5_advance_139 g hg hx I J t0 _ hret h
    · replace h := h.2 c
      refine kf_iload_n hx dX5_advance_126 rfl 0 rfl ?_
      refine kf_bipush (v := 122) hx dX5_advance_127 (by decide) ?_
      refine kf_icmp_gt hx 139 dX5_advance_129 (by decide) (fun c => ?_) (fun c => ?_)
      · replace h := h.1 c
        refine kf_sub [1, 0] rfl ?_
        exact wk_X5_advance_139 g hg hx I J t0 _ hret h
      · replace h := h.2 c
        refine kf_aload_n hx dX5_advance_132 rfl 1 rfl ?_
        refine kf_callVv (st := []) hx (m_X5_takeWord g hg  I J _ h) lk_RX5_171 km_X5_takeWord ob_36 rfl (by decide) rfl (Nat.le_of_ble_eq_true rfl) dX5_advance_133 (fun I_11 J_12 h => ?_)
        refine kf_goto hx 183 dX5_advance_136 (by decide) ?_
        refine kf_sub [1] rfl ?_
        exact wk_X5_advance_183 g hg hx I_11 J_12  _ hret h
  · replace h := h.2 c
    refine kf_aload_n hx dX5_advance_112 rfl 1 rfl ?_
    refine kf_iconst (v := 0) hx dX5_advance_113 (by decide) ?_
    refine kf_putI hx sl_36_7 fl_RX5_71 fp_5_7 dX5_advance_114 ?_
    refine kf_nmI (fun I_13 eI_13 => ?_)
    replace h := h I_13 eI_13
    refine kf_goto hx 183 dX5_advance_117 (by decide) ?_
    refine kf_sub [1] rfl ?_
    exact wk_X5_advance_183 g hg hx I_13 J  _ hret h
def w_X5_advance  (I : HI) (J : HJ) (Post : HI → HJ → Prop) : Prop :=
  w_X5_goesOn  I J (fun (r_1 : Bool) => ((r_1 = true → (∀ I_2 : HI, I_2 = hI I 36 5 (I 36 6) → (∃ n, lp (wb_X5_advance_16 J Post (fun (I_5 : HI) => ∀ I_6 : HI, I_6 = hI I_5 36 6 (I_5 36 5) → (((I_6 36 4) ≤ (I_6 36 5) → (wj_X5_advance_100 I_6 J 0 Post)) ∧ (¬ (I_6 36 4) ≤ (I_6 36 5) → (vp_in (I_6 36 5) 600 ∧ (wj_X5_advance_100 I_6 J (I_6 10 (Int32.toNatClampNeg (I_6 36 5))) Post)))))) n I_2))) ∧ (r_1 = false → (Post I J))))
set_option maxHeartbeats 4000000 in
set_option maxRecDepth 20000 in
theorem we_X5_advance (g : kf_G) (hg : kf_g g) {x : kf_X} (hx : kf_ok g x RX5 cX5_advance 2 1 21)  (I : HI) (J : HJ) (Post : HI → HJ → Prop) (hret : ∀ (pc : Nat) (lv : List (Nat × Value)) (Iy : HI) (Jy : HJ), decode cX5_advance pc = .ok (.return_, 1) → Post Iy Jy → kf_M g x 2 pc lv [] Iy Jy) (h : w_X5_advance  I J Post) : kf_M g x 2 0 [(0, .ref (g.2.2.2 36))] [] I J := by
  unfold w_X5_advance at h
  refine kf_aload_n hx dX5_advance_0 rfl 0 rfl ?_
  refine kf_callVbP (st := []) hx (m_X5_goesOn g hg  I J _ h) lk_RX5_67 km_X5_goesOn ob_36 rfl (by decide) rfl (Nat.le_of_ble_eq_true rfl) dX5_advance_1 (fun r_1 h => ?_)
  refine kf_ifB_ne hx 8 dX5_advance_4 (by decide) (fun c => ?_) (fun c => ?_)
  · replace h := h.1 c
    refine kf_aload_n hx dX5_advance_8 rfl 0 rfl ?_
    refine kf_aload_n hx dX5_advance_9 rfl 0 rfl ?_
    refine kf_getI hx sl_36_6 fl_RX5_47 dX5_advance_10 ?_
    refine kf_putI hx sl_36_5 fl_RX5_90 fp_5_5 dX5_advance_13 ?_
    refine kf_nmI (fun I_2 eI_2 => ?_)
    replace h := h I_2 eI_2
    obtain ⟨n, h⟩ := h
    refine wl_X5_advance_16 g hg hx J  _ hret _ (fun I_5 h => ?_) n _ h
    refine kf_aload_n hx dX5_advance_68 rfl 0 rfl ?_
    refine kf_aload_n hx dX5_advance_69 rfl 0 rfl ?_
    refine kf_getI hx sl_36_5 fl_RX5_90 dX5_advance_70 ?_
    refine kf_putI hx sl_36_6 fl_RX5_47 fp_5_6 dX5_advance_73 ?_
    refine kf_nmI (fun I_6 eI_6 => ?_)
    replace h := h I_6 eI_6
    refine kf_aload_n hx dX5_advance_76 rfl 0 rfl ?_
    refine kf_getI hx sl_36_5 fl_RX5_90 dX5_advance_77 ?_
    refine kf_aload_n hx dX5_advance_80 rfl 0 rfl ?_
    refine kf_getI hx sl_36_4 fl_RX5_44 dX5_advance_81 ?_
    refine kf_icmp_ge hx 99 dX5_advance_84 (by decide) (fun c => ?_) (fun c => ?_)
    · replace h := h.1 c
      refine kf_iconst (v := 0) hx dX5_advance_99 (by decide) ?_
      exact wk_X5_advance_100 g hg hx I_6 J 0 _ hret h
    · replace h := h.2 c
      refine kf_aload_n hx dX5_advance_87 rfl 0 rfl ?_
      refine kf_getR (n := 10) hx sl_36_2 fl_RX5_18 dX5_advance_88 ?_
      refine kf_aload_n hx dX5_advance_91 rfl 0 rfl ?_
      refine kf_getI hx sl_36_5 fl_RX5_90 dX5_advance_92 ?_
      refine kf_bald hx ar_10 h.1 dX5_advance_95 ?_
      replace h := h.2
      refine kf_goto hx 100 dX5_advance_96 (by decide) ?_
      exact wk_X5_advance_100 g hg hx I_6 J (I_6 10 (Int32.toNatClampNeg (I_6 36 5))) _ hret h
  · replace h := h.2 c
    exact hret _ _ _ _ dX5_advance_7 h
set_option maxHeartbeats 4000000 in
set_option maxRecDepth 20000 in
theorem m_X5_advance (g : kf_G) (hg : kf_g g)  (I : HI) (J : HJ) (Post : HI → HJ → Prop) (h : w_X5_advance  I J Post) : kf_Mv g yX5_advance (kf_W yX5_advance cX5_advance 2 (Option.none : Option Jvm.ClassFile.FieldType)) 1 21 [.ref (g.2.2.2 36)] I J Post :=
  kf_entv hg (by decide) (Nat.le_of_ble_eq_true rfl) rfl (fun x hx hr => we_X5_advance g hg hx  I J Post (fun pc lv I' J' hd hP => hr pc lv I' J' hd hP) h)
