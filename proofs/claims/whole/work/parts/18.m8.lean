theorem dX11_likeliest_0 : decode cX11_likeliest 0 = .ok (.aload_n 0, 1) := by decide +kernel
theorem dX11_likeliest_1 : decode cX11_likeliest 1 = .ok (.iconst 0, 1) := by decide +kernel
theorem dX11_likeliest_2 : decode cX11_likeliest 2 = .ok (.putfield 106, 3) := by decide +kernel
theorem dX11_likeliest_5 : decode cX11_likeliest 5 = .ok (.aload_n 0, 1) := by decide +kernel
theorem dX11_likeliest_6 : decode cX11_likeliest 6 = .ok (.iconst 0, 1) := by decide +kernel
theorem dX11_likeliest_7 : decode cX11_likeliest 7 = .ok (.putfield 109, 3) := by decide +kernel
theorem dX11_likeliest_10 : decode cX11_likeliest 10 = .ok (.iload_n 1, 1) := by decide +kernel
theorem dX11_likeliest_11 : decode cX11_likeliest 11 = .ok (.i2l, 1) := by decide +kernel
theorem dX11_likeliest_12 : decode cX11_likeliest 12 = .ok (.lconst 0, 1) := by decide +kernel
theorem dX11_likeliest_13 : decode cX11_likeliest 13 = .ok (.aload_n 0, 1) := by decide +kernel
theorem dX11_likeliest_14 : decode cX11_likeliest 14 = .ok (.getfield 290, 3) := by decide +kernel
theorem dX11_likeliest_17 : decode cX11_likeliest 17 = .ok (.iconst 1, 1) := by decide +kernel
theorem dX11_likeliest_18 : decode cX11_likeliest 18 = .ok (.isub, 1) := by decide +kernel
theorem dX11_likeliest_19 : decode cX11_likeliest 19 = .ok (.i2l, 1) := by decide +kernel
theorem dX11_likeliest_20 : decode cX11_likeliest 20 = .ok (.invokestatic 228, 3) := by decide +kernel
theorem dX11_likeliest_23 : decode cX11_likeliest 23 = .ok (.ifCond .ne 9, 3) := by decide +kernel
theorem dX11_likeliest_26 : decode cX11_likeliest 26 = .ok (.aload_n 0, 1) := by decide +kernel
theorem dX11_likeliest_27 : decode cX11_likeliest 27 = .ok (.iconst 2, 1) := by decide +kernel
theorem dX11_likeliest_28 : decode cX11_likeliest 28 = .ok (.invokevirtual 272, 3) := by decide +kernel
theorem dX11_likeliest_31 : decode cX11_likeliest 31 = .ok (.ireturn, 1) := by decide +kernel
theorem dX11_likeliest_32 : decode cX11_likeliest 32 = .ok (.iconst 0, 1) := by decide +kernel
theorem dX11_likeliest_33 : decode cX11_likeliest 33 = .ok (.istore_n 2, 1) := by decide +kernel
theorem dX11_likeliest_34 : decode cX11_likeliest 34 = .ok (.iconst 0, 1) := by decide +kernel
theorem dX11_likeliest_35 : decode cX11_likeliest 35 = .ok (.istore_n 3, 1) := by decide +kernel
theorem dX11_likeliest_36 : decode cX11_likeliest 36 = .ok (.iconst 0, 1) := by decide +kernel
theorem dX11_likeliest_37 : decode cX11_likeliest 37 = .ok (.istore 4, 2) := by decide +kernel
theorem dX11_likeliest_39 : decode cX11_likeliest 39 = .ok (.iload 4, 2) := by decide +kernel
theorem dX11_likeliest_41 : decode cX11_likeliest 41 = .ok (.aload_n 0, 1) := by decide +kernel
theorem dX11_likeliest_42 : decode cX11_likeliest 42 = .ok (.getfield 293, 3) := by decide +kernel
theorem dX11_likeliest_45 : decode cX11_likeliest 45 = .ok (.if_icmp .ge 73, 3) := by decide +kernel
theorem dX11_likeliest_48 : decode cX11_likeliest 48 = .ok (.aload_n 0, 1) := by decide +kernel
theorem dX11_likeliest_49 : decode cX11_likeliest 49 = .ok (.iload 4, 2) := by decide +kernel
theorem dX11_likeliest_51 : decode cX11_likeliest 51 = .ok (.iload_n 1, 1) := by decide +kernel
theorem dX11_likeliest_52 : decode cX11_likeliest 52 = .ok (.invokevirtual 399, 3) := by decide +kernel
theorem dX11_likeliest_55 : decode cX11_likeliest 55 = .ok (.ifCond .ne 6, 3) := by decide +kernel
theorem dX11_likeliest_58 : decode cX11_likeliest 58 = .ok (.goto 54, 3) := by decide +kernel
theorem dX11_likeliest_61 : decode cX11_likeliest 61 = .ok (.aload_n 0, 1) := by decide +kernel
theorem dX11_likeliest_62 : decode cX11_likeliest 62 = .ok (.iload_n 1, 1) := by decide +kernel
theorem dX11_likeliest_63 : decode cX11_likeliest 63 = .ok (.aload_n 0, 1) := by decide +kernel
theorem dX11_likeliest_64 : decode cX11_likeliest 64 = .ok (.getfield 78, 3) := by decide +kernel
theorem dX11_likeliest_67 : decode cX11_likeliest 67 = .ok (.bipush 12, 2) := by decide +kernel
theorem dX11_likeliest_69 : decode cX11_likeliest 69 = .ok (.iload 4, 2) := by decide +kernel
theorem dX11_likeliest_71 : decode cX11_likeliest 71 = .ok (.imul, 1) := by decide +kernel
theorem dX11_likeliest_72 : decode cX11_likeliest 72 = .ok (.aload_n 0, 1) := by decide +kernel
theorem dX11_likeliest_73 : decode cX11_likeliest 73 = .ok (.getfield 41, 3) := by decide +kernel
theorem dX11_likeliest_76 : decode cX11_likeliest 76 = .ok (.iload_n 1, 1) := by decide +kernel
theorem dX11_likeliest_77 : decode cX11_likeliest 77 = .ok (.iaload, 1) := by decide +kernel
theorem dX11_likeliest_78 : decode cX11_likeliest 78 = .ok (.iadd, 1) := by decide +kernel
theorem dX11_likeliest_79 : decode cX11_likeliest 79 = .ok (.iaload, 1) := by decide +kernel
theorem dX11_likeliest_80 : decode cX11_likeliest 80 = .ok (.aload_n 0, 1) := by decide +kernel
theorem dX11_likeliest_81 : decode cX11_likeliest 81 = .ok (.getfield 78, 3) := by decide +kernel
theorem dX11_likeliest_84 : decode cX11_likeliest 84 = .ok (.bipush 12, 2) := by decide +kernel
theorem dX11_likeliest_86 : decode cX11_likeliest 86 = .ok (.iload 4, 2) := by decide +kernel
theorem dX11_likeliest_88 : decode cX11_likeliest 88 = .ok (.imul, 1) := by decide +kernel
theorem dX11_likeliest_89 : decode cX11_likeliest 89 = .ok (.aload_n 0, 1) := by decide +kernel
theorem dX11_likeliest_90 : decode cX11_likeliest 90 = .ok (.getfield 44, 3) := by decide +kernel
theorem dX11_likeliest_93 : decode cX11_likeliest 93 = .ok (.iload_n 1, 1) := by decide +kernel
theorem dX11_likeliest_94 : decode cX11_likeliest 94 = .ok (.iaload, 1) := by decide +kernel
theorem dX11_likeliest_95 : decode cX11_likeliest 95 = .ok (.iadd, 1) := by decide +kernel
theorem dX11_likeliest_96 : decode cX11_likeliest 96 = .ok (.iaload, 1) := by decide +kernel
theorem dX11_likeliest_97 : decode cX11_likeliest 97 = .ok (.invokevirtual 402, 3) := by decide +kernel
theorem dX11_likeliest_100 : decode cX11_likeliest 100 = .ok (.ifCond .eq 9, 3) := by decide +kernel
theorem dX11_likeliest_103 : decode cX11_likeliest 103 = .ok (.iinc 2 1, 3) := by decide +kernel
theorem dX11_likeliest_106 : decode cX11_likeliest 106 = .ok (.goto 6, 3) := by decide +kernel
theorem dX11_likeliest_109 : decode cX11_likeliest 109 = .ok (.iinc 3 1, 3) := by decide +kernel
theorem dX11_likeliest_112 : decode cX11_likeliest 112 = .ok (.iinc 4 1, 3) := by decide +kernel
theorem dX11_likeliest_115 : decode cX11_likeliest 115 = .ok (.goto (-76), 3) := by decide +kernel
theorem dX11_likeliest_118 : decode cX11_likeliest 118 = .ok (.iload_n 2, 1) := by decide +kernel
theorem dX11_likeliest_119 : decode cX11_likeliest 119 = .ok (.iload_n 3, 1) := by decide +kernel
theorem dX11_likeliest_120 : decode cX11_likeliest 120 = .ok (.iadd, 1) := by decide +kernel
theorem dX11_likeliest_121 : decode cX11_likeliest 121 = .ok (.ifCond .ne 10, 3) := by decide +kernel
theorem dX11_likeliest_124 : decode cX11_likeliest 124 = .ok (.aload_n 0, 1) := by decide +kernel
theorem dX11_likeliest_125 : decode cX11_likeliest 125 = .ok (.bipush 8, 2) := by decide +kernel
theorem dX11_likeliest_127 : decode cX11_likeliest 127 = .ok (.invokevirtual 272, 3) := by decide +kernel
theorem dX11_likeliest_130 : decode cX11_likeliest 130 = .ok (.ireturn, 1) := by decide +kernel
theorem dX11_likeliest_131 : decode cX11_likeliest 131 = .ok (.iconst 0, 1) := by decide +kernel
theorem dX11_likeliest_132 : decode cX11_likeliest 132 = .ok (.istore 4, 2) := by decide +kernel
theorem dX11_likeliest_134 : decode cX11_likeliest 134 = .ok (.iconst 1, 1) := by decide +kernel
theorem dX11_likeliest_135 : decode cX11_likeliest 135 = .ok (.istore 5, 2) := by decide +kernel
theorem dX11_likeliest_137 : decode cX11_likeliest 137 = .ok (.iload 5, 2) := by decide +kernel
theorem dX11_likeliest_139 : decode cX11_likeliest 139 = .ok (.bipush 16, 2) := by decide +kernel
theorem dX11_likeliest_141 : decode cX11_likeliest 141 = .ok (.if_icmp .gt 53, 3) := by decide +kernel
theorem dX11_likeliest_144 : decode cX11_likeliest 144 = .ok (.iload 5, 2) := by decide +kernel
theorem dX11_likeliest_146 : decode cX11_likeliest 146 = .ok (.i2l, 1) := by decide +kernel
theorem dX11_likeliest_147 : decode cX11_likeliest 147 = .ok (.iload_n 2, 1) := by decide +kernel
theorem dX11_likeliest_148 : decode cX11_likeliest 148 = .ok (.invokestatic 405, 3) := by decide +kernel
theorem dX11_likeliest_151 : decode cX11_likeliest 151 = .ok (.bipush 16, 2) := by decide +kernel
theorem dX11_likeliest_153 : decode cX11_likeliest 153 = .ok (.iload 5, 2) := by decide +kernel
theorem dX11_likeliest_155 : decode cX11_likeliest 155 = .ok (.isub, 1) := by decide +kernel
theorem dX11_likeliest_156 : decode cX11_likeliest 156 = .ok (.i2l, 1) := by decide +kernel
theorem dX11_likeliest_157 : decode cX11_likeliest 157 = .ok (.iload_n 3, 1) := by decide +kernel
theorem dX11_likeliest_158 : decode cX11_likeliest 158 = .ok (.invokestatic 405, 3) := by decide +kernel
theorem dX11_likeliest_161 : decode cX11_likeliest 161 = .ok (.lmul, 1) := by decide +kernel
theorem dX11_likeliest_162 : decode cX11_likeliest 162 = .ok (.iload 4, 2) := by decide +kernel
theorem dX11_likeliest_164 : decode cX11_likeliest 164 = .ok (.i2l, 1) := by decide +kernel
theorem dX11_likeliest_165 : decode cX11_likeliest 165 = .ok (.iload_n 2, 1) := by decide +kernel
theorem dX11_likeliest_166 : decode cX11_likeliest 166 = .ok (.invokestatic 405, 3) := by decide +kernel
theorem dX11_likeliest_169 : decode cX11_likeliest 169 = .ok (.bipush 16, 2) := by decide +kernel
theorem dX11_likeliest_171 : decode cX11_likeliest 171 = .ok (.iload 4, 2) := by decide +kernel
theorem dX11_likeliest_173 : decode cX11_likeliest 173 = .ok (.isub, 1) := by decide +kernel
theorem dX11_likeliest_174 : decode cX11_likeliest 174 = .ok (.i2l, 1) := by decide +kernel
theorem dX11_likeliest_175 : decode cX11_likeliest 175 = .ok (.iload_n 3, 1) := by decide +kernel
theorem dX11_likeliest_176 : decode cX11_likeliest 176 = .ok (.invokestatic 405, 3) := by decide +kernel
theorem dX11_likeliest_179 : decode cX11_likeliest 179 = .ok (.lmul, 1) := by decide +kernel
theorem dX11_likeliest_180 : decode cX11_likeliest 180 = .ok (.lcmp, 1) := by decide +kernel
theorem dX11_likeliest_181 : decode cX11_likeliest 181 = .ok (.ifCond .le 7, 3) := by decide +kernel
theorem dX11_likeliest_184 : decode cX11_likeliest 184 = .ok (.iload 5, 2) := by decide +kernel
theorem dX11_likeliest_186 : decode cX11_likeliest 186 = .ok (.istore 4, 2) := by decide +kernel
theorem dX11_likeliest_188 : decode cX11_likeliest 188 = .ok (.iinc 5 1, 3) := by decide +kernel
theorem dX11_likeliest_191 : decode cX11_likeliest 191 = .ok (.goto (-54), 3) := by decide +kernel
theorem dX11_likeliest_194 : decode cX11_likeliest 194 = .ok (.iload 4, 2) := by decide +kernel
theorem dX11_likeliest_196 : decode cX11_likeliest 196 = .ok (.ireturn, 1) := by decide +kernel
def wb_X11_likeliest_39 (I : HI) (J : HJ) (x1 : Int32) (Post : Int32 → HI → Prop) (E39 : Int32 → Int32 → Prop) (K39 : (Int32 × Int32 × Int32) → Prop) (s : Int32 × Int32 × Int32) : Prop :=
  match s with
  | (x2, x3, x4) => ((I 72 38) ≤ x4 → (E39 x2 x3)) ∧ (¬ (I 72 38) ≤ x4 → (w_X11_isTried x4 x1 I J (fun (r_4 : Bool) => ((r_4 = true → (vp_in x1 10 ∧ (vp_in ((12 * x4) + (I 79 (Int32.toNatClampNeg x1))) 180 ∧ (vp_in x1 10 ∧ (vp_in ((12 * x4) + (I 80 (Int32.toNatClampNeg x1))) 180 ∧ (w_X11_hasTold x1 (I 91 (Int32.toNatClampNeg ((12 * x4) + (I 79 (Int32.toNatClampNeg x1))))) (I 91 (Int32.toNatClampNeg ((12 * x4) + (I 80 (Int32.toNatClampNeg x1))))) I J (fun (r_5 : Bool) => ((r_5 = false → (K39 (x2, (x3 + 1), (x4 + 1)))) ∧ (r_5 = true → (K39 ((x2 + 1), x3, (x4 + 1)))))))))))) ∧ (r_4 = false → (K39 (x2, x3, (x4 + 1))))))))
set_option maxHeartbeats 4000000 in
set_option maxRecDepth 20000 in
theorem ws_X11_likeliest_39 (g : kf_G) (hg : kf_g g) {x : kf_X} (hx : kf_ok g x RX11 cX11_likeliest 6 2 44) (I : HI) (J : HJ) (x1 : Int32) (Post : Int32 → HI → Prop) (hret : ∀ (pc : Nat) (lv : List (Nat × Value)) (v : Int32) (Iy : HI), decode cX11_likeliest pc = .ok (.ireturn, 1) → Post v Iy → kf_M g x 6 pc lv [.int v] Iy J) (E39 : Int32 → Int32 → Prop) (hE39 : ∀ (y2 : Int32) (y3 : Int32), E39 y2 y3 → kf_M g x 6 118 [(0, .ref (g.2.2.2 72)), (2, .int y2), (3, .int y3)] [] I J) (K39 : (Int32 × Int32 × Int32) → Prop) (hK39 : ∀ (y2 : Int32) (y3 : Int32) (y4 : Int32), K39 (y2, y3, y4) → kf_M g x 6 39 [(0, .ref (g.2.2.2 72)), (1, .int x1), (2, .int y2), (3, .int y3), (4, .int y4)] [] I J) (x2 : Int32) (x3 : Int32) (x4 : Int32) (h : wb_X11_likeliest_39 I J x1 Post E39 K39 (x2, x3, x4)) : kf_M g x 6 39 [(0, .ref (g.2.2.2 72)), (1, .int x1), (2, .int x2), (3, .int x3), (4, .int x4)] [] I J := by
  unfold wb_X11_likeliest_39 at h
  refine kf_iload hx dX11_likeliest_39 4 rfl ?_
  refine kf_aload_n hx dX11_likeliest_41 rfl 0 rfl ?_
  refine kf_getI hx sl_72_38 fl_RX11_293 dX11_likeliest_42 ?_
  refine kf_icmp_ge hx 118 dX11_likeliest_45 (by decide) (fun c => ?_) (fun c => ?_)
  · replace h := h.1 c
    refine kf_sub [0, 2, 3] rfl ?_
    exact hE39 _ _ h
  · replace h := h.2 c
    refine kf_aload_n hx dX11_likeliest_48 rfl 0 rfl ?_
    refine kf_iload hx dX11_likeliest_49 4 rfl ?_
    refine kf_iload_n hx dX11_likeliest_51 rfl 1 rfl ?_
    refine kf_callVbP (st := []) hx (m_X11_isTried g hg x4 x1 I J _ h) lk_RX11_399 km_X11_isTried ob_72 rfl (by decide) rfl (Nat.le_of_ble_eq_true rfl) dX11_likeliest_52 (fun r_4 h => ?_)
    refine kf_ifB_ne hx 61 dX11_likeliest_55 (by decide) (fun c => ?_) (fun c => ?_)
    · replace h := h.1 c
      refine kf_aload_n hx dX11_likeliest_61 rfl 0 rfl ?_
      refine kf_iload_n hx dX11_likeliest_62 rfl 1 rfl ?_
      refine kf_aload_n hx dX11_likeliest_63 rfl 0 rfl ?_
      refine kf_getR (n := 91) hx sl_72_39 fl_RX11_78 dX11_likeliest_64 ?_
      refine kf_bipush (v := 12) hx dX11_likeliest_67 (by decide) ?_
      refine kf_iload hx dX11_likeliest_69 4 rfl ?_
      refine kf_imul hx dX11_likeliest_71 ?_
      refine kf_aload_n hx dX11_likeliest_72 rfl 0 rfl ?_
      refine kf_getR (n := 79) hx sl_72_26 fl_RX11_41 dX11_likeliest_73 ?_
      refine kf_iload_n hx dX11_likeliest_76 rfl 1 rfl ?_
      refine kf_iald hx ar_79 h.1 dX11_likeliest_77 ?_
      replace h := h.2
      refine kf_iadd hx dX11_likeliest_78 ?_
      refine kf_iald hx ar_91 h.1 dX11_likeliest_79 ?_
      replace h := h.2
      refine kf_aload_n hx dX11_likeliest_80 rfl 0 rfl ?_
      refine kf_getR (n := 91) hx sl_72_39 fl_RX11_78 dX11_likeliest_81 ?_
      refine kf_bipush (v := 12) hx dX11_likeliest_84 (by decide) ?_
      refine kf_iload hx dX11_likeliest_86 4 rfl ?_
      refine kf_imul hx dX11_likeliest_88 ?_
      refine kf_aload_n hx dX11_likeliest_89 rfl 0 rfl ?_
      refine kf_getR (n := 80) hx sl_72_27 fl_RX11_44 dX11_likeliest_90 ?_
      refine kf_iload_n hx dX11_likeliest_93 rfl 1 rfl ?_
      refine kf_iald hx ar_80 h.1 dX11_likeliest_94 ?_
      replace h := h.2
      refine kf_iadd hx dX11_likeliest_95 ?_
      refine kf_iald hx ar_91 h.1 dX11_likeliest_96 ?_
      replace h := h.2
      refine kf_callVbP (st := []) hx (m_X11_hasTold g hg x1 (I 91 (Int32.toNatClampNeg ((12 * x4) + (I 79 (Int32.toNatClampNeg x1))))) (I 91 (Int32.toNatClampNeg ((12 * x4) + (I 80 (Int32.toNatClampNeg x1))))) I J _ h) lk_RX11_402 km_X11_hasTold ob_72 rfl (by decide) rfl (Nat.le_of_ble_eq_true rfl) dX11_likeliest_97 (fun r_5 h => ?_)
      refine kf_ifB_eq hx 109 dX11_likeliest_100 (by decide) (fun c => ?_) (fun c => ?_)
      · replace h := h.1 c
        refine kf_iinc (w := (x3 + 1)) (lv' := [(3, .int (x3 + 1)), (0, .ref (g.2.2.2 72)), (1, .int x1), (2, .int x2), (4, .int x4)]) hx dX11_likeliest_109 3 rfl rfl (by decide) rfl ?_
        refine kf_iinc (w := (x4 + 1)) (lv' := [(4, .int (x4 + 1)), (3, .int (x3 + 1)), (0, .ref (g.2.2.2 72)), (1, .int x1), (2, .int x2)]) hx dX11_likeliest_112 4 rfl rfl (by decide) rfl ?_
        refine kf_goto hx 39 dX11_likeliest_115 (by decide) ?_
        refine kf_sub [2, 3, 4, 1, 0] rfl ?_
        exact hK39 _ _ _ h
      · replace h := h.2 c
        refine kf_iinc (w := (x2 + 1)) (lv' := [(2, .int (x2 + 1)), (0, .ref (g.2.2.2 72)), (1, .int x1), (3, .int x3), (4, .int x4)]) hx dX11_likeliest_103 2 rfl rfl (by decide) rfl ?_
        refine kf_goto hx 112 dX11_likeliest_106 (by decide) ?_
        refine kf_iinc (w := (x4 + 1)) (lv' := [(4, .int (x4 + 1)), (2, .int (x2 + 1)), (0, .ref (g.2.2.2 72)), (1, .int x1), (3, .int x3)]) hx dX11_likeliest_112 4 rfl rfl (by decide) rfl ?_
        refine kf_goto hx 39 dX11_likeliest_115 (by decide) ?_
        refine kf_sub [2, 3, 1, 4, 0] rfl ?_
        exact hK39 _ _ _ h
    · replace h := h.2 c
      refine kf_goto hx 112 dX11_likeliest_58 (by decide) ?_
      refine kf_iinc (w := (x4 + 1)) (lv' := [(4, .int (x4 + 1)), (0, .ref (g.2.2.2 72)), (1, .int x1), (2, .int x2), (3, .int x3)]) hx dX11_likeliest_112 4 rfl rfl (by decide) rfl ?_
      refine kf_goto hx 39 dX11_likeliest_115 (by decide) ?_
      refine kf_sub [1, 2, 3, 4, 0] rfl ?_
      exact hK39 _ _ _ h
theorem wl_X11_likeliest_39 (g : kf_G) (hg : kf_g g) {x : kf_X} (hx : kf_ok g x RX11 cX11_likeliest 6 2 44) (I : HI) (J : HJ) (x1 : Int32) (Post : Int32 → HI → Prop) (hret : ∀ (pc : Nat) (lv : List (Nat × Value)) (v : Int32) (Iy : HI), decode cX11_likeliest pc = .ok (.ireturn, 1) → Post v Iy → kf_M g x 6 pc lv [.int v] Iy J) (E39 : Int32 → Int32 → Prop) (hE39 : ∀ (y2 : Int32) (y3 : Int32), E39 y2 y3 → kf_M g x 6 118 [(0, .ref (g.2.2.2 72)), (2, .int y2), (3, .int y3)] [] I J) : ∀ (n : Nat) (x2 : Int32) (x3 : Int32) (x4 : Int32), lp (wb_X11_likeliest_39 I J x1 Post E39) n (x2, x3, x4) → kf_M g x 6 39 [(0, .ref (g.2.2.2 72)), (1, .int x1), (2, .int x2), (3, .int x3), (4, .int x4)] [] I J := by
  intro n
  induction n with
  | zero => intro x2 x3 x4 h; exact h.elim
  | succ n ih => intro x2 x3 x4 h; exact ws_X11_likeliest_39 g hg hx I J x1 Post hret E39 hE39 (lp (wb_X11_likeliest_39 I J x1 Post E39) n) ih x2 x3 x4 h
def wb_X11_likeliest_137 (I : HI) (J : HJ) (x2 : Int32) (x3 : Int32) (Post : Int32 → HI → Prop) (E137 : Int32 → Prop) (K137 : (Int32 × Int32) → Prop) (s : Int32 × Int32) : Prop :=
  match s with
  | (x4, x5) => (16 < x5 → (E137 x4)) ∧ (¬ 16 < x5 → (w_X11_power (Int32.toInt64 x5) x2 (fun (r_8 : Int64) => (w_X11_power (Int32.toInt64 (16 - x5)) x3 (fun (r_9 : Int64) => (w_X11_power (Int32.toInt64 x4) x2 (fun (r_10 : Int64) => (w_X11_power (Int32.toInt64 (16 - x4)) x3 (fun (r_11 : Int64) => (((r_8 * r_9) ≤ (r_10 * r_11) → (K137 (x4, (x5 + 1)))) ∧ (¬ (r_8 * r_9) ≤ (r_10 * r_11) → (K137 (x5, (x5 + 1))))))))))))))
set_option maxHeartbeats 4000000 in
set_option maxRecDepth 20000 in
theorem ws_X11_likeliest_137 (g : kf_G) (hg : kf_g g) {x : kf_X} (hx : kf_ok g x RX11 cX11_likeliest 6 2 44) (I : HI) (J : HJ) (x2 : Int32) (x3 : Int32) (Post : Int32 → HI → Prop) (hret : ∀ (pc : Nat) (lv : List (Nat × Value)) (v : Int32) (Iy : HI), decode cX11_likeliest pc = .ok (.ireturn, 1) → Post v Iy → kf_M g x 6 pc lv [.int v] Iy J) (E137 : Int32 → Prop) (hE137 : ∀ (y4 : Int32), E137 y4 → kf_M g x 6 194 [(4, .int y4)] [] I J) (K137 : (Int32 × Int32) → Prop) (hK137 : ∀ (y4 : Int32) (y5 : Int32), K137 (y4, y5) → kf_M g x 6 137 [(2, .int x2), (3, .int x3), (4, .int y4), (5, .int y5)] [] I J) (x4 : Int32) (x5 : Int32) (h : wb_X11_likeliest_137 I J x2 x3 Post E137 K137 (x4, x5)) : kf_M g x 6 137 [(2, .int x2), (3, .int x3), (4, .int x4), (5, .int x5)] [] I J := by
  unfold wb_X11_likeliest_137 at h
  refine kf_iload hx dX11_likeliest_137 3 rfl ?_
  refine kf_bipush (v := 16) hx dX11_likeliest_139 (by decide) ?_
  refine kf_icmp_gt hx 194 dX11_likeliest_141 (by decide) (fun c => ?_) (fun c => ?_)
  · replace h := h.1 c
    refine kf_sub [2] rfl ?_
    exact hE137 _ h
  · replace h := h.2 c
    refine kf_iload hx dX11_likeliest_144 3 rfl ?_
    refine kf_i2l hx dX11_likeliest_146 ?_
    refine kf_iload_n hx dX11_likeliest_147 rfl 0 rfl ?_
    refine kf_callSlP (st := []) hx (m_X11_power g hg (Int32.toInt64 x5) x2 I J _ h) lk_RX11_405 km_X11_power rfl (by decide) rfl (Nat.le_of_ble_eq_true rfl) dX11_likeliest_148 (fun r_8 h => ?_)
    refine kf_bipush (v := 16) hx dX11_likeliest_151 (by decide) ?_
    refine kf_iload hx dX11_likeliest_153 3 rfl ?_
    refine kf_isub hx dX11_likeliest_155 ?_
    refine kf_i2l hx dX11_likeliest_156 ?_
    refine kf_iload_n hx dX11_likeliest_157 rfl 1 rfl ?_
    refine kf_callSlP (st := [.long r_8]) hx (m_X11_power g hg (Int32.toInt64 (16 - x5)) x3 I J _ h) lk_RX11_405 km_X11_power rfl (by decide) rfl (Nat.le_of_ble_eq_true rfl) dX11_likeliest_158 (fun r_9 h => ?_)
    refine kf_lmul hx dX11_likeliest_161 ?_
    refine kf_iload hx dX11_likeliest_162 2 rfl ?_
    refine kf_i2l hx dX11_likeliest_164 ?_
    refine kf_iload_n hx dX11_likeliest_165 rfl 0 rfl ?_
    refine kf_callSlP (st := [.long (r_8 * r_9)]) hx (m_X11_power g hg (Int32.toInt64 x4) x2 I J _ h) lk_RX11_405 km_X11_power rfl (by decide) rfl (Nat.le_of_ble_eq_true rfl) dX11_likeliest_166 (fun r_10 h => ?_)
    refine kf_bipush (v := 16) hx dX11_likeliest_169 (by decide) ?_
    refine kf_iload hx dX11_likeliest_171 2 rfl ?_
    refine kf_isub hx dX11_likeliest_173 ?_
    refine kf_i2l hx dX11_likeliest_174 ?_
    refine kf_iload_n hx dX11_likeliest_175 rfl 1 rfl ?_
    refine kf_callSlP (st := [.long r_10, .long (r_8 * r_9)]) hx (m_X11_power g hg (Int32.toInt64 (16 - x4)) x3 I J _ h) lk_RX11_405 km_X11_power rfl (by decide) rfl (Nat.le_of_ble_eq_true rfl) dX11_likeliest_176 (fun r_11 h => ?_)
    refine kf_lmul hx dX11_likeliest_179 ?_
    refine kf_l_le hx 188 dX11_likeliest_180 dX11_likeliest_181 (by decide) (fun c => ?_) (fun c => ?_)
    · replace h := h.1 c
      refine kf_iinc (w := (x5 + 1)) (lv' := [(5, .int (x5 + 1)), (2, .int x2), (3, .int x3), (4, .int x4)]) hx dX11_likeliest_188 3 rfl rfl (by decide) rfl ?_
      refine kf_goto hx 137 dX11_likeliest_191 (by decide) ?_
      refine kf_sub [1, 2, 3, 0] rfl ?_
      exact hK137 _ _ h
    · replace h := h.2 c
      refine kf_iload hx dX11_likeliest_184 3 rfl ?_
      refine kf_istore (lv' := [(4, .int x5), (2, .int x2), (3, .int x3), (5, .int x5)]) hx dX11_likeliest_186 (by decide) rfl ?_
      refine kf_iinc (w := (x5 + 1)) (lv' := [(5, .int (x5 + 1)), (4, .int x5), (2, .int x2), (3, .int x3)]) hx dX11_likeliest_188 3 rfl rfl (by decide) rfl ?_
      refine kf_goto hx 137 dX11_likeliest_191 (by decide) ?_
      refine kf_sub [2, 3, 1, 0] rfl ?_
      exact hK137 _ _ h
theorem wl_X11_likeliest_137 (g : kf_G) (hg : kf_g g) {x : kf_X} (hx : kf_ok g x RX11 cX11_likeliest 6 2 44) (I : HI) (J : HJ) (x2 : Int32) (x3 : Int32) (Post : Int32 → HI → Prop) (hret : ∀ (pc : Nat) (lv : List (Nat × Value)) (v : Int32) (Iy : HI), decode cX11_likeliest pc = .ok (.ireturn, 1) → Post v Iy → kf_M g x 6 pc lv [.int v] Iy J) (E137 : Int32 → Prop) (hE137 : ∀ (y4 : Int32), E137 y4 → kf_M g x 6 194 [(4, .int y4)] [] I J) : ∀ (n : Nat) (x4 : Int32) (x5 : Int32), lp (wb_X11_likeliest_137 I J x2 x3 Post E137) n (x4, x5) → kf_M g x 6 137 [(2, .int x2), (3, .int x3), (4, .int x4), (5, .int x5)] [] I J := by
  intro n
  induction n with
  | zero => intro x4 x5 h; exact h.elim
  | succ n ih => intro x4 x5 h; exact ws_X11_likeliest_137 g hg hx I J x2 x3 Post hret E137 hE137 (lp (wb_X11_likeliest_137 I J x2 x3 Post E137) n) ih x4 x5 h
def w_X11_likeliest (x1 : Int32) (I : HI) (J : HJ) (Post : Int32 → HI → Prop) : Prop :=
  ∀ I_1 : HI, I_1 = hI I 72 1 0 → (∀ I_2 : HI, I_2 = hI I_1 72 0 0 → (w_X11_isIn (Int32.toInt64 x1) 0 (Int32.toInt64 ((I_2 72 21) - 1)) (fun (r_3 : Bool) => ((r_3 = true → (∃ n, lp (wb_X11_likeliest_39 I_2 J x1 Post (fun (x2_6 : Int32) (x3_7 : Int32) => (¬ (x2_6 + x3_7) = 0 → (∃ n, lp (wb_X11_likeliest_137 I_2 J x2_6 x3_7 Post (fun (x4_12 : Int32) => Post x4_12 I_2)) n (0, 1))) ∧ ((x2_6 + x3_7) = 0 → (w_X11_refusedBy 8 I_2 J (fun (r_13 : Int32) (I_14 : HI) => (Post r_13 I_14)))))) n (0, 0, 0))) ∧ (r_3 = false → (w_X11_refusedBy 2 I_2 J (fun (r_15 : Int32) (I_16 : HI) => (Post r_15 I_16))))))))
set_option maxHeartbeats 4000000 in
set_option maxRecDepth 20000 in
theorem we_X11_likeliest (g : kf_G) (hg : kf_g g) {x : kf_X} (hx : kf_ok g x RX11 cX11_likeliest 6 2 44) (x1 : Int32) (I : HI) (J : HJ) (Post : Int32 → HI → Prop) (hret : ∀ (pc : Nat) (lv : List (Nat × Value)) (v : Int32) (Iy : HI), decode cX11_likeliest pc = .ok (.ireturn, 1) → Post v Iy → kf_M g x 6 pc lv [.int v] Iy J) (h : w_X11_likeliest x1 I J Post) : kf_M g x 6 0 [(0, .ref (g.2.2.2 72)), (1, .int x1)] [] I J := by
  unfold w_X11_likeliest at h
  refine kf_aload_n hx dX11_likeliest_0 rfl 0 rfl ?_
  refine kf_iconst (v := 0) hx dX11_likeliest_1 (by decide) ?_
  refine kf_putI hx sl_72_1 fl_RX11_106 fp_11_1 dX11_likeliest_2 ?_
  refine kf_nmI (fun I_1 eI_1 => ?_)
  replace h := h I_1 eI_1
  refine kf_aload_n hx dX11_likeliest_5 rfl 0 rfl ?_
  refine kf_iconst (v := 0) hx dX11_likeliest_6 (by decide) ?_
  refine kf_putI hx sl_72_0 fl_RX11_109 fp_11_0 dX11_likeliest_7 ?_
  refine kf_nmI (fun I_2 eI_2 => ?_)
  replace h := h I_2 eI_2
  refine kf_iload_n hx dX11_likeliest_10 rfl 1 rfl ?_
  refine kf_i2l hx dX11_likeliest_11 ?_
  refine kf_lconst (v := 0) hx dX11_likeliest_12 (by decide) ?_
  refine kf_aload_n hx dX11_likeliest_13 rfl 0 rfl ?_
  refine kf_getI hx sl_72_21 fl_RX11_290 dX11_likeliest_14 ?_
  refine kf_iconst (v := 1) hx dX11_likeliest_17 (by decide) ?_
  refine kf_isub hx dX11_likeliest_18 ?_
  refine kf_i2l hx dX11_likeliest_19 ?_
  refine kf_callSbP (st := []) hx (m_X11_isIn g hg (Int32.toInt64 x1) 0 (Int32.toInt64 ((I_2 72 21) - 1)) I_2 J _ h) lk_RX11_228 km_X11_isIn rfl (by decide) rfl (Nat.le_of_ble_eq_true rfl) dX11_likeliest_20 (fun r_3 h => ?_)
  refine kf_ifB_ne hx 32 dX11_likeliest_23 (by decide) (fun c => ?_) (fun c => ?_)
  · replace h := h.1 c
    refine kf_iconst (v := 0) hx dX11_likeliest_32 (by decide) ?_
    refine kf_istore_n (lv' := [(2, .int 0), (0, .ref (g.2.2.2 72)), (1, .int x1)]) hx dX11_likeliest_33 rfl (by decide) rfl ?_
    refine kf_iconst (v := 0) hx dX11_likeliest_34 (by decide) ?_
    refine kf_istore_n (lv' := [(3, .int 0), (2, .int 0), (0, .ref (g.2.2.2 72)), (1, .int x1)]) hx dX11_likeliest_35 rfl (by decide) rfl ?_
    refine kf_iconst (v := 0) hx dX11_likeliest_36 (by decide) ?_
    refine kf_istore (lv' := [(4, .int 0), (3, .int 0), (2, .int 0), (0, .ref (g.2.2.2 72)), (1, .int x1)]) hx dX11_likeliest_37 (by decide) rfl ?_
    obtain ⟨n, h⟩ := h
    refine kf_sub [3, 4, 2, 1, 0] rfl ?_
    refine wl_X11_likeliest_39 g hg hx I_2 J x1 _ hret _ (fun x2_6 x3_7 h => ?_) n _ _ _ h
    refine kf_iload_n hx dX11_likeliest_118 rfl 1 rfl ?_
    refine kf_iload_n hx dX11_likeliest_119 rfl 2 rfl ?_
    refine kf_iadd hx dX11_likeliest_120 ?_
    refine kf_if_ne hx 131 dX11_likeliest_121 (by decide) (fun c => ?_) (fun c => ?_)
    · replace h := h.1 c
      refine kf_iconst (v := 0) hx dX11_likeliest_131 (by decide) ?_
      refine kf_istore (lv' := [(4, .int 0), (0, .ref (g.2.2.2 72)), (2, .int x2_6), (3, .int x3_7)]) hx dX11_likeliest_132 (by decide) rfl ?_
      refine kf_iconst (v := 1) hx dX11_likeliest_134 (by decide) ?_
      refine kf_istore (lv' := [(5, .int 1), (4, .int 0), (0, .ref (g.2.2.2 72)), (2, .int x2_6), (3, .int x3_7)]) hx dX11_likeliest_135 (by decide) rfl ?_
      obtain ⟨n, h⟩ := h
      refine kf_sub [3, 4, 1, 0] rfl ?_
      refine wl_X11_likeliest_137 g hg hx I_2 J x2_6 x3_7 _ hret _ (fun x4_12 h => ?_) n _ _ h
      refine kf_iload hx dX11_likeliest_194 0 rfl ?_
      exact hret _ _ x4_12 _ dX11_likeliest_196 h
    · replace h := h.2 c
      refine kf_aload_n hx dX11_likeliest_124 rfl 0 rfl ?_
      refine kf_bipush (v := 8) hx dX11_likeliest_125 (by decide) ?_
      refine kf_callViI (st := []) hx (m_X11_refusedBy g hg 8 I_2 J _ h) lk_RX11_272 km_X11_refusedBy ob_72 rfl (by decide) rfl (Nat.le_of_ble_eq_true rfl) dX11_likeliest_127 (fun r_13 I_14 h => ?_)
      exact hret _ _ r_13 _ dX11_likeliest_130 h
  · replace h := h.2 c
    refine kf_aload_n hx dX11_likeliest_26 rfl 0 rfl ?_
    refine kf_iconst (v := 2) hx dX11_likeliest_27 (by decide) ?_
    refine kf_callViI (st := []) hx (m_X11_refusedBy g hg 2 I_2 J _ h) lk_RX11_272 km_X11_refusedBy ob_72 rfl (by decide) rfl (Nat.le_of_ble_eq_true rfl) dX11_likeliest_28 (fun r_15 I_16 h => ?_)
    exact hret _ _ r_15 _ dX11_likeliest_31 h
set_option maxHeartbeats 4000000 in
set_option maxRecDepth 20000 in
theorem m_X11_likeliest (g : kf_G) (hg : kf_g g) (x1 : Int32) (I : HI) (J : HJ) (Post : Int32 → HI → Prop) (h : w_X11_likeliest x1 I J Post) : kf_Mi g yX11_likeliest (kf_W yX11_likeliest cX11_likeliest 6 (Option.some Jvm.ClassFile.FieldType.int)) 2 44 [.ref (g.2.2.2 72), .int x1] I J (fun v I' J' => Post v I' ∧ J' = J) :=
  kf_enti hg (by decide) (Nat.le_of_ble_eq_true rfl) rfl (fun x hx hr => we_X11_likeliest g hg hx x1 I J Post (fun pc lv v I' hd hP => hr pc lv v I' J hd ⟨hP, rfl⟩) h)
theorem dX11_neverTried_0 : decode cX11_neverTried 0 = .ok (.aload_n 0, 1) := by decide +kernel
theorem dX11_neverTried_1 : decode cX11_neverTried 1 = .ok (.iconst 0, 1) := by decide +kernel
theorem dX11_neverTried_2 : decode cX11_neverTried 2 = .ok (.putfield 106, 3) := by decide +kernel
theorem dX11_neverTried_5 : decode cX11_neverTried 5 = .ok (.aload_n 0, 1) := by decide +kernel
theorem dX11_neverTried_6 : decode cX11_neverTried 6 = .ok (.iconst 0, 1) := by decide +kernel
theorem dX11_neverTried_7 : decode cX11_neverTried 7 = .ok (.putfield 109, 3) := by decide +kernel
theorem dX11_neverTried_10 : decode cX11_neverTried 10 = .ok (.iconst 0, 1) := by decide +kernel
theorem dX11_neverTried_11 : decode cX11_neverTried 11 = .ok (.istore_n 1, 1) := by decide +kernel
theorem dX11_neverTried_12 : decode cX11_neverTried 12 = .ok (.iconst 0, 1) := by decide +kernel
theorem dX11_neverTried_13 : decode cX11_neverTried 13 = .ok (.istore_n 2, 1) := by decide +kernel
theorem dX11_neverTried_14 : decode cX11_neverTried 14 = .ok (.iload_n 2, 1) := by decide +kernel
theorem dX11_neverTried_15 : decode cX11_neverTried 15 = .ok (.aload_n 0, 1) := by decide +kernel
theorem dX11_neverTried_16 : decode cX11_neverTried 16 = .ok (.getfield 290, 3) := by decide +kernel
theorem dX11_neverTried_19 : decode cX11_neverTried 19 = .ok (.if_icmp .ge 63, 3) := by decide +kernel
theorem dX11_neverTried_22 : decode cX11_neverTried 22 = .ok (.iconst 0, 1) := by decide +kernel
theorem dX11_neverTried_23 : decode cX11_neverTried 23 = .ok (.istore_n 3, 1) := by decide +kernel
theorem dX11_neverTried_24 : decode cX11_neverTried 24 = .ok (.iconst 0, 1) := by decide +kernel
theorem dX11_neverTried_25 : decode cX11_neverTried 25 = .ok (.istore 4, 2) := by decide +kernel
theorem dX11_neverTried_27 : decode cX11_neverTried 27 = .ok (.iload 4, 2) := by decide +kernel
theorem dX11_neverTried_29 : decode cX11_neverTried 29 = .ok (.aload_n 0, 1) := by decide +kernel
theorem dX11_neverTried_30 : decode cX11_neverTried 30 = .ok (.getfield 293, 3) := by decide +kernel
theorem dX11_neverTried_33 : decode cX11_neverTried 33 = .ok (.if_icmp .ge 29, 3) := by decide +kernel
theorem dX11_neverTried_36 : decode cX11_neverTried 36 = .ok (.iload_n 3, 1) := by decide +kernel
theorem dX11_neverTried_37 : decode cX11_neverTried 37 = .ok (.ifCond .ne 13, 3) := by decide +kernel
theorem dX11_neverTried_40 : decode cX11_neverTried 40 = .ok (.aload_n 0, 1) := by decide +kernel
theorem dX11_neverTried_41 : decode cX11_neverTried 41 = .ok (.iload 4, 2) := by decide +kernel
theorem dX11_neverTried_43 : decode cX11_neverTried 43 = .ok (.iload_n 2, 1) := by decide +kernel
theorem dX11_neverTried_44 : decode cX11_neverTried 44 = .ok (.invokevirtual 399, 3) := by decide +kernel
theorem dX11_neverTried_47 : decode cX11_neverTried 47 = .ok (.ifCond .eq 7, 3) := by decide +kernel
theorem dX11_neverTried_50 : decode cX11_neverTried 50 = .ok (.iconst 1, 1) := by decide +kernel
theorem dX11_neverTried_51 : decode cX11_neverTried 51 = .ok (.goto 4, 3) := by decide +kernel
theorem dX11_neverTried_54 : decode cX11_neverTried 54 = .ok (.iconst 0, 1) := by decide +kernel
theorem dX11_neverTried_55 : decode cX11_neverTried 55 = .ok (.istore_n 3, 1) := by decide +kernel
theorem dX11_neverTried_56 : decode cX11_neverTried 56 = .ok (.iinc 4 1, 3) := by decide +kernel
theorem dX11_neverTried_59 : decode cX11_neverTried 59 = .ok (.goto (-32), 3) := by decide +kernel
theorem dX11_neverTried_62 : decode cX11_neverTried 62 = .ok (.iload_n 1, 1) := by decide +kernel
theorem dX11_neverTried_63 : decode cX11_neverTried 63 = .ok (.iload_n 3, 1) := by decide +kernel
theorem dX11_neverTried_64 : decode cX11_neverTried 64 = .ok (.ifCond .eq 7, 3) := by decide +kernel
theorem dX11_neverTried_67 : decode cX11_neverTried 67 = .ok (.iconst 0, 1) := by decide +kernel
theorem dX11_neverTried_68 : decode cX11_neverTried 68 = .ok (.goto 6, 3) := by decide +kernel
theorem dX11_neverTried_71 : decode cX11_neverTried 71 = .ok (.iconst 1, 1) := by decide +kernel
theorem dX11_neverTried_72 : decode cX11_neverTried 72 = .ok (.iload_n 2, 1) := by decide +kernel
theorem dX11_neverTried_73 : decode cX11_neverTried 73 = .ok (.ishl, 1) := by decide +kernel
theorem dX11_neverTried_74 : decode cX11_neverTried 74 = .ok (.ior, 1) := by decide +kernel
theorem dX11_neverTried_75 : decode cX11_neverTried 75 = .ok (.istore_n 1, 1) := by decide +kernel
theorem dX11_neverTried_76 : decode cX11_neverTried 76 = .ok (.iinc 2 1, 3) := by decide +kernel
theorem dX11_neverTried_79 : decode cX11_neverTried 79 = .ok (.goto (-65), 3) := by decide +kernel
theorem dX11_neverTried_82 : decode cX11_neverTried 82 = .ok (.iload_n 1, 1) := by decide +kernel
theorem dX11_neverTried_83 : decode cX11_neverTried 83 = .ok (.ireturn, 1) := by decide +kernel
def wb_X11_neverTried_27 (I : HI) (J : HJ) (x1 : Int32) (x2 : Int32) (E14 : Int32 → Prop) (K14 : Int32 × Int32 → Prop) (Post : Int32 → HI → Prop) (E27 : Int32 → Prop) (K27 : (Int32 × Int32) → Prop) (s : Int32 × Int32) : Prop :=
  match s with
  | (x3, x4) => ((I 72 38) ≤ x4 → (E27 x3)) ∧ (¬ (I 72 38) ≤ x4 → ((¬ x3 = 0 → (K27 (1, (x4 + 1)))) ∧ (x3 = 0 → (w_X11_isTried x4 x2 I J (fun (r_3 : Bool) => ((r_3 = false → (K27 (0, (x4 + 1)))) ∧ (r_3 = true → (K27 (1, (x4 + 1))))))))))
set_option maxHeartbeats 4000000 in
set_option maxRecDepth 20000 in
theorem ws_X11_neverTried_27 (g : kf_G) (hg : kf_g g) {x : kf_X} (hx : kf_ok g x RX11 cX11_neverTried 5 1 24) (I : HI) (J : HJ) (x1 : Int32) (x2 : Int32) (E14 : Int32 → Prop) (K14 : Int32 × Int32 → Prop) (hE14 : ∀ (y1 : Int32), E14 y1 → kf_M g x 5 82 [(1, .int y1)] [] I J) (hK14 : ∀ (y1 : Int32) (y2 : Int32), K14 (y1, y2) → kf_M g x 5 14 [(0, .ref (g.2.2.2 72)), (1, .int y1), (2, .int y2)] [] I J) (Post : Int32 → HI → Prop) (hret : ∀ (pc : Nat) (lv : List (Nat × Value)) (v : Int32) (Iy : HI), decode cX11_neverTried pc = .ok (.ireturn, 1) → Post v Iy → kf_M g x 5 pc lv [.int v] Iy J) (E27 : Int32 → Prop) (hE27 : ∀ (y3 : Int32), E27 y3 → kf_M g x 5 62 [(0, .ref (g.2.2.2 72)), (1, .int x1), (2, .int x2), (3, .int y3)] [] I J) (K27 : (Int32 × Int32) → Prop) (hK27 : ∀ (y3 : Int32) (y4 : Int32), K27 (y3, y4) → kf_M g x 5 27 [(0, .ref (g.2.2.2 72)), (1, .int x1), (2, .int x2), (3, .int y3), (4, .int y4)] [] I J) (x3 : Int32) (x4 : Int32) (h : wb_X11_neverTried_27 I J x1 x2 E14 K14 Post E27 K27 (x3, x4)) : kf_M g x 5 27 [(0, .ref (g.2.2.2 72)), (1, .int x1), (2, .int x2), (3, .int x3), (4, .int x4)] [] I J := by
  unfold wb_X11_neverTried_27 at h
  refine kf_iload hx dX11_neverTried_27 4 rfl ?_
  refine kf_aload_n hx dX11_neverTried_29 rfl 0 rfl ?_
  refine kf_getI hx sl_72_38 fl_RX11_293 dX11_neverTried_30 ?_
  refine kf_icmp_ge hx 62 dX11_neverTried_33 (by decide) (fun c => ?_) (fun c => ?_)
  · replace h := h.1 c
    refine kf_sub [0, 1, 2, 3] rfl ?_
    exact hE27 _ h
  · replace h := h.2 c
    refine kf_iload_n hx dX11_neverTried_36 rfl 3 rfl ?_
    refine kf_if_ne hx 50 dX11_neverTried_37 (by decide) (fun c => ?_) (fun c => ?_)
    · replace h := h.1 c
      refine kf_iconst (v := 1) hx dX11_neverTried_50 (by decide) ?_
      refine kf_goto hx 55 dX11_neverTried_51 (by decide) ?_
      refine kf_istore_n (lv' := [(3, .int 1), (0, .ref (g.2.2.2 72)), (1, .int x1), (2, .int x2), (4, .int x4)]) hx dX11_neverTried_55 rfl (by decide) rfl ?_
      refine kf_iinc (w := (x4 + 1)) (lv' := [(4, .int (x4 + 1)), (3, .int 1), (0, .ref (g.2.2.2 72)), (1, .int x1), (2, .int x2)]) hx dX11_neverTried_56 4 rfl rfl (by decide) rfl ?_
      refine kf_goto hx 27 dX11_neverTried_59 (by decide) ?_
      refine kf_sub [2, 3, 4, 1, 0] rfl ?_
      exact hK27 _ _ h
    · replace h := h.2 c
      refine kf_aload_n hx dX11_neverTried_40 rfl 0 rfl ?_
      refine kf_iload hx dX11_neverTried_41 4 rfl ?_
      refine kf_iload_n hx dX11_neverTried_43 rfl 2 rfl ?_
      refine kf_callVbP (st := []) hx (m_X11_isTried g hg x4 x2 I J _ h) lk_RX11_399 km_X11_isTried ob_72 rfl (by decide) rfl (Nat.le_of_ble_eq_true rfl) dX11_neverTried_44 (fun r_3 h => ?_)
      refine kf_ifB_eq hx 54 dX11_neverTried_47 (by decide) (fun c => ?_) (fun c => ?_)
      · replace h := h.1 c
        refine kf_iconst (v := 0) hx dX11_neverTried_54 (by decide) ?_
        refine kf_istore_n (lv' := [(3, .int 0), (0, .ref (g.2.2.2 72)), (1, .int x1), (2, .int x2), (4, .int x4)]) hx dX11_neverTried_55 rfl (by decide) rfl ?_
        refine kf_iinc (w := (x4 + 1)) (lv' := [(4, .int (x4 + 1)), (3, .int 0), (0, .ref (g.2.2.2 72)), (1, .int x1), (2, .int x2)]) hx dX11_neverTried_56 4 rfl rfl (by decide) rfl ?_
        refine kf_goto hx 27 dX11_neverTried_59 (by decide) ?_
        refine kf_sub [2, 3, 4, 1, 0] rfl ?_
        exact hK27 _ _ h
      · replace h := h.2 c
        refine kf_iconst (v := 1) hx dX11_neverTried_50 (by decide) ?_
        refine kf_goto hx 55 dX11_neverTried_51 (by decide) ?_
        refine kf_istore_n (lv' := [(3, .int 1), (0, .ref (g.2.2.2 72)), (1, .int x1), (2, .int x2), (4, .int x4)]) hx dX11_neverTried_55 rfl (by decide) rfl ?_
        refine kf_iinc (w := (x4 + 1)) (lv' := [(4, .int (x4 + 1)), (3, .int 1), (0, .ref (g.2.2.2 72)), (1, .int x1), (2, .int x2)]) hx dX11_neverTried_56 4 rfl rfl (by decide) rfl ?_
        refine kf_goto hx 27 dX11_neverTried_59 (by decide) ?_
        refine kf_sub [2, 3, 4, 1, 0] rfl ?_
        exact hK27 _ _ h
theorem wl_X11_neverTried_27 (g : kf_G) (hg : kf_g g) {x : kf_X} (hx : kf_ok g x RX11 cX11_neverTried 5 1 24) (I : HI) (J : HJ) (x1 : Int32) (x2 : Int32) (E14 : Int32 → Prop) (K14 : Int32 × Int32 → Prop) (hE14 : ∀ (y1 : Int32), E14 y1 → kf_M g x 5 82 [(1, .int y1)] [] I J) (hK14 : ∀ (y1 : Int32) (y2 : Int32), K14 (y1, y2) → kf_M g x 5 14 [(0, .ref (g.2.2.2 72)), (1, .int y1), (2, .int y2)] [] I J) (Post : Int32 → HI → Prop) (hret : ∀ (pc : Nat) (lv : List (Nat × Value)) (v : Int32) (Iy : HI), decode cX11_neverTried pc = .ok (.ireturn, 1) → Post v Iy → kf_M g x 5 pc lv [.int v] Iy J) (E27 : Int32 → Prop) (hE27 : ∀ (y3 : Int32), E27 y3 → kf_M g x 5 62 [(0, .ref (g.2.2.2 72)), (1, .int x1), (2, .int x2), (3, .int y3)] [] I J) : ∀ (n : Nat) (x3 : Int32) (x4 : Int32), lp (wb_X11_neverTried_27 I J x1 x2 E14 K14 Post E27) n (x3, x4) → kf_M g x 5 27 [(0, .ref (g.2.2.2 72)), (1, .int x1), (2, .int x2), (3, .int x3), (4, .int x4)] [] I J := by
  intro n
  induction n with
  | zero => intro x3 x4 h; exact h.elim
  | succ n ih => intro x3 x4 h; exact ws_X11_neverTried_27 g hg hx I J x1 x2 E14 K14 hE14 hK14 Post hret E27 hE27 (lp (wb_X11_neverTried_27 I J x1 x2 E14 K14 Post E27) n) ih x3 x4 h
def wb_X11_neverTried_14 (I : HI) (J : HJ) (Post : Int32 → HI → Prop) (E14 : Int32 → Prop) (K14 : (Int32 × Int32) → Prop) (s : Int32 × Int32) : Prop :=
  match s with
  | (x1, x2) => ((I 72 21) ≤ x2 → (E14 x1)) ∧ (¬ (I 72 21) ≤ x2 → (∃ n, lp (wb_X11_neverTried_27 I J x1 x2 E14 K14 Post (fun (x3_4 : Int32) => (x3_4 = 0 → (K14 ((x1 ||| (1 <<< (x2 &&& 31))), (x2 + 1)))) ∧ (¬ x3_4 = 0 → (K14 ((x1 ||| 0), (x2 + 1)))))) n (0, 0)))
set_option maxHeartbeats 4000000 in
set_option maxRecDepth 20000 in
theorem ws_X11_neverTried_14 (g : kf_G) (hg : kf_g g) {x : kf_X} (hx : kf_ok g x RX11 cX11_neverTried 5 1 24) (I : HI) (J : HJ) (Post : Int32 → HI → Prop) (hret : ∀ (pc : Nat) (lv : List (Nat × Value)) (v : Int32) (Iy : HI), decode cX11_neverTried pc = .ok (.ireturn, 1) → Post v Iy → kf_M g x 5 pc lv [.int v] Iy J) (E14 : Int32 → Prop) (hE14 : ∀ (y1 : Int32), E14 y1 → kf_M g x 5 82 [(1, .int y1)] [] I J) (K14 : (Int32 × Int32) → Prop) (hK14 : ∀ (y1 : Int32) (y2 : Int32), K14 (y1, y2) → kf_M g x 5 14 [(0, .ref (g.2.2.2 72)), (1, .int y1), (2, .int y2)] [] I J) (x1 : Int32) (x2 : Int32) (h : wb_X11_neverTried_14 I J Post E14 K14 (x1, x2)) : kf_M g x 5 14 [(0, .ref (g.2.2.2 72)), (1, .int x1), (2, .int x2)] [] I J := by
  unfold wb_X11_neverTried_14 at h
  refine kf_iload_n hx dX11_neverTried_14 rfl 2 rfl ?_
  refine kf_aload_n hx dX11_neverTried_15 rfl 0 rfl ?_
  refine kf_getI hx sl_72_21 fl_RX11_290 dX11_neverTried_16 ?_
  refine kf_icmp_ge hx 82 dX11_neverTried_19 (by decide) (fun c => ?_) (fun c => ?_)
  · replace h := h.1 c
    refine kf_sub [1] rfl ?_
    exact hE14 _ h
  · replace h := h.2 c
    refine kf_iconst (v := 0) hx dX11_neverTried_22 (by decide) ?_
    refine kf_istore_n (lv' := [(3, .int 0), (0, .ref (g.2.2.2 72)), (1, .int x1), (2, .int x2)]) hx dX11_neverTried_23 rfl (by decide) rfl ?_
    refine kf_iconst (v := 0) hx dX11_neverTried_24 (by decide) ?_
    refine kf_istore (lv' := [(4, .int 0), (3, .int 0), (0, .ref (g.2.2.2 72)), (1, .int x1), (2, .int x2)]) hx dX11_neverTried_25 (by decide) rfl ?_
    obtain ⟨n, h⟩ := h
    refine kf_sub [2, 3, 4, 1, 0] rfl ?_
    refine wl_X11_neverTried_27 g hg hx I J x1 x2 _ _ hE14 hK14 _ hret _ (fun x3_4 h => ?_) n _ _ h
    refine kf_iload_n hx dX11_neverTried_62 rfl 1 rfl ?_
    refine kf_iload_n hx dX11_neverTried_63 rfl 3 rfl ?_
    refine kf_if_eq hx 71 dX11_neverTried_64 (by decide) (fun c => ?_) (fun c => ?_)
    · replace h := h.1 c
      refine kf_iconst (v := 1) hx dX11_neverTried_71 (by decide) ?_
      refine kf_iload_n hx dX11_neverTried_72 rfl 2 rfl ?_
      refine kf_ishl hx dX11_neverTried_73 ?_
      refine kf_ior hx dX11_neverTried_74 ?_
      refine kf_istore_n (lv' := [(1, .int (x1 ||| (1 <<< (x2 &&& 31)))), (0, .ref (g.2.2.2 72)), (2, .int x2), (3, .int x3_4)]) hx dX11_neverTried_75 rfl (by decide) rfl ?_
      refine kf_iinc (w := (x2 + 1)) (lv' := [(2, .int (x2 + 1)), (1, .int (x1 ||| (1 <<< (x2 &&& 31)))), (0, .ref (g.2.2.2 72)), (3, .int x3_4)]) hx dX11_neverTried_76 2 rfl rfl (by decide) rfl ?_
      refine kf_goto hx 14 dX11_neverTried_79 (by decide) ?_
      refine kf_sub [2, 1, 0] rfl ?_
      exact hK14 _ _ h
    · replace h := h.2 c
      refine kf_iconst (v := 0) hx dX11_neverTried_67 (by decide) ?_
      refine kf_goto hx 74 dX11_neverTried_68 (by decide) ?_
      refine kf_ior hx dX11_neverTried_74 ?_
      refine kf_istore_n (lv' := [(1, .int (x1 ||| 0)), (0, .ref (g.2.2.2 72)), (2, .int x2), (3, .int x3_4)]) hx dX11_neverTried_75 rfl (by decide) rfl ?_
      refine kf_iinc (w := (x2 + 1)) (lv' := [(2, .int (x2 + 1)), (1, .int (x1 ||| 0)), (0, .ref (g.2.2.2 72)), (3, .int x3_4)]) hx dX11_neverTried_76 2 rfl rfl (by decide) rfl ?_
      refine kf_goto hx 14 dX11_neverTried_79 (by decide) ?_
      refine kf_sub [2, 1, 0] rfl ?_
      exact hK14 _ _ h
theorem wl_X11_neverTried_14 (g : kf_G) (hg : kf_g g) {x : kf_X} (hx : kf_ok g x RX11 cX11_neverTried 5 1 24) (I : HI) (J : HJ) (Post : Int32 → HI → Prop) (hret : ∀ (pc : Nat) (lv : List (Nat × Value)) (v : Int32) (Iy : HI), decode cX11_neverTried pc = .ok (.ireturn, 1) → Post v Iy → kf_M g x 5 pc lv [.int v] Iy J) (E14 : Int32 → Prop) (hE14 : ∀ (y1 : Int32), E14 y1 → kf_M g x 5 82 [(1, .int y1)] [] I J) : ∀ (n : Nat) (x1 : Int32) (x2 : Int32), lp (wb_X11_neverTried_14 I J Post E14) n (x1, x2) → kf_M g x 5 14 [(0, .ref (g.2.2.2 72)), (1, .int x1), (2, .int x2)] [] I J := by
  intro n
  induction n with
  | zero => intro x1 x2 h; exact h.elim
  | succ n ih => intro x1 x2 h; exact ws_X11_neverTried_14 g hg hx I J Post hret E14 hE14 (lp (wb_X11_neverTried_14 I J Post E14) n) ih x1 x2 h
def w_X11_neverTried  (I : HI) (J : HJ) (Post : Int32 → HI → Prop) : Prop :=
  ∀ I_1 : HI, I_1 = hI I 72 1 0 → (∀ I_2 : HI, I_2 = hI I_1 72 0 0 → (∃ n, lp (wb_X11_neverTried_14 I_2 J Post (fun (x1_5 : Int32) => Post x1_5 I_2)) n (0, 0)))
set_option maxHeartbeats 4000000 in
set_option maxRecDepth 20000 in
theorem we_X11_neverTried (g : kf_G) (hg : kf_g g) {x : kf_X} (hx : kf_ok g x RX11 cX11_neverTried 5 1 24)  (I : HI) (J : HJ) (Post : Int32 → HI → Prop) (hret : ∀ (pc : Nat) (lv : List (Nat × Value)) (v : Int32) (Iy : HI), decode cX11_neverTried pc = .ok (.ireturn, 1) → Post v Iy → kf_M g x 5 pc lv [.int v] Iy J) (h : w_X11_neverTried  I J Post) : kf_M g x 5 0 [(0, .ref (g.2.2.2 72))] [] I J := by
  unfold w_X11_neverTried at h
  refine kf_aload_n hx dX11_neverTried_0 rfl 0 rfl ?_
  refine kf_iconst (v := 0) hx dX11_neverTried_1 (by decide) ?_
  refine kf_putI hx sl_72_1 fl_RX11_106 fp_11_1 dX11_neverTried_2 ?_
  refine kf_nmI (fun I_1 eI_1 => ?_)
  replace h := h I_1 eI_1
  refine kf_aload_n hx dX11_neverTried_5 rfl 0 rfl ?_
  refine kf_iconst (v := 0) hx dX11_neverTried_6 (by decide) ?_
  refine kf_putI hx sl_72_0 fl_RX11_109 fp_11_0 dX11_neverTried_7 ?_
  refine kf_nmI (fun I_2 eI_2 => ?_)
  replace h := h I_2 eI_2
  refine kf_iconst (v := 0) hx dX11_neverTried_10 (by decide) ?_
  refine kf_istore_n (lv' := [(1, .int 0), (0, .ref (g.2.2.2 72))]) hx dX11_neverTried_11 rfl (by decide) rfl ?_
  refine kf_iconst (v := 0) hx dX11_neverTried_12 (by decide) ?_
  refine kf_istore_n (lv' := [(2, .int 0), (1, .int 0), (0, .ref (g.2.2.2 72))]) hx dX11_neverTried_13 rfl (by decide) rfl ?_
  obtain ⟨n, h⟩ := h
  refine kf_sub [2, 1, 0] rfl ?_
  refine wl_X11_neverTried_14 g hg hx I_2 J  _ hret _ (fun x1_5 h => ?_) n _ _ h
  refine kf_iload_n hx dX11_neverTried_82 rfl 0 rfl ?_
  exact hret _ _ x1_5 _ dX11_neverTried_83 h
set_option maxHeartbeats 4000000 in
set_option maxRecDepth 20000 in
theorem m_X11_neverTried (g : kf_G) (hg : kf_g g)  (I : HI) (J : HJ) (Post : Int32 → HI → Prop) (h : w_X11_neverTried  I J Post) : kf_Mi g yX11_neverTried (kf_W yX11_neverTried cX11_neverTried 5 (Option.some Jvm.ClassFile.FieldType.int)) 1 24 [.ref (g.2.2.2 72)] I J (fun v I' J' => Post v I' ∧ J' = J) :=
  kf_enti hg (by decide) (Nat.le_of_ble_eq_true rfl) rfl (fun x hx hr => we_X11_neverTried g hg hx  I J Post (fun pc lv v I' hd hP => hr pc lv v I' J hd ⟨hP, rfl⟩) h)
theorem dX11_toldNow_0 : decode cX11_toldNow 0 = .ok (.iconst 0, 1) := by decide +kernel
theorem dX11_toldNow_1 : decode cX11_toldNow 1 = .ok (.istore_n 1, 1) := by decide +kernel
theorem dX11_toldNow_2 : decode cX11_toldNow 2 = .ok (.iconst 0, 1) := by decide +kernel
theorem dX11_toldNow_3 : decode cX11_toldNow 3 = .ok (.istore_n 2, 1) := by decide +kernel
theorem dX11_toldNow_4 : decode cX11_toldNow 4 = .ok (.iload_n 2, 1) := by decide +kernel
theorem dX11_toldNow_5 : decode cX11_toldNow 5 = .ok (.aload_n 0, 1) := by decide +kernel
theorem dX11_toldNow_6 : decode cX11_toldNow 6 = .ok (.getfield 290, 3) := by decide +kernel
theorem dX11_toldNow_9 : decode cX11_toldNow 9 = .ok (.if_icmp .ge 47, 3) := by decide +kernel
theorem dX11_toldNow_12 : decode cX11_toldNow 12 = .ok (.iload_n 1, 1) := by decide +kernel
theorem dX11_toldNow_13 : decode cX11_toldNow 13 = .ok (.aload_n 0, 1) := by decide +kernel
theorem dX11_toldNow_14 : decode cX11_toldNow 14 = .ok (.iload_n 2, 1) := by decide +kernel
theorem dX11_toldNow_15 : decode cX11_toldNow 15 = .ok (.aload_n 0, 1) := by decide +kernel
theorem dX11_toldNow_16 : decode cX11_toldNow 16 = .ok (.getfield 100, 3) := by decide +kernel
theorem dX11_toldNow_19 : decode cX11_toldNow 19 = .ok (.aload_n 0, 1) := by decide +kernel
theorem dX11_toldNow_20 : decode cX11_toldNow 20 = .ok (.getfield 41, 3) := by decide +kernel
theorem dX11_toldNow_23 : decode cX11_toldNow 23 = .ok (.iload_n 2, 1) := by decide +kernel
theorem dX11_toldNow_24 : decode cX11_toldNow 24 = .ok (.iaload, 1) := by decide +kernel
theorem dX11_toldNow_25 : decode cX11_toldNow 25 = .ok (.iaload, 1) := by decide +kernel
theorem dX11_toldNow_26 : decode cX11_toldNow 26 = .ok (.aload_n 0, 1) := by decide +kernel
theorem dX11_toldNow_27 : decode cX11_toldNow 27 = .ok (.getfield 100, 3) := by decide +kernel
theorem dX11_toldNow_30 : decode cX11_toldNow 30 = .ok (.aload_n 0, 1) := by decide +kernel
theorem dX11_toldNow_31 : decode cX11_toldNow 31 = .ok (.getfield 44, 3) := by decide +kernel
theorem dX11_toldNow_34 : decode cX11_toldNow 34 = .ok (.iload_n 2, 1) := by decide +kernel
theorem dX11_toldNow_35 : decode cX11_toldNow 35 = .ok (.iaload, 1) := by decide +kernel
theorem dX11_toldNow_36 : decode cX11_toldNow 36 = .ok (.iaload, 1) := by decide +kernel
theorem dX11_toldNow_37 : decode cX11_toldNow 37 = .ok (.invokevirtual 402, 3) := by decide +kernel
theorem dX11_toldNow_40 : decode cX11_toldNow 40 = .ok (.ifCond .eq 7, 3) := by decide +kernel
theorem dX11_toldNow_43 : decode cX11_toldNow 43 = .ok (.iconst 1, 1) := by decide +kernel
theorem dX11_toldNow_44 : decode cX11_toldNow 44 = .ok (.goto 4, 3) := by decide +kernel
theorem dX11_toldNow_47 : decode cX11_toldNow 47 = .ok (.iconst 0, 1) := by decide +kernel
theorem dX11_toldNow_48 : decode cX11_toldNow 48 = .ok (.iadd, 1) := by decide +kernel
theorem dX11_toldNow_49 : decode cX11_toldNow 49 = .ok (.istore_n 1, 1) := by decide +kernel
theorem dX11_toldNow_50 : decode cX11_toldNow 50 = .ok (.iinc 2 1, 3) := by decide +kernel
theorem dX11_toldNow_53 : decode cX11_toldNow 53 = .ok (.goto (-49), 3) := by decide +kernel
theorem dX11_toldNow_56 : decode cX11_toldNow 56 = .ok (.iload_n 1, 1) := by decide +kernel
theorem dX11_toldNow_57 : decode cX11_toldNow 57 = .ok (.ireturn, 1) := by decide +kernel
def wb_X11_toldNow_4 (I : HI) (J : HJ) (Post : Int32 → Prop) (E4 : Int32 → Prop) (K4 : (Int32 × Int32) → Prop) (s : Int32 × Int32) : Prop :=
  match s with
  | (x1, x2) => ((I 72 21) ≤ x2 → (E4 x1)) ∧ (¬ (I 72 21) ≤ x2 → (vp_in x2 10 ∧ (vp_in (I 79 (Int32.toNatClampNeg x2)) 12 ∧ (vp_in x2 10 ∧ (vp_in (I 80 (Int32.toNatClampNeg x2)) 12 ∧ (w_X11_hasTold x2 (I 98 (Int32.toNatClampNeg (I 79 (Int32.toNatClampNeg x2)))) (I 98 (Int32.toNatClampNeg (I 80 (Int32.toNatClampNeg x2)))) I J (fun (r_1 : Bool) => ((r_1 = false → (K4 ((x1 + 0), (x2 + 1)))) ∧ (r_1 = true → (K4 ((x1 + 1), (x2 + 1))))))))))))
set_option maxHeartbeats 4000000 in
set_option maxRecDepth 20000 in
theorem ws_X11_toldNow_4 (g : kf_G) (hg : kf_g g) {x : kf_X} (hx : kf_ok g x RX11 cX11_toldNow 3 2 44) (I : HI) (J : HJ) (Post : Int32 → Prop) (hret : ∀ (pc : Nat) (lv : List (Nat × Value)) (v : Int32), decode cX11_toldNow pc = .ok (.ireturn, 1) → Post v → kf_M g x 3 pc lv [.int v] I J) (E4 : Int32 → Prop) (hE4 : ∀ (y1 : Int32), E4 y1 → kf_M g x 3 56 [(1, .int y1)] [] I J) (K4 : (Int32 × Int32) → Prop) (hK4 : ∀ (y1 : Int32) (y2 : Int32), K4 (y1, y2) → kf_M g x 3 4 [(0, .ref (g.2.2.2 72)), (1, .int y1), (2, .int y2)] [] I J) (x1 : Int32) (x2 : Int32) (h : wb_X11_toldNow_4 I J Post E4 K4 (x1, x2)) : kf_M g x 3 4 [(0, .ref (g.2.2.2 72)), (1, .int x1), (2, .int x2)] [] I J := by
  unfold wb_X11_toldNow_4 at h
  refine kf_iload_n hx dX11_toldNow_4 rfl 2 rfl ?_
  refine kf_aload_n hx dX11_toldNow_5 rfl 0 rfl ?_
  refine kf_getI hx sl_72_21 fl_RX11_290 dX11_toldNow_6 ?_
  refine kf_icmp_ge hx 56 dX11_toldNow_9 (by decide) (fun c => ?_) (fun c => ?_)
  · replace h := h.1 c
    refine kf_sub [1] rfl ?_
    exact hE4 _ h
  · replace h := h.2 c
    refine kf_iload_n hx dX11_toldNow_12 rfl 1 rfl ?_
    refine kf_aload_n hx dX11_toldNow_13 rfl 0 rfl ?_
    refine kf_iload_n hx dX11_toldNow_14 rfl 2 rfl ?_
    refine kf_aload_n hx dX11_toldNow_15 rfl 0 rfl ?_
    refine kf_getR (n := 98) hx sl_72_48 fl_RX11_100 dX11_toldNow_16 ?_
    refine kf_aload_n hx dX11_toldNow_19 rfl 0 rfl ?_
    refine kf_getR (n := 79) hx sl_72_26 fl_RX11_41 dX11_toldNow_20 ?_
    refine kf_iload_n hx dX11_toldNow_23 rfl 2 rfl ?_
    refine kf_iald hx ar_79 h.1 dX11_toldNow_24 ?_
    replace h := h.2
    refine kf_iald hx ar_98 h.1 dX11_toldNow_25 ?_
    replace h := h.2
    refine kf_aload_n hx dX11_toldNow_26 rfl 0 rfl ?_
    refine kf_getR (n := 98) hx sl_72_48 fl_RX11_100 dX11_toldNow_27 ?_
    refine kf_aload_n hx dX11_toldNow_30 rfl 0 rfl ?_
    refine kf_getR (n := 80) hx sl_72_27 fl_RX11_44 dX11_toldNow_31 ?_
    refine kf_iload_n hx dX11_toldNow_34 rfl 2 rfl ?_
    refine kf_iald hx ar_80 h.1 dX11_toldNow_35 ?_
    replace h := h.2
    refine kf_iald hx ar_98 h.1 dX11_toldNow_36 ?_
    replace h := h.2
    refine kf_callVbP (st := [.int x1]) hx (m_X11_hasTold g hg x2 (I 98 (Int32.toNatClampNeg (I 79 (Int32.toNatClampNeg x2)))) (I 98 (Int32.toNatClampNeg (I 80 (Int32.toNatClampNeg x2)))) I J _ h) lk_RX11_402 km_X11_hasTold ob_72 rfl (by decide) rfl (Nat.le_of_ble_eq_true rfl) dX11_toldNow_37 (fun r_1 h => ?_)
    refine kf_ifB_eq hx 47 dX11_toldNow_40 (by decide) (fun c => ?_) (fun c => ?_)
    · replace h := h.1 c
      refine kf_iconst (v := 0) hx dX11_toldNow_47 (by decide) ?_
      refine kf_iadd hx dX11_toldNow_48 ?_
      refine kf_istore_n (lv' := [(1, .int (x1 + 0)), (0, .ref (g.2.2.2 72)), (2, .int x2)]) hx dX11_toldNow_49 rfl (by decide) rfl ?_
      refine kf_iinc (w := (x2 + 1)) (lv' := [(2, .int (x2 + 1)), (1, .int (x1 + 0)), (0, .ref (g.2.2.2 72))]) hx dX11_toldNow_50 2 rfl rfl (by decide) rfl ?_
      refine kf_goto hx 4 dX11_toldNow_53 (by decide) ?_
      refine kf_sub [2, 1, 0] rfl ?_
      exact hK4 _ _ h
    · replace h := h.2 c
      refine kf_iconst (v := 1) hx dX11_toldNow_43 (by decide) ?_
      refine kf_goto hx 48 dX11_toldNow_44 (by decide) ?_
      refine kf_iadd hx dX11_toldNow_48 ?_
      refine kf_istore_n (lv' := [(1, .int (x1 + 1)), (0, .ref (g.2.2.2 72)), (2, .int x2)]) hx dX11_toldNow_49 rfl (by decide) rfl ?_
      refine kf_iinc (w := (x2 + 1)) (lv' := [(2, .int (x2 + 1)), (1, .int (x1 + 1)), (0, .ref (g.2.2.2 72))]) hx dX11_toldNow_50 2 rfl rfl (by decide) rfl ?_
      refine kf_goto hx 4 dX11_toldNow_53 (by decide) ?_
      refine kf_sub [2, 1, 0] rfl ?_
      exact hK4 _ _ h
theorem wl_X11_toldNow_4 (g : kf_G) (hg : kf_g g) {x : kf_X} (hx : kf_ok g x RX11 cX11_toldNow 3 2 44) (I : HI) (J : HJ) (Post : Int32 → Prop) (hret : ∀ (pc : Nat) (lv : List (Nat × Value)) (v : Int32), decode cX11_toldNow pc = .ok (.ireturn, 1) → Post v → kf_M g x 3 pc lv [.int v] I J) (E4 : Int32 → Prop) (hE4 : ∀ (y1 : Int32), E4 y1 → kf_M g x 3 56 [(1, .int y1)] [] I J) : ∀ (n : Nat) (x1 : Int32) (x2 : Int32), lp (wb_X11_toldNow_4 I J Post E4) n (x1, x2) → kf_M g x 3 4 [(0, .ref (g.2.2.2 72)), (1, .int x1), (2, .int x2)] [] I J := by
  intro n
  induction n with
  | zero => intro x1 x2 h; exact h.elim
  | succ n ih => intro x1 x2 h; exact ws_X11_toldNow_4 g hg hx I J Post hret E4 hE4 (lp (wb_X11_toldNow_4 I J Post E4) n) ih x1 x2 h
def w_X11_toldNow  (I : HI) (J : HJ) (Post : Int32 → Prop) : Prop :=
  ∃ n, lp (wb_X11_toldNow_4 I J Post (fun (x1_2 : Int32) => Post x1_2)) n (0, 0)
set_option maxHeartbeats 4000000 in
set_option maxRecDepth 20000 in
theorem we_X11_toldNow (g : kf_G) (hg : kf_g g) {x : kf_X} (hx : kf_ok g x RX11 cX11_toldNow 3 2 44)  (I : HI) (J : HJ) (Post : Int32 → Prop) (hret : ∀ (pc : Nat) (lv : List (Nat × Value)) (v : Int32), decode cX11_toldNow pc = .ok (.ireturn, 1) → Post v → kf_M g x 3 pc lv [.int v] I J) (h : w_X11_toldNow  I J Post) : kf_M g x 3 0 [(0, .ref (g.2.2.2 72))] [] I J := by
  unfold w_X11_toldNow at h
  refine kf_iconst (v := 0) hx dX11_toldNow_0 (by decide) ?_
  refine kf_istore_n (lv' := [(1, .int 0), (0, .ref (g.2.2.2 72))]) hx dX11_toldNow_1 rfl (by decide) rfl ?_
  refine kf_iconst (v := 0) hx dX11_toldNow_2 (by decide) ?_
  refine kf_istore_n (lv' := [(2, .int 0), (1, .int 0), (0, .ref (g.2.2.2 72))]) hx dX11_toldNow_3 rfl (by decide) rfl ?_
  obtain ⟨n, h⟩ := h
  refine kf_sub [2, 1, 0] rfl ?_
  refine wl_X11_toldNow_4 g hg hx I J  _ hret _ (fun x1_2 h => ?_) n _ _ h
  refine kf_iload_n hx dX11_toldNow_56 rfl 0 rfl ?_
  exact hret _ _ x1_2  dX11_toldNow_57 h
set_option maxHeartbeats 4000000 in
set_option maxRecDepth 20000 in
theorem m_X11_toldNow (g : kf_G) (hg : kf_g g)  (I : HI) (J : HJ) (Post : Int32 → Prop) (h : w_X11_toldNow  I J Post) : kf_Mi g yX11_toldNow (kf_W yX11_toldNow cX11_toldNow 3 (Option.some Jvm.ClassFile.FieldType.int)) 2 44 [.ref (g.2.2.2 72)] I J (fun v I' J' => Post v ∧ I' = I ∧ J' = J) :=
  kf_enti hg (by decide) (Nat.le_of_ble_eq_true rfl) rfl (fun x hx hr => we_X11_toldNow g hg hx  I J Post (fun pc lv v hd hP => hr pc lv v I J hd ⟨hP, rfl, rfl⟩) h)
theorem dX11_deal_0 : decode cX11_deal 0 = .ok (.iload_n 1, 1) := by decide +kernel
theorem dX11_deal_1 : decode cX11_deal 1 = .ok (.aload_n 0, 1) := by decide +kernel
theorem dX11_deal_2 : decode cX11_deal 2 = .ok (.getfield 287, 3) := by decide +kernel
theorem dX11_deal_5 : decode cX11_deal 5 = .ok (.if_icmp .ne 36, 3) := by decide +kernel
theorem dX11_deal_8 : decode cX11_deal 8 = .ok (.aload_n 0, 1) := by decide +kernel
theorem dX11_deal_9 : decode cX11_deal 9 = .ok (.dup, 1) := by decide +kernel
theorem dX11_deal_10 : decode cX11_deal 10 = .ok (.getfield 409, 3) := by decide +kernel
theorem dX11_deal_13 : decode cX11_deal 13 = .ok (.lconst 1, 1) := by decide +kernel
theorem dX11_deal_14 : decode cX11_deal 14 = .ok (.ladd, 1) := by decide +kernel
theorem dX11_deal_15 : decode cX11_deal 15 = .ok (.putfield 409, 3) := by decide +kernel
theorem dX11_deal_18 : decode cX11_deal 18 = .ok (.aload_n 0, 1) := by decide +kernel
theorem dX11_deal_19 : decode cX11_deal 19 = .ok (.dup, 1) := by decide +kernel
theorem dX11_deal_20 : decode cX11_deal 20 = .ok (.getfield 412, 3) := by decide +kernel
theorem dX11_deal_23 : decode cX11_deal 23 = .ok (.aload_n 0, 1) := by decide +kernel
theorem dX11_deal_24 : decode cX11_deal 24 = .ok (.invokevirtual 415, 3) := by decide +kernel
theorem dX11_deal_27 : decode cX11_deal 27 = .ok (.iload_n 3, 1) := by decide +kernel
theorem dX11_deal_28 : decode cX11_deal 28 = .ok (.if_icmp .lt 7, 3) := by decide +kernel
theorem dX11_deal_31 : decode cX11_deal 31 = .ok (.lconst 1, 1) := by decide +kernel
theorem dX11_deal_32 : decode cX11_deal 32 = .ok (.goto 4, 3) := by decide +kernel
theorem dX11_deal_35 : decode cX11_deal 35 = .ok (.lconst 0, 1) := by decide +kernel
theorem dX11_deal_36 : decode cX11_deal 36 = .ok (.ladd, 1) := by decide +kernel
theorem dX11_deal_37 : decode cX11_deal 37 = .ok (.putfield 412, 3) := by decide +kernel
theorem dX11_deal_40 : decode cX11_deal 40 = .ok (.return_, 1) := by decide +kernel
theorem dX11_deal_41 : decode cX11_deal 41 = .ok (.iconst 0, 1) := by decide +kernel
theorem dX11_deal_42 : decode cX11_deal 42 = .ok (.istore 4, 2) := by decide +kernel
theorem dX11_deal_44 : decode cX11_deal 44 = .ok (.iload 4, 2) := by decide +kernel
theorem dX11_deal_46 : decode cX11_deal 46 = .ok (.aload_n 0, 1) := by decide +kernel
theorem dX11_deal_47 : decode cX11_deal 47 = .ok (.getfield 287, 3) := by decide +kernel
theorem dX11_deal_50 : decode cX11_deal 50 = .ok (.if_icmp .ge 63, 3) := by decide +kernel
theorem dX11_deal_53 : decode cX11_deal 53 = .ok (.aload_n 0, 1) := by decide +kernel
theorem dX11_deal_54 : decode cX11_deal 54 = .ok (.iload 4, 2) := by decide +kernel
theorem dX11_deal_56 : decode cX11_deal 56 = .ok (.invokevirtual 345, 3) := by decide +kernel
theorem dX11_deal_59 : decode cX11_deal 59 = .ok (.aload_n 0, 1) := by decide +kernel
theorem dX11_deal_60 : decode cX11_deal 60 = .ok (.iload_n 1, 1) := by decide +kernel
theorem dX11_deal_61 : decode cX11_deal 61 = .ok (.invokevirtual 345, 3) := by decide +kernel
theorem dX11_deal_64 : decode cX11_deal 64 = .ok (.if_icmp .ne 43, 3) := by decide +kernel
theorem dX11_deal_67 : decode cX11_deal 67 = .ok (.iload_n 2, 1) := by decide +kernel
theorem dX11_deal_68 : decode cX11_deal 68 = .ok (.iload 4, 2) := by decide +kernel
theorem dX11_deal_70 : decode cX11_deal 70 = .ok (.ishr, 1) := by decide +kernel
theorem dX11_deal_71 : decode cX11_deal 71 = .ok (.iconst 1, 1) := by decide +kernel
theorem dX11_deal_72 : decode cX11_deal 72 = .ok (.iand, 1) := by decide +kernel
theorem dX11_deal_73 : decode cX11_deal 73 = .ok (.iconst 1, 1) := by decide +kernel
theorem dX11_deal_74 : decode cX11_deal 74 = .ok (.if_icmp .ne 6, 3) := by decide +kernel
theorem dX11_deal_77 : decode cX11_deal 77 = .ok (.goto 30, 3) := by decide +kernel
theorem dX11_deal_80 : decode cX11_deal 80 = .ok (.aload_n 0, 1) := by decide +kernel
theorem dX11_deal_81 : decode cX11_deal 81 = .ok (.getfield 100, 3) := by decide +kernel
theorem dX11_deal_84 : decode cX11_deal 84 = .ok (.iload_n 1, 1) := by decide +kernel
theorem dX11_deal_85 : decode cX11_deal 85 = .ok (.aload_n 0, 1) := by decide +kernel
theorem dX11_deal_86 : decode cX11_deal 86 = .ok (.getfield 103, 3) := by decide +kernel
theorem dX11_deal_89 : decode cX11_deal 89 = .ok (.iload 4, 2) := by decide +kernel
theorem dX11_deal_91 : decode cX11_deal 91 = .ok (.iaload, 1) := by decide +kernel
theorem dX11_deal_92 : decode cX11_deal 92 = .ok (.iastore, 1) := by decide +kernel
theorem dX11_deal_93 : decode cX11_deal 93 = .ok (.aload_n 0, 1) := by decide +kernel
theorem dX11_deal_94 : decode cX11_deal 94 = .ok (.iload_n 1, 1) := by decide +kernel
theorem dX11_deal_95 : decode cX11_deal 95 = .ok (.iconst 1, 1) := by decide +kernel
theorem dX11_deal_96 : decode cX11_deal 96 = .ok (.iadd, 1) := by decide +kernel
theorem dX11_deal_97 : decode cX11_deal 97 = .ok (.iload_n 2, 1) := by decide +kernel
theorem dX11_deal_98 : decode cX11_deal 98 = .ok (.iconst 1, 1) := by decide +kernel
theorem dX11_deal_99 : decode cX11_deal 99 = .ok (.iload 4, 2) := by decide +kernel
theorem dX11_deal_101 : decode cX11_deal 101 = .ok (.ishl, 1) := by decide +kernel
theorem dX11_deal_102 : decode cX11_deal 102 = .ok (.ior, 1) := by decide +kernel
theorem dX11_deal_103 : decode cX11_deal 103 = .ok (.iload_n 3, 1) := by decide +kernel
theorem dX11_deal_104 : decode cX11_deal 104 = .ok (.invokevirtual 418, 3) := by decide +kernel
theorem dX11_deal_107 : decode cX11_deal 107 = .ok (.iinc 4 1, 3) := by decide +kernel
theorem dX11_deal_110 : decode cX11_deal 110 = .ok (.goto (-66), 3) := by decide +kernel
theorem dX11_deal_113 : decode cX11_deal 113 = .ok (.return_, 1) := by decide +kernel
def wb_X11_deal_44 (R : Int32 → Int32 → Int32 → HI → HJ → (HI → HJ → Prop) → Prop) (x1 : Int32) (x2 : Int32) (x3 : Int32) (Post : HI → HJ → Prop) (E44 : HI → HJ → Prop) (K44 : (Int32 × HI × HJ) → Prop) (s : Int32 × HI × HJ) : Prop :=
  match s with
  | (x4, I, J) => ((I 72 20) ≤ x4 → (E44 I J)) ∧ (¬ (I 72 20) ≤ x4 → (w_X11_valley x4 I J (fun (r_1 : Int32) => (w_X11_valley x1 I J (fun (r_2 : Int32) => ((¬ r_1 = r_2 → (K44 ((x4 + 1), I, J))) ∧ (r_1 = r_2 → ((¬ ((x2 >>> (x4 &&& 31)) &&& 1) = 1 → (vp_in x4 12 ∧ (vp_in x1 12 ∧ (∀ I_3 : HI, I_3 = hI I 98 (Int32.toNatClampNeg x1) (I 99 (Int32.toNatClampNeg x4)) → (R (x1 + 1) (x2 ||| (1 <<< (x4 &&& 31))) x3 I_3 J (fun (I_4 : HI) (J_5 : HJ) => (K44 ((x4 + 1), I_4, J_5)))))))) ∧ (((x2 >>> (x4 &&& 31)) &&& 1) = 1 → (K44 ((x4 + 1), I, J)))))))))))
set_option maxHeartbeats 4000000 in
set_option maxRecDepth 20000 in
theorem ws_X11_deal_44 (g : kf_G) (hg : kf_g g) {x : kf_X} {fr lc fr' lc' : Nat} (hrm : fr' + 1 ≤ fr ∧ 8 + (5 + 11) + lc' ≤ lc) (hfl : 3 ≤ fr ∧ 66 ≤ lc) (hx : kf_ok g x RX11 cX11_deal 5 fr lc) (R : Int32 → Int32 → Int32 → HI → HJ → (HI → HJ → Prop) → Prop) (hR : ∀ (x1 : Int32) (x2 : Int32) (x3 : Int32) (I : HI) (J : HJ) (P : HI → HJ → Prop), R x1 x2 x3 I J P → kf_Mv g yX11_deal (kf_W yX11_deal cX11_deal 5 (Option.none : Option Jvm.ClassFile.FieldType)) fr' lc' [.ref (g.2.2.2 72), .int x1, .int x2, .int x3] I J P) (x1 : Int32) (x2 : Int32) (x3 : Int32) (Post : HI → HJ → Prop) (hret : ∀ (pc : Nat) (lv : List (Nat × Value)) (Iy : HI) (Jy : HJ), decode cX11_deal pc = .ok (.return_, 1) → Post Iy Jy → kf_M g x 5 pc lv [] Iy Jy) (E44 : HI → HJ → Prop) (hE44 : ∀ (Iy : HI) (Jy : HJ), E44 Iy Jy → kf_M g x 5 113 [] [] Iy Jy) (K44 : (Int32 × HI × HJ) → Prop) (hK44 : ∀ (y4 : Int32) (Iy : HI) (Jy : HJ), K44 (y4, Iy, Jy) → kf_M g x 5 44 [(0, .ref (g.2.2.2 72)), (1, .int x1), (2, .int x2), (3, .int x3), (4, .int y4)] [] Iy Jy) (x4 : Int32) (I : HI) (J : HJ) (h : wb_X11_deal_44 R x1 x2 x3 Post E44 K44 (x4, I, J)) : kf_M g x 5 44 [(0, .ref (g.2.2.2 72)), (1, .int x1), (2, .int x2), (3, .int x3), (4, .int x4)] [] I J := by
  unfold wb_X11_deal_44 at h
  refine kf_iload hx dX11_deal_44 4 rfl ?_
  refine kf_aload_n hx dX11_deal_46 rfl 0 rfl ?_
  refine kf_getI hx sl_72_20 fl_RX11_287 dX11_deal_47 ?_
  refine kf_icmp_ge hx 113 dX11_deal_50 (by decide) (fun c => ?_) (fun c => ?_)
  · replace h := h.1 c
    refine kf_sub [] rfl ?_
    exact hE44 _ _ h
  · replace h := h.2 c
    refine kf_aload_n hx dX11_deal_53 rfl 0 rfl ?_
    refine kf_iload hx dX11_deal_54 4 rfl ?_
    refine kf_callViP (st := []) hx (m_X11_valley g hg x4 I J _ h) lk_RX11_345 km_X11_valley ob_72 rfl ⟨by omega, by omega⟩ rfl (Nat.le_of_ble_eq_true rfl) dX11_deal_56 (fun r_1 h => ?_)
    refine kf_aload_n hx dX11_deal_59 rfl 0 rfl ?_
    refine kf_iload_n hx dX11_deal_60 rfl 1 rfl ?_
    refine kf_callViP (st := [.int r_1]) hx (m_X11_valley g hg x1 I J _ h) lk_RX11_345 km_X11_valley ob_72 rfl ⟨by omega, by omega⟩ rfl (Nat.le_of_ble_eq_true rfl) dX11_deal_61 (fun r_2 h => ?_)
    refine kf_icmp_ne hx 107 dX11_deal_64 (by decide) (fun c => ?_) (fun c => ?_)
    · replace h := h.1 c
      refine kf_iinc (w := (x4 + 1)) (lv' := [(4, .int (x4 + 1)), (0, .ref (g.2.2.2 72)), (1, .int x1), (2, .int x2), (3, .int x3)]) hx dX11_deal_107 4 rfl rfl (by decide) rfl ?_
      refine kf_goto hx 44 dX11_deal_110 (by decide) ?_
      refine kf_sub [1, 2, 3, 4, 0] rfl ?_
      exact hK44 _ _ _ h
    · replace h := h.2 c
      refine kf_iload_n hx dX11_deal_67 rfl 2 rfl ?_
      refine kf_iload hx dX11_deal_68 4 rfl ?_
      refine kf_ishr hx dX11_deal_70 ?_
      refine kf_iconst (v := 1) hx dX11_deal_71 (by decide) ?_
      refine kf_iand hx dX11_deal_72 ?_
      refine kf_iconst (v := 1) hx dX11_deal_73 (by decide) ?_
      refine kf_icmp_ne hx 80 dX11_deal_74 (by decide) (fun c => ?_) (fun c => ?_)
      · replace h := h.1 c
        refine kf_aload_n hx dX11_deal_80 rfl 0 rfl ?_
        refine kf_getR (n := 98) hx sl_72_48 fl_RX11_100 dX11_deal_81 ?_
        refine kf_iload_n hx dX11_deal_84 rfl 1 rfl ?_
        refine kf_aload_n hx dX11_deal_85 rfl 0 rfl ?_
        refine kf_getR (n := 99) hx sl_72_49 fl_RX11_103 dX11_deal_86 ?_
        refine kf_iload hx dX11_deal_89 4 rfl ?_
        refine kf_iald hx ar_99 h.1 dX11_deal_91 ?_
        replace h := h.2
        refine kf_iast hx ar_98 h.1 dX11_deal_92 ?_
        replace h := h.2
        refine kf_nmI (fun I_3 eI_3 => ?_)
        replace h := h I_3 eI_3
        refine kf_aload_n hx dX11_deal_93 rfl 0 rfl ?_
        refine kf_iload_n hx dX11_deal_94 rfl 1 rfl ?_
        refine kf_iconst (v := 1) hx dX11_deal_95 (by decide) ?_
        refine kf_iadd hx dX11_deal_96 ?_
        refine kf_iload_n hx dX11_deal_97 rfl 2 rfl ?_
        refine kf_iconst (v := 1) hx dX11_deal_98 (by decide) ?_
        refine kf_iload hx dX11_deal_99 4 rfl ?_
        refine kf_ishl hx dX11_deal_101 ?_
        refine kf_ior hx dX11_deal_102 ?_
        refine kf_iload_n hx dX11_deal_103 rfl 3 rfl ?_
        refine kf_callVv (st := []) hx (hR (x1 + 1) (x2 ||| (1 <<< (x4 &&& 31))) x3 I_3 J _ h) lk_RX11_418 km_X11_deal ob_72 rfl hrm rfl (Nat.le_of_ble_eq_true rfl) dX11_deal_104 (fun I_4 J_5 h => ?_)
        refine kf_iinc (w := (x4 + 1)) (lv' := [(4, .int (x4 + 1)), (0, .ref (g.2.2.2 72)), (1, .int x1), (2, .int x2), (3, .int x3)]) hx dX11_deal_107 4 rfl rfl (by decide) rfl ?_
        refine kf_goto hx 44 dX11_deal_110 (by decide) ?_
        refine kf_sub [1, 2, 3, 4, 0] rfl ?_
        exact hK44 _ _ _ h
      · replace h := h.2 c
        refine kf_goto hx 107 dX11_deal_77 (by decide) ?_
        refine kf_iinc (w := (x4 + 1)) (lv' := [(4, .int (x4 + 1)), (0, .ref (g.2.2.2 72)), (1, .int x1), (2, .int x2), (3, .int x3)]) hx dX11_deal_107 4 rfl rfl (by decide) rfl ?_
        refine kf_goto hx 44 dX11_deal_110 (by decide) ?_
        refine kf_sub [1, 2, 3, 4, 0] rfl ?_
        exact hK44 _ _ _ h
theorem wl_X11_deal_44 (g : kf_G) (hg : kf_g g) {x : kf_X} {fr lc fr' lc' : Nat} (hrm : fr' + 1 ≤ fr ∧ 8 + (5 + 11) + lc' ≤ lc) (hfl : 3 ≤ fr ∧ 66 ≤ lc) (hx : kf_ok g x RX11 cX11_deal 5 fr lc) (R : Int32 → Int32 → Int32 → HI → HJ → (HI → HJ → Prop) → Prop) (hR : ∀ (x1 : Int32) (x2 : Int32) (x3 : Int32) (I : HI) (J : HJ) (P : HI → HJ → Prop), R x1 x2 x3 I J P → kf_Mv g yX11_deal (kf_W yX11_deal cX11_deal 5 (Option.none : Option Jvm.ClassFile.FieldType)) fr' lc' [.ref (g.2.2.2 72), .int x1, .int x2, .int x3] I J P) (x1 : Int32) (x2 : Int32) (x3 : Int32) (Post : HI → HJ → Prop) (hret : ∀ (pc : Nat) (lv : List (Nat × Value)) (Iy : HI) (Jy : HJ), decode cX11_deal pc = .ok (.return_, 1) → Post Iy Jy → kf_M g x 5 pc lv [] Iy Jy) (E44 : HI → HJ → Prop) (hE44 : ∀ (Iy : HI) (Jy : HJ), E44 Iy Jy → kf_M g x 5 113 [] [] Iy Jy) : ∀ (n : Nat) (x4 : Int32) (I : HI) (J : HJ), lp (wb_X11_deal_44 R x1 x2 x3 Post E44) n (x4, I, J) → kf_M g x 5 44 [(0, .ref (g.2.2.2 72)), (1, .int x1), (2, .int x2), (3, .int x3), (4, .int x4)] [] I J := by
  intro n
  induction n with
  | zero => intro x4 I J h; exact h.elim
  | succ n ih => intro x4 I J h; exact ws_X11_deal_44 g hg hrm hfl hx R hR x1 x2 x3 Post hret E44 hE44 (lp (wb_X11_deal_44 R x1 x2 x3 Post E44) n) ih x4 I J h
def wr_X11_deal (R : Int32 → Int32 → Int32 → HI → HJ → (HI → HJ → Prop) → Prop) (x1 : Int32) (x2 : Int32) (x3 : Int32) (I : HI) (J : HJ) (Post : HI → HJ → Prop) : Prop :=
  (¬ x1 = (I 72 20) → (∃ n, lp (wb_X11_deal_44 R x1 x2 x3 Post (fun (I_6 : HI) (J_7 : HJ) => Post I_6 J_7)) n (0, I, J))) ∧ (x1 = (I 72 20) → (∀ J_8 : HJ, J_8 = hJ J 72 50 ((J 72 50) + 1) → (w_X11_toldNow  I J_8 (fun (r_9 : Int32) => ((r_9 < x3 → (∀ J_10 : HJ, J_10 = hJ J_8 72 51 ((J_8 72 51) + 0) → (Post I J_10))) ∧ (¬ r_9 < x3 → (∀ J_11 : HJ, J_11 = hJ J_8 72 51 ((J_8 72 51) + 1) → (Post I J_11))))))))
set_option maxHeartbeats 4000000 in
set_option maxRecDepth 20000 in
theorem we_X11_deal (g : kf_G) (hg : kf_g g) {x : kf_X} {fr lc fr' lc' : Nat} (hrm : fr' + 1 ≤ fr ∧ 8 + (5 + 11) + lc' ≤ lc) (hfl : 3 ≤ fr ∧ 66 ≤ lc) (hx : kf_ok g x RX11 cX11_deal 5 fr lc) (R : Int32 → Int32 → Int32 → HI → HJ → (HI → HJ → Prop) → Prop) (hR : ∀ (x1 : Int32) (x2 : Int32) (x3 : Int32) (I : HI) (J : HJ) (P : HI → HJ → Prop), R x1 x2 x3 I J P → kf_Mv g yX11_deal (kf_W yX11_deal cX11_deal 5 (Option.none : Option Jvm.ClassFile.FieldType)) fr' lc' [.ref (g.2.2.2 72), .int x1, .int x2, .int x3] I J P) (x1 : Int32) (x2 : Int32) (x3 : Int32) (I : HI) (J : HJ) (Post : HI → HJ → Prop) (hret : ∀ (pc : Nat) (lv : List (Nat × Value)) (Iy : HI) (Jy : HJ), decode cX11_deal pc = .ok (.return_, 1) → Post Iy Jy → kf_M g x 5 pc lv [] Iy Jy) (h : wr_X11_deal R x1 x2 x3 I J Post) : kf_M g x 5 0 [(0, .ref (g.2.2.2 72)), (1, .int x1), (2, .int x2), (3, .int x3)] [] I J := by
  unfold wr_X11_deal at h
  refine kf_iload_n hx dX11_deal_0 rfl 1 rfl ?_
  refine kf_aload_n hx dX11_deal_1 rfl 0 rfl ?_
  refine kf_getI hx sl_72_20 fl_RX11_287 dX11_deal_2 ?_
  refine kf_icmp_ne hx 41 dX11_deal_5 (by decide) (fun c => ?_) (fun c => ?_)
  · replace h := h.1 c
    refine kf_iconst (v := 0) hx dX11_deal_41 (by decide) ?_
    refine kf_istore (lv' := [(4, .int 0), (0, .ref (g.2.2.2 72)), (1, .int x1), (2, .int x2), (3, .int x3)]) hx dX11_deal_42 (by decide) rfl ?_
    obtain ⟨n, h⟩ := h
    refine kf_sub [1, 2, 3, 4, 0] rfl ?_
    refine wl_X11_deal_44 g hg hrm hfl hx R hR  x1 x2 x3 _ hret _ (fun I_6 J_7 h => ?_) n _ _ _ h
    exact hret _ _ _ _ dX11_deal_113 h
  · replace h := h.2 c
    refine kf_aload_n hx dX11_deal_8 rfl 0 rfl ?_
    refine kf_dup hx dX11_deal_9 rfl ?_
    refine kf_getJ hx sl_72_50 fl_RX11_409 dX11_deal_10 ?_
    refine kf_lconst (v := 1) hx dX11_deal_13 (by decide) ?_
    refine kf_ladd hx dX11_deal_14 ?_
    refine kf_putJ hx sl_72_50 fl_RX11_409 fp_11_50 dX11_deal_15 ?_
    refine kf_nmJ (fun J_8 eJ_8 => ?_)
    replace h := h J_8 eJ_8
    refine kf_aload_n hx dX11_deal_18 rfl 0 rfl ?_
    refine kf_dup hx dX11_deal_19 rfl ?_
    refine kf_getJ hx sl_72_51 fl_RX11_412 dX11_deal_20 ?_
    refine kf_aload_n hx dX11_deal_23 rfl 0 rfl ?_
    refine kf_callViP (st := [.long (J_8 72 51), .ref (g.2.2.2 72)]) hx (m_X11_toldNow g hg  I J_8 _ h) lk_RX11_415 km_X11_toldNow ob_72 rfl ⟨by omega, by omega⟩ rfl (Nat.le_of_ble_eq_true rfl) dX11_deal_24 (fun r_9 h => ?_)
    refine kf_iload_n hx dX11_deal_27 rfl 3 rfl ?_
    refine kf_icmp_lt hx 35 dX11_deal_28 (by decide) (fun c => ?_) (fun c => ?_)
    · replace h := h.1 c
      refine kf_lconst (v := 0) hx dX11_deal_35 (by decide) ?_
      refine kf_ladd hx dX11_deal_36 ?_
      refine kf_putJ hx sl_72_51 fl_RX11_412 fp_11_51 dX11_deal_37 ?_
      refine kf_nmJ (fun J_10 eJ_10 => ?_)
      replace h := h J_10 eJ_10
      exact hret _ _ _ _ dX11_deal_40 h
    · replace h := h.2 c
      refine kf_lconst (v := 1) hx dX11_deal_31 (by decide) ?_
      refine kf_goto hx 36 dX11_deal_32 (by decide) ?_
      refine kf_ladd hx dX11_deal_36 ?_
      refine kf_putJ hx sl_72_51 fl_RX11_412 fp_11_51 dX11_deal_37 ?_
      refine kf_nmJ (fun J_11 eJ_11 => ?_)
      replace h := h J_11 eJ_11
      exact hret _ _ _ _ dX11_deal_40 h
def w_X11_deal : Nat → Int32 → Int32 → Int32 → HI → HJ → (HI → HJ → Prop) → Prop
  | 0 => fun _ _ _ _ _ _ => False
  | d + 1 => wr_X11_deal (w_X11_deal d)
set_option maxHeartbeats 4000000 in
set_option maxRecDepth 20000 in
theorem m_X11_deal (g : kf_G) (hg : kf_g g) : ∀ (d : Nat) (x1 : Int32) (x2 : Int32) (x3 : Int32) (I : HI) (J : HJ) (Post : HI → HJ → Prop), w_X11_deal d x1 x2 x3 I J Post → kf_Mv g yX11_deal (kf_W yX11_deal cX11_deal 5 (Option.none : Option Jvm.ClassFile.FieldType)) (d + 3) (24 * d + 66) [.ref (g.2.2.2 72), .int x1, .int x2, .int x3] I J Post := by
  intro d
  induction d with
  | zero => intro x1 x2 x3 I J Post h; exact h.elim
  | succ d ih =>
    intro x1 x2 x3 I J Post h
    exact kf_entv hg (by decide) (Nat.le_of_ble_eq_true rfl) rfl (fun x hx hr => we_X11_deal g hg (fr' := d + 3) (lc' := 24 * d + 66) ⟨by omega, by omega⟩ ⟨by omega, by omega⟩ hx (w_X11_deal d) ih x1 x2 x3 I J Post (fun pc lv I' J' hd hP => hr pc lv I' J' hd hP) h)
theorem dX11_telling_0 : decode cX11_telling 0 = .ok (.aload_n 0, 1) := by decide +kernel
theorem dX11_telling_1 : decode cX11_telling 1 = .ok (.iconst 0, 1) := by decide +kernel
theorem dX11_telling_2 : decode cX11_telling 2 = .ok (.putfield 106, 3) := by decide +kernel
theorem dX11_telling_5 : decode cX11_telling 5 = .ok (.aload_n 0, 1) := by decide +kernel
theorem dX11_telling_6 : decode cX11_telling 6 = .ok (.iconst 0, 1) := by decide +kernel
theorem dX11_telling_7 : decode cX11_telling 7 = .ok (.putfield 109, 3) := by decide +kernel
theorem dX11_telling_10 : decode cX11_telling 10 = .ok (.iload_n 1, 1) := by decide +kernel
theorem dX11_telling_11 : decode cX11_telling 11 = .ok (.i2l, 1) := by decide +kernel
theorem dX11_telling_12 : decode cX11_telling 12 = .ok (.lconst 0, 1) := by decide +kernel
theorem dX11_telling_13 : decode cX11_telling 13 = .ok (.aload_n 0, 1) := by decide +kernel
theorem dX11_telling_14 : decode cX11_telling 14 = .ok (.getfield 293, 3) := by decide +kernel
theorem dX11_telling_17 : decode cX11_telling 17 = .ok (.iconst 1, 1) := by decide +kernel
theorem dX11_telling_18 : decode cX11_telling 18 = .ok (.isub, 1) := by decide +kernel
theorem dX11_telling_19 : decode cX11_telling 19 = .ok (.i2l, 1) := by decide +kernel
theorem dX11_telling_20 : decode cX11_telling 20 = .ok (.invokestatic 228, 3) := by decide +kernel
theorem dX11_telling_23 : decode cX11_telling 23 = .ok (.ifCond .ne 9, 3) := by decide +kernel
theorem dX11_telling_26 : decode cX11_telling 26 = .ok (.aload_n 0, 1) := by decide +kernel
theorem dX11_telling_27 : decode cX11_telling 27 = .ok (.iconst 2, 1) := by decide +kernel
theorem dX11_telling_28 : decode cX11_telling 28 = .ok (.invokevirtual 272, 3) := by decide +kernel
theorem dX11_telling_31 : decode cX11_telling 31 = .ok (.ireturn, 1) := by decide +kernel
theorem dX11_telling_32 : decode cX11_telling 32 = .ok (.lconst 1, 1) := by decide +kernel
theorem dX11_telling_33 : decode cX11_telling 33 = .ok (.lstore_n 2, 1) := by decide +kernel
theorem dX11_telling_34 : decode cX11_telling 34 = .ok (.iconst 0, 1) := by decide +kernel
theorem dX11_telling_35 : decode cX11_telling 35 = .ok (.istore 4, 2) := by decide +kernel
theorem dX11_telling_37 : decode cX11_telling 37 = .ok (.iload 4, 2) := by decide +kernel
theorem dX11_telling_39 : decode cX11_telling 39 = .ok (.iconst 4, 1) := by decide +kernel
theorem dX11_telling_40 : decode cX11_telling 40 = .ok (.if_icmp .ge 73, 3) := by decide +kernel
theorem dX11_telling_43 : decode cX11_telling 43 = .ok (.iconst 0, 1) := by decide +kernel
theorem dX11_telling_44 : decode cX11_telling 44 = .ok (.istore 5, 2) := by decide +kernel
theorem dX11_telling_46 : decode cX11_telling 46 = .ok (.iconst 0, 1) := by decide +kernel
theorem dX11_telling_47 : decode cX11_telling 47 = .ok (.istore 6, 2) := by decide +kernel
theorem dX11_telling_49 : decode cX11_telling 49 = .ok (.iload 6, 2) := by decide +kernel
theorem dX11_telling_51 : decode cX11_telling 51 = .ok (.aload_n 0, 1) := by decide +kernel
theorem dX11_telling_52 : decode cX11_telling 52 = .ok (.getfield 287, 3) := by decide +kernel
theorem dX11_telling_55 : decode cX11_telling 55 = .ok (.if_icmp .ge 30, 3) := by decide +kernel
theorem dX11_telling_58 : decode cX11_telling 58 = .ok (.iload 5, 2) := by decide +kernel
theorem dX11_telling_60 : decode cX11_telling 60 = .ok (.aload_n 0, 1) := by decide +kernel
theorem dX11_telling_61 : decode cX11_telling 61 = .ok (.iload 6, 2) := by decide +kernel
theorem dX11_telling_63 : decode cX11_telling 63 = .ok (.invokevirtual 345, 3) := by decide +kernel
theorem dX11_telling_66 : decode cX11_telling 66 = .ok (.iload 4, 2) := by decide +kernel
theorem dX11_telling_68 : decode cX11_telling 68 = .ok (.if_icmp .ne 7, 3) := by decide +kernel
theorem dX11_telling_71 : decode cX11_telling 71 = .ok (.iconst 1, 1) := by decide +kernel
theorem dX11_telling_72 : decode cX11_telling 72 = .ok (.goto 4, 3) := by decide +kernel
theorem dX11_telling_75 : decode cX11_telling 75 = .ok (.iconst 0, 1) := by decide +kernel
theorem dX11_telling_76 : decode cX11_telling 76 = .ok (.iadd, 1) := by decide +kernel
theorem dX11_telling_77 : decode cX11_telling 77 = .ok (.istore 5, 2) := by decide +kernel
theorem dX11_telling_79 : decode cX11_telling 79 = .ok (.iinc 6 1, 3) := by decide +kernel
theorem dX11_telling_82 : decode cX11_telling 82 = .ok (.goto (-33), 3) := by decide +kernel
theorem dX11_telling_85 : decode cX11_telling 85 = .ok (.iconst 2, 1) := by decide +kernel
theorem dX11_telling_86 : decode cX11_telling 86 = .ok (.istore 6, 2) := by decide +kernel
theorem dX11_telling_88 : decode cX11_telling 88 = .ok (.iload 6, 2) := by decide +kernel
theorem dX11_telling_90 : decode cX11_telling 90 = .ok (.iload 5, 2) := by decide +kernel
theorem dX11_telling_92 : decode cX11_telling 92 = .ok (.if_icmp .gt 15, 3) := by decide +kernel
theorem dX11_telling_95 : decode cX11_telling 95 = .ok (.lload_n 2, 1) := by decide +kernel
theorem dX11_telling_96 : decode cX11_telling 96 = .ok (.iload 6, 2) := by decide +kernel
theorem dX11_telling_98 : decode cX11_telling 98 = .ok (.i2l, 1) := by decide +kernel
theorem dX11_telling_99 : decode cX11_telling 99 = .ok (.lmul, 1) := by decide +kernel
theorem dX11_telling_100 : decode cX11_telling 100 = .ok (.lstore_n 2, 1) := by decide +kernel
theorem dX11_telling_101 : decode cX11_telling 101 = .ok (.iinc 6 1, 3) := by decide +kernel
theorem dX11_telling_104 : decode cX11_telling 104 = .ok (.goto (-16), 3) := by decide +kernel
theorem dX11_telling_107 : decode cX11_telling 107 = .ok (.iinc 4 1, 3) := by decide +kernel
theorem dX11_telling_110 : decode cX11_telling 110 = .ok (.goto (-73), 3) := by decide +kernel
theorem dX11_telling_113 : decode cX11_telling 113 = .ok (.lload_n 2, 1) := by decide +kernel
theorem dX11_telling_114 : decode cX11_telling 114 = .ok (.ldc2_w 421, 3) := by decide +kernel
theorem dX11_telling_117 : decode cX11_telling 117 = .ok (.lcmp, 1) := by decide +kernel
theorem dX11_telling_118 : decode cX11_telling 118 = .ok (.ifCond .le 10, 3) := by decide +kernel
theorem dX11_telling_121 : decode cX11_telling 121 = .ok (.aload_n 0, 1) := by decide +kernel
theorem dX11_telling_122 : decode cX11_telling 122 = .ok (.bipush 9, 2) := by decide +kernel
theorem dX11_telling_124 : decode cX11_telling 124 = .ok (.invokevirtual 272, 3) := by decide +kernel
theorem dX11_telling_127 : decode cX11_telling 127 = .ok (.ireturn, 1) := by decide +kernel
theorem dX11_telling_128 : decode cX11_telling 128 = .ok (.iconst 0, 1) := by decide +kernel
theorem dX11_telling_129 : decode cX11_telling 129 = .ok (.istore 4, 2) := by decide +kernel
theorem dX11_telling_131 : decode cX11_telling 131 = .ok (.iload 4, 2) := by decide +kernel
theorem dX11_telling_133 : decode cX11_telling 133 = .ok (.aload_n 0, 1) := by decide +kernel
theorem dX11_telling_134 : decode cX11_telling 134 = .ok (.getfield 287, 3) := by decide +kernel
theorem dX11_telling_137 : decode cX11_telling 137 = .ok (.if_icmp .ge 42, 3) := by decide +kernel
theorem dX11_telling_140 : decode cX11_telling 140 = .ok (.aload_n 0, 1) := by decide +kernel
theorem dX11_telling_141 : decode cX11_telling 141 = .ok (.getfield 103, 3) := by decide +kernel
theorem dX11_telling_144 : decode cX11_telling 144 = .ok (.iload 4, 2) := by decide +kernel
theorem dX11_telling_146 : decode cX11_telling 146 = .ok (.aload_n 0, 1) := by decide +kernel
theorem dX11_telling_147 : decode cX11_telling 147 = .ok (.getfield 78, 3) := by decide +kernel
theorem dX11_telling_150 : decode cX11_telling 150 = .ok (.bipush 12, 2) := by decide +kernel
theorem dX11_telling_152 : decode cX11_telling 152 = .ok (.iload_n 1, 1) := by decide +kernel
theorem dX11_telling_153 : decode cX11_telling 153 = .ok (.imul, 1) := by decide +kernel
theorem dX11_telling_154 : decode cX11_telling 154 = .ok (.iload 4, 2) := by decide +kernel
theorem dX11_telling_156 : decode cX11_telling 156 = .ok (.iadd, 1) := by decide +kernel
theorem dX11_telling_157 : decode cX11_telling 157 = .ok (.iaload, 1) := by decide +kernel
theorem dX11_telling_158 : decode cX11_telling 158 = .ok (.iastore, 1) := by decide +kernel
theorem dX11_telling_159 : decode cX11_telling 159 = .ok (.aload_n 0, 1) := by decide +kernel
theorem dX11_telling_160 : decode cX11_telling 160 = .ok (.getfield 100, 3) := by decide +kernel
theorem dX11_telling_163 : decode cX11_telling 163 = .ok (.iload 4, 2) := by decide +kernel
theorem dX11_telling_165 : decode cX11_telling 165 = .ok (.aload_n 0, 1) := by decide +kernel
theorem dX11_telling_166 : decode cX11_telling 166 = .ok (.getfield 103, 3) := by decide +kernel
theorem dX11_telling_169 : decode cX11_telling 169 = .ok (.iload 4, 2) := by decide +kernel
theorem dX11_telling_171 : decode cX11_telling 171 = .ok (.iaload, 1) := by decide +kernel
theorem dX11_telling_172 : decode cX11_telling 172 = .ok (.iastore, 1) := by decide +kernel
theorem dX11_telling_173 : decode cX11_telling 173 = .ok (.iinc 4 1, 3) := by decide +kernel
theorem dX11_telling_176 : decode cX11_telling 176 = .ok (.goto (-45), 3) := by decide +kernel
theorem dX11_telling_179 : decode cX11_telling 179 = .ok (.aload_n 0, 1) := by decide +kernel
theorem dX11_telling_180 : decode cX11_telling 180 = .ok (.invokevirtual 415, 3) := by decide +kernel
theorem dX11_telling_183 : decode cX11_telling 183 = .ok (.istore 4, 2) := by decide +kernel
theorem dX11_telling_185 : decode cX11_telling 185 = .ok (.aload_n 0, 1) := by decide +kernel
theorem dX11_telling_186 : decode cX11_telling 186 = .ok (.lconst 0, 1) := by decide +kernel
theorem dX11_telling_187 : decode cX11_telling 187 = .ok (.putfield 409, 3) := by decide +kernel
theorem dX11_telling_190 : decode cX11_telling 190 = .ok (.aload_n 0, 1) := by decide +kernel
theorem dX11_telling_191 : decode cX11_telling 191 = .ok (.lconst 0, 1) := by decide +kernel
theorem dX11_telling_192 : decode cX11_telling 192 = .ok (.putfield 412, 3) := by decide +kernel
theorem dX11_telling_195 : decode cX11_telling 195 = .ok (.aload_n 0, 1) := by decide +kernel
theorem dX11_telling_196 : decode cX11_telling 196 = .ok (.iconst 0, 1) := by decide +kernel
theorem dX11_telling_197 : decode cX11_telling 197 = .ok (.iconst 0, 1) := by decide +kernel
theorem dX11_telling_198 : decode cX11_telling 198 = .ok (.iload 4, 2) := by decide +kernel
theorem dX11_telling_200 : decode cX11_telling 200 = .ok (.invokevirtual 418, 3) := by decide +kernel
theorem dX11_telling_203 : decode cX11_telling 203 = .ok (.aload_n 0, 1) := by decide +kernel
theorem dX11_telling_204 : decode cX11_telling 204 = .ok (.aload_n 0, 1) := by decide +kernel
theorem dX11_telling_205 : decode cX11_telling 205 = .ok (.getfield 412, 3) := by decide +kernel
theorem dX11_telling_208 : decode cX11_telling 208 = .ok (.aload_n 0, 1) := by decide +kernel
theorem dX11_telling_209 : decode cX11_telling 209 = .ok (.getfield 409, 3) := by decide +kernel
theorem dX11_telling_212 : decode cX11_telling 212 = .ok (.invokevirtual 338, 3) := by decide +kernel
theorem dX11_telling_215 : decode cX11_telling 215 = .ok (.iload 4, 2) := by decide +kernel
theorem dX11_telling_217 : decode cX11_telling 217 = .ok (.ireturn, 1) := by decide +kernel
def wb_X11_telling_49 (I : HI) (J : HJ) (x1 : Int32) (x2 : Int64) (x4 : Int32) (E37 : Int64 → Prop) (K37 : Int64 × Int32 → Prop) (Post : Int32 → HI → HJ → Prop) (E49 : Int32 → Prop) (K49 : (Int32 × Int32) → Prop) (s : Int32 × Int32) : Prop :=
  match s with
  | (x5, x6) => ((I 72 20) ≤ x6 → (E49 x5)) ∧ (¬ (I 72 20) ≤ x6 → (w_X11_valley x6 I J (fun (r_4 : Int32) => ((¬ r_4 = x4 → (K49 ((x5 + 0), (x6 + 1)))) ∧ (r_4 = x4 → (K49 ((x5 + 1), (x6 + 1))))))))
set_option maxHeartbeats 4000000 in
set_option maxRecDepth 20000 in
theorem ws_X11_telling_49 (g : kf_G) (hg : kf_g g) {x : kf_X} (hx : kf_ok g x RX11 cX11_telling 7 18 426) (I : HI) (J : HJ) (x1 : Int32) (x2 : Int64) (x4 : Int32) (E37 : Int64 → Prop) (K37 : Int64 × Int32 → Prop) (hE37 : ∀ (y2 : Int64), E37 y2 → kf_M g x 7 113 [(0, .ref (g.2.2.2 72)), (1, .int x1), (2, .long y2)] [] I J) (hK37 : ∀ (y2 : Int64) (y4 : Int32), K37 (y2, y4) → kf_M g x 7 37 [(0, .ref (g.2.2.2 72)), (1, .int x1), (2, .long y2), (4, .int y4)] [] I J) (Post : Int32 → HI → HJ → Prop) (hret : ∀ (pc : Nat) (lv : List (Nat × Value)) (v : Int32) (Iy : HI) (Jy : HJ), decode cX11_telling pc = .ok (.ireturn, 1) → Post v Iy Jy → kf_M g x 7 pc lv [.int v] Iy Jy) (E49 : Int32 → Prop) (hE49 : ∀ (y5 : Int32), E49 y5 → kf_M g x 7 85 [(0, .ref (g.2.2.2 72)), (1, .int x1), (2, .long x2), (4, .int x4), (5, .int y5)] [] I J) (K49 : (Int32 × Int32) → Prop) (hK49 : ∀ (y5 : Int32) (y6 : Int32), K49 (y5, y6) → kf_M g x 7 49 [(0, .ref (g.2.2.2 72)), (1, .int x1), (2, .long x2), (4, .int x4), (5, .int y5), (6, .int y6)] [] I J) (x5 : Int32) (x6 : Int32) (h : wb_X11_telling_49 I J x1 x2 x4 E37 K37 Post E49 K49 (x5, x6)) : kf_M g x 7 49 [(0, .ref (g.2.2.2 72)), (1, .int x1), (2, .long x2), (4, .int x4), (5, .int x5), (6, .int x6)] [] I J := by
  unfold wb_X11_telling_49 at h
  refine kf_iload hx dX11_telling_49 5 rfl ?_
  refine kf_aload_n hx dX11_telling_51 rfl 0 rfl ?_
  refine kf_getI hx sl_72_20 fl_RX11_287 dX11_telling_52 ?_
  refine kf_icmp_ge hx 85 dX11_telling_55 (by decide) (fun c => ?_) (fun c => ?_)
  · replace h := h.1 c
    refine kf_sub [0, 1, 2, 3, 4] rfl ?_
    exact hE49 _ h
  · replace h := h.2 c
    refine kf_iload hx dX11_telling_58 4 rfl ?_
    refine kf_aload_n hx dX11_telling_60 rfl 0 rfl ?_
    refine kf_iload hx dX11_telling_61 5 rfl ?_
    refine kf_callViP (st := [.int x5]) hx (m_X11_valley g hg x6 I J _ h) lk_RX11_345 km_X11_valley ob_72 rfl (by decide) rfl (Nat.le_of_ble_eq_true rfl) dX11_telling_63 (fun r_4 h => ?_)
    refine kf_iload hx dX11_telling_66 3 rfl ?_
    refine kf_icmp_ne hx 75 dX11_telling_68 (by decide) (fun c => ?_) (fun c => ?_)
    · replace h := h.1 c
      refine kf_iconst (v := 0) hx dX11_telling_75 (by decide) ?_
      refine kf_iadd hx dX11_telling_76 ?_
      refine kf_istore (lv' := [(5, .int (x5 + 0)), (0, .ref (g.2.2.2 72)), (1, .int x1), (2, .long x2), (4, .int x4), (6, .int x6)]) hx dX11_telling_77 (by decide) rfl ?_
      refine kf_iinc (w := (x6 + 1)) (lv' := [(6, .int (x6 + 1)), (5, .int (x5 + 0)), (0, .ref (g.2.2.2 72)), (1, .int x1), (2, .long x2), (4, .int x4)]) hx dX11_telling_79 5 rfl rfl (by decide) rfl ?_
      refine kf_goto hx 49 dX11_telling_82 (by decide) ?_
      refine kf_sub [2, 3, 4, 5, 1, 0] rfl ?_
      exact hK49 _ _ h
    · replace h := h.2 c
      refine kf_iconst (v := 1) hx dX11_telling_71 (by decide) ?_
      refine kf_goto hx 76 dX11_telling_72 (by decide) ?_
      refine kf_iadd hx dX11_telling_76 ?_
      refine kf_istore (lv' := [(5, .int (x5 + 1)), (0, .ref (g.2.2.2 72)), (1, .int x1), (2, .long x2), (4, .int x4), (6, .int x6)]) hx dX11_telling_77 (by decide) rfl ?_
      refine kf_iinc (w := (x6 + 1)) (lv' := [(6, .int (x6 + 1)), (5, .int (x5 + 1)), (0, .ref (g.2.2.2 72)), (1, .int x1), (2, .long x2), (4, .int x4)]) hx dX11_telling_79 5 rfl rfl (by decide) rfl ?_
      refine kf_goto hx 49 dX11_telling_82 (by decide) ?_
      refine kf_sub [2, 3, 4, 5, 1, 0] rfl ?_
      exact hK49 _ _ h
theorem wl_X11_telling_49 (g : kf_G) (hg : kf_g g) {x : kf_X} (hx : kf_ok g x RX11 cX11_telling 7 18 426) (I : HI) (J : HJ) (x1 : Int32) (x2 : Int64) (x4 : Int32) (E37 : Int64 → Prop) (K37 : Int64 × Int32 → Prop) (hE37 : ∀ (y2 : Int64), E37 y2 → kf_M g x 7 113 [(0, .ref (g.2.2.2 72)), (1, .int x1), (2, .long y2)] [] I J) (hK37 : ∀ (y2 : Int64) (y4 : Int32), K37 (y2, y4) → kf_M g x 7 37 [(0, .ref (g.2.2.2 72)), (1, .int x1), (2, .long y2), (4, .int y4)] [] I J) (Post : Int32 → HI → HJ → Prop) (hret : ∀ (pc : Nat) (lv : List (Nat × Value)) (v : Int32) (Iy : HI) (Jy : HJ), decode cX11_telling pc = .ok (.ireturn, 1) → Post v Iy Jy → kf_M g x 7 pc lv [.int v] Iy Jy) (E49 : Int32 → Prop) (hE49 : ∀ (y5 : Int32), E49 y5 → kf_M g x 7 85 [(0, .ref (g.2.2.2 72)), (1, .int x1), (2, .long x2), (4, .int x4), (5, .int y5)] [] I J) : ∀ (n : Nat) (x5 : Int32) (x6 : Int32), lp (wb_X11_telling_49 I J x1 x2 x4 E37 K37 Post E49) n (x5, x6) → kf_M g x 7 49 [(0, .ref (g.2.2.2 72)), (1, .int x1), (2, .long x2), (4, .int x4), (5, .int x5), (6, .int x6)] [] I J := by
  intro n
  induction n with
  | zero => intro x5 x6 h; exact h.elim
  | succ n ih => intro x5 x6 h; exact ws_X11_telling_49 g hg hx I J x1 x2 x4 E37 K37 hE37 hK37 Post hret E49 hE49 (lp (wb_X11_telling_49 I J x1 x2 x4 E37 K37 Post E49) n) ih x5 x6 h
def wb_X11_telling_88 (I : HI) (J : HJ) (x1 : Int32) (x4 : Int32) (x5 : Int32) (E37 : Int64 → Prop) (K37 : Int64 × Int32 → Prop) (Post : Int32 → HI → HJ → Prop) (E88 : Int64 → Prop) (K88 : (Int64 × Int32) → Prop) (s : Int64 × Int32) : Prop :=
  match s with
  | (x2, x6) => (x5 < x6 → (E88 x2)) ∧ (¬ x5 < x6 → (K88 ((x2 * (Int32.toInt64 x6)), (x6 + 1))))
set_option maxHeartbeats 4000000 in
set_option maxRecDepth 20000 in
theorem ws_X11_telling_88 (g : kf_G) (hg : kf_g g) {x : kf_X} (hx : kf_ok g x RX11 cX11_telling 7 18 426) (I : HI) (J : HJ) (x1 : Int32) (x4 : Int32) (x5 : Int32) (E37 : Int64 → Prop) (K37 : Int64 × Int32 → Prop) (hE37 : ∀ (y2 : Int64), E37 y2 → kf_M g x 7 113 [(0, .ref (g.2.2.2 72)), (1, .int x1), (2, .long y2)] [] I J) (hK37 : ∀ (y2 : Int64) (y4 : Int32), K37 (y2, y4) → kf_M g x 7 37 [(0, .ref (g.2.2.2 72)), (1, .int x1), (2, .long y2), (4, .int y4)] [] I J) (Post : Int32 → HI → HJ → Prop) (hret : ∀ (pc : Nat) (lv : List (Nat × Value)) (v : Int32) (Iy : HI) (Jy : HJ), decode cX11_telling pc = .ok (.ireturn, 1) → Post v Iy Jy → kf_M g x 7 pc lv [.int v] Iy Jy) (E88 : Int64 → Prop) (hE88 : ∀ (y2 : Int64), E88 y2 → kf_M g x 7 107 [(0, .ref (g.2.2.2 72)), (1, .int x1), (2, .long y2), (4, .int x4)] [] I J) (K88 : (Int64 × Int32) → Prop) (hK88 : ∀ (y2 : Int64) (y6 : Int32), K88 (y2, y6) → kf_M g x 7 88 [(0, .ref (g.2.2.2 72)), (1, .int x1), (2, .long y2), (4, .int x4), (5, .int x5), (6, .int y6)] [] I J) (x2 : Int64) (x6 : Int32) (h : wb_X11_telling_88 I J x1 x4 x5 E37 K37 Post E88 K88 (x2, x6)) : kf_M g x 7 88 [(0, .ref (g.2.2.2 72)), (1, .int x1), (2, .long x2), (4, .int x4), (5, .int x5), (6, .int x6)] [] I J := by
  unfold wb_X11_telling_88 at h
  refine kf_iload hx dX11_telling_88 5 rfl ?_
  refine kf_iload hx dX11_telling_90 4 rfl ?_
  refine kf_icmp_gt hx 107 dX11_telling_92 (by decide) (fun c => ?_) (fun c => ?_)
  · replace h := h.1 c
    refine kf_sub [0, 1, 2, 3] rfl ?_
    exact hE88 _ h
  · replace h := h.2 c
    refine kf_lload_n hx dX11_telling_95 rfl 2 rfl ?_
    refine kf_iload hx dX11_telling_96 5 rfl ?_
    refine kf_i2l hx dX11_telling_98 ?_
    refine kf_lmul hx dX11_telling_99 ?_
    refine kf_lstore_n (lv' := [(2, .long (x2 * (Int32.toInt64 x6))), (0, .ref (g.2.2.2 72)), (1, .int x1), (4, .int x4), (5, .int x5), (6, .int x6)]) hx dX11_telling_100 rfl (by decide) rfl ?_
    refine kf_iinc (w := (x6 + 1)) (lv' := [(6, .int (x6 + 1)), (2, .long (x2 * (Int32.toInt64 x6))), (0, .ref (g.2.2.2 72)), (1, .int x1), (4, .int x4), (5, .int x5)]) hx dX11_telling_101 5 rfl rfl (by decide) rfl ?_
    refine kf_goto hx 88 dX11_telling_104 (by decide) ?_
    refine kf_sub [2, 3, 1, 4, 5, 0] rfl ?_
    exact hK88 _ _ h
theorem wl_X11_telling_88 (g : kf_G) (hg : kf_g g) {x : kf_X} (hx : kf_ok g x RX11 cX11_telling 7 18 426) (I : HI) (J : HJ) (x1 : Int32) (x4 : Int32) (x5 : Int32) (E37 : Int64 → Prop) (K37 : Int64 × Int32 → Prop) (hE37 : ∀ (y2 : Int64), E37 y2 → kf_M g x 7 113 [(0, .ref (g.2.2.2 72)), (1, .int x1), (2, .long y2)] [] I J) (hK37 : ∀ (y2 : Int64) (y4 : Int32), K37 (y2, y4) → kf_M g x 7 37 [(0, .ref (g.2.2.2 72)), (1, .int x1), (2, .long y2), (4, .int y4)] [] I J) (Post : Int32 → HI → HJ → Prop) (hret : ∀ (pc : Nat) (lv : List (Nat × Value)) (v : Int32) (Iy : HI) (Jy : HJ), decode cX11_telling pc = .ok (.ireturn, 1) → Post v Iy Jy → kf_M g x 7 pc lv [.int v] Iy Jy) (E88 : Int64 → Prop) (hE88 : ∀ (y2 : Int64), E88 y2 → kf_M g x 7 107 [(0, .ref (g.2.2.2 72)), (1, .int x1), (2, .long y2), (4, .int x4)] [] I J) : ∀ (n : Nat) (x2 : Int64) (x6 : Int32), lp (wb_X11_telling_88 I J x1 x4 x5 E37 K37 Post E88) n (x2, x6) → kf_M g x 7 88 [(0, .ref (g.2.2.2 72)), (1, .int x1), (2, .long x2), (4, .int x4), (5, .int x5), (6, .int x6)] [] I J := by
  intro n
  induction n with
  | zero => intro x2 x6 h; exact h.elim
  | succ n ih => intro x2 x6 h; exact ws_X11_telling_88 g hg hx I J x1 x4 x5 E37 K37 hE37 hK37 Post hret E88 hE88 (lp (wb_X11_telling_88 I J x1 x4 x5 E37 K37 Post E88) n) ih x2 x6 h
def wb_X11_telling_37 (I : HI) (J : HJ) (x1 : Int32) (Post : Int32 → HI → HJ → Prop) (E37 : Int64 → Prop) (K37 : (Int64 × Int32) → Prop) (s : Int64 × Int32) : Prop :=
  match s with
  | (x2, x4) => (4 ≤ x4 → (E37 x2)) ∧ (¬ 4 ≤ x4 → (∃ n, lp (wb_X11_telling_49 I J x1 x2 x4 E37 K37 Post (fun (x5_5 : Int32) => ∃ n, lp (wb_X11_telling_88 I J x1 x4 x5_5 E37 K37 Post (fun (x2_6 : Int64) => K37 (x2_6, (x4 + 1)))) n (x2, 2))) n (0, 0)))
set_option maxHeartbeats 4000000 in
set_option maxRecDepth 20000 in
theorem ws_X11_telling_37 (g : kf_G) (hg : kf_g g) {x : kf_X} (hx : kf_ok g x RX11 cX11_telling 7 18 426) (I : HI) (J : HJ) (x1 : Int32) (Post : Int32 → HI → HJ → Prop) (hret : ∀ (pc : Nat) (lv : List (Nat × Value)) (v : Int32) (Iy : HI) (Jy : HJ), decode cX11_telling pc = .ok (.ireturn, 1) → Post v Iy Jy → kf_M g x 7 pc lv [.int v] Iy Jy) (E37 : Int64 → Prop) (hE37 : ∀ (y2 : Int64), E37 y2 → kf_M g x 7 113 [(0, .ref (g.2.2.2 72)), (1, .int x1), (2, .long y2)] [] I J) (K37 : (Int64 × Int32) → Prop) (hK37 : ∀ (y2 : Int64) (y4 : Int32), K37 (y2, y4) → kf_M g x 7 37 [(0, .ref (g.2.2.2 72)), (1, .int x1), (2, .long y2), (4, .int y4)] [] I J) (x2 : Int64) (x4 : Int32) (h : wb_X11_telling_37 I J x1 Post E37 K37 (x2, x4)) : kf_M g x 7 37 [(0, .ref (g.2.2.2 72)), (1, .int x1), (2, .long x2), (4, .int x4)] [] I J := by
  unfold wb_X11_telling_37 at h
  refine kf_iload hx dX11_telling_37 3 rfl ?_
  refine kf_iconst (v := 4) hx dX11_telling_39 (by decide) ?_
  refine kf_icmp_ge hx 113 dX11_telling_40 (by decide) (fun c => ?_) (fun c => ?_)
  · replace h := h.1 c
    refine kf_sub [0, 1, 2] rfl ?_
    exact hE37 _ h
  · replace h := h.2 c
    refine kf_iconst (v := 0) hx dX11_telling_43 (by decide) ?_
    refine kf_istore (lv' := [(5, .int 0), (0, .ref (g.2.2.2 72)), (1, .int x1), (2, .long x2), (4, .int x4)]) hx dX11_telling_44 (by decide) rfl ?_
    refine kf_iconst (v := 0) hx dX11_telling_46 (by decide) ?_
    refine kf_istore (lv' := [(6, .int 0), (5, .int 0), (0, .ref (g.2.2.2 72)), (1, .int x1), (2, .long x2), (4, .int x4)]) hx dX11_telling_47 (by decide) rfl ?_
    obtain ⟨n, h⟩ := h
    refine kf_sub [2, 3, 4, 5, 1, 0] rfl ?_
    refine wl_X11_telling_49 g hg hx I J x1 x2 x4 _ _ hE37 hK37 _ hret _ (fun x5_5 h => ?_) n _ _ h
    refine kf_iconst (v := 2) hx dX11_telling_85 (by decide) ?_
    refine kf_istore (lv' := [(6, .int 2), (0, .ref (g.2.2.2 72)), (1, .int x1), (2, .long x2), (4, .int x4), (5, .int x5_5)]) hx dX11_telling_86 (by decide) rfl ?_
    obtain ⟨n, h⟩ := h
    refine kf_sub [1, 2, 3, 4, 5, 0] rfl ?_
    refine wl_X11_telling_88 g hg hx I J x1 x4 x5_5 _ _ hE37 hK37 _ hret _ (fun x2_6 h => ?_) n _ _ h
    refine kf_iinc (w := (x4 + 1)) (lv' := [(4, .int (x4 + 1)), (0, .ref (g.2.2.2 72)), (1, .int x1), (2, .long x2_6)]) hx dX11_telling_107 3 rfl rfl (by decide) rfl ?_
    refine kf_goto hx 37 dX11_telling_110 (by decide) ?_
    refine kf_sub [1, 2, 3, 0] rfl ?_
    exact hK37 _ _ h
theorem wl_X11_telling_37 (g : kf_G) (hg : kf_g g) {x : kf_X} (hx : kf_ok g x RX11 cX11_telling 7 18 426) (I : HI) (J : HJ) (x1 : Int32) (Post : Int32 → HI → HJ → Prop) (hret : ∀ (pc : Nat) (lv : List (Nat × Value)) (v : Int32) (Iy : HI) (Jy : HJ), decode cX11_telling pc = .ok (.ireturn, 1) → Post v Iy Jy → kf_M g x 7 pc lv [.int v] Iy Jy) (E37 : Int64 → Prop) (hE37 : ∀ (y2 : Int64), E37 y2 → kf_M g x 7 113 [(0, .ref (g.2.2.2 72)), (1, .int x1), (2, .long y2)] [] I J) : ∀ (n : Nat) (x2 : Int64) (x4 : Int32), lp (wb_X11_telling_37 I J x1 Post E37) n (x2, x4) → kf_M g x 7 37 [(0, .ref (g.2.2.2 72)), (1, .int x1), (2, .long x2), (4, .int x4)] [] I J := by
  intro n
  induction n with
  | zero => intro x2 x4 h; exact h.elim
  | succ n ih => intro x2 x4 h; exact ws_X11_telling_37 g hg hx I J x1 Post hret E37 hE37 (lp (wb_X11_telling_37 I J x1 Post E37) n) ih x2 x4 h
def wb_X11_telling_131 (J : HJ) (x1 : Int32) (Post : Int32 → HI → HJ → Prop) (E131 : HI → Prop) (K131 : (Int32 × HI) → Prop) (s : Int32 × HI) : Prop :=
  match s with
  | (x4, I) => ((I 72 20) ≤ x4 → (E131 I)) ∧ (¬ (I 72 20) ≤ x4 → (vp_in ((12 * x1) + x4) 180 ∧ (vp_in x4 12 ∧ (∀ I_8 : HI, I_8 = hI I 99 (Int32.toNatClampNeg x4) (I 91 (Int32.toNatClampNeg ((12 * x1) + x4))) → (vp_in x4 12 ∧ (vp_in x4 12 ∧ (∀ I_9 : HI, I_9 = hI I_8 98 (Int32.toNatClampNeg x4) (I_8 99 (Int32.toNatClampNeg x4)) → (K131 ((x4 + 1), I_9)))))))))
set_option maxHeartbeats 4000000 in
set_option maxRecDepth 20000 in
theorem ws_X11_telling_131 (g : kf_G) (hg : kf_g g) {x : kf_X} (hx : kf_ok g x RX11 cX11_telling 7 18 426) (J : HJ) (x1 : Int32) (Post : Int32 → HI → HJ → Prop) (hret : ∀ (pc : Nat) (lv : List (Nat × Value)) (v : Int32) (Iy : HI) (Jy : HJ), decode cX11_telling pc = .ok (.ireturn, 1) → Post v Iy Jy → kf_M g x 7 pc lv [.int v] Iy Jy) (E131 : HI → Prop) (hE131 : ∀ (Iy : HI), E131 Iy → kf_M g x 7 179 [(0, .ref (g.2.2.2 72))] [] Iy J) (K131 : (Int32 × HI) → Prop) (hK131 : ∀ (y4 : Int32) (Iy : HI), K131 (y4, Iy) → kf_M g x 7 131 [(0, .ref (g.2.2.2 72)), (1, .int x1), (4, .int y4)] [] Iy J) (x4 : Int32) (I : HI) (h : wb_X11_telling_131 J x1 Post E131 K131 (x4, I)) : kf_M g x 7 131 [(0, .ref (g.2.2.2 72)), (1, .int x1), (4, .int x4)] [] I J := by
  unfold wb_X11_telling_131 at h
  refine kf_iload hx dX11_telling_131 2 rfl ?_
  refine kf_aload_n hx dX11_telling_133 rfl 0 rfl ?_
  refine kf_getI hx sl_72_20 fl_RX11_287 dX11_telling_134 ?_
  refine kf_icmp_ge hx 179 dX11_telling_137 (by decide) (fun c => ?_) (fun c => ?_)
  · replace h := h.1 c
    refine kf_sub [0] rfl ?_
    exact hE131 _ h
  · replace h := h.2 c
    refine kf_aload_n hx dX11_telling_140 rfl 0 rfl ?_
    refine kf_getR (n := 99) hx sl_72_49 fl_RX11_103 dX11_telling_141 ?_
    refine kf_iload hx dX11_telling_144 2 rfl ?_
    refine kf_aload_n hx dX11_telling_146 rfl 0 rfl ?_
    refine kf_getR (n := 91) hx sl_72_39 fl_RX11_78 dX11_telling_147 ?_
    refine kf_bipush (v := 12) hx dX11_telling_150 (by decide) ?_
    refine kf_iload_n hx dX11_telling_152 rfl 1 rfl ?_
    refine kf_imul hx dX11_telling_153 ?_
    refine kf_iload hx dX11_telling_154 2 rfl ?_
    refine kf_iadd hx dX11_telling_156 ?_
    refine kf_iald hx ar_91 h.1 dX11_telling_157 ?_
    replace h := h.2
    refine kf_iast hx ar_99 h.1 dX11_telling_158 ?_
    replace h := h.2
    refine kf_nmI (fun I_8 eI_8 => ?_)
    replace h := h I_8 eI_8
    refine kf_aload_n hx dX11_telling_159 rfl 0 rfl ?_
    refine kf_getR (n := 98) hx sl_72_48 fl_RX11_100 dX11_telling_160 ?_
    refine kf_iload hx dX11_telling_163 2 rfl ?_
    refine kf_aload_n hx dX11_telling_165 rfl 0 rfl ?_
    refine kf_getR (n := 99) hx sl_72_49 fl_RX11_103 dX11_telling_166 ?_
    refine kf_iload hx dX11_telling_169 2 rfl ?_
    refine kf_iald hx ar_99 h.1 dX11_telling_171 ?_
    replace h := h.2
    refine kf_iast hx ar_98 h.1 dX11_telling_172 ?_
    replace h := h.2
    refine kf_nmI (fun I_9 eI_9 => ?_)
    replace h := h I_9 eI_9
    refine kf_iinc (w := (x4 + 1)) (lv' := [(4, .int (x4 + 1)), (0, .ref (g.2.2.2 72)), (1, .int x1)]) hx dX11_telling_173 2 rfl rfl (by decide) rfl ?_
    refine kf_goto hx 131 dX11_telling_176 (by decide) ?_
    refine kf_sub [1, 2, 0] rfl ?_
    exact hK131 _ _ h
theorem wl_X11_telling_131 (g : kf_G) (hg : kf_g g) {x : kf_X} (hx : kf_ok g x RX11 cX11_telling 7 18 426) (J : HJ) (x1 : Int32) (Post : Int32 → HI → HJ → Prop) (hret : ∀ (pc : Nat) (lv : List (Nat × Value)) (v : Int32) (Iy : HI) (Jy : HJ), decode cX11_telling pc = .ok (.ireturn, 1) → Post v Iy Jy → kf_M g x 7 pc lv [.int v] Iy Jy) (E131 : HI → Prop) (hE131 : ∀ (Iy : HI), E131 Iy → kf_M g x 7 179 [(0, .ref (g.2.2.2 72))] [] Iy J) : ∀ (n : Nat) (x4 : Int32) (I : HI), lp (wb_X11_telling_131 J x1 Post E131) n (x4, I) → kf_M g x 7 131 [(0, .ref (g.2.2.2 72)), (1, .int x1), (4, .int x4)] [] I J := by
  intro n
  induction n with
  | zero => intro x4 I h; exact h.elim
  | succ n ih => intro x4 I h; exact ws_X11_telling_131 g hg hx J x1 Post hret E131 hE131 (lp (wb_X11_telling_131 J x1 Post E131) n) ih x4 I h
def w_X11_telling (x1 : Int32) (I : HI) (J : HJ) (Post : Int32 → HI → HJ → Prop) : Prop :=
  ∀ I_1 : HI, I_1 = hI I 72 1 0 → (∀ I_2 : HI, I_2 = hI I_1 72 0 0 → (w_X11_isIn (Int32.toInt64 x1) 0 (Int32.toInt64 ((I_2 72 38) - 1)) (fun (r_3 : Bool) => ((r_3 = true → (∃ n, lp (wb_X11_telling_37 I_2 J x1 Post (fun (x2_7 : Int64) => (x2_7 ≤ 5040 → (∃ n, lp (wb_X11_telling_131 J x1 Post (fun (I_10 : HI) => w_X11_toldNow  I_10 J (fun (r_11 : Int32) => (∀ J_12 : HJ, J_12 = hJ J 72 50 0 → (∀ J_13 : HJ, J_13 = hJ J_12 72 51 0 → (w_X11_deal 14 0 0 r_11 I_10 J_13 (fun (I_14 : HI) (J_15 : HJ) => (w_X11_fraction (J_15 72 51) (J_15 72 50) I_14 J_15 (fun (J_16 : HJ) => (Post r_11 I_14 J_16)))))))))) n (0, I_2))) ∧ (¬ x2_7 ≤ 5040 → (w_X11_refusedBy 9 I_2 J (fun (r_17 : Int32) (I_18 : HI) => (Post r_17 I_18 J)))))) n (1, 0))) ∧ (r_3 = false → (w_X11_refusedBy 2 I_2 J (fun (r_19 : Int32) (I_20 : HI) => (Post r_19 I_20 J))))))))
set_option maxHeartbeats 4000000 in
set_option maxRecDepth 20000 in
theorem we_X11_telling (g : kf_G) (hg : kf_g g) {x : kf_X} (hx : kf_ok g x RX11 cX11_telling 7 18 426) (x1 : Int32) (I : HI) (J : HJ) (Post : Int32 → HI → HJ → Prop) (hret : ∀ (pc : Nat) (lv : List (Nat × Value)) (v : Int32) (Iy : HI) (Jy : HJ), decode cX11_telling pc = .ok (.ireturn, 1) → Post v Iy Jy → kf_M g x 7 pc lv [.int v] Iy Jy) (h : w_X11_telling x1 I J Post) : kf_M g x 7 0 [(0, .ref (g.2.2.2 72)), (1, .int x1)] [] I J := by
  unfold w_X11_telling at h
  refine kf_aload_n hx dX11_telling_0 rfl 0 rfl ?_
  refine kf_iconst (v := 0) hx dX11_telling_1 (by decide) ?_
  refine kf_putI hx sl_72_1 fl_RX11_106 fp_11_1 dX11_telling_2 ?_
  refine kf_nmI (fun I_1 eI_1 => ?_)
  replace h := h I_1 eI_1
  refine kf_aload_n hx dX11_telling_5 rfl 0 rfl ?_
  refine kf_iconst (v := 0) hx dX11_telling_6 (by decide) ?_
  refine kf_putI hx sl_72_0 fl_RX11_109 fp_11_0 dX11_telling_7 ?_
  refine kf_nmI (fun I_2 eI_2 => ?_)
  replace h := h I_2 eI_2
  refine kf_iload_n hx dX11_telling_10 rfl 1 rfl ?_
  refine kf_i2l hx dX11_telling_11 ?_
  refine kf_lconst (v := 0) hx dX11_telling_12 (by decide) ?_
  refine kf_aload_n hx dX11_telling_13 rfl 0 rfl ?_
  refine kf_getI hx sl_72_38 fl_RX11_293 dX11_telling_14 ?_
  refine kf_iconst (v := 1) hx dX11_telling_17 (by decide) ?_
  refine kf_isub hx dX11_telling_18 ?_
  refine kf_i2l hx dX11_telling_19 ?_
  refine kf_callSbP (st := []) hx (m_X11_isIn g hg (Int32.toInt64 x1) 0 (Int32.toInt64 ((I_2 72 38) - 1)) I_2 J _ h) lk_RX11_228 km_X11_isIn rfl (by decide) rfl (Nat.le_of_ble_eq_true rfl) dX11_telling_20 (fun r_3 h => ?_)
  refine kf_ifB_ne hx 32 dX11_telling_23 (by decide) (fun c => ?_) (fun c => ?_)
  · replace h := h.1 c
    refine kf_lconst (v := 1) hx dX11_telling_32 (by decide) ?_
    refine kf_lstore_n (lv' := [(2, .long 1), (0, .ref (g.2.2.2 72)), (1, .int x1)]) hx dX11_telling_33 rfl (by decide) rfl ?_
    refine kf_iconst (v := 0) hx dX11_telling_34 (by decide) ?_
    refine kf_istore (lv' := [(4, .int 0), (2, .long 1), (0, .ref (g.2.2.2 72)), (1, .int x1)]) hx dX11_telling_35 (by decide) rfl ?_
    obtain ⟨n, h⟩ := h
    refine kf_sub [2, 3, 1, 0] rfl ?_
    refine wl_X11_telling_37 g hg hx I_2 J x1 _ hret _ (fun x2_7 h => ?_) n _ _ h
    refine kf_lload_n hx dX11_telling_113 rfl 2 rfl ?_
    refine kf_ldc2 hx ko_RX11_421 dX11_telling_114 ?_
    refine kf_l_le hx 128 dX11_telling_117 dX11_telling_118 (by decide) (fun c => ?_) (fun c => ?_)
    · replace h := h.1 c
      refine kf_iconst (v := 0) hx dX11_telling_128 (by decide) ?_
      refine kf_istore (lv' := [(4, .int 0), (0, .ref (g.2.2.2 72)), (1, .int x1), (2, .long x2_7)]) hx dX11_telling_129 (by decide) rfl ?_
      obtain ⟨n, h⟩ := h
      refine kf_sub [1, 2, 0] rfl ?_
      refine wl_X11_telling_131 g hg hx J x1 _ hret _ (fun I_10 h => ?_) n _ _ h
      refine kf_aload_n hx dX11_telling_179 rfl 0 rfl ?_
      refine kf_callViP (st := []) hx (m_X11_toldNow g hg  I_10 J _ h) lk_RX11_415 km_X11_toldNow ob_72 rfl (by decide) rfl (Nat.le_of_ble_eq_true rfl) dX11_telling_180 (fun r_11 h => ?_)
      refine kf_istore (lv' := [(4, .int r_11), (0, .ref (g.2.2.2 72))]) hx dX11_telling_183 (by decide) rfl ?_
      refine kf_aload_n hx dX11_telling_185 rfl 1 rfl ?_
      refine kf_lconst (v := 0) hx dX11_telling_186 (by decide) ?_
      refine kf_putJ hx sl_72_50 fl_RX11_409 fp_11_50 dX11_telling_187 ?_
      refine kf_nmJ (fun J_12 eJ_12 => ?_)
      replace h := h J_12 eJ_12
      refine kf_aload_n hx dX11_telling_190 rfl 1 rfl ?_
      refine kf_lconst (v := 0) hx dX11_telling_191 (by decide) ?_
      refine kf_putJ hx sl_72_51 fl_RX11_412 fp_11_51 dX11_telling_192 ?_
      refine kf_nmJ (fun J_13 eJ_13 => ?_)
      replace h := h J_13 eJ_13
      refine kf_aload_n hx dX11_telling_195 rfl 1 rfl ?_
      refine kf_iconst (v := 0) hx dX11_telling_196 (by decide) ?_
      refine kf_iconst (v := 0) hx dX11_telling_197 (by decide) ?_
      refine kf_iload hx dX11_telling_198 0 rfl ?_
      refine kf_callVv (st := []) hx (m_X11_deal g hg 14 0 0 r_11 I_10 J_13 _ h) lk_RX11_418 km_X11_deal ob_72 rfl (by decide) rfl (Nat.le_of_ble_eq_true rfl) dX11_telling_200 (fun I_14 J_15 h => ?_)
      refine kf_aload_n hx dX11_telling_203 rfl 1 rfl ?_
      refine kf_aload_n hx dX11_telling_204 rfl 1 rfl ?_
      refine kf_getJ hx sl_72_51 fl_RX11_412 dX11_telling_205 ?_
      refine kf_aload_n hx dX11_telling_208 rfl 1 rfl ?_
      refine kf_getJ hx sl_72_50 fl_RX11_409 dX11_telling_209 ?_
      refine kf_callVvJ (st := []) hx (m_X11_fraction g hg (J_15 72 51) (J_15 72 50) I_14 J_15 _ h) lk_RX11_338 km_X11_fraction ob_72 rfl (by decide) rfl (Nat.le_of_ble_eq_true rfl) dX11_telling_212 (fun J_16 h => ?_)
      refine kf_iload hx dX11_telling_215 0 rfl ?_
      exact hret _ _ r_11 _ _ dX11_telling_217 h
    · replace h := h.2 c
      refine kf_aload_n hx dX11_telling_121 rfl 0 rfl ?_
      refine kf_bipush (v := 9) hx dX11_telling_122 (by decide) ?_
      refine kf_callViI (st := []) hx (m_X11_refusedBy g hg 9 I_2 J _ h) lk_RX11_272 km_X11_refusedBy ob_72 rfl (by decide) rfl (Nat.le_of_ble_eq_true rfl) dX11_telling_124 (fun r_17 I_18 h => ?_)
      exact hret _ _ r_17 _ _ dX11_telling_127 h
  · replace h := h.2 c
    refine kf_aload_n hx dX11_telling_26 rfl 0 rfl ?_
    refine kf_iconst (v := 2) hx dX11_telling_27 (by decide) ?_
    refine kf_callViI (st := []) hx (m_X11_refusedBy g hg 2 I_2 J _ h) lk_RX11_272 km_X11_refusedBy ob_72 rfl (by decide) rfl (Nat.le_of_ble_eq_true rfl) dX11_telling_28 (fun r_19 I_20 h => ?_)
    exact hret _ _ r_19 _ _ dX11_telling_31 h
set_option maxHeartbeats 4000000 in
set_option maxRecDepth 20000 in
theorem m_X11_telling (g : kf_G) (hg : kf_g g) (x1 : Int32) (I : HI) (J : HJ) (Post : Int32 → HI → HJ → Prop) (h : w_X11_telling x1 I J Post) : kf_Mi g yX11_telling (kf_W yX11_telling cX11_telling 7 (Option.some Jvm.ClassFile.FieldType.int)) 18 426 [.ref (g.2.2.2 72), .int x1] I J Post :=
  kf_enti hg (by decide) (Nat.le_of_ble_eq_true rfl) rfl (fun x hx hr => we_X11_telling g hg hx x1 I J Post (fun pc lv v I' J' hd hP => hr pc lv v I' J' hd hP) h)
theorem dX11_lead_0 : decode cX11_lead 0 = .ok (.aload_n 0, 1) := by decide +kernel
theorem dX11_lead_1 : decode cX11_lead 1 = .ok (.iconst 0, 1) := by decide +kernel
theorem dX11_lead_2 : decode cX11_lead 2 = .ok (.putfield 106, 3) := by decide +kernel
theorem dX11_lead_5 : decode cX11_lead 5 = .ok (.aload_n 0, 1) := by decide +kernel
theorem dX11_lead_6 : decode cX11_lead 6 = .ok (.iconst 0, 1) := by decide +kernel
theorem dX11_lead_7 : decode cX11_lead 7 = .ok (.putfield 109, 3) := by decide +kernel
theorem dX11_lead_10 : decode cX11_lead 10 = .ok (.aload_n 0, 1) := by decide +kernel
theorem dX11_lead_11 : decode cX11_lead 11 = .ok (.iload_n 1, 1) := by decide +kernel
theorem dX11_lead_12 : decode cX11_lead 12 = .ok (.invokevirtual 314, 3) := by decide +kernel
theorem dX11_lead_15 : decode cX11_lead 15 = .ok (.ifCond .eq 19, 3) := by decide +kernel
theorem dX11_lead_18 : decode cX11_lead 18 = .ok (.aload_n 0, 1) := by decide +kernel
theorem dX11_lead_19 : decode cX11_lead 19 = .ok (.iload_n 2, 1) := by decide +kernel
theorem dX11_lead_20 : decode cX11_lead 20 = .ok (.invokevirtual 301, 3) := by decide +kernel
theorem dX11_lead_23 : decode cX11_lead 23 = .ok (.ifCond .eq 11, 3) := by decide +kernel
theorem dX11_lead_26 : decode cX11_lead 26 = .ok (.aload_n 0, 1) := by decide +kernel
theorem dX11_lead_27 : decode cX11_lead 27 = .ok (.iload_n 3, 1) := by decide +kernel
theorem dX11_lead_28 : decode cX11_lead 28 = .ok (.invokevirtual 296, 3) := by decide +kernel
theorem dX11_lead_31 : decode cX11_lead 31 = .ok (.ifCond .ne 9, 3) := by decide +kernel
theorem dX11_lead_34 : decode cX11_lead 34 = .ok (.aload_n 0, 1) := by decide +kernel
theorem dX11_lead_35 : decode cX11_lead 35 = .ok (.iconst 2, 1) := by decide +kernel
theorem dX11_lead_36 : decode cX11_lead 36 = .ok (.invokevirtual 272, 3) := by decide +kernel
theorem dX11_lead_39 : decode cX11_lead 39 = .ok (.ireturn, 1) := by decide +kernel
theorem dX11_lead_40 : decode cX11_lead 40 = .ok (.iload 4, 2) := by decide +kernel
theorem dX11_lead_42 : decode cX11_lead 42 = .ok (.i2l, 1) := by decide +kernel
theorem dX11_lead_43 : decode cX11_lead 43 = .ok (.lconst 0, 1) := by decide +kernel
theorem dX11_lead_44 : decode cX11_lead 44 = .ok (.lconst 1, 1) := by decide +kernel
theorem dX11_lead_45 : decode cX11_lead 45 = .ok (.invokestatic 228, 3) := by decide +kernel
theorem dX11_lead_48 : decode cX11_lead 48 = .ok (.ifCond .ne 9, 3) := by decide +kernel
theorem dX11_lead_51 : decode cX11_lead 51 = .ok (.aload_n 0, 1) := by decide +kernel
theorem dX11_lead_52 : decode cX11_lead 52 = .ok (.iconst 5, 1) := by decide +kernel
theorem dX11_lead_53 : decode cX11_lead 53 = .ok (.invokevirtual 272, 3) := by decide +kernel
theorem dX11_lead_56 : decode cX11_lead 56 = .ok (.ireturn, 1) := by decide +kernel
theorem dX11_lead_57 : decode cX11_lead 57 = .ok (.aload_n 0, 1) := by decide +kernel
theorem dX11_lead_58 : decode cX11_lead 58 = .ok (.iload_n 1, 1) := by decide +kernel
theorem dX11_lead_59 : decode cX11_lead 59 = .ok (.iconst 0, 1) := by decide +kernel
theorem dX11_lead_60 : decode cX11_lead 60 = .ok (.iconst 0, 1) := by decide +kernel
theorem dX11_lead_61 : decode cX11_lead 61 = .ok (.iload_n 2, 1) := by decide +kernel
theorem dX11_lead_62 : decode cX11_lead 62 = .ok (.invokevirtual 379, 3) := by decide +kernel
theorem dX11_lead_65 : decode cX11_lead 65 = .ok (.aload_n 0, 1) := by decide +kernel
theorem dX11_lead_66 : decode cX11_lead 66 = .ok (.getfield 81, 3) := by decide +kernel
theorem dX11_lead_69 : decode cX11_lead 69 = .ok (.iload_n 3, 1) := by decide +kernel
theorem dX11_lead_70 : decode cX11_lead 70 = .ok (.iaload, 1) := by decide +kernel
theorem dX11_lead_71 : decode cX11_lead 71 = .ok (.sipush 1000, 3) := by decide +kernel
theorem dX11_lead_74 : decode cX11_lead 74 = .ok (.if_icmp .ne 10, 3) := by decide +kernel
theorem dX11_lead_77 : decode cX11_lead 77 = .ok (.aload_n 0, 1) := by decide +kernel
theorem dX11_lead_78 : decode cX11_lead 78 = .ok (.bipush 8, 2) := by decide +kernel
theorem dX11_lead_80 : decode cX11_lead 80 = .ok (.invokevirtual 272, 3) := by decide +kernel
theorem dX11_lead_83 : decode cX11_lead 83 = .ok (.ireturn, 1) := by decide +kernel
theorem dX11_lead_84 : decode cX11_lead 84 = .ok (.iload 4, 2) := by decide +kernel
theorem dX11_lead_86 : decode cX11_lead 86 = .ok (.iconst 1, 1) := by decide +kernel
theorem dX11_lead_87 : decode cX11_lead 87 = .ok (.if_icmp .ne 10, 3) := by decide +kernel
theorem dX11_lead_90 : decode cX11_lead 90 = .ok (.aload_n 0, 1) := by decide +kernel
theorem dX11_lead_91 : decode cX11_lead 91 = .ok (.getfield 81, 3) := by decide +kernel
theorem dX11_lead_94 : decode cX11_lead 94 = .ok (.iload_n 3, 1) := by decide +kernel
theorem dX11_lead_95 : decode cX11_lead 95 = .ok (.iaload, 1) := by decide +kernel
theorem dX11_lead_96 : decode cX11_lead 96 = .ok (.ireturn, 1) := by decide +kernel
theorem dX11_lead_97 : decode cX11_lead 97 = .ok (.aload_n 0, 1) := by decide +kernel
theorem dX11_lead_98 : decode cX11_lead 98 = .ok (.getfield 84, 3) := by decide +kernel
theorem dX11_lead_101 : decode cX11_lead 101 = .ok (.iload_n 3, 1) := by decide +kernel
theorem dX11_lead_102 : decode cX11_lead 102 = .ok (.iaload, 1) := by decide +kernel
theorem dX11_lead_103 : decode cX11_lead 103 = .ok (.sipush 1000, 3) := by decide +kernel
theorem dX11_lead_106 : decode cX11_lead 106 = .ok (.if_icmp .ne 10, 3) := by decide +kernel
theorem dX11_lead_109 : decode cX11_lead 109 = .ok (.aload_n 0, 1) := by decide +kernel
theorem dX11_lead_110 : decode cX11_lead 110 = .ok (.bipush 8, 2) := by decide +kernel
theorem dX11_lead_112 : decode cX11_lead 112 = .ok (.invokevirtual 272, 3) := by decide +kernel
theorem dX11_lead_115 : decode cX11_lead 115 = .ok (.ireturn, 1) := by decide +kernel
theorem dX11_lead_116 : decode cX11_lead 116 = .ok (.iconst (-1), 1) := by decide +kernel
theorem dX11_lead_117 : decode cX11_lead 117 = .ok (.istore 5, 2) := by decide +kernel
theorem dX11_lead_119 : decode cX11_lead 119 = .ok (.iconst 0, 1) := by decide +kernel
theorem dX11_lead_120 : decode cX11_lead 120 = .ok (.istore 6, 2) := by decide +kernel
theorem dX11_lead_122 : decode cX11_lead 122 = .ok (.iload 6, 2) := by decide +kernel
theorem dX11_lead_124 : decode cX11_lead 124 = .ok (.aload_n 0, 1) := by decide +kernel
theorem dX11_lead_125 : decode cX11_lead 125 = .ok (.getfield 290, 3) := by decide +kernel
theorem dX11_lead_128 : decode cX11_lead 128 = .ok (.if_icmp .ge 79, 3) := by decide +kernel
theorem dX11_lead_131 : decode cX11_lead 131 = .ok (.aload_n 0, 1) := by decide +kernel
theorem dX11_lead_132 : decode cX11_lead 132 = .ok (.getfield 44, 3) := by decide +kernel
theorem dX11_lead_135 : decode cX11_lead 135 = .ok (.iload 6, 2) := by decide +kernel
theorem dX11_lead_137 : decode cX11_lead 137 = .ok (.iaload, 1) := by decide +kernel
theorem dX11_lead_138 : decode cX11_lead 138 = .ok (.iload_n 3, 1) := by decide +kernel
theorem dX11_lead_139 : decode cX11_lead 139 = .ok (.if_icmp .ne 62, 3) := by decide +kernel
theorem dX11_lead_142 : decode cX11_lead 142 = .ok (.iload_n 2, 1) := by decide +kernel
theorem dX11_lead_143 : decode cX11_lead 143 = .ok (.iload 6, 2) := by decide +kernel
theorem dX11_lead_145 : decode cX11_lead 145 = .ok (.ishr, 1) := by decide +kernel
theorem dX11_lead_146 : decode cX11_lead 146 = .ok (.iconst 1, 1) := by decide +kernel
theorem dX11_lead_147 : decode cX11_lead 147 = .ok (.iand, 1) := by decide +kernel
theorem dX11_lead_148 : decode cX11_lead 148 = .ok (.ifCond .eq 53, 3) := by decide +kernel
theorem dX11_lead_151 : decode cX11_lead 151 = .ok (.aload_n 0, 1) := by decide +kernel
theorem dX11_lead_152 : decode cX11_lead 152 = .ok (.getfield 90, 3) := by decide +kernel
theorem dX11_lead_155 : decode cX11_lead 155 = .ok (.iload 6, 2) := by decide +kernel
theorem dX11_lead_157 : decode cX11_lead 157 = .ok (.iaload, 1) := by decide +kernel
theorem dX11_lead_158 : decode cX11_lead 158 = .ok (.aload_n 0, 1) := by decide +kernel
theorem dX11_lead_159 : decode cX11_lead 159 = .ok (.getfield 84, 3) := by decide +kernel
theorem dX11_lead_162 : decode cX11_lead 162 = .ok (.iload_n 3, 1) := by decide +kernel
theorem dX11_lead_163 : decode cX11_lead 163 = .ok (.iaload, 1) := by decide +kernel
theorem dX11_lead_164 : decode cX11_lead 164 = .ok (.if_icmp .le 6, 3) := by decide +kernel
theorem dX11_lead_167 : decode cX11_lead 167 = .ok (.goto 34, 3) := by decide +kernel
theorem dX11_lead_170 : decode cX11_lead 170 = .ok (.iload 5, 2) := by decide +kernel
theorem dX11_lead_172 : decode cX11_lead 172 = .ok (.ifCond .lt 20, 3) := by decide +kernel
theorem dX11_lead_175 : decode cX11_lead 175 = .ok (.aload_n 0, 1) := by decide +kernel
theorem dX11_lead_176 : decode cX11_lead 176 = .ok (.getfield 90, 3) := by decide +kernel
theorem dX11_lead_179 : decode cX11_lead 179 = .ok (.iload 6, 2) := by decide +kernel
theorem dX11_lead_181 : decode cX11_lead 181 = .ok (.iaload, 1) := by decide +kernel
theorem dX11_lead_182 : decode cX11_lead 182 = .ok (.aload_n 0, 1) := by decide +kernel
theorem dX11_lead_183 : decode cX11_lead 183 = .ok (.getfield 90, 3) := by decide +kernel
theorem dX11_lead_186 : decode cX11_lead 186 = .ok (.iload 5, 2) := by decide +kernel
theorem dX11_lead_188 : decode cX11_lead 188 = .ok (.iaload, 1) := by decide +kernel
theorem dX11_lead_189 : decode cX11_lead 189 = .ok (.if_icmp .le 8, 3) := by decide +kernel
theorem dX11_lead_192 : decode cX11_lead 192 = .ok (.iload 6, 2) := by decide +kernel
theorem dX11_lead_194 : decode cX11_lead 194 = .ok (.goto 5, 3) := by decide +kernel
theorem dX11_lead_197 : decode cX11_lead 197 = .ok (.iload 5, 2) := by decide +kernel
theorem dX11_lead_199 : decode cX11_lead 199 = .ok (.istore 5, 2) := by decide +kernel
theorem dX11_lead_201 : decode cX11_lead 201 = .ok (.iinc 6 1, 3) := by decide +kernel
theorem dX11_lead_204 : decode cX11_lead 204 = .ok (.goto (-82), 3) := by decide +kernel
theorem dX11_lead_207 : decode cX11_lead 207 = .ok (.iload 5, 2) := by decide +kernel
theorem dX11_lead_209 : decode cX11_lead 209 = .ok (.ireturn, 1) := by decide +kernel
def wj_X11_lead_34 (I : HI) (J : HJ)  (Post : Int32 → HI → Prop) : Prop :=
  w_X11_refusedBy 2 I J (fun (r_4 : Int32) (I_5 : HI) => (Post r_4 I_5))
set_option maxHeartbeats 4000000 in
set_option maxRecDepth 20000 in
theorem wk_X11_lead_34 (g : kf_G) (hg : kf_g g) {x : kf_X} (hx : kf_ok g x RX11 cX11_lead 7 3 77) (I : HI) (J : HJ)  (Post : Int32 → HI → Prop) (hret : ∀ (pc : Nat) (lv : List (Nat × Value)) (v : Int32) (Iy : HI), decode cX11_lead pc = .ok (.ireturn, 1) → Post v Iy → kf_M g x 7 pc lv [.int v] Iy J) (h : wj_X11_lead_34 I J  Post) : kf_M g x 7 34 [(0, .ref (g.2.2.2 72))] [] I J := by
  unfold wj_X11_lead_34 at h
  refine kf_aload_n hx dX11_lead_34 rfl 0 rfl ?_
  refine kf_iconst (v := 2) hx dX11_lead_35 (by decide) ?_
  refine kf_callViI (st := []) hx (m_X11_refusedBy g hg 2 I J _ h) lk_RX11_272 km_X11_refusedBy ob_72 rfl (by decide) rfl (Nat.le_of_ble_eq_true rfl) dX11_lead_36 (fun r_4 I_5 h => ?_)
  exact hret _ _ r_4 _ dX11_lead_39 h
def wb_X11_lead_122 (I : HI) (J : HJ) (x2 : Int32) (x3 : Int32) (Post : Int32 → HI → Prop) (E122 : Int32 → Prop) (K122 : (Int32 × Int32) → Prop) (s : Int32 × Int32) : Prop :=
  match s with
  | (x5, x6) => ((I 72 21) ≤ x6 → (E122 x5)) ∧ (¬ (I 72 21) ≤ x6 → (vp_in x6 10 ∧ ((¬ (I 80 (Int32.toNatClampNeg x6)) = x3 → (K122 (x5, (x6 + 1)))) ∧ ((I 80 (Int32.toNatClampNeg x6)) = x3 → ((((x2 >>> (x6 &&& 31)) &&& 1) = 0 → (K122 (x5, (x6 + 1)))) ∧ (¬ ((x2 >>> (x6 &&& 31)) &&& 1) = 0 → (vp_in x6 10 ∧ (vp_in x3 12 ∧ (((I 95 (Int32.toNatClampNeg x6)) ≤ (I 93 (Int32.toNatClampNeg x3)) → ((x5 < 0 → (K122 (x6, (x6 + 1)))) ∧ (¬ x5 < 0 → (vp_in x6 10 ∧ (vp_in x5 10 ∧ (((I 95 (Int32.toNatClampNeg x6)) ≤ (I 95 (Int32.toNatClampNeg x5)) → (K122 (x5, (x6 + 1)))) ∧ (¬ (I 95 (Int32.toNatClampNeg x6)) ≤ (I 95 (Int32.toNatClampNeg x5)) → (K122 (x6, (x6 + 1)))))))))) ∧ (¬ (I 95 (Int32.toNatClampNeg x6)) ≤ (I 93 (Int32.toNatClampNeg x3)) → (K122 (x5, (x6 + 1)))))))))))))
set_option maxHeartbeats 4000000 in
set_option maxRecDepth 20000 in
theorem ws_X11_lead_122 (g : kf_G) (hg : kf_g g) {x : kf_X} (hx : kf_ok g x RX11 cX11_lead 7 3 77) (I : HI) (J : HJ) (x2 : Int32) (x3 : Int32) (Post : Int32 → HI → Prop) (hret : ∀ (pc : Nat) (lv : List (Nat × Value)) (v : Int32) (Iy : HI), decode cX11_lead pc = .ok (.ireturn, 1) → Post v Iy → kf_M g x 7 pc lv [.int v] Iy J) (E122 : Int32 → Prop) (hE122 : ∀ (y5 : Int32), E122 y5 → kf_M g x 7 207 [(5, .int y5)] [] I J) (K122 : (Int32 × Int32) → Prop) (hK122 : ∀ (y5 : Int32) (y6 : Int32), K122 (y5, y6) → kf_M g x 7 122 [(0, .ref (g.2.2.2 72)), (2, .int x2), (3, .int x3), (5, .int y5), (6, .int y6)] [] I J) (x5 : Int32) (x6 : Int32) (h : wb_X11_lead_122 I J x2 x3 Post E122 K122 (x5, x6)) : kf_M g x 7 122 [(0, .ref (g.2.2.2 72)), (2, .int x2), (3, .int x3), (5, .int x5), (6, .int x6)] [] I J := by
  unfold wb_X11_lead_122 at h
  refine kf_iload hx dX11_lead_122 4 rfl ?_
  refine kf_aload_n hx dX11_lead_124 rfl 0 rfl ?_
  refine kf_getI hx sl_72_21 fl_RX11_290 dX11_lead_125 ?_
  refine kf_icmp_ge hx 207 dX11_lead_128 (by decide) (fun c => ?_) (fun c => ?_)
  · replace h := h.1 c
    refine kf_sub [3] rfl ?_
    exact hE122 _ h
  · replace h := h.2 c
    refine kf_aload_n hx dX11_lead_131 rfl 0 rfl ?_
    refine kf_getR (n := 80) hx sl_72_27 fl_RX11_44 dX11_lead_132 ?_
    refine kf_iload hx dX11_lead_135 4 rfl ?_
    refine kf_iald hx ar_80 h.1 dX11_lead_137 ?_
    replace h := h.2
    refine kf_iload_n hx dX11_lead_138 rfl 2 rfl ?_
    refine kf_icmp_ne hx 201 dX11_lead_139 (by decide) (fun c => ?_) (fun c => ?_)
    · replace h := h.1 c
      refine kf_iinc (w := (x6 + 1)) (lv' := [(6, .int (x6 + 1)), (0, .ref (g.2.2.2 72)), (2, .int x2), (3, .int x3), (5, .int x5)]) hx dX11_lead_201 4 rfl rfl (by decide) rfl ?_
      refine kf_goto hx 122 dX11_lead_204 (by decide) ?_
      refine kf_sub [1, 2, 3, 4, 0] rfl ?_
      exact hK122 _ _ h
    · replace h := h.2 c
      refine kf_iload_n hx dX11_lead_142 rfl 1 rfl ?_
      refine kf_iload hx dX11_lead_143 4 rfl ?_
      refine kf_ishr hx dX11_lead_145 ?_
      refine kf_iconst (v := 1) hx dX11_lead_146 (by decide) ?_
      refine kf_iand hx dX11_lead_147 ?_
      refine kf_if_eq hx 201 dX11_lead_148 (by decide) (fun c => ?_) (fun c => ?_)
      · replace h := h.1 c
        refine kf_iinc (w := (x6 + 1)) (lv' := [(6, .int (x6 + 1)), (0, .ref (g.2.2.2 72)), (2, .int x2), (3, .int x3), (5, .int x5)]) hx dX11_lead_201 4 rfl rfl (by decide) rfl ?_
        refine kf_goto hx 122 dX11_lead_204 (by decide) ?_
        refine kf_sub [1, 2, 3, 4, 0] rfl ?_
        exact hK122 _ _ h
      · replace h := h.2 c
        refine kf_aload_n hx dX11_lead_151 rfl 0 rfl ?_
        refine kf_getR (n := 95) hx sl_72_43 fl_RX11_90 dX11_lead_152 ?_
        refine kf_iload hx dX11_lead_155 4 rfl ?_
        refine kf_iald hx ar_95 h.1 dX11_lead_157 ?_
        replace h := h.2
        refine kf_aload_n hx dX11_lead_158 rfl 0 rfl ?_
        refine kf_getR (n := 93) hx sl_72_41 fl_RX11_84 dX11_lead_159 ?_
        refine kf_iload_n hx dX11_lead_162 rfl 2 rfl ?_
        refine kf_iald hx ar_93 h.1 dX11_lead_163 ?_
        replace h := h.2
        refine kf_icmp_le hx 170 dX11_lead_164 (by decide) (fun c => ?_) (fun c => ?_)
        · replace h := h.1 c
          refine kf_iload hx dX11_lead_170 3 rfl ?_
          refine kf_if_lt hx 192 dX11_lead_172 (by decide) (fun c => ?_) (fun c => ?_)
          · replace h := h.1 c
            refine kf_iload hx dX11_lead_192 4 rfl ?_
            refine kf_goto hx 199 dX11_lead_194 (by decide) ?_
            refine kf_istore (lv' := [(5, .int x6), (0, .ref (g.2.2.2 72)), (2, .int x2), (3, .int x3), (6, .int x6)]) hx dX11_lead_199 (by decide) rfl ?_
            refine kf_iinc (w := (x6 + 1)) (lv' := [(6, .int (x6 + 1)), (5, .int x6), (0, .ref (g.2.2.2 72)), (2, .int x2), (3, .int x3)]) hx dX11_lead_201 4 rfl rfl (by decide) rfl ?_
            refine kf_goto hx 122 dX11_lead_204 (by decide) ?_
            refine kf_sub [2, 3, 4, 1, 0] rfl ?_
            exact hK122 _ _ h
          · replace h := h.2 c
            refine kf_aload_n hx dX11_lead_175 rfl 0 rfl ?_
            refine kf_getR (n := 95) hx sl_72_43 fl_RX11_90 dX11_lead_176 ?_
            refine kf_iload hx dX11_lead_179 4 rfl ?_
            refine kf_iald hx ar_95 h.1 dX11_lead_181 ?_
            replace h := h.2
            refine kf_aload_n hx dX11_lead_182 rfl 0 rfl ?_
            refine kf_getR (n := 95) hx sl_72_43 fl_RX11_90 dX11_lead_183 ?_
            refine kf_iload hx dX11_lead_186 3 rfl ?_
            refine kf_iald hx ar_95 h.1 dX11_lead_188 ?_
            replace h := h.2
            refine kf_icmp_le hx 197 dX11_lead_189 (by decide) (fun c => ?_) (fun c => ?_)
            · replace h := h.1 c
              refine kf_iload hx dX11_lead_197 3 rfl ?_
              refine kf_istore (lv' := [(5, .int x5), (0, .ref (g.2.2.2 72)), (2, .int x2), (3, .int x3), (6, .int x6)]) hx dX11_lead_199 (by decide) rfl ?_
              refine kf_iinc (w := (x6 + 1)) (lv' := [(6, .int (x6 + 1)), (5, .int x5), (0, .ref (g.2.2.2 72)), (2, .int x2), (3, .int x3)]) hx dX11_lead_201 4 rfl rfl (by decide) rfl ?_
              refine kf_goto hx 122 dX11_lead_204 (by decide) ?_
              refine kf_sub [2, 3, 4, 1, 0] rfl ?_
              exact hK122 _ _ h
            · replace h := h.2 c
              refine kf_iload hx dX11_lead_192 4 rfl ?_
              refine kf_goto hx 199 dX11_lead_194 (by decide) ?_
              refine kf_istore (lv' := [(5, .int x6), (0, .ref (g.2.2.2 72)), (2, .int x2), (3, .int x3), (6, .int x6)]) hx dX11_lead_199 (by decide) rfl ?_
              refine kf_iinc (w := (x6 + 1)) (lv' := [(6, .int (x6 + 1)), (5, .int x6), (0, .ref (g.2.2.2 72)), (2, .int x2), (3, .int x3)]) hx dX11_lead_201 4 rfl rfl (by decide) rfl ?_
              refine kf_goto hx 122 dX11_lead_204 (by decide) ?_
              refine kf_sub [2, 3, 4, 1, 0] rfl ?_
              exact hK122 _ _ h
        · replace h := h.2 c
          refine kf_goto hx 201 dX11_lead_167 (by decide) ?_
          refine kf_iinc (w := (x6 + 1)) (lv' := [(6, .int (x6 + 1)), (0, .ref (g.2.2.2 72)), (2, .int x2), (3, .int x3), (5, .int x5)]) hx dX11_lead_201 4 rfl rfl (by decide) rfl ?_
          refine kf_goto hx 122 dX11_lead_204 (by decide) ?_
          refine kf_sub [1, 2, 3, 4, 0] rfl ?_
          exact hK122 _ _ h
theorem wl_X11_lead_122 (g : kf_G) (hg : kf_g g) {x : kf_X} (hx : kf_ok g x RX11 cX11_lead 7 3 77) (I : HI) (J : HJ) (x2 : Int32) (x3 : Int32) (Post : Int32 → HI → Prop) (hret : ∀ (pc : Nat) (lv : List (Nat × Value)) (v : Int32) (Iy : HI), decode cX11_lead pc = .ok (.ireturn, 1) → Post v Iy → kf_M g x 7 pc lv [.int v] Iy J) (E122 : Int32 → Prop) (hE122 : ∀ (y5 : Int32), E122 y5 → kf_M g x 7 207 [(5, .int y5)] [] I J) : ∀ (n : Nat) (x5 : Int32) (x6 : Int32), lp (wb_X11_lead_122 I J x2 x3 Post E122) n (x5, x6) → kf_M g x 7 122 [(0, .ref (g.2.2.2 72)), (2, .int x2), (3, .int x3), (5, .int x5), (6, .int x6)] [] I J := by
  intro n
  induction n with
  | zero => intro x5 x6 h; exact h.elim
  | succ n ih => intro x5 x6 h; exact ws_X11_lead_122 g hg hx I J x2 x3 Post hret E122 hE122 (lp (wb_X11_lead_122 I J x2 x3 Post E122) n) ih x5 x6 h
def w_X11_lead (x1 : Int32) (x2 : Int32) (x3 : Int32) (x4 : Int32) (I : HI) (J : HJ) (Post : Int32 → HI → Prop) : Prop :=
  ∀ I_1 : HI, I_1 = hI I 72 1 0 → (∀ I_2 : HI, I_2 = hI I_1 72 0 0 → (w_X11_areSeeds x1 I_2 J (fun (r_3 : Bool) => ((r_3 = false → (wj_X11_lead_34 I_2 J Post)) ∧ (r_3 = true → (w_X11_isLot x2 I_2 J (fun (r_6 : Bool) => ((r_6 = false → (wj_X11_lead_34 I_2 J Post)) ∧ (r_6 = true → (w_X11_isOne x3 I_2 J (fun (r_7 : Bool) => ((r_7 = true → (w_X11_isIn (Int32.toInt64 x4) 0 1 (fun (r_8 : Bool) => ((r_8 = true → (w_X11_live x1 0 0 x2 I_2 J (fun (I_9 : HI) => (vp_in x3 12 ∧ ((¬ (I_9 92 (Int32.toNatClampNeg x3)) = 1000 → ((¬ x4 = 1 → (vp_in x3 12 ∧ ((¬ (I_9 93 (Int32.toNatClampNeg x3)) = 1000 → (∃ n, lp (wb_X11_lead_122 I_9 J x2 x3 Post (fun (x5_10 : Int32) => Post x5_10 I_9)) n ((-1), 0))) ∧ ((I_9 93 (Int32.toNatClampNeg x3)) = 1000 → (w_X11_refusedBy 8 I_9 J (fun (r_11 : Int32) (I_12 : HI) => (Post r_11 I_12))))))) ∧ (x4 = 1 → (vp_in x3 12 ∧ (Post (I_9 92 (Int32.toNatClampNeg x3)) I_9))))) ∧ ((I_9 92 (Int32.toNatClampNeg x3)) = 1000 → (w_X11_refusedBy 8 I_9 J (fun (r_13 : Int32) (I_14 : HI) => (Post r_13 I_14))))))))) ∧ (r_8 = false → (w_X11_refusedBy 5 I_2 J (fun (r_15 : Int32) (I_16 : HI) => (Post r_15 I_16)))))))) ∧ (r_7 = false → (wj_X11_lead_34 I_2 J Post))))))))))))))
set_option maxHeartbeats 4000000 in
set_option maxRecDepth 20000 in
theorem we_X11_lead (g : kf_G) (hg : kf_g g) {x : kf_X} (hx : kf_ok g x RX11 cX11_lead 7 3 77) (x1 : Int32) (x2 : Int32) (x3 : Int32) (x4 : Int32) (I : HI) (J : HJ) (Post : Int32 → HI → Prop) (hret : ∀ (pc : Nat) (lv : List (Nat × Value)) (v : Int32) (Iy : HI), decode cX11_lead pc = .ok (.ireturn, 1) → Post v Iy → kf_M g x 7 pc lv [.int v] Iy J) (h : w_X11_lead x1 x2 x3 x4 I J Post) : kf_M g x 7 0 [(0, .ref (g.2.2.2 72)), (1, .int x1), (2, .int x2), (3, .int x3), (4, .int x4)] [] I J := by
  unfold w_X11_lead at h
  refine kf_aload_n hx dX11_lead_0 rfl 0 rfl ?_
  refine kf_iconst (v := 0) hx dX11_lead_1 (by decide) ?_
  refine kf_putI hx sl_72_1 fl_RX11_106 fp_11_1 dX11_lead_2 ?_
  refine kf_nmI (fun I_1 eI_1 => ?_)
  replace h := h I_1 eI_1
  refine kf_aload_n hx dX11_lead_5 rfl 0 rfl ?_
  refine kf_iconst (v := 0) hx dX11_lead_6 (by decide) ?_
  refine kf_putI hx sl_72_0 fl_RX11_109 fp_11_0 dX11_lead_7 ?_
  refine kf_nmI (fun I_2 eI_2 => ?_)
  replace h := h I_2 eI_2
  refine kf_aload_n hx dX11_lead_10 rfl 0 rfl ?_
  refine kf_iload_n hx dX11_lead_11 rfl 1 rfl ?_
  refine kf_callVbP (st := []) hx (m_X11_areSeeds g hg x1 I_2 J _ h) lk_RX11_314 km_X11_areSeeds ob_72 rfl (by decide) rfl (Nat.le_of_ble_eq_true rfl) dX11_lead_12 (fun r_3 h => ?_)
  refine kf_ifB_eq hx 34 dX11_lead_15 (by decide) (fun c => ?_) (fun c => ?_)
  · replace h := h.1 c
    refine kf_sub [0] rfl ?_
    exact wk_X11_lead_34 g hg hx I_2 J  _ hret h
  · replace h := h.2 c
    refine kf_aload_n hx dX11_lead_18 rfl 0 rfl ?_
    refine kf_iload_n hx dX11_lead_19 rfl 2 rfl ?_
    refine kf_callVbP (st := []) hx (m_X11_isLot g hg x2 I_2 J _ h) lk_RX11_301 km_X11_isLot ob_72 rfl (by decide) rfl (Nat.le_of_ble_eq_true rfl) dX11_lead_20 (fun r_6 h => ?_)
    refine kf_ifB_eq hx 34 dX11_lead_23 (by decide) (fun c => ?_) (fun c => ?_)
    · replace h := h.1 c
      refine kf_sub [0] rfl ?_
      exact wk_X11_lead_34 g hg hx I_2 J  _ hret h
    · replace h := h.2 c
      refine kf_aload_n hx dX11_lead_26 rfl 0 rfl ?_
      refine kf_iload_n hx dX11_lead_27 rfl 3 rfl ?_
      refine kf_callVbP (st := []) hx (m_X11_isOne g hg x3 I_2 J _ h) lk_RX11_296 km_X11_isOne ob_72 rfl (by decide) rfl (Nat.le_of_ble_eq_true rfl) dX11_lead_28 (fun r_7 h => ?_)
      refine kf_ifB_ne hx 40 dX11_lead_31 (by decide) (fun c => ?_) (fun c => ?_)
      · replace h := h.1 c
        refine kf_iload hx dX11_lead_40 4 rfl ?_
        refine kf_i2l hx dX11_lead_42 ?_
        refine kf_lconst (v := 0) hx dX11_lead_43 (by decide) ?_
        refine kf_lconst (v := 1) hx dX11_lead_44 (by decide) ?_
        refine kf_callSbP (st := []) hx (m_X11_isIn g hg (Int32.toInt64 x4) 0 1 I_2 J _ h) lk_RX11_228 km_X11_isIn rfl (by decide) rfl (Nat.le_of_ble_eq_true rfl) dX11_lead_45 (fun r_8 h => ?_)
        refine kf_ifB_ne hx 57 dX11_lead_48 (by decide) (fun c => ?_) (fun c => ?_)
        · replace h := h.1 c
          refine kf_aload_n hx dX11_lead_57 rfl 0 rfl ?_
          refine kf_iload_n hx dX11_lead_58 rfl 1 rfl ?_
          refine kf_iconst (v := 0) hx dX11_lead_59 (by decide) ?_
          refine kf_iconst (v := 0) hx dX11_lead_60 (by decide) ?_
          refine kf_iload_n hx dX11_lead_61 rfl 2 rfl ?_
          refine kf_callVvI (st := []) hx (m_X11_live g hg x1 0 0 x2 I_2 J _ h) lk_RX11_379 km_X11_live ob_72 rfl (by decide) rfl (Nat.le_of_ble_eq_true rfl) dX11_lead_62 (fun I_9 h => ?_)
          refine kf_aload_n hx dX11_lead_65 rfl 0 rfl ?_
          refine kf_getR (n := 92) hx sl_72_40 fl_RX11_81 dX11_lead_66 ?_
          refine kf_iload_n hx dX11_lead_69 rfl 3 rfl ?_
          refine kf_iald hx ar_92 h.1 dX11_lead_70 ?_
          replace h := h.2
          refine kf_sipush (v := 1000) hx dX11_lead_71 (by decide) ?_
          refine kf_icmp_ne hx 84 dX11_lead_74 (by decide) (fun c => ?_) (fun c => ?_)
          · replace h := h.1 c
            refine kf_iload hx dX11_lead_84 4 rfl ?_
            refine kf_iconst (v := 1) hx dX11_lead_86 (by decide) ?_
            refine kf_icmp_ne hx 97 dX11_lead_87 (by decide) (fun c => ?_) (fun c => ?_)
            · replace h := h.1 c
              refine kf_aload_n hx dX11_lead_97 rfl 0 rfl ?_
              refine kf_getR (n := 93) hx sl_72_41 fl_RX11_84 dX11_lead_98 ?_
              refine kf_iload_n hx dX11_lead_101 rfl 3 rfl ?_
              refine kf_iald hx ar_93 h.1 dX11_lead_102 ?_
              replace h := h.2
              refine kf_sipush (v := 1000) hx dX11_lead_103 (by decide) ?_
              refine kf_icmp_ne hx 116 dX11_lead_106 (by decide) (fun c => ?_) (fun c => ?_)
              · replace h := h.1 c
                refine kf_iconst (v := (-1)) hx dX11_lead_116 (by decide) ?_
                refine kf_istore (lv' := [(5, .int (-1)), (0, .ref (g.2.2.2 72)), (1, .int x1), (2, .int x2), (3, .int x3), (4, .int x4)]) hx dX11_lead_117 (by decide) rfl ?_
                refine kf_iconst (v := 0) hx dX11_lead_119 (by decide) ?_
                refine kf_istore (lv' := [(6, .int 0), (5, .int (-1)), (0, .ref (g.2.2.2 72)), (1, .int x1), (2, .int x2), (3, .int x3), (4, .int x4)]) hx dX11_lead_120 (by decide) rfl ?_
                obtain ⟨n, h⟩ := h
                refine kf_sub [2, 4, 5, 1, 0] rfl ?_
                refine wl_X11_lead_122 g hg hx I_9 J x2 x3 _ hret _ (fun x5_10 h => ?_) n _ _ h
                refine kf_iload hx dX11_lead_207 0 rfl ?_
                exact hret _ _ x5_10 _ dX11_lead_209 h
              · replace h := h.2 c
                refine kf_aload_n hx dX11_lead_109 rfl 0 rfl ?_
                refine kf_bipush (v := 8) hx dX11_lead_110 (by decide) ?_
                refine kf_callViI (st := []) hx (m_X11_refusedBy g hg 8 I_9 J _ h) lk_RX11_272 km_X11_refusedBy ob_72 rfl (by decide) rfl (Nat.le_of_ble_eq_true rfl) dX11_lead_112 (fun r_11 I_12 h => ?_)
                exact hret _ _ r_11 _ dX11_lead_115 h
            · replace h := h.2 c
              refine kf_aload_n hx dX11_lead_90 rfl 0 rfl ?_
              refine kf_getR (n := 92) hx sl_72_40 fl_RX11_81 dX11_lead_91 ?_
              refine kf_iload_n hx dX11_lead_94 rfl 3 rfl ?_
              refine kf_iald hx ar_92 h.1 dX11_lead_95 ?_
              replace h := h.2
              exact hret _ _ (I_9 92 (Int32.toNatClampNeg x3)) _ dX11_lead_96 h
          · replace h := h.2 c
            refine kf_aload_n hx dX11_lead_77 rfl 0 rfl ?_
            refine kf_bipush (v := 8) hx dX11_lead_78 (by decide) ?_
            refine kf_callViI (st := []) hx (m_X11_refusedBy g hg 8 I_9 J _ h) lk_RX11_272 km_X11_refusedBy ob_72 rfl (by decide) rfl (Nat.le_of_ble_eq_true rfl) dX11_lead_80 (fun r_13 I_14 h => ?_)
            exact hret _ _ r_13 _ dX11_lead_83 h
        · replace h := h.2 c
          refine kf_aload_n hx dX11_lead_51 rfl 0 rfl ?_
          refine kf_iconst (v := 5) hx dX11_lead_52 (by decide) ?_
          refine kf_callViI (st := []) hx (m_X11_refusedBy g hg 5 I_2 J _ h) lk_RX11_272 km_X11_refusedBy ob_72 rfl (by decide) rfl (Nat.le_of_ble_eq_true rfl) dX11_lead_53 (fun r_15 I_16 h => ?_)
          exact hret _ _ r_15 _ dX11_lead_56 h
      · replace h := h.2 c
        refine kf_sub [0] rfl ?_
        exact wk_X11_lead_34 g hg hx I_2 J  _ hret h
set_option maxHeartbeats 4000000 in
set_option maxRecDepth 20000 in
theorem m_X11_lead (g : kf_G) (hg : kf_g g) (x1 : Int32) (x2 : Int32) (x3 : Int32) (x4 : Int32) (I : HI) (J : HJ) (Post : Int32 → HI → Prop) (h : w_X11_lead x1 x2 x3 x4 I J Post) : kf_Mi g yX11_lead (kf_W yX11_lead cX11_lead 7 (Option.some Jvm.ClassFile.FieldType.int)) 3 77 [.ref (g.2.2.2 72), .int x1, .int x2, .int x3, .int x4] I J (fun v I' J' => Post v I' ∧ J' = J) :=
  kf_enti hg (by decide) (Nat.le_of_ble_eq_true rfl) rfl (fun x hx hr => we_X11_lead g hg hx x1 x2 x3 x4 I J Post (fun pc lv v I' hd hP => hr pc lv v I' J hd ⟨hP, rfl⟩) h)
theorem dX11_check_0 : decode cX11_check 0 = .ok (.aload_n 0, 1) := by decide +kernel
theorem dX11_check_1 : decode cX11_check 1 = .ok (.iconst 0, 1) := by decide +kernel
theorem dX11_check_2 : decode cX11_check 2 = .ok (.putfield 106, 3) := by decide +kernel
theorem dX11_check_5 : decode cX11_check 5 = .ok (.aload_n 0, 1) := by decide +kernel
theorem dX11_check_6 : decode cX11_check 6 = .ok (.iconst 0, 1) := by decide +kernel
theorem dX11_check_7 : decode cX11_check 7 = .ok (.putfield 109, 3) := by decide +kernel
theorem dX11_check_10 : decode cX11_check 10 = .ok (.iload_n 3, 1) := by decide +kernel
theorem dX11_check_11 : decode cX11_check 11 = .ok (.i2l, 1) := by decide +kernel
theorem dX11_check_12 : decode cX11_check 12 = .ok (.lconst 0, 1) := by decide +kernel
theorem dX11_check_13 : decode cX11_check 13 = .ok (.ldc2_w 388, 3) := by decide +kernel
theorem dX11_check_16 : decode cX11_check 16 = .ok (.invokestatic 228, 3) := by decide +kernel
theorem dX11_check_19 : decode cX11_check 19 = .ok (.ifCond .ne 9, 3) := by decide +kernel
theorem dX11_check_22 : decode cX11_check 22 = .ok (.aload_n 0, 1) := by decide +kernel
theorem dX11_check_23 : decode cX11_check 23 = .ok (.iconst 1, 1) := by decide +kernel
theorem dX11_check_24 : decode cX11_check 24 = .ok (.invokevirtual 272, 3) := by decide +kernel
theorem dX11_check_27 : decode cX11_check 27 = .ok (.ireturn, 1) := by decide +kernel
theorem dX11_check_28 : decode cX11_check 28 = .ok (.aload_n 0, 1) := by decide +kernel
theorem dX11_check_29 : decode cX11_check 29 = .ok (.iload_n 1, 1) := by decide +kernel
theorem dX11_check_30 : decode cX11_check 30 = .ok (.invokevirtual 314, 3) := by decide +kernel
theorem dX11_check_33 : decode cX11_check 33 = .ok (.ifCond .eq 11, 3) := by decide +kernel
theorem dX11_check_36 : decode cX11_check 36 = .ok (.aload_n 0, 1) := by decide +kernel
theorem dX11_check_37 : decode cX11_check 37 = .ok (.iload_n 2, 1) := by decide +kernel
theorem dX11_check_38 : decode cX11_check 38 = .ok (.invokevirtual 301, 3) := by decide +kernel
theorem dX11_check_41 : decode cX11_check 41 = .ok (.ifCond .ne 9, 3) := by decide +kernel
theorem dX11_check_44 : decode cX11_check 44 = .ok (.aload_n 0, 1) := by decide +kernel
theorem dX11_check_45 : decode cX11_check 45 = .ok (.iconst 2, 1) := by decide +kernel
theorem dX11_check_46 : decode cX11_check 46 = .ok (.invokevirtual 272, 3) := by decide +kernel
theorem dX11_check_49 : decode cX11_check 49 = .ok (.ireturn, 1) := by decide +kernel
theorem dX11_check_50 : decode cX11_check 50 = .ok (.aload_n 0, 1) := by decide +kernel
theorem dX11_check_51 : decode cX11_check 51 = .ok (.getfield 17, 3) := by decide +kernel
theorem dX11_check_54 : decode cX11_check 54 = .ok (.iload_n 3, 1) := by decide +kernel
theorem dX11_check_55 : decode cX11_check 55 = .ok (.iaload, 1) := by decide +kernel
theorem dX11_check_56 : decode cX11_check 56 = .ok (.ifCond .ge 9, 3) := by decide +kernel
theorem dX11_check_59 : decode cX11_check 59 = .ok (.aload_n 0, 1) := by decide +kernel
theorem dX11_check_60 : decode cX11_check 60 = .ok (.iconst 3, 1) := by decide +kernel
theorem dX11_check_61 : decode cX11_check 61 = .ok (.invokevirtual 272, 3) := by decide +kernel
theorem dX11_check_64 : decode cX11_check 64 = .ok (.ireturn, 1) := by decide +kernel
theorem dX11_check_65 : decode cX11_check 65 = .ok (.aload_n 0, 1) := by decide +kernel
theorem dX11_check_66 : decode cX11_check 66 = .ok (.getfield 17, 3) := by decide +kernel
theorem dX11_check_69 : decode cX11_check 69 = .ok (.iload_n 3, 1) := by decide +kernel
theorem dX11_check_70 : decode cX11_check 70 = .ok (.iaload, 1) := by decide +kernel
theorem dX11_check_71 : decode cX11_check 71 = .ok (.aload_n 0, 1) := by decide +kernel
theorem dX11_check_72 : decode cX11_check 72 = .ok (.getfield 287, 3) := by decide +kernel
theorem dX11_check_75 : decode cX11_check 75 = .ok (.if_icmp .ge 9, 3) := by decide +kernel
theorem dX11_check_78 : decode cX11_check 78 = .ok (.aload_n 0, 1) := by decide +kernel
theorem dX11_check_79 : decode cX11_check 79 = .ok (.iconst 4, 1) := by decide +kernel
theorem dX11_check_80 : decode cX11_check 80 = .ok (.invokevirtual 272, 3) := by decide +kernel
theorem dX11_check_83 : decode cX11_check 83 = .ok (.ireturn, 1) := by decide +kernel
theorem dX11_check_84 : decode cX11_check 84 = .ok (.aload_n 0, 1) := by decide +kernel
theorem dX11_check_85 : decode cX11_check 85 = .ok (.iload_n 1, 1) := by decide +kernel
theorem dX11_check_86 : decode cX11_check 86 = .ok (.iconst 0, 1) := by decide +kernel
theorem dX11_check_87 : decode cX11_check 87 = .ok (.iconst 0, 1) := by decide +kernel
theorem dX11_check_88 : decode cX11_check 88 = .ok (.iload_n 2, 1) := by decide +kernel
theorem dX11_check_89 : decode cX11_check 89 = .ok (.invokevirtual 379, 3) := by decide +kernel
theorem dX11_check_92 : decode cX11_check 92 = .ok (.iconst 0, 1) := by decide +kernel
theorem dX11_check_93 : decode cX11_check 93 = .ok (.istore 4, 2) := by decide +kernel
theorem dX11_check_95 : decode cX11_check 95 = .ok (.iload 4, 2) := by decide +kernel
theorem dX11_check_97 : decode cX11_check 97 = .ok (.aload_n 0, 1) := by decide +kernel
theorem dX11_check_98 : decode cX11_check 98 = .ok (.getfield 287, 3) := by decide +kernel
theorem dX11_check_101 : decode cX11_check 101 = .ok (.if_icmp .ge 48, 3) := by decide +kernel
theorem dX11_check_104 : decode cX11_check 104 = .ok (.aload_n 0, 1) := by decide +kernel
theorem dX11_check_105 : decode cX11_check 105 = .ok (.iload_n 3, 1) := by decide +kernel
theorem dX11_check_106 : decode cX11_check 106 = .ok (.iload 4, 2) := by decide +kernel
theorem dX11_check_108 : decode cX11_check 108 = .ok (.invokevirtual 390, 3) := by decide +kernel
theorem dX11_check_111 : decode cX11_check 111 = .ok (.aload_n 0, 1) := by decide +kernel
theorem dX11_check_112 : decode cX11_check 112 = .ok (.getfield 81, 3) := by decide +kernel
theorem dX11_check_115 : decode cX11_check 115 = .ok (.iload 4, 2) := by decide +kernel
theorem dX11_check_117 : decode cX11_check 117 = .ok (.iaload, 1) := by decide +kernel
theorem dX11_check_118 : decode cX11_check 118 = .ok (.sipush 1000, 3) := by decide +kernel
theorem dX11_check_121 : decode cX11_check 121 = .ok (.if_icmp .ne 7, 3) := by decide +kernel
theorem dX11_check_124 : decode cX11_check 124 = .ok (.iconst (-1), 1) := by decide +kernel
theorem dX11_check_125 : decode cX11_check 125 = .ok (.goto 10, 3) := by decide +kernel
theorem dX11_check_128 : decode cX11_check 128 = .ok (.aload_n 0, 1) := by decide +kernel
theorem dX11_check_129 : decode cX11_check 129 = .ok (.getfield 81, 3) := by decide +kernel
theorem dX11_check_132 : decode cX11_check 132 = .ok (.iload 4, 2) := by decide +kernel
theorem dX11_check_134 : decode cX11_check 134 = .ok (.iaload, 1) := by decide +kernel
theorem dX11_check_135 : decode cX11_check 135 = .ok (.i2l, 1) := by decide +kernel
theorem dX11_check_136 : decode cX11_check 136 = .ok (.lcmp, 1) := by decide +kernel
theorem dX11_check_137 : decode cX11_check 137 = .ok (.ifCond .eq 6, 3) := by decide +kernel
theorem dX11_check_140 : decode cX11_check 140 = .ok (.iload 4, 2) := by decide +kernel
theorem dX11_check_142 : decode cX11_check 142 = .ok (.ireturn, 1) := by decide +kernel
theorem dX11_check_143 : decode cX11_check 143 = .ok (.iinc 4 1, 3) := by decide +kernel
theorem dX11_check_146 : decode cX11_check 146 = .ok (.goto (-51), 3) := by decide +kernel
theorem dX11_check_149 : decode cX11_check 149 = .ok (.iconst (-1), 1) := by decide +kernel
theorem dX11_check_150 : decode cX11_check 150 = .ok (.ireturn, 1) := by decide +kernel
def wj_X11_check_44 (I : HI) (J : HJ)  (Post : Int32 → HI → Prop) : Prop :=
  w_X11_refusedBy 2 I J (fun (r_5 : Int32) (I_6 : HI) => (Post r_5 I_6))
set_option maxHeartbeats 4000000 in
set_option maxRecDepth 20000 in
theorem wk_X11_check_44 (g : kf_G) (hg : kf_g g) {x : kf_X} (hx : kf_ok g x RX11 cX11_check 5 3 77) (I : HI) (J : HJ)  (Post : Int32 → HI → Prop) (hret : ∀ (pc : Nat) (lv : List (Nat × Value)) (v : Int32) (Iy : HI), decode cX11_check pc = .ok (.ireturn, 1) → Post v Iy → kf_M g x 5 pc lv [.int v] Iy J) (h : wj_X11_check_44 I J  Post) : kf_M g x 5 44 [(0, .ref (g.2.2.2 72))] [] I J := by
  unfold wj_X11_check_44 at h
  refine kf_aload_n hx dX11_check_44 rfl 0 rfl ?_
  refine kf_iconst (v := 2) hx dX11_check_45 (by decide) ?_
  refine kf_callViI (st := []) hx (m_X11_refusedBy g hg 2 I J _ h) lk_RX11_272 km_X11_refusedBy ob_72 rfl (by decide) rfl (Nat.le_of_ble_eq_true rfl) dX11_check_46 (fun r_5 I_6 h => ?_)
  exact hret _ _ r_5 _ dX11_check_49 h
def wj_X11_check_135 (I : HI) (J : HJ) (x3 : Int32) (x4 : Int32) (t0 : Int32) (t1 : Int64) (E95 : Prop) (K95 : Int32 → Prop) (Post : Int32 → HI → Prop) : Prop :=
  (t1 = (Int32.toInt64 t0) → (K95 (x4 + 1))) ∧ (¬ t1 = (Int32.toInt64 t0) → (Post x4 I))
set_option maxHeartbeats 4000000 in
set_option maxRecDepth 20000 in
theorem wk_X11_check_135 (g : kf_G) (hg : kf_g g) {x : kf_X} (hx : kf_ok g x RX11 cX11_check 5 3 77) (I : HI) (J : HJ) (x3 : Int32) (x4 : Int32) (t0 : Int32) (t1 : Int64) (E95 : Prop) (K95 : Int32 → Prop) (hE95 : E95 → kf_M g x 5 149 [] [] I J) (hK95 : ∀ (y4 : Int32), K95 y4 → kf_M g x 5 95 [(0, .ref (g.2.2.2 72)), (3, .int x3), (4, .int y4)] [] I J) (Post : Int32 → HI → Prop) (hret : ∀ (pc : Nat) (lv : List (Nat × Value)) (v : Int32) (Iy : HI), decode cX11_check pc = .ok (.ireturn, 1) → Post v Iy → kf_M g x 5 pc lv [.int v] Iy J) (h : wj_X11_check_135 I J x3 x4 t0 t1 E95 K95 Post) : kf_M g x 5 135 [(0, .ref (g.2.2.2 72)), (3, .int x3), (4, .int x4)] [.int t0, .long t1] I J := by
  unfold wj_X11_check_135 at h
  refine kf_i2l hx dX11_check_135 ?_
  refine kf_l_eq hx 143 dX11_check_136 dX11_check_137 (by decide) (fun c => ?_) (fun c => ?_)
  · replace h := h.1 c
    refine kf_iinc (w := (x4 + 1)) (lv' := [(4, .int (x4 + 1)), (0, .ref (g.2.2.2 72)), (3, .int x3)]) hx dX11_check_143 2 rfl rfl (by decide) rfl ?_
    refine kf_goto hx 95 dX11_check_146 (by decide) ?_
    refine kf_sub [1, 2, 0] rfl ?_
    exact hK95 _ h
  · replace h := h.2 c
    refine kf_iload hx dX11_check_140 2 rfl ?_
    exact hret _ _ x4 _ dX11_check_142 h
def wb_X11_check_95 (I : HI) (J : HJ) (x3 : Int32) (Post : Int32 → HI → Prop) (E95 : Prop) (K95 : Int32 → Prop) (x4 : Int32) : Prop :=
  ((I 72 20) ≤ x4 → E95) ∧ (¬ (I 72 20) ≤ x4 → (w_X11_numberOf x3 x4 I J (fun (r_9 : Int64) => (vp_in x4 12 ∧ ((¬ (I 92 (Int32.toNatClampNeg x4)) = 1000 → (vp_in x4 12 ∧ (wj_X11_check_135 I J x3 x4 (I 92 (Int32.toNatClampNeg x4)) r_9 E95 K95 Post))) ∧ ((I 92 (Int32.toNatClampNeg x4)) = 1000 → (wj_X11_check_135 I J x3 x4 (-1) r_9 E95 K95 Post)))))))
set_option maxHeartbeats 4000000 in
set_option maxRecDepth 20000 in
theorem ws_X11_check_95 (g : kf_G) (hg : kf_g g) {x : kf_X} (hx : kf_ok g x RX11 cX11_check 5 3 77) (I : HI) (J : HJ) (x3 : Int32) (Post : Int32 → HI → Prop) (hret : ∀ (pc : Nat) (lv : List (Nat × Value)) (v : Int32) (Iy : HI), decode cX11_check pc = .ok (.ireturn, 1) → Post v Iy → kf_M g x 5 pc lv [.int v] Iy J) (E95 : Prop) (hE95 : E95 → kf_M g x 5 149 [] [] I J) (K95 : Int32 → Prop) (hK95 : ∀ (y4 : Int32), K95 y4 → kf_M g x 5 95 [(0, .ref (g.2.2.2 72)), (3, .int x3), (4, .int y4)] [] I J) (x4 : Int32) (h : wb_X11_check_95 I J x3 Post E95 K95 x4) : kf_M g x 5 95 [(0, .ref (g.2.2.2 72)), (3, .int x3), (4, .int x4)] [] I J := by
  unfold wb_X11_check_95 at h
  refine kf_iload hx dX11_check_95 2 rfl ?_
  refine kf_aload_n hx dX11_check_97 rfl 0 rfl ?_
  refine kf_getI hx sl_72_20 fl_RX11_287 dX11_check_98 ?_
  refine kf_icmp_ge hx 149 dX11_check_101 (by decide) (fun c => ?_) (fun c => ?_)
  · replace h := h.1 c
    refine kf_sub [] rfl ?_
    exact hE95  h
  · replace h := h.2 c
    refine kf_aload_n hx dX11_check_104 rfl 0 rfl ?_
    refine kf_iload_n hx dX11_check_105 rfl 1 rfl ?_
    refine kf_iload hx dX11_check_106 2 rfl ?_
    refine kf_callVlP (st := []) hx (m_X11_numberOf g hg x3 x4 I J _ h) lk_RX11_390 km_X11_numberOf ob_72 rfl (by decide) rfl (Nat.le_of_ble_eq_true rfl) dX11_check_108 (fun r_9 h => ?_)
    refine kf_aload_n hx dX11_check_111 rfl 0 rfl ?_
    refine kf_getR (n := 92) hx sl_72_40 fl_RX11_81 dX11_check_112 ?_
    refine kf_iload hx dX11_check_115 2 rfl ?_
    refine kf_iald hx ar_92 h.1 dX11_check_117 ?_
    replace h := h.2
    refine kf_sipush (v := 1000) hx dX11_check_118 (by decide) ?_
    refine kf_icmp_ne hx 128 dX11_check_121 (by decide) (fun c => ?_) (fun c => ?_)
    · replace h := h.1 c
      refine kf_aload_n hx dX11_check_128 rfl 0 rfl ?_
      refine kf_getR (n := 92) hx sl_72_40 fl_RX11_81 dX11_check_129 ?_
      refine kf_iload hx dX11_check_132 2 rfl ?_
      refine kf_iald hx ar_92 h.1 dX11_check_134 ?_
      replace h := h.2
      exact wk_X11_check_135 g hg hx I J x3 x4 (I 92 (Int32.toNatClampNeg x4)) r_9 _ _ hE95 hK95 _ hret h
    · replace h := h.2 c
      refine kf_iconst (v := (-1)) hx dX11_check_124 (by decide) ?_
      refine kf_goto hx 135 dX11_check_125 (by decide) ?_
      exact wk_X11_check_135 g hg hx I J x3 x4 (-1) r_9 _ _ hE95 hK95 _ hret h
theorem wl_X11_check_95 (g : kf_G) (hg : kf_g g) {x : kf_X} (hx : kf_ok g x RX11 cX11_check 5 3 77) (I : HI) (J : HJ) (x3 : Int32) (Post : Int32 → HI → Prop) (hret : ∀ (pc : Nat) (lv : List (Nat × Value)) (v : Int32) (Iy : HI), decode cX11_check pc = .ok (.ireturn, 1) → Post v Iy → kf_M g x 5 pc lv [.int v] Iy J) (E95 : Prop) (hE95 : E95 → kf_M g x 5 149 [] [] I J) : ∀ (n : Nat) (x4 : Int32), lp (wb_X11_check_95 I J x3 Post E95) n x4 → kf_M g x 5 95 [(0, .ref (g.2.2.2 72)), (3, .int x3), (4, .int x4)] [] I J := by
  intro n
  induction n with
  | zero => intro x4 h; exact h.elim
  | succ n ih => intro x4 h; exact ws_X11_check_95 g hg hx I J x3 Post hret E95 hE95 (lp (wb_X11_check_95 I J x3 Post E95) n) ih x4 h
def w_X11_check (x1 : Int32) (x2 : Int32) (x3 : Int32) (I : HI) (J : HJ) (Post : Int32 → HI → Prop) : Prop :=
  ∀ I_1 : HI, I_1 = hI I 72 1 0 → (∀ I_2 : HI, I_2 = hI I_1 72 0 0 → (w_X11_isIn (Int32.toInt64 x3) 0 3 (fun (r_3 : Bool) => ((r_3 = true → (w_X11_areSeeds x1 I_2 J (fun (r_4 : Bool) => ((r_4 = false → (wj_X11_check_44 I_2 J Post)) ∧ (r_4 = true → (w_X11_isLot x2 I_2 J (fun (r_7 : Bool) => ((r_7 = true → (vp_in x3 4 ∧ ((0 ≤ (I_2 74 (Int32.toNatClampNeg x3)) → (vp_in x3 4 ∧ (((I_2 72 20) ≤ (I_2 74 (Int32.toNatClampNeg x3)) → (w_X11_live x1 0 0 x2 I_2 J (fun (I_8 : HI) => (∃ n, lp (wb_X11_check_95 I_8 J x3 Post (Post (-1) I_8)) n 0)))) ∧ (¬ (I_2 72 20) ≤ (I_2 74 (Int32.toNatClampNeg x3)) → (w_X11_refusedBy 4 I_2 J (fun (r_10 : Int32) (I_11 : HI) => (Post r_10 I_11))))))) ∧ (¬ 0 ≤ (I_2 74 (Int32.toNatClampNeg x3)) → (w_X11_refusedBy 3 I_2 J (fun (r_12 : Int32) (I_13 : HI) => (Post r_12 I_13))))))) ∧ (r_7 = false → (wj_X11_check_44 I_2 J Post)))))))))) ∧ (r_3 = false → (w_X11_refusedBy 1 I_2 J (fun (r_14 : Int32) (I_15 : HI) => (Post r_14 I_15))))))))
set_option maxHeartbeats 4000000 in
set_option maxRecDepth 20000 in
theorem we_X11_check (g : kf_G) (hg : kf_g g) {x : kf_X} (hx : kf_ok g x RX11 cX11_check 5 3 77) (x1 : Int32) (x2 : Int32) (x3 : Int32) (I : HI) (J : HJ) (Post : Int32 → HI → Prop) (hret : ∀ (pc : Nat) (lv : List (Nat × Value)) (v : Int32) (Iy : HI), decode cX11_check pc = .ok (.ireturn, 1) → Post v Iy → kf_M g x 5 pc lv [.int v] Iy J) (h : w_X11_check x1 x2 x3 I J Post) : kf_M g x 5 0 [(0, .ref (g.2.2.2 72)), (1, .int x1), (2, .int x2), (3, .int x3)] [] I J := by
  unfold w_X11_check at h
  refine kf_aload_n hx dX11_check_0 rfl 0 rfl ?_
  refine kf_iconst (v := 0) hx dX11_check_1 (by decide) ?_
  refine kf_putI hx sl_72_1 fl_RX11_106 fp_11_1 dX11_check_2 ?_
  refine kf_nmI (fun I_1 eI_1 => ?_)
  replace h := h I_1 eI_1
  refine kf_aload_n hx dX11_check_5 rfl 0 rfl ?_
  refine kf_iconst (v := 0) hx dX11_check_6 (by decide) ?_
  refine kf_putI hx sl_72_0 fl_RX11_109 fp_11_0 dX11_check_7 ?_
  refine kf_nmI (fun I_2 eI_2 => ?_)
  replace h := h I_2 eI_2
  refine kf_iload_n hx dX11_check_10 rfl 3 rfl ?_
  refine kf_i2l hx dX11_check_11 ?_
  refine kf_lconst (v := 0) hx dX11_check_12 (by decide) ?_
  refine kf_ldc2 hx ko_RX11_388 dX11_check_13 ?_
  refine kf_callSbP (st := []) hx (m_X11_isIn g hg (Int32.toInt64 x3) 0 3 I_2 J _ h) lk_RX11_228 km_X11_isIn rfl (by decide) rfl (Nat.le_of_ble_eq_true rfl) dX11_check_16 (fun r_3 h => ?_)
  refine kf_ifB_ne hx 28 dX11_check_19 (by decide) (fun c => ?_) (fun c => ?_)
  · replace h := h.1 c
    refine kf_aload_n hx dX11_check_28 rfl 0 rfl ?_
    refine kf_iload_n hx dX11_check_29 rfl 1 rfl ?_
    refine kf_callVbP (st := []) hx (m_X11_areSeeds g hg x1 I_2 J _ h) lk_RX11_314 km_X11_areSeeds ob_72 rfl (by decide) rfl (Nat.le_of_ble_eq_true rfl) dX11_check_30 (fun r_4 h => ?_)
    refine kf_ifB_eq hx 44 dX11_check_33 (by decide) (fun c => ?_) (fun c => ?_)
    · replace h := h.1 c
      refine kf_sub [0] rfl ?_
      exact wk_X11_check_44 g hg hx I_2 J  _ hret h
    · replace h := h.2 c
      refine kf_aload_n hx dX11_check_36 rfl 0 rfl ?_
      refine kf_iload_n hx dX11_check_37 rfl 2 rfl ?_
      refine kf_callVbP (st := []) hx (m_X11_isLot g hg x2 I_2 J _ h) lk_RX11_301 km_X11_isLot ob_72 rfl (by decide) rfl (Nat.le_of_ble_eq_true rfl) dX11_check_38 (fun r_7 h => ?_)
      refine kf_ifB_ne hx 50 dX11_check_41 (by decide) (fun c => ?_) (fun c => ?_)
      · replace h := h.1 c
        refine kf_aload_n hx dX11_check_50 rfl 0 rfl ?_
        refine kf_getR (n := 74) hx sl_72_5 fl_RX11_17 dX11_check_51 ?_
        refine kf_iload_n hx dX11_check_54 rfl 3 rfl ?_
        refine kf_iald hx ar_74 h.1 dX11_check_55 ?_
        replace h := h.2
        refine kf_if_ge hx 65 dX11_check_56 (by decide) (fun c => ?_) (fun c => ?_)
        · replace h := h.1 c
          refine kf_aload_n hx dX11_check_65 rfl 0 rfl ?_
          refine kf_getR (n := 74) hx sl_72_5 fl_RX11_17 dX11_check_66 ?_
          refine kf_iload_n hx dX11_check_69 rfl 3 rfl ?_
          refine kf_iald hx ar_74 h.1 dX11_check_70 ?_
          replace h := h.2
          refine kf_aload_n hx dX11_check_71 rfl 0 rfl ?_
          refine kf_getI hx sl_72_20 fl_RX11_287 dX11_check_72 ?_
          refine kf_icmp_ge hx 84 dX11_check_75 (by decide) (fun c => ?_) (fun c => ?_)
          · replace h := h.1 c
            refine kf_aload_n hx dX11_check_84 rfl 0 rfl ?_
            refine kf_iload_n hx dX11_check_85 rfl 1 rfl ?_
            refine kf_iconst (v := 0) hx dX11_check_86 (by decide) ?_
            refine kf_iconst (v := 0) hx dX11_check_87 (by decide) ?_
            refine kf_iload_n hx dX11_check_88 rfl 2 rfl ?_
            refine kf_callVvI (st := []) hx (m_X11_live g hg x1 0 0 x2 I_2 J _ h) lk_RX11_379 km_X11_live ob_72 rfl (by decide) rfl (Nat.le_of_ble_eq_true rfl) dX11_check_89 (fun I_8 h => ?_)
            refine kf_iconst (v := 0) hx dX11_check_92 (by decide) ?_
            refine kf_istore (lv' := [(4, .int 0), (0, .ref (g.2.2.2 72)), (1, .int x1), (2, .int x2), (3, .int x3)]) hx dX11_check_93 (by decide) rfl ?_
            obtain ⟨n, h⟩ := h
            refine kf_sub [1, 4, 0] rfl ?_
            refine wl_X11_check_95 g hg hx I_8 J x3 _ hret _ (fun h => ?_) n _ h
            refine kf_iconst (v := (-1)) hx dX11_check_149 (by decide) ?_
            exact hret _ _ (-1) _ dX11_check_150 h
          · replace h := h.2 c
            refine kf_aload_n hx dX11_check_78 rfl 0 rfl ?_
            refine kf_iconst (v := 4) hx dX11_check_79 (by decide) ?_
            refine kf_callViI (st := []) hx (m_X11_refusedBy g hg 4 I_2 J _ h) lk_RX11_272 km_X11_refusedBy ob_72 rfl (by decide) rfl (Nat.le_of_ble_eq_true rfl) dX11_check_80 (fun r_10 I_11 h => ?_)
            exact hret _ _ r_10 _ dX11_check_83 h
        · replace h := h.2 c
          refine kf_aload_n hx dX11_check_59 rfl 0 rfl ?_
          refine kf_iconst (v := 3) hx dX11_check_60 (by decide) ?_
          refine kf_callViI (st := []) hx (m_X11_refusedBy g hg 3 I_2 J _ h) lk_RX11_272 km_X11_refusedBy ob_72 rfl (by decide) rfl (Nat.le_of_ble_eq_true rfl) dX11_check_61 (fun r_12 I_13 h => ?_)
          exact hret _ _ r_12 _ dX11_check_64 h
      · replace h := h.2 c
        refine kf_sub [0] rfl ?_
        exact wk_X11_check_44 g hg hx I_2 J  _ hret h
  · replace h := h.2 c
    refine kf_aload_n hx dX11_check_22 rfl 0 rfl ?_
    refine kf_iconst (v := 1) hx dX11_check_23 (by decide) ?_
    refine kf_callViI (st := []) hx (m_X11_refusedBy g hg 1 I_2 J _ h) lk_RX11_272 km_X11_refusedBy ob_72 rfl (by decide) rfl (Nat.le_of_ble_eq_true rfl) dX11_check_24 (fun r_14 I_15 h => ?_)
    exact hret _ _ r_14 _ dX11_check_27 h
set_option maxHeartbeats 4000000 in
set_option maxRecDepth 20000 in
theorem m_X11_check (g : kf_G) (hg : kf_g g) (x1 : Int32) (x2 : Int32) (x3 : Int32) (I : HI) (J : HJ) (Post : Int32 → HI → Prop) (h : w_X11_check x1 x2 x3 I J Post) : kf_Mi g yX11_check (kf_W yX11_check cX11_check 5 (Option.some Jvm.ClassFile.FieldType.int)) 3 77 [.ref (g.2.2.2 72), .int x1, .int x2, .int x3] I J (fun v I' J' => Post v I' ∧ J' = J) :=
  kf_enti hg (by decide) (Nat.le_of_ble_eq_true rfl) rfl (fun x hx hr => we_X11_check g hg hx x1 x2 x3 I J Post (fun pc lv v I' hd hP => hr pc lv v I' J hd ⟨hP, rfl⟩) h)
theorem dX11_lotOf_0 : decode cX11_lotOf 0 = .ok (.iconst 0, 1) := by decide +kernel
theorem dX11_lotOf_1 : decode cX11_lotOf 1 = .ok (.istore_n 2, 1) := by decide +kernel
theorem dX11_lotOf_2 : decode cX11_lotOf 2 = .ok (.iconst 0, 1) := by decide +kernel
theorem dX11_lotOf_3 : decode cX11_lotOf 3 = .ok (.istore_n 3, 1) := by decide +kernel
theorem dX11_lotOf_4 : decode cX11_lotOf 4 = .ok (.iload_n 3, 1) := by decide +kernel
theorem dX11_lotOf_5 : decode cX11_lotOf 5 = .ok (.aload_n 0, 1) := by decide +kernel
theorem dX11_lotOf_6 : decode cX11_lotOf 6 = .ok (.getfield 290, 3) := by decide +kernel
theorem dX11_lotOf_9 : decode cX11_lotOf 9 = .ok (.if_icmp .ge 63, 3) := by decide +kernel
theorem dX11_lotOf_12 : decode cX11_lotOf 12 = .ok (.iload_n 1, 1) := by decide +kernel
theorem dX11_lotOf_13 : decode cX11_lotOf 13 = .ok (.i2l, 1) := by decide +kernel
theorem dX11_lotOf_14 : decode cX11_lotOf 14 = .ok (.ldc2_w 423, 3) := by decide +kernel
theorem dX11_lotOf_17 : decode cX11_lotOf 17 = .ok (.lmul, 1) := by decide +kernel
theorem dX11_lotOf_18 : decode cX11_lotOf 18 = .ok (.iload_n 3, 1) := by decide +kernel
theorem dX11_lotOf_19 : decode cX11_lotOf 19 = .ok (.i2l, 1) := by decide +kernel
theorem dX11_lotOf_20 : decode cX11_lotOf 20 = .ok (.ldc2_w 425, 3) := by decide +kernel
theorem dX11_lotOf_23 : decode cX11_lotOf 23 = .ok (.lmul, 1) := by decide +kernel
theorem dX11_lotOf_24 : decode cX11_lotOf 24 = .ok (.ladd, 1) := by decide +kernel
theorem dX11_lotOf_25 : decode cX11_lotOf 25 = .ok (.ldc2_w 427, 3) := by decide +kernel
theorem dX11_lotOf_28 : decode cX11_lotOf 28 = .ok (.ladd, 1) := by decide +kernel
theorem dX11_lotOf_29 : decode cX11_lotOf 29 = .ok (.ldc2_w 429, 3) := by decide +kernel
theorem dX11_lotOf_32 : decode cX11_lotOf 32 = .ok (.lmul, 1) := by decide +kernel
theorem dX11_lotOf_33 : decode cX11_lotOf 33 = .ok (.ldc2_w 431, 3) := by decide +kernel
theorem dX11_lotOf_36 : decode cX11_lotOf 36 = .ok (.ldiv, 1) := by decide +kernel
theorem dX11_lotOf_37 : decode cX11_lotOf 37 = .ok (.ldc2_w 323, 3) := by decide +kernel
theorem dX11_lotOf_40 : decode cX11_lotOf 40 = .ok (.lrem, 1) := by decide +kernel
theorem dX11_lotOf_41 : decode cX11_lotOf 41 = .ok (.lstore 4, 2) := by decide +kernel
theorem dX11_lotOf_43 : decode cX11_lotOf 43 = .ok (.iload_n 2, 1) := by decide +kernel
theorem dX11_lotOf_44 : decode cX11_lotOf 44 = .ok (.lload 4, 2) := by decide +kernel
theorem dX11_lotOf_46 : decode cX11_lotOf 46 = .ok (.aload_n 0, 1) := by decide +kernel
theorem dX11_lotOf_47 : decode cX11_lotOf 47 = .ok (.getfield 47, 3) := by decide +kernel
theorem dX11_lotOf_50 : decode cX11_lotOf 50 = .ok (.iload_n 3, 1) := by decide +kernel
theorem dX11_lotOf_51 : decode cX11_lotOf 51 = .ok (.iaload, 1) := by decide +kernel
theorem dX11_lotOf_52 : decode cX11_lotOf 52 = .ok (.i2l, 1) := by decide +kernel
theorem dX11_lotOf_53 : decode cX11_lotOf 53 = .ok (.lcmp, 1) := by decide +kernel
theorem dX11_lotOf_54 : decode cX11_lotOf 54 = .ok (.ifCond .ge 9, 3) := by decide +kernel
theorem dX11_lotOf_57 : decode cX11_lotOf 57 = .ok (.iconst 1, 1) := by decide +kernel
theorem dX11_lotOf_58 : decode cX11_lotOf 58 = .ok (.iload_n 3, 1) := by decide +kernel
theorem dX11_lotOf_59 : decode cX11_lotOf 59 = .ok (.ishl, 1) := by decide +kernel
theorem dX11_lotOf_60 : decode cX11_lotOf 60 = .ok (.goto 4, 3) := by decide +kernel
theorem dX11_lotOf_63 : decode cX11_lotOf 63 = .ok (.iconst 0, 1) := by decide +kernel
theorem dX11_lotOf_64 : decode cX11_lotOf 64 = .ok (.ior, 1) := by decide +kernel
theorem dX11_lotOf_65 : decode cX11_lotOf 65 = .ok (.istore_n 2, 1) := by decide +kernel
theorem dX11_lotOf_66 : decode cX11_lotOf 66 = .ok (.iinc 3 1, 3) := by decide +kernel
theorem dX11_lotOf_69 : decode cX11_lotOf 69 = .ok (.goto (-65), 3) := by decide +kernel
theorem dX11_lotOf_72 : decode cX11_lotOf 72 = .ok (.iload_n 2, 1) := by decide +kernel
theorem dX11_lotOf_73 : decode cX11_lotOf 73 = .ok (.ireturn, 1) := by decide +kernel
def wb_X11_lotOf_4 (I : HI) (J : HJ) (x1 : Int32) (Post : Int32 → Prop) (E4 : Int32 → Prop) (K4 : (Int32 × Int32) → Prop) (s : Int32 × Int32) : Prop :=
  match s with
  | (x2, x3) => ((I 72 21) ≤ x3 → (E4 x2)) ∧ (¬ (I 72 21) ≤ x3 → (∀ z_1 : Int64, z_1 = (((((((Int32.toInt64 x1) * 40503) + ((Int32.toInt64 x3) * 9973)) + 1299709) * 69069) / 2048) - (((((((Int32.toInt64 x1) * 40503) + ((Int32.toInt64 x3) * 9973)) + 1299709) * 69069) / 2048) / 16) * 16) → (vp_in x3 10 ∧ (((Int32.toInt64 (I 81 (Int32.toNatClampNeg x3))) ≤ z_1 → (K4 ((x2 ||| 0), (x3 + 1)))) ∧ (¬ (Int32.toInt64 (I 81 (Int32.toNatClampNeg x3))) ≤ z_1 → (K4 ((x2 ||| (1 <<< (x3 &&& 31))), (x3 + 1))))))))
set_option maxHeartbeats 4000000 in
set_option maxRecDepth 20000 in
theorem ws_X11_lotOf_4 (g : kf_G) (hg : kf_g g) {x : kf_X} (hx : kf_ok g x RX11 cX11_lotOf 6 0 0) (I : HI) (J : HJ) (x1 : Int32) (Post : Int32 → Prop) (hret : ∀ (pc : Nat) (lv : List (Nat × Value)) (v : Int32), decode cX11_lotOf pc = .ok (.ireturn, 1) → Post v → kf_M g x 6 pc lv [.int v] I J) (E4 : Int32 → Prop) (hE4 : ∀ (y2 : Int32), E4 y2 → kf_M g x 6 72 [(2, .int y2)] [] I J) (K4 : (Int32 × Int32) → Prop) (hK4 : ∀ (y2 : Int32) (y3 : Int32), K4 (y2, y3) → kf_M g x 6 4 [(0, .ref (g.2.2.2 72)), (1, .int x1), (2, .int y2), (3, .int y3)] [] I J) (x2 : Int32) (x3 : Int32) (h : wb_X11_lotOf_4 I J x1 Post E4 K4 (x2, x3)) : kf_M g x 6 4 [(0, .ref (g.2.2.2 72)), (1, .int x1), (2, .int x2), (3, .int x3)] [] I J := by
  unfold wb_X11_lotOf_4 at h
  refine kf_iload_n hx dX11_lotOf_4 rfl 3 rfl ?_
  refine kf_aload_n hx dX11_lotOf_5 rfl 0 rfl ?_
  refine kf_getI hx sl_72_21 fl_RX11_290 dX11_lotOf_6 ?_
  refine kf_icmp_ge hx 72 dX11_lotOf_9 (by decide) (fun c => ?_) (fun c => ?_)
  · replace h := h.1 c
    refine kf_sub [2] rfl ?_
    exact hE4 _ h
  · replace h := h.2 c
    refine kf_iload_n hx dX11_lotOf_12 rfl 1 rfl ?_
    refine kf_i2l hx dX11_lotOf_13 ?_
    refine kf_ldc2 hx ko_RX11_423 dX11_lotOf_14 ?_
    refine kf_lmul hx dX11_lotOf_17 ?_
    refine kf_iload_n hx dX11_lotOf_18 rfl 3 rfl ?_
    refine kf_i2l hx dX11_lotOf_19 ?_
    refine kf_ldc2 hx ko_RX11_425 dX11_lotOf_20 ?_
    refine kf_lmul hx dX11_lotOf_23 ?_
    refine kf_ladd hx dX11_lotOf_24 ?_
    refine kf_ldc2 hx ko_RX11_427 dX11_lotOf_25 ?_
    refine kf_ladd hx dX11_lotOf_28 ?_
    refine kf_ldc2 hx ko_RX11_429 dX11_lotOf_29 ?_
    refine kf_lmul hx dX11_lotOf_32 ?_
    refine kf_ldc2 hx ko_RX11_431 dX11_lotOf_33 ?_
    refine kf_ldiv hx dX11_lotOf_36 (by decide) ?_
    refine kf_ldc2 hx ko_RX11_323 dX11_lotOf_37 ?_
    refine kf_lrem hx dX11_lotOf_40 (by decide) ?_
    refine kf_topl (fun z_1 ez_1 => ?_)
    replace h := h z_1 ez_1
    refine kf_lstore (lv' := [(4, .long z_1), (0, .ref (g.2.2.2 72)), (1, .int x1), (2, .int x2), (3, .int x3)]) hx dX11_lotOf_41 (by decide) rfl ?_
    refine kf_iload_n hx dX11_lotOf_43 rfl 3 rfl ?_
    refine kf_lload hx dX11_lotOf_44 0 rfl ?_
    refine kf_aload_n hx dX11_lotOf_46 rfl 1 rfl ?_
    refine kf_getR (n := 81) hx sl_72_28 fl_RX11_47 dX11_lotOf_47 ?_
    refine kf_iload_n hx dX11_lotOf_50 rfl 4 rfl ?_
    refine kf_iald hx ar_81 h.1 dX11_lotOf_51 ?_
    replace h := h.2
    refine kf_i2l hx dX11_lotOf_52 ?_
    refine kf_l_ge hx 63 dX11_lotOf_53 dX11_lotOf_54 (by decide) (fun c => ?_) (fun c => ?_)
    · replace h := h.1 c
      refine kf_iconst (v := 0) hx dX11_lotOf_63 (by decide) ?_
      refine kf_ior hx dX11_lotOf_64 ?_
      refine kf_istore_n (lv' := [(2, .int (x2 ||| 0)), (4, .long z_1), (0, .ref (g.2.2.2 72)), (1, .int x1), (3, .int x3)]) hx dX11_lotOf_65 rfl (by decide) rfl ?_
      refine kf_iinc (w := (x3 + 1)) (lv' := [(3, .int (x3 + 1)), (2, .int (x2 ||| 0)), (4, .long z_1), (0, .ref (g.2.2.2 72)), (1, .int x1)]) hx dX11_lotOf_66 4 rfl rfl (by decide) rfl ?_
      refine kf_goto hx 4 dX11_lotOf_69 (by decide) ?_
      refine kf_sub [3, 4, 1, 0] rfl ?_
      exact hK4 _ _ h
    · replace h := h.2 c
      refine kf_iconst (v := 1) hx dX11_lotOf_57 (by decide) ?_
      refine kf_iload_n hx dX11_lotOf_58 rfl 4 rfl ?_
      refine kf_ishl hx dX11_lotOf_59 ?_
      refine kf_goto hx 64 dX11_lotOf_60 (by decide) ?_
      refine kf_ior hx dX11_lotOf_64 ?_
      refine kf_istore_n (lv' := [(2, .int (x2 ||| (1 <<< (x3 &&& 31)))), (4, .long z_1), (0, .ref (g.2.2.2 72)), (1, .int x1), (3, .int x3)]) hx dX11_lotOf_65 rfl (by decide) rfl ?_
      refine kf_iinc (w := (x3 + 1)) (lv' := [(3, .int (x3 + 1)), (2, .int (x2 ||| (1 <<< (x3 &&& 31)))), (4, .long z_1), (0, .ref (g.2.2.2 72)), (1, .int x1)]) hx dX11_lotOf_66 4 rfl rfl (by decide) rfl ?_
      refine kf_goto hx 4 dX11_lotOf_69 (by decide) ?_
      refine kf_sub [3, 4, 1, 0] rfl ?_
      exact hK4 _ _ h
theorem wl_X11_lotOf_4 (g : kf_G) (hg : kf_g g) {x : kf_X} (hx : kf_ok g x RX11 cX11_lotOf 6 0 0) (I : HI) (J : HJ) (x1 : Int32) (Post : Int32 → Prop) (hret : ∀ (pc : Nat) (lv : List (Nat × Value)) (v : Int32), decode cX11_lotOf pc = .ok (.ireturn, 1) → Post v → kf_M g x 6 pc lv [.int v] I J) (E4 : Int32 → Prop) (hE4 : ∀ (y2 : Int32), E4 y2 → kf_M g x 6 72 [(2, .int y2)] [] I J) : ∀ (n : Nat) (x2 : Int32) (x3 : Int32), lp (wb_X11_lotOf_4 I J x1 Post E4) n (x2, x3) → kf_M g x 6 4 [(0, .ref (g.2.2.2 72)), (1, .int x1), (2, .int x2), (3, .int x3)] [] I J := by
  intro n
  induction n with
  | zero => intro x2 x3 h; exact h.elim
  | succ n ih => intro x2 x3 h; exact ws_X11_lotOf_4 g hg hx I J x1 Post hret E4 hE4 (lp (wb_X11_lotOf_4 I J x1 Post E4) n) ih x2 x3 h
def w_X11_lotOf (x1 : Int32) (I : HI) (J : HJ) (Post : Int32 → Prop) : Prop :=
  ∃ n, lp (wb_X11_lotOf_4 I J x1 Post (fun (x2_2 : Int32) => Post x2_2)) n (0, 0)
set_option maxHeartbeats 4000000 in
set_option maxRecDepth 20000 in
theorem we_X11_lotOf (g : kf_G) (hg : kf_g g) {x : kf_X} (hx : kf_ok g x RX11 cX11_lotOf 6 0 0) (x1 : Int32) (I : HI) (J : HJ) (Post : Int32 → Prop) (hret : ∀ (pc : Nat) (lv : List (Nat × Value)) (v : Int32), decode cX11_lotOf pc = .ok (.ireturn, 1) → Post v → kf_M g x 6 pc lv [.int v] I J) (h : w_X11_lotOf x1 I J Post) : kf_M g x 6 0 [(0, .ref (g.2.2.2 72)), (1, .int x1)] [] I J := by
  unfold w_X11_lotOf at h
  refine kf_iconst (v := 0) hx dX11_lotOf_0 (by decide) ?_
  refine kf_istore_n (lv' := [(2, .int 0), (0, .ref (g.2.2.2 72)), (1, .int x1)]) hx dX11_lotOf_1 rfl (by decide) rfl ?_
  refine kf_iconst (v := 0) hx dX11_lotOf_2 (by decide) ?_
  refine kf_istore_n (lv' := [(3, .int 0), (2, .int 0), (0, .ref (g.2.2.2 72)), (1, .int x1)]) hx dX11_lotOf_3 rfl (by decide) rfl ?_
  obtain ⟨n, h⟩ := h
  refine kf_sub [2, 3, 1, 0] rfl ?_
  refine wl_X11_lotOf_4 g hg hx I J x1 _ hret _ (fun x2_2 h => ?_) n _ _ h
  refine kf_iload_n hx dX11_lotOf_72 rfl 0 rfl ?_
  exact hret _ _ x2_2  dX11_lotOf_73 h
set_option maxHeartbeats 4000000 in
set_option maxRecDepth 20000 in
theorem m_X11_lotOf (g : kf_G) (hg : kf_g g) (x1 : Int32) (I : HI) (J : HJ) (Post : Int32 → Prop) (h : w_X11_lotOf x1 I J Post) : kf_Mi g yX11_lotOf (kf_W yX11_lotOf cX11_lotOf 6 (Option.some Jvm.ClassFile.FieldType.int)) 0 0 [.ref (g.2.2.2 72), .int x1] I J (fun v I' J' => Post v ∧ I' = I ∧ J' = J) :=
  kf_enti hg (by decide) (Nat.le_of_ble_eq_true rfl) rfl (fun x hx hr => we_X11_lotOf g hg hx x1 I J Post (fun pc lv v hd hP => hr pc lv v I J hd ⟨hP, rfl, rfl⟩) h)
theorem dX11_lot_0 : decode cX11_lot 0 = .ok (.aload_n 0, 1) := by decide +kernel
theorem dX11_lot_1 : decode cX11_lot 1 = .ok (.iconst 0, 1) := by decide +kernel
theorem dX11_lot_2 : decode cX11_lot 2 = .ok (.putfield 106, 3) := by decide +kernel
theorem dX11_lot_5 : decode cX11_lot 5 = .ok (.aload_n 0, 1) := by decide +kernel
theorem dX11_lot_6 : decode cX11_lot 6 = .ok (.iconst 0, 1) := by decide +kernel
theorem dX11_lot_7 : decode cX11_lot 7 = .ok (.putfield 109, 3) := by decide +kernel
theorem dX11_lot_10 : decode cX11_lot 10 = .ok (.iload_n 1, 1) := by decide +kernel
theorem dX11_lot_11 : decode cX11_lot 11 = .ok (.i2l, 1) := by decide +kernel
theorem dX11_lot_12 : decode cX11_lot 12 = .ok (.lconst 0, 1) := by decide +kernel
theorem dX11_lot_13 : decode cX11_lot 13 = .ok (.ldc2_w 433, 3) := by decide +kernel
theorem dX11_lot_16 : decode cX11_lot 16 = .ok (.invokestatic 228, 3) := by decide +kernel
theorem dX11_lot_19 : decode cX11_lot 19 = .ok (.ifCond .eq 11, 3) := by decide +kernel
theorem dX11_lot_22 : decode cX11_lot 22 = .ok (.aload_n 0, 1) := by decide +kernel
theorem dX11_lot_23 : decode cX11_lot 23 = .ok (.iload_n 1, 1) := by decide +kernel
theorem dX11_lot_24 : decode cX11_lot 24 = .ok (.invokevirtual 435, 3) := by decide +kernel
theorem dX11_lot_27 : decode cX11_lot 27 = .ok (.goto 8, 3) := by decide +kernel
theorem dX11_lot_30 : decode cX11_lot 30 = .ok (.aload_n 0, 1) := by decide +kernel
theorem dX11_lot_31 : decode cX11_lot 31 = .ok (.iconst 5, 1) := by decide +kernel
theorem dX11_lot_32 : decode cX11_lot 32 = .ok (.invokevirtual 272, 3) := by decide +kernel
theorem dX11_lot_35 : decode cX11_lot 35 = .ok (.ireturn, 1) := by decide +kernel
def w_X11_lot (x1 : Int32) (I : HI) (J : HJ) (Post : Int32 → HI → Prop) : Prop :=
  ∀ I_1 : HI, I_1 = hI I 72 1 0 → (∀ I_2 : HI, I_2 = hI I_1 72 0 0 → (w_X11_isIn (Int32.toInt64 x1) 0 9999 (fun (r_3 : Bool) => ((r_3 = false → (w_X11_refusedBy 5 I_2 J (fun (r_4 : Int32) (I_5 : HI) => (Post r_4 I_5)))) ∧ (r_3 = true → (w_X11_lotOf x1 I_2 J (fun (r_6 : Int32) => (Post r_6 I_2))))))))
set_option maxHeartbeats 4000000 in
set_option maxRecDepth 20000 in
theorem we_X11_lot (g : kf_G) (hg : kf_g g) {x : kf_X} (hx : kf_ok g x RX11 cX11_lot 2 1 25) (x1 : Int32) (I : HI) (J : HJ) (Post : Int32 → HI → Prop) (hret : ∀ (pc : Nat) (lv : List (Nat × Value)) (v : Int32) (Iy : HI), decode cX11_lot pc = .ok (.ireturn, 1) → Post v Iy → kf_M g x 2 pc lv [.int v] Iy J) (h : w_X11_lot x1 I J Post) : kf_M g x 2 0 [(0, .ref (g.2.2.2 72)), (1, .int x1)] [] I J := by
  unfold w_X11_lot at h
  refine kf_aload_n hx dX11_lot_0 rfl 0 rfl ?_
  refine kf_iconst (v := 0) hx dX11_lot_1 (by decide) ?_
  refine kf_putI hx sl_72_1 fl_RX11_106 fp_11_1 dX11_lot_2 ?_
  refine kf_nmI (fun I_1 eI_1 => ?_)
  replace h := h I_1 eI_1
  refine kf_aload_n hx dX11_lot_5 rfl 0 rfl ?_
  refine kf_iconst (v := 0) hx dX11_lot_6 (by decide) ?_
  refine kf_putI hx sl_72_0 fl_RX11_109 fp_11_0 dX11_lot_7 ?_
  refine kf_nmI (fun I_2 eI_2 => ?_)
  replace h := h I_2 eI_2
  refine kf_iload_n hx dX11_lot_10 rfl 1 rfl ?_
  refine kf_i2l hx dX11_lot_11 ?_
  refine kf_lconst (v := 0) hx dX11_lot_12 (by decide) ?_
  refine kf_ldc2 hx ko_RX11_433 dX11_lot_13 ?_
  refine kf_callSbP (st := []) hx (m_X11_isIn g hg (Int32.toInt64 x1) 0 9999 I_2 J _ h) lk_RX11_228 km_X11_isIn rfl (by decide) rfl (Nat.le_of_ble_eq_true rfl) dX11_lot_16 (fun r_3 h => ?_)
  refine kf_ifB_eq hx 30 dX11_lot_19 (by decide) (fun c => ?_) (fun c => ?_)
  · replace h := h.1 c
    refine kf_aload_n hx dX11_lot_30 rfl 0 rfl ?_
    refine kf_iconst (v := 5) hx dX11_lot_31 (by decide) ?_
    refine kf_callViI (st := []) hx (m_X11_refusedBy g hg 5 I_2 J _ h) lk_RX11_272 km_X11_refusedBy ob_72 rfl (by decide) rfl (Nat.le_of_ble_eq_true rfl) dX11_lot_32 (fun r_4 I_5 h => ?_)
    exact hret _ _ r_4 _ dX11_lot_35 h
  · replace h := h.2 c
    refine kf_aload_n hx dX11_lot_22 rfl 0 rfl ?_
    refine kf_iload_n hx dX11_lot_23 rfl 1 rfl ?_
    refine kf_callViP (st := []) hx (m_X11_lotOf g hg x1 I_2 J _ h) lk_RX11_435 km_X11_lotOf ob_72 rfl (by decide) rfl (Nat.le_of_ble_eq_true rfl) dX11_lot_24 (fun r_6 h => ?_)
    refine kf_goto hx 35 dX11_lot_27 (by decide) ?_
    exact hret _ _ r_6 _ dX11_lot_35 h
set_option maxHeartbeats 4000000 in
set_option maxRecDepth 20000 in
theorem m_X11_lot (g : kf_G) (hg : kf_g g) (x1 : Int32) (I : HI) (J : HJ) (Post : Int32 → HI → Prop) (h : w_X11_lot x1 I J Post) : kf_Mi g yX11_lot (kf_W yX11_lot cX11_lot 2 (Option.some Jvm.ClassFile.FieldType.int)) 1 25 [.ref (g.2.2.2 72), .int x1] I J (fun v I' J' => Post v I' ∧ J' = J) :=
  kf_enti hg (by decide) (Nat.le_of_ble_eq_true rfl) rfl (fun x hx hr => we_X11_lot g hg hx x1 I J Post (fun pc lv v I' hd hP => hr pc lv v I' J hd ⟨hP, rfl⟩) h)
theorem dX11_meter_0 : decode cX11_meter 0 = .ok (.aload_n 0, 1) := by decide +kernel
theorem dX11_meter_1 : decode cX11_meter 1 = .ok (.iconst 0, 1) := by decide +kernel
theorem dX11_meter_2 : decode cX11_meter 2 = .ok (.putfield 106, 3) := by decide +kernel
theorem dX11_meter_5 : decode cX11_meter 5 = .ok (.aload_n 0, 1) := by decide +kernel
theorem dX11_meter_6 : decode cX11_meter 6 = .ok (.iconst 0, 1) := by decide +kernel
theorem dX11_meter_7 : decode cX11_meter 7 = .ok (.putfield 109, 3) := by decide +kernel
theorem dX11_meter_10 : decode cX11_meter 10 = .ok (.aload_n 0, 1) := by decide +kernel
theorem dX11_meter_11 : decode cX11_meter 11 = .ok (.iload_n 1, 1) := by decide +kernel
theorem dX11_meter_12 : decode cX11_meter 12 = .ok (.invokevirtual 314, 3) := by decide +kernel
theorem dX11_meter_15 : decode cX11_meter 15 = .ok (.ifCond .ne 9, 3) := by decide +kernel
theorem dX11_meter_18 : decode cX11_meter 18 = .ok (.aload_n 0, 1) := by decide +kernel
theorem dX11_meter_19 : decode cX11_meter 19 = .ok (.iconst 2, 1) := by decide +kernel
theorem dX11_meter_20 : decode cX11_meter 20 = .ok (.invokevirtual 272, 3) := by decide +kernel
theorem dX11_meter_23 : decode cX11_meter 23 = .ok (.ireturn, 1) := by decide +kernel
theorem dX11_meter_24 : decode cX11_meter 24 = .ok (.iload_n 2, 1) := by decide +kernel
theorem dX11_meter_25 : decode cX11_meter 25 = .ok (.i2l, 1) := by decide +kernel
theorem dX11_meter_26 : decode cX11_meter 26 = .ok (.lconst 1, 1) := by decide +kernel
theorem dX11_meter_27 : decode cX11_meter 27 = .ok (.ldc2_w 438, 3) := by decide +kernel
theorem dX11_meter_30 : decode cX11_meter 30 = .ok (.invokestatic 228, 3) := by decide +kernel
theorem dX11_meter_33 : decode cX11_meter 33 = .ok (.ifCond .ne 9, 3) := by decide +kernel
theorem dX11_meter_36 : decode cX11_meter 36 = .ok (.aload_n 0, 1) := by decide +kernel
theorem dX11_meter_37 : decode cX11_meter 37 = .ok (.iconst 5, 1) := by decide +kernel
theorem dX11_meter_38 : decode cX11_meter 38 = .ok (.invokevirtual 272, 3) := by decide +kernel
theorem dX11_meter_41 : decode cX11_meter 41 = .ok (.ireturn, 1) := by decide +kernel
theorem dX11_meter_42 : decode cX11_meter 42 = .ok (.aload_n 0, 1) := by decide +kernel
theorem dX11_meter_43 : decode cX11_meter 43 = .ok (.getfield 287, 3) := by decide +kernel
theorem dX11_meter_46 : decode cX11_meter 46 = .ok (.ifCond .ne 10, 3) := by decide +kernel
theorem dX11_meter_49 : decode cX11_meter 49 = .ok (.aload_n 0, 1) := by decide +kernel
theorem dX11_meter_50 : decode cX11_meter 50 = .ok (.bipush 8, 2) := by decide +kernel
theorem dX11_meter_52 : decode cX11_meter 52 = .ok (.invokevirtual 272, 3) := by decide +kernel
theorem dX11_meter_55 : decode cX11_meter 55 = .ok (.ireturn, 1) := by decide +kernel
theorem dX11_meter_56 : decode cX11_meter 56 = .ok (.iconst 0, 1) := by decide +kernel
theorem dX11_meter_57 : decode cX11_meter 57 = .ok (.istore_n 3, 1) := by decide +kernel
theorem dX11_meter_58 : decode cX11_meter 58 = .ok (.iconst 0, 1) := by decide +kernel
theorem dX11_meter_59 : decode cX11_meter 59 = .ok (.istore 4, 2) := by decide +kernel
theorem dX11_meter_61 : decode cX11_meter 61 = .ok (.iload 4, 2) := by decide +kernel
theorem dX11_meter_63 : decode cX11_meter 63 = .ok (.iload_n 2, 1) := by decide +kernel
theorem dX11_meter_64 : decode cX11_meter 64 = .ok (.if_icmp .ge 39, 3) := by decide +kernel
theorem dX11_meter_67 : decode cX11_meter 67 = .ok (.iload_n 3, 1) := by decide +kernel
theorem dX11_meter_68 : decode cX11_meter 68 = .ok (.aload_n 0, 1) := by decide +kernel
theorem dX11_meter_69 : decode cX11_meter 69 = .ok (.iload 4, 2) := by decide +kernel
theorem dX11_meter_71 : decode cX11_meter 71 = .ok (.aload_n 0, 1) := by decide +kernel
theorem dX11_meter_72 : decode cX11_meter 72 = .ok (.getfield 287, 3) := by decide +kernel
theorem dX11_meter_75 : decode cX11_meter 75 = .ok (.irem, 1) := by decide +kernel
theorem dX11_meter_76 : decode cX11_meter 76 = .ok (.aload_n 0, 1) := by decide +kernel
theorem dX11_meter_77 : decode cX11_meter 77 = .ok (.iload 4, 2) := by decide +kernel
theorem dX11_meter_79 : decode cX11_meter 79 = .ok (.invokevirtual 435, 3) := by decide +kernel
theorem dX11_meter_82 : decode cX11_meter 82 = .ok (.invokevirtual 320, 3) := by decide +kernel
theorem dX11_meter_85 : decode cX11_meter 85 = .ok (.iload_n 1, 1) := by decide +kernel
theorem dX11_meter_86 : decode cX11_meter 86 = .ok (.iand, 1) := by decide +kernel
theorem dX11_meter_87 : decode cX11_meter 87 = .ok (.ifCond .eq 7, 3) := by decide +kernel
theorem dX11_meter_90 : decode cX11_meter 90 = .ok (.iconst 1, 1) := by decide +kernel
theorem dX11_meter_91 : decode cX11_meter 91 = .ok (.goto 4, 3) := by decide +kernel
theorem dX11_meter_94 : decode cX11_meter 94 = .ok (.iconst 0, 1) := by decide +kernel
theorem dX11_meter_95 : decode cX11_meter 95 = .ok (.iadd, 1) := by decide +kernel
theorem dX11_meter_96 : decode cX11_meter 96 = .ok (.istore_n 3, 1) := by decide +kernel
theorem dX11_meter_97 : decode cX11_meter 97 = .ok (.iinc 4 1, 3) := by decide +kernel
theorem dX11_meter_100 : decode cX11_meter 100 = .ok (.goto (-39), 3) := by decide +kernel
theorem dX11_meter_103 : decode cX11_meter 103 = .ok (.iload_n 3, 1) := by decide +kernel
theorem dX11_meter_104 : decode cX11_meter 104 = .ok (.ireturn, 1) := by decide +kernel
def wb_X11_meter_61 (I : HI) (J : HJ) (x1 : Int32) (x2 : Int32) (Post : Int32 → HI → Prop) (E61 : Int32 → Prop) (K61 : (Int32 × Int32) → Prop) (s : Int32 × Int32) : Prop :=
  match s with
  | (x3, x4) => (x2 ≤ x4 → (E61 x3)) ∧ (¬ x2 ≤ x4 → (¬ (I 72 20) = 0 ∧ (w_X11_lotOf x4 I J (fun (r_5 : Int32) => (w_X11_walk (x4 - (x4 / (I 72 20)) * (I 72 20)) r_5 I J (fun (r_6 : Int32) => (((r_6 &&& x1) = 0 → (K61 ((x3 + 0), (x4 + 1)))) ∧ (¬ (r_6 &&& x1) = 0 → (K61 ((x3 + 1), (x4 + 1)))))))))))
set_option maxHeartbeats 4000000 in
set_option maxRecDepth 20000 in
theorem ws_X11_meter_61 (g : kf_G) (hg : kf_g g) {x : kf_X} (hx : kf_ok g x RX11 cX11_meter 5 2 47) (I : HI) (J : HJ) (x1 : Int32) (x2 : Int32) (Post : Int32 → HI → Prop) (hret : ∀ (pc : Nat) (lv : List (Nat × Value)) (v : Int32) (Iy : HI), decode cX11_meter pc = .ok (.ireturn, 1) → Post v Iy → kf_M g x 5 pc lv [.int v] Iy J) (E61 : Int32 → Prop) (hE61 : ∀ (y3 : Int32), E61 y3 → kf_M g x 5 103 [(3, .int y3)] [] I J) (K61 : (Int32 × Int32) → Prop) (hK61 : ∀ (y3 : Int32) (y4 : Int32), K61 (y3, y4) → kf_M g x 5 61 [(0, .ref (g.2.2.2 72)), (1, .int x1), (2, .int x2), (3, .int y3), (4, .int y4)] [] I J) (x3 : Int32) (x4 : Int32) (h : wb_X11_meter_61 I J x1 x2 Post E61 K61 (x3, x4)) : kf_M g x 5 61 [(0, .ref (g.2.2.2 72)), (1, .int x1), (2, .int x2), (3, .int x3), (4, .int x4)] [] I J := by
  unfold wb_X11_meter_61 at h
  refine kf_iload hx dX11_meter_61 4 rfl ?_
  refine kf_iload_n hx dX11_meter_63 rfl 2 rfl ?_
  refine kf_icmp_ge hx 103 dX11_meter_64 (by decide) (fun c => ?_) (fun c => ?_)
  · replace h := h.1 c
    refine kf_sub [3] rfl ?_
    exact hE61 _ h
  · replace h := h.2 c
    refine kf_iload_n hx dX11_meter_67 rfl 3 rfl ?_
    refine kf_aload_n hx dX11_meter_68 rfl 0 rfl ?_
    refine kf_iload hx dX11_meter_69 4 rfl ?_
    refine kf_aload_n hx dX11_meter_71 rfl 0 rfl ?_
    refine kf_getI hx sl_72_20 fl_RX11_287 dX11_meter_72 ?_
    refine kf_irem hx dX11_meter_75 h.1 ?_
    replace h := h.2
    refine kf_aload_n hx dX11_meter_76 rfl 0 rfl ?_
    refine kf_iload hx dX11_meter_77 4 rfl ?_
    refine kf_callViP (st := [.int (x4 - (x4 / (I 72 20)) * (I 72 20)), .ref (g.2.2.2 72), .int x3]) hx (m_X11_lotOf g hg x4 I J _ h) lk_RX11_435 km_X11_lotOf ob_72 rfl (by decide) rfl (Nat.le_of_ble_eq_true rfl) dX11_meter_79 (fun r_5 h => ?_)
    refine kf_callViP (st := [.int x3]) hx (m_X11_walk g hg (x4 - (x4 / (I 72 20)) * (I 72 20)) r_5 I J _ h) lk_RX11_320 km_X11_walk ob_72 rfl (by decide) rfl (Nat.le_of_ble_eq_true rfl) dX11_meter_82 (fun r_6 h => ?_)
    refine kf_iload_n hx dX11_meter_85 rfl 1 rfl ?_
    refine kf_iand hx dX11_meter_86 ?_
    refine kf_if_eq hx 94 dX11_meter_87 (by decide) (fun c => ?_) (fun c => ?_)
    · replace h := h.1 c
      refine kf_iconst (v := 0) hx dX11_meter_94 (by decide) ?_
      refine kf_iadd hx dX11_meter_95 ?_
      refine kf_istore_n (lv' := [(3, .int (x3 + 0)), (0, .ref (g.2.2.2 72)), (1, .int x1), (2, .int x2), (4, .int x4)]) hx dX11_meter_96 rfl (by decide) rfl ?_
      refine kf_iinc (w := (x4 + 1)) (lv' := [(4, .int (x4 + 1)), (3, .int (x3 + 0)), (0, .ref (g.2.2.2 72)), (1, .int x1), (2, .int x2)]) hx dX11_meter_97 4 rfl rfl (by decide) rfl ?_
      refine kf_goto hx 61 dX11_meter_100 (by decide) ?_
      refine kf_sub [2, 3, 4, 1, 0] rfl ?_
      exact hK61 _ _ h
    · replace h := h.2 c
      refine kf_iconst (v := 1) hx dX11_meter_90 (by decide) ?_
      refine kf_goto hx 95 dX11_meter_91 (by decide) ?_
      refine kf_iadd hx dX11_meter_95 ?_
      refine kf_istore_n (lv' := [(3, .int (x3 + 1)), (0, .ref (g.2.2.2 72)), (1, .int x1), (2, .int x2), (4, .int x4)]) hx dX11_meter_96 rfl (by decide) rfl ?_
      refine kf_iinc (w := (x4 + 1)) (lv' := [(4, .int (x4 + 1)), (3, .int (x3 + 1)), (0, .ref (g.2.2.2 72)), (1, .int x1), (2, .int x2)]) hx dX11_meter_97 4 rfl rfl (by decide) rfl ?_
      refine kf_goto hx 61 dX11_meter_100 (by decide) ?_
      refine kf_sub [2, 3, 4, 1, 0] rfl ?_
      exact hK61 _ _ h
theorem wl_X11_meter_61 (g : kf_G) (hg : kf_g g) {x : kf_X} (hx : kf_ok g x RX11 cX11_meter 5 2 47) (I : HI) (J : HJ) (x1 : Int32) (x2 : Int32) (Post : Int32 → HI → Prop) (hret : ∀ (pc : Nat) (lv : List (Nat × Value)) (v : Int32) (Iy : HI), decode cX11_meter pc = .ok (.ireturn, 1) → Post v Iy → kf_M g x 5 pc lv [.int v] Iy J) (E61 : Int32 → Prop) (hE61 : ∀ (y3 : Int32), E61 y3 → kf_M g x 5 103 [(3, .int y3)] [] I J) : ∀ (n : Nat) (x3 : Int32) (x4 : Int32), lp (wb_X11_meter_61 I J x1 x2 Post E61) n (x3, x4) → kf_M g x 5 61 [(0, .ref (g.2.2.2 72)), (1, .int x1), (2, .int x2), (3, .int x3), (4, .int x4)] [] I J := by
  intro n
  induction n with
  | zero => intro x3 x4 h; exact h.elim
  | succ n ih => intro x3 x4 h; exact ws_X11_meter_61 g hg hx I J x1 x2 Post hret E61 hE61 (lp (wb_X11_meter_61 I J x1 x2 Post E61) n) ih x3 x4 h
def w_X11_meter (x1 : Int32) (x2 : Int32) (I : HI) (J : HJ) (Post : Int32 → HI → Prop) : Prop :=
  ∀ I_1 : HI, I_1 = hI I 72 1 0 → (∀ I_2 : HI, I_2 = hI I_1 72 0 0 → (w_X11_areSeeds x1 I_2 J (fun (r_3 : Bool) => ((r_3 = true → (w_X11_isIn (Int32.toInt64 x2) 1 500 (fun (r_4 : Bool) => ((r_4 = true → ((¬ (I_2 72 20) = 0 → (∃ n, lp (wb_X11_meter_61 I_2 J x1 x2 Post (fun (x3_7 : Int32) => Post x3_7 I_2)) n (0, 0))) ∧ ((I_2 72 20) = 0 → (w_X11_refusedBy 8 I_2 J (fun (r_8 : Int32) (I_9 : HI) => (Post r_8 I_9)))))) ∧ (r_4 = false → (w_X11_refusedBy 5 I_2 J (fun (r_10 : Int32) (I_11 : HI) => (Post r_10 I_11)))))))) ∧ (r_3 = false → (w_X11_refusedBy 2 I_2 J (fun (r_12 : Int32) (I_13 : HI) => (Post r_12 I_13))))))))
set_option maxHeartbeats 4000000 in
set_option maxRecDepth 20000 in
theorem we_X11_meter (g : kf_G) (hg : kf_g g) {x : kf_X} (hx : kf_ok g x RX11 cX11_meter 5 2 47) (x1 : Int32) (x2 : Int32) (I : HI) (J : HJ) (Post : Int32 → HI → Prop) (hret : ∀ (pc : Nat) (lv : List (Nat × Value)) (v : Int32) (Iy : HI), decode cX11_meter pc = .ok (.ireturn, 1) → Post v Iy → kf_M g x 5 pc lv [.int v] Iy J) (h : w_X11_meter x1 x2 I J Post) : kf_M g x 5 0 [(0, .ref (g.2.2.2 72)), (1, .int x1), (2, .int x2)] [] I J := by
  unfold w_X11_meter at h
  refine kf_aload_n hx dX11_meter_0 rfl 0 rfl ?_
  refine kf_iconst (v := 0) hx dX11_meter_1 (by decide) ?_
  refine kf_putI hx sl_72_1 fl_RX11_106 fp_11_1 dX11_meter_2 ?_
  refine kf_nmI (fun I_1 eI_1 => ?_)
  replace h := h I_1 eI_1
  refine kf_aload_n hx dX11_meter_5 rfl 0 rfl ?_
  refine kf_iconst (v := 0) hx dX11_meter_6 (by decide) ?_
  refine kf_putI hx sl_72_0 fl_RX11_109 fp_11_0 dX11_meter_7 ?_
  refine kf_nmI (fun I_2 eI_2 => ?_)
  replace h := h I_2 eI_2
  refine kf_aload_n hx dX11_meter_10 rfl 0 rfl ?_
  refine kf_iload_n hx dX11_meter_11 rfl 1 rfl ?_
  refine kf_callVbP (st := []) hx (m_X11_areSeeds g hg x1 I_2 J _ h) lk_RX11_314 km_X11_areSeeds ob_72 rfl (by decide) rfl (Nat.le_of_ble_eq_true rfl) dX11_meter_12 (fun r_3 h => ?_)
  refine kf_ifB_ne hx 24 dX11_meter_15 (by decide) (fun c => ?_) (fun c => ?_)
  · replace h := h.1 c
    refine kf_iload_n hx dX11_meter_24 rfl 2 rfl ?_
    refine kf_i2l hx dX11_meter_25 ?_
    refine kf_lconst (v := 1) hx dX11_meter_26 (by decide) ?_
    refine kf_ldc2 hx ko_RX11_438 dX11_meter_27 ?_
    refine kf_callSbP (st := []) hx (m_X11_isIn g hg (Int32.toInt64 x2) 1 500 I_2 J _ h) lk_RX11_228 km_X11_isIn rfl (by decide) rfl (Nat.le_of_ble_eq_true rfl) dX11_meter_30 (fun r_4 h => ?_)
    refine kf_ifB_ne hx 42 dX11_meter_33 (by decide) (fun c => ?_) (fun c => ?_)
    · replace h := h.1 c
      refine kf_aload_n hx dX11_meter_42 rfl 0 rfl ?_
      refine kf_getI hx sl_72_20 fl_RX11_287 dX11_meter_43 ?_
      refine kf_if_ne hx 56 dX11_meter_46 (by decide) (fun c => ?_) (fun c => ?_)
      · replace h := h.1 c
        refine kf_iconst (v := 0) hx dX11_meter_56 (by decide) ?_
        refine kf_istore_n (lv' := [(3, .int 0), (0, .ref (g.2.2.2 72)), (1, .int x1), (2, .int x2)]) hx dX11_meter_57 rfl (by decide) rfl ?_
        refine kf_iconst (v := 0) hx dX11_meter_58 (by decide) ?_
        refine kf_istore (lv' := [(4, .int 0), (3, .int 0), (0, .ref (g.2.2.2 72)), (1, .int x1), (2, .int x2)]) hx dX11_meter_59 (by decide) rfl ?_
        obtain ⟨n, h⟩ := h
        refine kf_sub [2, 3, 4, 1, 0] rfl ?_
        refine wl_X11_meter_61 g hg hx I_2 J x1 x2 _ hret _ (fun x3_7 h => ?_) n _ _ h
        refine kf_iload_n hx dX11_meter_103 rfl 0 rfl ?_
        exact hret _ _ x3_7 _ dX11_meter_104 h
      · replace h := h.2 c
        refine kf_aload_n hx dX11_meter_49 rfl 0 rfl ?_
        refine kf_bipush (v := 8) hx dX11_meter_50 (by decide) ?_
        refine kf_callViI (st := []) hx (m_X11_refusedBy g hg 8 I_2 J _ h) lk_RX11_272 km_X11_refusedBy ob_72 rfl (by decide) rfl (Nat.le_of_ble_eq_true rfl) dX11_meter_52 (fun r_8 I_9 h => ?_)
        exact hret _ _ r_8 _ dX11_meter_55 h
    · replace h := h.2 c
      refine kf_aload_n hx dX11_meter_36 rfl 0 rfl ?_
      refine kf_iconst (v := 5) hx dX11_meter_37 (by decide) ?_
      refine kf_callViI (st := []) hx (m_X11_refusedBy g hg 5 I_2 J _ h) lk_RX11_272 km_X11_refusedBy ob_72 rfl (by decide) rfl (Nat.le_of_ble_eq_true rfl) dX11_meter_38 (fun r_10 I_11 h => ?_)
      exact hret _ _ r_10 _ dX11_meter_41 h
  · replace h := h.2 c
    refine kf_aload_n hx dX11_meter_18 rfl 0 rfl ?_
    refine kf_iconst (v := 2) hx dX11_meter_19 (by decide) ?_
    refine kf_callViI (st := []) hx (m_X11_refusedBy g hg 2 I_2 J _ h) lk_RX11_272 km_X11_refusedBy ob_72 rfl (by decide) rfl (Nat.le_of_ble_eq_true rfl) dX11_meter_20 (fun r_12 I_13 h => ?_)
    exact hret _ _ r_12 _ dX11_meter_23 h
set_option maxHeartbeats 4000000 in
set_option maxRecDepth 20000 in
theorem m_X11_meter (g : kf_G) (hg : kf_g g) (x1 : Int32) (x2 : Int32) (I : HI) (J : HJ) (Post : Int32 → HI → Prop) (h : w_X11_meter x1 x2 I J Post) : kf_Mi g yX11_meter (kf_W yX11_meter cX11_meter 5 (Option.some Jvm.ClassFile.FieldType.int)) 2 47 [.ref (g.2.2.2 72), .int x1, .int x2] I J (fun v I' J' => Post v I' ∧ J' = J) :=
  kf_enti hg (by decide) (Nat.le_of_ble_eq_true rfl) rfl (fun x hx hr => we_X11_meter g hg hx x1 x2 I J Post (fun pc lv v I' hd hP => hr pc lv v I' J hd ⟨hP, rfl⟩) h)
