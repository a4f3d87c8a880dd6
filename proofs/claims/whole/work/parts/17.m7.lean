theorem dX11_rounds_0 : decode cX11_rounds 0 = .ok (.aload_n 0, 1) := by decide +kernel
theorem dX11_rounds_1 : decode cX11_rounds 1 = .ok (.iconst 0, 1) := by decide +kernel
theorem dX11_rounds_2 : decode cX11_rounds 2 = .ok (.putfield 106, 3) := by decide +kernel
theorem dX11_rounds_5 : decode cX11_rounds 5 = .ok (.aload_n 0, 1) := by decide +kernel
theorem dX11_rounds_6 : decode cX11_rounds 6 = .ok (.iconst 0, 1) := by decide +kernel
theorem dX11_rounds_7 : decode cX11_rounds 7 = .ok (.putfield 109, 3) := by decide +kernel
theorem dX11_rounds_10 : decode cX11_rounds 10 = .ok (.iload_n 1, 1) := by decide +kernel
theorem dX11_rounds_11 : decode cX11_rounds 11 = .ok (.i2l, 1) := by decide +kernel
theorem dX11_rounds_12 : decode cX11_rounds 12 = .ok (.lconst 0, 1) := by decide +kernel
theorem dX11_rounds_13 : decode cX11_rounds 13 = .ok (.ldc2_w 364, 3) := by decide +kernel
theorem dX11_rounds_16 : decode cX11_rounds 16 = .ok (.invokestatic 228, 3) := by decide +kernel
theorem dX11_rounds_19 : decode cX11_rounds 19 = .ok (.ifCond .ne 9, 3) := by decide +kernel
theorem dX11_rounds_22 : decode cX11_rounds 22 = .ok (.aload_n 0, 1) := by decide +kernel
theorem dX11_rounds_23 : decode cX11_rounds 23 = .ok (.iconst 5, 1) := by decide +kernel
theorem dX11_rounds_24 : decode cX11_rounds 24 = .ok (.invokevirtual 272, 3) := by decide +kernel
theorem dX11_rounds_27 : decode cX11_rounds 27 = .ok (.ireturn, 1) := by decide +kernel
theorem dX11_rounds_28 : decode cX11_rounds 28 = .ok (.aload_n 0, 1) := by decide +kernel
theorem dX11_rounds_29 : decode cX11_rounds 29 = .ok (.getfield 287, 3) := by decide +kernel
theorem dX11_rounds_32 : decode cX11_rounds 32 = .ok (.ifCond .ne 10, 3) := by decide +kernel
theorem dX11_rounds_35 : decode cX11_rounds 35 = .ok (.aload_n 0, 1) := by decide +kernel
theorem dX11_rounds_36 : decode cX11_rounds 36 = .ok (.bipush 8, 2) := by decide +kernel
theorem dX11_rounds_38 : decode cX11_rounds 38 = .ok (.invokevirtual 272, 3) := by decide +kernel
theorem dX11_rounds_41 : decode cX11_rounds 41 = .ok (.ireturn, 1) := by decide +kernel
theorem dX11_rounds_42 : decode cX11_rounds 42 = .ok (.iconst (-1), 1) := by decide +kernel
theorem dX11_rounds_43 : decode cX11_rounds 43 = .ok (.istore_n 2, 1) := by decide +kernel
theorem dX11_rounds_44 : decode cX11_rounds 44 = .ok (.lconst 0, 1) := by decide +kernel
theorem dX11_rounds_45 : decode cX11_rounds 45 = .ok (.lstore_n 3, 1) := by decide +kernel
theorem dX11_rounds_46 : decode cX11_rounds 46 = .ok (.iconst 0, 1) := by decide +kernel
theorem dX11_rounds_47 : decode cX11_rounds 47 = .ok (.istore 5, 2) := by decide +kernel
theorem dX11_rounds_49 : decode cX11_rounds 49 = .ok (.iload 5, 2) := by decide +kernel
theorem dX11_rounds_51 : decode cX11_rounds 51 = .ok (.aload_n 0, 1) := by decide +kernel
theorem dX11_rounds_52 : decode cX11_rounds 52 = .ok (.getfield 287, 3) := by decide +kernel
theorem dX11_rounds_55 : decode cX11_rounds 55 = .ok (.if_icmp .ge 42, 3) := by decide +kernel
theorem dX11_rounds_58 : decode cX11_rounds 58 = .ok (.iload_n 1, 1) := by decide +kernel
theorem dX11_rounds_59 : decode cX11_rounds 59 = .ok (.iconst 1, 1) := by decide +kernel
theorem dX11_rounds_60 : decode cX11_rounds 60 = .ok (.if_icmp .eq 37, 3) := by decide +kernel
theorem dX11_rounds_63 : decode cX11_rounds 63 = .ok (.aload_n 0, 1) := by decide +kernel
theorem dX11_rounds_64 : decode cX11_rounds 64 = .ok (.iload 5, 2) := by decide +kernel
theorem dX11_rounds_66 : decode cX11_rounds 66 = .ok (.invokevirtual 366, 3) := by decide +kernel
theorem dX11_rounds_69 : decode cX11_rounds 69 = .ok (.lstore 6, 2) := by decide +kernel
theorem dX11_rounds_71 : decode cX11_rounds 71 = .ok (.iload_n 2, 1) := by decide +kernel
theorem dX11_rounds_72 : decode cX11_rounds 72 = .ok (.ifCond .lt 13, 3) := by decide +kernel
theorem dX11_rounds_75 : decode cX11_rounds 75 = .ok (.lload 6, 2) := by decide +kernel
theorem dX11_rounds_77 : decode cX11_rounds 77 = .ok (.lload_n 3, 1) := by decide +kernel
theorem dX11_rounds_78 : decode cX11_rounds 78 = .ok (.lcmp, 1) := by decide +kernel
theorem dX11_rounds_79 : decode cX11_rounds 79 = .ok (.ifCond .gt 6, 3) := by decide +kernel
theorem dX11_rounds_82 : decode cX11_rounds 82 = .ok (.goto 9, 3) := by decide +kernel
theorem dX11_rounds_85 : decode cX11_rounds 85 = .ok (.iload 5, 2) := by decide +kernel
theorem dX11_rounds_87 : decode cX11_rounds 87 = .ok (.istore_n 2, 1) := by decide +kernel
theorem dX11_rounds_88 : decode cX11_rounds 88 = .ok (.lload 6, 2) := by decide +kernel
theorem dX11_rounds_90 : decode cX11_rounds 90 = .ok (.lstore_n 3, 1) := by decide +kernel
theorem dX11_rounds_91 : decode cX11_rounds 91 = .ok (.iinc 5 1, 3) := by decide +kernel
theorem dX11_rounds_94 : decode cX11_rounds 94 = .ok (.goto (-45), 3) := by decide +kernel
theorem dX11_rounds_97 : decode cX11_rounds 97 = .ok (.iload_n 1, 1) := by decide +kernel
theorem dX11_rounds_98 : decode cX11_rounds 98 = .ok (.ifCond .ne 14, 3) := by decide +kernel
theorem dX11_rounds_101 : decode cX11_rounds 101 = .ok (.aload_n 0, 1) := by decide +kernel
theorem dX11_rounds_102 : decode cX11_rounds 102 = .ok (.lload_n 3, 1) := by decide +kernel
theorem dX11_rounds_103 : decode cX11_rounds 103 = .ok (.aload_n 0, 1) := by decide +kernel
theorem dX11_rounds_104 : decode cX11_rounds 104 = .ok (.invokevirtual 334, 3) := by decide +kernel
theorem dX11_rounds_107 : decode cX11_rounds 107 = .ok (.invokevirtual 338, 3) := by decide +kernel
theorem dX11_rounds_110 : decode cX11_rounds 110 = .ok (.iload_n 2, 1) := by decide +kernel
theorem dX11_rounds_111 : decode cX11_rounds 111 = .ok (.ireturn, 1) := by decide +kernel
theorem dX11_rounds_112 : decode cX11_rounds 112 = .ok (.iconst 0, 1) := by decide +kernel
theorem dX11_rounds_113 : decode cX11_rounds 113 = .ok (.istore 5, 2) := by decide +kernel
theorem dX11_rounds_115 : decode cX11_rounds 115 = .ok (.ldc2_w 137, 3) := by decide +kernel
theorem dX11_rounds_118 : decode cX11_rounds 118 = .ok (.lstore 6, 2) := by decide +kernel
theorem dX11_rounds_120 : decode cX11_rounds 120 = .ok (.iconst 1, 1) := by decide +kernel
theorem dX11_rounds_121 : decode cX11_rounds 121 = .ok (.istore 8, 2) := by decide +kernel
theorem dX11_rounds_123 : decode cX11_rounds 123 = .ok (.iload 8, 2) := by decide +kernel
theorem dX11_rounds_125 : decode cX11_rounds 125 = .ok (.iconst 3, 1) := by decide +kernel
theorem dX11_rounds_126 : decode cX11_rounds 126 = .ok (.if_icmp .ge 70, 3) := by decide +kernel
theorem dX11_rounds_129 : decode cX11_rounds 129 = .ok (.iconst 1, 1) := by decide +kernel
theorem dX11_rounds_130 : decode cX11_rounds 130 = .ok (.istore 9, 2) := by decide +kernel
theorem dX11_rounds_132 : decode cX11_rounds 132 = .ok (.iload 9, 2) := by decide +kernel
theorem dX11_rounds_134 : decode cX11_rounds 134 = .ok (.iconst 1, 1) := by decide +kernel
theorem dX11_rounds_135 : decode cX11_rounds 135 = .ok (.aload_n 0, 1) := by decide +kernel
theorem dX11_rounds_136 : decode cX11_rounds 136 = .ok (.getfield 287, 3) := by decide +kernel
theorem dX11_rounds_139 : decode cX11_rounds 139 = .ok (.ishl, 1) := by decide +kernel
theorem dX11_rounds_140 : decode cX11_rounds 140 = .ok (.if_icmp .ge 50, 3) := by decide +kernel
theorem dX11_rounds_143 : decode cX11_rounds 143 = .ok (.iload 9, 2) := by decide +kernel
theorem dX11_rounds_145 : decode cX11_rounds 145 = .ok (.invokestatic 325, 3) := by decide +kernel
theorem dX11_rounds_148 : decode cX11_rounds 148 = .ok (.iload 8, 2) := by decide +kernel
theorem dX11_rounds_150 : decode cX11_rounds 150 = .ok (.if_icmp .eq 6, 3) := by decide +kernel
theorem dX11_rounds_153 : decode cX11_rounds 153 = .ok (.goto 31, 3) := by decide +kernel
theorem dX11_rounds_156 : decode cX11_rounds 156 = .ok (.aload_n 0, 1) := by decide +kernel
theorem dX11_rounds_157 : decode cX11_rounds 157 = .ok (.iload 9, 2) := by decide +kernel
theorem dX11_rounds_159 : decode cX11_rounds 159 = .ok (.iconst 0, 1) := by decide +kernel
theorem dX11_rounds_160 : decode cX11_rounds 160 = .ok (.invokevirtual 330, 3) := by decide +kernel
theorem dX11_rounds_163 : decode cX11_rounds 163 = .ok (.lstore 10, 2) := by decide +kernel
theorem dX11_rounds_165 : decode cX11_rounds 165 = .ok (.lload 10, 2) := by decide +kernel
theorem dX11_rounds_167 : decode cX11_rounds 167 = .ok (.lload 6, 2) := by decide +kernel
theorem dX11_rounds_169 : decode cX11_rounds 169 = .ok (.lcmp, 1) := by decide +kernel
theorem dX11_rounds_170 : decode cX11_rounds 170 = .ok (.ifCond .gt 6, 3) := by decide +kernel
theorem dX11_rounds_173 : decode cX11_rounds 173 = .ok (.goto 11, 3) := by decide +kernel
theorem dX11_rounds_176 : decode cX11_rounds 176 = .ok (.lload 10, 2) := by decide +kernel
theorem dX11_rounds_178 : decode cX11_rounds 178 = .ok (.lstore 6, 2) := by decide +kernel
theorem dX11_rounds_180 : decode cX11_rounds 180 = .ok (.iload 9, 2) := by decide +kernel
theorem dX11_rounds_182 : decode cX11_rounds 182 = .ok (.istore 5, 2) := by decide +kernel
theorem dX11_rounds_184 : decode cX11_rounds 184 = .ok (.iinc 9 1, 3) := by decide +kernel
theorem dX11_rounds_187 : decode cX11_rounds 187 = .ok (.goto (-55), 3) := by decide +kernel
theorem dX11_rounds_190 : decode cX11_rounds 190 = .ok (.iinc 8 1, 3) := by decide +kernel
theorem dX11_rounds_193 : decode cX11_rounds 193 = .ok (.goto (-70), 3) := by decide +kernel
theorem dX11_rounds_196 : decode cX11_rounds 196 = .ok (.aload_n 0, 1) := by decide +kernel
theorem dX11_rounds_197 : decode cX11_rounds 197 = .ok (.iload_n 1, 1) := by decide +kernel
theorem dX11_rounds_198 : decode cX11_rounds 198 = .ok (.iconst 1, 1) := by decide +kernel
theorem dX11_rounds_199 : decode cX11_rounds 199 = .ok (.if_icmp .ne 8, 3) := by decide +kernel
theorem dX11_rounds_202 : decode cX11_rounds 202 = .ok (.lload 6, 2) := by decide +kernel
theorem dX11_rounds_204 : decode cX11_rounds 204 = .ok (.goto 7, 3) := by decide +kernel
theorem dX11_rounds_207 : decode cX11_rounds 207 = .ok (.lload_n 3, 1) := by decide +kernel
theorem dX11_rounds_208 : decode cX11_rounds 208 = .ok (.lload 6, 2) := by decide +kernel
theorem dX11_rounds_210 : decode cX11_rounds 210 = .ok (.lsub, 1) := by decide +kernel
theorem dX11_rounds_211 : decode cX11_rounds 211 = .ok (.aload_n 0, 1) := by decide +kernel
theorem dX11_rounds_212 : decode cX11_rounds 212 = .ok (.invokevirtual 334, 3) := by decide +kernel
theorem dX11_rounds_215 : decode cX11_rounds 215 = .ok (.invokevirtual 338, 3) := by decide +kernel
theorem dX11_rounds_218 : decode cX11_rounds 218 = .ok (.iload 5, 2) := by decide +kernel
theorem dX11_rounds_220 : decode cX11_rounds 220 = .ok (.ireturn, 1) := by decide +kernel
def wb_X11_rounds_49 (I : HI) (x1 : Int32) (Post : Int32 → HI → HJ → Prop) (E49 : Int32 → Int64 → HJ → Prop) (K49 : (Int32 × Int64 × Int32 × HJ) → Prop) (s : Int32 × Int64 × Int32 × HJ) : Prop :=
  match s with
  | (x2, x3, x5, J) => ((I 72 20) ≤ x5 → (E49 x2 x3 J)) ∧ (¬ (I 72 20) ≤ x5 → ((x1 = 1 → (E49 x2 x3 J)) ∧ (¬ x1 = 1 → (w_X11_seenOf x5 I J (fun (r_4 : Int64) (J_5 : HJ) => ((x2 < 0 → (K49 (x5, r_4, (x5 + 1), J_5))) ∧ (¬ x2 < 0 → ((x3 < r_4 → (K49 (x5, r_4, (x5 + 1), J_5))) ∧ (¬ x3 < r_4 → (K49 (x2, x3, (x5 + 1), J_5)))))))))))
set_option maxHeartbeats 4000000 in
set_option maxRecDepth 20000 in
theorem ws_X11_rounds_49 (g : kf_G) (hg : kf_g g) {x : kf_X} (hx : kf_ok g x RX11 cX11_rounds 12 3 75) (I : HI) (x1 : Int32) (Post : Int32 → HI → HJ → Prop) (hret : ∀ (pc : Nat) (lv : List (Nat × Value)) (v : Int32) (Iy : HI) (Jy : HJ), decode cX11_rounds pc = .ok (.ireturn, 1) → Post v Iy Jy → kf_M g x 12 pc lv [.int v] Iy Jy) (E49 : Int32 → Int64 → HJ → Prop) (hE49 : ∀ (y2 : Int32) (y3 : Int64) (Jy : HJ), E49 y2 y3 Jy → kf_M g x 12 97 [(0, .ref (g.2.2.2 72)), (1, .int x1), (2, .int y2), (3, .long y3)] [] I Jy) (K49 : (Int32 × Int64 × Int32 × HJ) → Prop) (hK49 : ∀ (y2 : Int32) (y3 : Int64) (y5 : Int32) (Jy : HJ), K49 (y2, y3, y5, Jy) → kf_M g x 12 49 [(0, .ref (g.2.2.2 72)), (1, .int x1), (2, .int y2), (3, .long y3), (5, .int y5)] [] I Jy) (x2 : Int32) (x3 : Int64) (x5 : Int32) (J : HJ) (h : wb_X11_rounds_49 I x1 Post E49 K49 (x2, x3, x5, J)) : kf_M g x 12 49 [(0, .ref (g.2.2.2 72)), (1, .int x1), (2, .int x2), (3, .long x3), (5, .int x5)] [] I J := by
  unfold wb_X11_rounds_49 at h
  refine kf_iload hx dX11_rounds_49 4 rfl ?_
  refine kf_aload_n hx dX11_rounds_51 rfl 0 rfl ?_
  refine kf_getI hx sl_72_20 fl_RX11_287 dX11_rounds_52 ?_
  refine kf_icmp_ge hx 97 dX11_rounds_55 (by decide) (fun c => ?_) (fun c => ?_)
  · replace h := h.1 c
    refine kf_sub [0, 1, 2, 3] rfl ?_
    exact hE49 _ _ _ h
  · replace h := h.2 c
    refine kf_iload_n hx dX11_rounds_58 rfl 1 rfl ?_
    refine kf_iconst (v := 1) hx dX11_rounds_59 (by decide) ?_
    refine kf_icmp_eq hx 97 dX11_rounds_60 (by decide) (fun c => ?_) (fun c => ?_)
    · replace h := h.1 c
      refine kf_sub [0, 1, 2, 3] rfl ?_
      exact hE49 _ _ _ h
    · replace h := h.2 c
      refine kf_aload_n hx dX11_rounds_63 rfl 0 rfl ?_
      refine kf_iload hx dX11_rounds_64 4 rfl ?_
      refine kf_callVlJ (st := []) hx (m_X11_seenOf g hg x5 I J _ h) lk_RX11_366 km_X11_seenOf ob_72 rfl (by decide) rfl (Nat.le_of_ble_eq_true rfl) dX11_rounds_66 (fun r_4 J_5 h => ?_)
      refine kf_lstore (lv' := [(6, .long r_4), (0, .ref (g.2.2.2 72)), (1, .int x1), (2, .int x2), (3, .long x3), (5, .int x5)]) hx dX11_rounds_69 (by decide) rfl ?_
      refine kf_iload_n hx dX11_rounds_71 rfl 3 rfl ?_
      refine kf_if_lt hx 85 dX11_rounds_72 (by decide) (fun c => ?_) (fun c => ?_)
      · replace h := h.1 c
        refine kf_iload hx dX11_rounds_85 5 rfl ?_
        refine kf_istore_n (lv' := [(2, .int x5), (6, .long r_4), (0, .ref (g.2.2.2 72)), (1, .int x1), (3, .long x3), (5, .int x5)]) hx dX11_rounds_87 rfl (by decide) rfl ?_
        refine kf_lload hx dX11_rounds_88 1 rfl ?_
        refine kf_lstore_n (lv' := [(3, .long r_4), (2, .int x5), (6, .long r_4), (0, .ref (g.2.2.2 72)), (1, .int x1), (5, .int x5)]) hx dX11_rounds_90 rfl (by decide) rfl ?_
        refine kf_iinc (w := (x5 + 1)) (lv' := [(5, .int (x5 + 1)), (3, .long r_4), (2, .int x5), (6, .long r_4), (0, .ref (g.2.2.2 72)), (1, .int x1)]) hx dX11_rounds_91 5 rfl rfl (by decide) rfl ?_
        refine kf_goto hx 49 dX11_rounds_94 (by decide) ?_
        refine kf_sub [4, 5, 2, 1, 0] rfl ?_
        exact hK49 _ _ _ _ h
      · replace h := h.2 c
        refine kf_lload hx dX11_rounds_75 0 rfl ?_
        refine kf_lload_n hx dX11_rounds_77 rfl 4 rfl ?_
        refine kf_l_gt hx 85 dX11_rounds_78 dX11_rounds_79 (by decide) (fun c => ?_) (fun c => ?_)
        · replace h := h.1 c
          refine kf_iload hx dX11_rounds_85 5 rfl ?_
          refine kf_istore_n (lv' := [(2, .int x5), (6, .long r_4), (0, .ref (g.2.2.2 72)), (1, .int x1), (3, .long x3), (5, .int x5)]) hx dX11_rounds_87 rfl (by decide) rfl ?_
          refine kf_lload hx dX11_rounds_88 1 rfl ?_
          refine kf_lstore_n (lv' := [(3, .long r_4), (2, .int x5), (6, .long r_4), (0, .ref (g.2.2.2 72)), (1, .int x1), (5, .int x5)]) hx dX11_rounds_90 rfl (by decide) rfl ?_
          refine kf_iinc (w := (x5 + 1)) (lv' := [(5, .int (x5 + 1)), (3, .long r_4), (2, .int x5), (6, .long r_4), (0, .ref (g.2.2.2 72)), (1, .int x1)]) hx dX11_rounds_91 5 rfl rfl (by decide) rfl ?_
          refine kf_goto hx 49 dX11_rounds_94 (by decide) ?_
          refine kf_sub [4, 5, 2, 1, 0] rfl ?_
          exact hK49 _ _ _ _ h
        · replace h := h.2 c
          refine kf_goto hx 91 dX11_rounds_82 (by decide) ?_
          refine kf_iinc (w := (x5 + 1)) (lv' := [(5, .int (x5 + 1)), (6, .long r_4), (0, .ref (g.2.2.2 72)), (1, .int x1), (2, .int x2), (3, .long x3)]) hx dX11_rounds_91 5 rfl rfl (by decide) rfl ?_
          refine kf_goto hx 49 dX11_rounds_94 (by decide) ?_
          refine kf_sub [2, 3, 4, 5, 0] rfl ?_
          exact hK49 _ _ _ _ h
theorem wl_X11_rounds_49 (g : kf_G) (hg : kf_g g) {x : kf_X} (hx : kf_ok g x RX11 cX11_rounds 12 3 75) (I : HI) (x1 : Int32) (Post : Int32 → HI → HJ → Prop) (hret : ∀ (pc : Nat) (lv : List (Nat × Value)) (v : Int32) (Iy : HI) (Jy : HJ), decode cX11_rounds pc = .ok (.ireturn, 1) → Post v Iy Jy → kf_M g x 12 pc lv [.int v] Iy Jy) (E49 : Int32 → Int64 → HJ → Prop) (hE49 : ∀ (y2 : Int32) (y3 : Int64) (Jy : HJ), E49 y2 y3 Jy → kf_M g x 12 97 [(0, .ref (g.2.2.2 72)), (1, .int x1), (2, .int y2), (3, .long y3)] [] I Jy) : ∀ (n : Nat) (x2 : Int32) (x3 : Int64) (x5 : Int32) (J : HJ), lp (wb_X11_rounds_49 I x1 Post E49) n (x2, x3, x5, J) → kf_M g x 12 49 [(0, .ref (g.2.2.2 72)), (1, .int x1), (2, .int x2), (3, .long x3), (5, .int x5)] [] I J := by
  intro n
  induction n with
  | zero => intro x2 x3 x5 J h; exact h.elim
  | succ n ih => intro x2 x3 x5 J h; exact ws_X11_rounds_49 g hg hx I x1 Post hret E49 hE49 (lp (wb_X11_rounds_49 I x1 Post E49) n) ih x2 x3 x5 J h
def wb_X11_rounds_132 (I : HI) (J : HJ) (x1 : Int32) (x3 : Int64) (x8 : Int32) (E123 : Int32 → Int64 → Prop) (K123 : Int32 × Int64 × Int32 → Prop) (Post : Int32 → HI → HJ → Prop) (E132 : Int32 → Int64 → Prop) (K132 : (Int32 × Int64 × Int32) → Prop) (s : Int32 × Int64 × Int32) : Prop :=
  match s with
  | (x5, x6, x9) => ((1 <<< ((I 72 20) &&& 31)) ≤ x9 → (E132 x5 x6)) ∧ (¬ (1 <<< ((I 72 20) &&& 31)) ≤ x9 → (w_J6_bitCount_0f7a4 x9 (fun (r_9 : Int32) => ((r_9 = x8 → (w_X11_spreadOf x9 0 I J (fun (r_10 : Int64) => ((x6 < r_10 → (K132 (x9, r_10, (x9 + 1)))) ∧ (¬ x6 < r_10 → (K132 (x5, x6, (x9 + 1)))))))) ∧ (¬ r_9 = x8 → (K132 (x5, x6, (x9 + 1))))))))
set_option maxHeartbeats 4000000 in
set_option maxRecDepth 20000 in
theorem ws_X11_rounds_132 (g : kf_G) (hg : kf_g g) {x : kf_X} (hx : kf_ok g x RX11 cX11_rounds 12 3 75) (I : HI) (J : HJ) (x1 : Int32) (x3 : Int64) (x8 : Int32) (E123 : Int32 → Int64 → Prop) (K123 : Int32 × Int64 × Int32 → Prop) (hE123 : ∀ (y5 : Int32) (y6 : Int64), E123 y5 y6 → kf_M g x 12 196 [(0, .ref (g.2.2.2 72)), (1, .int x1), (3, .long x3), (5, .int y5), (6, .long y6)] [] I J) (hK123 : ∀ (y5 : Int32) (y6 : Int64) (y8 : Int32), K123 (y5, y6, y8) → kf_M g x 12 123 [(0, .ref (g.2.2.2 72)), (1, .int x1), (3, .long x3), (5, .int y5), (6, .long y6), (8, .int y8)] [] I J) (Post : Int32 → HI → HJ → Prop) (hret : ∀ (pc : Nat) (lv : List (Nat × Value)) (v : Int32) (Iy : HI) (Jy : HJ), decode cX11_rounds pc = .ok (.ireturn, 1) → Post v Iy Jy → kf_M g x 12 pc lv [.int v] Iy Jy) (E132 : Int32 → Int64 → Prop) (hE132 : ∀ (y5 : Int32) (y6 : Int64), E132 y5 y6 → kf_M g x 12 190 [(0, .ref (g.2.2.2 72)), (1, .int x1), (3, .long x3), (5, .int y5), (6, .long y6), (8, .int x8)] [] I J) (K132 : (Int32 × Int64 × Int32) → Prop) (hK132 : ∀ (y5 : Int32) (y6 : Int64) (y9 : Int32), K132 (y5, y6, y9) → kf_M g x 12 132 [(0, .ref (g.2.2.2 72)), (1, .int x1), (3, .long x3), (5, .int y5), (6, .long y6), (8, .int x8), (9, .int y9)] [] I J) (x5 : Int32) (x6 : Int64) (x9 : Int32) (h : wb_X11_rounds_132 I J x1 x3 x8 E123 K123 Post E132 K132 (x5, x6, x9)) : kf_M g x 12 132 [(0, .ref (g.2.2.2 72)), (1, .int x1), (3, .long x3), (5, .int x5), (6, .long x6), (8, .int x8), (9, .int x9)] [] I J := by
  unfold wb_X11_rounds_132 at h
  refine kf_iload hx dX11_rounds_132 6 rfl ?_
  refine kf_iconst (v := 1) hx dX11_rounds_134 (by decide) ?_
  refine kf_aload_n hx dX11_rounds_135 rfl 0 rfl ?_
  refine kf_getI hx sl_72_20 fl_RX11_287 dX11_rounds_136 ?_
  refine kf_ishl hx dX11_rounds_139 ?_
  refine kf_icmp_ge hx 190 dX11_rounds_140 (by decide) (fun c => ?_) (fun c => ?_)
  · replace h := h.1 c
    refine kf_sub [0, 1, 2, 3, 4, 5] rfl ?_
    exact hE132 _ _ h
  · replace h := h.2 c
    refine kf_iload hx dX11_rounds_143 6 rfl ?_
    refine kf_callSiP (st := []) hx (m_J6_bitCount_0f7a4 g hg x9 I J _ h) lk_RX11_325 km_J6_bitCount_0f7a4 rfl (by decide) rfl (Nat.le_of_ble_eq_true rfl) dX11_rounds_145 (fun r_9 h => ?_)
    refine kf_iload hx dX11_rounds_148 5 rfl ?_
    refine kf_icmp_eq hx 156 dX11_rounds_150 (by decide) (fun c => ?_) (fun c => ?_)
    · replace h := h.1 c
      refine kf_aload_n hx dX11_rounds_156 rfl 0 rfl ?_
      refine kf_iload hx dX11_rounds_157 6 rfl ?_
      refine kf_iconst (v := 0) hx dX11_rounds_159 (by decide) ?_
      refine kf_callVlP (st := []) hx (m_X11_spreadOf g hg x9 0 I J _ h) lk_RX11_330 km_X11_spreadOf ob_72 rfl (by decide) rfl (Nat.le_of_ble_eq_true rfl) dX11_rounds_160 (fun r_10 h => ?_)
      refine kf_lstore (lv' := [(10, .long r_10), (0, .ref (g.2.2.2 72)), (1, .int x1), (3, .long x3), (5, .int x5), (6, .long x6), (8, .int x8), (9, .int x9)]) hx dX11_rounds_163 (by decide) rfl ?_
      refine kf_lload hx dX11_rounds_165 0 rfl ?_
      refine kf_lload hx dX11_rounds_167 5 rfl ?_
      refine kf_l_gt hx 176 dX11_rounds_169 dX11_rounds_170 (by decide) (fun c => ?_) (fun c => ?_)
      · replace h := h.1 c
        refine kf_lload hx dX11_rounds_176 0 rfl ?_
        refine kf_lstore (lv' := [(6, .long r_10), (10, .long r_10), (0, .ref (g.2.2.2 72)), (1, .int x1), (3, .long x3), (5, .int x5), (8, .int x8), (9, .int x9)]) hx dX11_rounds_178 (by decide) rfl ?_
        refine kf_iload hx dX11_rounds_180 7 rfl ?_
        refine kf_istore (lv' := [(5, .int x9), (6, .long r_10), (10, .long r_10), (0, .ref (g.2.2.2 72)), (1, .int x1), (3, .long x3), (8, .int x8), (9, .int x9)]) hx dX11_rounds_182 (by decide) rfl ?_
        refine kf_iinc (w := (x9 + 1)) (lv' := [(9, .int (x9 + 1)), (5, .int x9), (6, .long r_10), (10, .long r_10), (0, .ref (g.2.2.2 72)), (1, .int x1), (3, .long x3), (8, .int x8)]) hx dX11_rounds_184 7 rfl rfl (by decide) rfl ?_
        refine kf_goto hx 132 dX11_rounds_187 (by decide) ?_
        refine kf_sub [4, 5, 6, 1, 2, 7, 0] rfl ?_
        exact hK132 _ _ _ h
      · replace h := h.2 c
        refine kf_goto hx 184 dX11_rounds_173 (by decide) ?_
        refine kf_iinc (w := (x9 + 1)) (lv' := [(9, .int (x9 + 1)), (10, .long r_10), (0, .ref (g.2.2.2 72)), (1, .int x1), (3, .long x3), (5, .int x5), (6, .long x6), (8, .int x8)]) hx dX11_rounds_184 7 rfl rfl (by decide) rfl ?_
        refine kf_goto hx 132 dX11_rounds_187 (by decide) ?_
        refine kf_sub [2, 3, 4, 5, 6, 7, 0] rfl ?_
        exact hK132 _ _ _ h
    · replace h := h.2 c
      refine kf_goto hx 184 dX11_rounds_153 (by decide) ?_
      refine kf_iinc (w := (x9 + 1)) (lv' := [(9, .int (x9 + 1)), (0, .ref (g.2.2.2 72)), (1, .int x1), (3, .long x3), (5, .int x5), (6, .long x6), (8, .int x8)]) hx dX11_rounds_184 6 rfl rfl (by decide) rfl ?_
      refine kf_goto hx 132 dX11_rounds_187 (by decide) ?_
      refine kf_sub [1, 2, 3, 4, 5, 6, 0] rfl ?_
      exact hK132 _ _ _ h
theorem wl_X11_rounds_132 (g : kf_G) (hg : kf_g g) {x : kf_X} (hx : kf_ok g x RX11 cX11_rounds 12 3 75) (I : HI) (J : HJ) (x1 : Int32) (x3 : Int64) (x8 : Int32) (E123 : Int32 → Int64 → Prop) (K123 : Int32 × Int64 × Int32 → Prop) (hE123 : ∀ (y5 : Int32) (y6 : Int64), E123 y5 y6 → kf_M g x 12 196 [(0, .ref (g.2.2.2 72)), (1, .int x1), (3, .long x3), (5, .int y5), (6, .long y6)] [] I J) (hK123 : ∀ (y5 : Int32) (y6 : Int64) (y8 : Int32), K123 (y5, y6, y8) → kf_M g x 12 123 [(0, .ref (g.2.2.2 72)), (1, .int x1), (3, .long x3), (5, .int y5), (6, .long y6), (8, .int y8)] [] I J) (Post : Int32 → HI → HJ → Prop) (hret : ∀ (pc : Nat) (lv : List (Nat × Value)) (v : Int32) (Iy : HI) (Jy : HJ), decode cX11_rounds pc = .ok (.ireturn, 1) → Post v Iy Jy → kf_M g x 12 pc lv [.int v] Iy Jy) (E132 : Int32 → Int64 → Prop) (hE132 : ∀ (y5 : Int32) (y6 : Int64), E132 y5 y6 → kf_M g x 12 190 [(0, .ref (g.2.2.2 72)), (1, .int x1), (3, .long x3), (5, .int y5), (6, .long y6), (8, .int x8)] [] I J) : ∀ (n : Nat) (x5 : Int32) (x6 : Int64) (x9 : Int32), lp (wb_X11_rounds_132 I J x1 x3 x8 E123 K123 Post E132) n (x5, x6, x9) → kf_M g x 12 132 [(0, .ref (g.2.2.2 72)), (1, .int x1), (3, .long x3), (5, .int x5), (6, .long x6), (8, .int x8), (9, .int x9)] [] I J := by
  intro n
  induction n with
  | zero => intro x5 x6 x9 h; exact h.elim
  | succ n ih => intro x5 x6 x9 h; exact ws_X11_rounds_132 g hg hx I J x1 x3 x8 E123 K123 hE123 hK123 Post hret E132 hE132 (lp (wb_X11_rounds_132 I J x1 x3 x8 E123 K123 Post E132) n) ih x5 x6 x9 h
def wb_X11_rounds_123 (I : HI) (J : HJ) (x1 : Int32) (x3 : Int64) (Post : Int32 → HI → HJ → Prop) (E123 : Int32 → Int64 → Prop) (K123 : (Int32 × Int64 × Int32) → Prop) (s : Int32 × Int64 × Int32) : Prop :=
  match s with
  | (x5, x6, x8) => (3 ≤ x8 → (E123 x5 x6)) ∧ (¬ 3 ≤ x8 → (∃ n, lp (wb_X11_rounds_132 I J x1 x3 x8 E123 K123 Post (fun (x5_11 : Int32) (x6_12 : Int64) => K123 (x5_11, x6_12, (x8 + 1)))) n (x5, x6, 1)))
set_option maxHeartbeats 4000000 in
set_option maxRecDepth 20000 in
theorem ws_X11_rounds_123 (g : kf_G) (hg : kf_g g) {x : kf_X} (hx : kf_ok g x RX11 cX11_rounds 12 3 75) (I : HI) (J : HJ) (x1 : Int32) (x3 : Int64) (Post : Int32 → HI → HJ → Prop) (hret : ∀ (pc : Nat) (lv : List (Nat × Value)) (v : Int32) (Iy : HI) (Jy : HJ), decode cX11_rounds pc = .ok (.ireturn, 1) → Post v Iy Jy → kf_M g x 12 pc lv [.int v] Iy Jy) (E123 : Int32 → Int64 → Prop) (hE123 : ∀ (y5 : Int32) (y6 : Int64), E123 y5 y6 → kf_M g x 12 196 [(0, .ref (g.2.2.2 72)), (1, .int x1), (3, .long x3), (5, .int y5), (6, .long y6)] [] I J) (K123 : (Int32 × Int64 × Int32) → Prop) (hK123 : ∀ (y5 : Int32) (y6 : Int64) (y8 : Int32), K123 (y5, y6, y8) → kf_M g x 12 123 [(0, .ref (g.2.2.2 72)), (1, .int x1), (3, .long x3), (5, .int y5), (6, .long y6), (8, .int y8)] [] I J) (x5 : Int32) (x6 : Int64) (x8 : Int32) (h : wb_X11_rounds_123 I J x1 x3 Post E123 K123 (x5, x6, x8)) : kf_M g x 12 123 [(0, .ref (g.2.2.2 72)), (1, .int x1), (3, .long x3), (5, .int x5), (6, .long x6), (8, .int x8)] [] I J := by
  unfold wb_X11_rounds_123 at h
  refine kf_iload hx dX11_rounds_123 5 rfl ?_
  refine kf_iconst (v := 3) hx dX11_rounds_125 (by decide) ?_
  refine kf_icmp_ge hx 196 dX11_rounds_126 (by decide) (fun c => ?_) (fun c => ?_)
  · replace h := h.1 c
    refine kf_sub [0, 1, 2, 3, 4] rfl ?_
    exact hE123 _ _ h
  · replace h := h.2 c
    refine kf_iconst (v := 1) hx dX11_rounds_129 (by decide) ?_
    refine kf_istore (lv' := [(9, .int 1), (0, .ref (g.2.2.2 72)), (1, .int x1), (3, .long x3), (5, .int x5), (6, .long x6), (8, .int x8)]) hx dX11_rounds_130 (by decide) rfl ?_
    obtain ⟨n, h⟩ := h
    refine kf_sub [1, 2, 3, 4, 5, 6, 0] rfl ?_
    refine wl_X11_rounds_132 g hg hx I J x1 x3 x8 _ _ hE123 hK123 _ hret _ (fun x5_11 x6_12 h => ?_) n _ _ _ h
    refine kf_iinc (w := (x8 + 1)) (lv' := [(8, .int (x8 + 1)), (0, .ref (g.2.2.2 72)), (1, .int x1), (3, .long x3), (5, .int x5_11), (6, .long x6_12)]) hx dX11_rounds_190 5 rfl rfl (by decide) rfl ?_
    refine kf_goto hx 123 dX11_rounds_193 (by decide) ?_
    refine kf_sub [1, 2, 3, 4, 5, 0] rfl ?_
    exact hK123 _ _ _ h
theorem wl_X11_rounds_123 (g : kf_G) (hg : kf_g g) {x : kf_X} (hx : kf_ok g x RX11 cX11_rounds 12 3 75) (I : HI) (J : HJ) (x1 : Int32) (x3 : Int64) (Post : Int32 → HI → HJ → Prop) (hret : ∀ (pc : Nat) (lv : List (Nat × Value)) (v : Int32) (Iy : HI) (Jy : HJ), decode cX11_rounds pc = .ok (.ireturn, 1) → Post v Iy Jy → kf_M g x 12 pc lv [.int v] Iy Jy) (E123 : Int32 → Int64 → Prop) (hE123 : ∀ (y5 : Int32) (y6 : Int64), E123 y5 y6 → kf_M g x 12 196 [(0, .ref (g.2.2.2 72)), (1, .int x1), (3, .long x3), (5, .int y5), (6, .long y6)] [] I J) : ∀ (n : Nat) (x5 : Int32) (x6 : Int64) (x8 : Int32), lp (wb_X11_rounds_123 I J x1 x3 Post E123) n (x5, x6, x8) → kf_M g x 12 123 [(0, .ref (g.2.2.2 72)), (1, .int x1), (3, .long x3), (5, .int x5), (6, .long x6), (8, .int x8)] [] I J := by
  intro n
  induction n with
  | zero => intro x5 x6 x8 h; exact h.elim
  | succ n ih => intro x5 x6 x8 h; exact ws_X11_rounds_123 g hg hx I J x1 x3 Post hret E123 hE123 (lp (wb_X11_rounds_123 I J x1 x3 Post E123) n) ih x5 x6 x8 h
def wj_X11_rounds_211 (I : HI) (J : HJ) (x5 : Int32) (t0 : Int64) (Post : Int32 → HI → HJ → Prop) : Prop :=
  w_X11_whole  I J (fun (r_15 : Int64) => (w_X11_fraction t0 r_15 I J (fun (J_16 : HJ) => (Post x5 I J_16))))
set_option maxHeartbeats 4000000 in
set_option maxRecDepth 20000 in
theorem wk_X11_rounds_211 (g : kf_G) (hg : kf_g g) {x : kf_X} (hx : kf_ok g x RX11 cX11_rounds 12 3 75) (I : HI) (J : HJ) (x5 : Int32) (t0 : Int64) (Post : Int32 → HI → HJ → Prop) (hret : ∀ (pc : Nat) (lv : List (Nat × Value)) (v : Int32) (Iy : HI) (Jy : HJ), decode cX11_rounds pc = .ok (.ireturn, 1) → Post v Iy Jy → kf_M g x 12 pc lv [.int v] Iy Jy) (h : wj_X11_rounds_211 I J x5 t0 Post) : kf_M g x 12 211 [(0, .ref (g.2.2.2 72)), (5, .int x5)] [.long t0, .ref (g.2.2.2 72)] I J := by
  unfold wj_X11_rounds_211 at h
  refine kf_aload_n hx dX11_rounds_211 rfl 0 rfl ?_
  refine kf_callVlP (st := [.long t0, .ref (g.2.2.2 72)]) hx (m_X11_whole g hg  I J _ h) lk_RX11_334 km_X11_whole ob_72 rfl (by decide) rfl (Nat.le_of_ble_eq_true rfl) dX11_rounds_212 (fun r_15 h => ?_)
  refine kf_callVvJ (st := []) hx (m_X11_fraction g hg t0 r_15 I J _ h) lk_RX11_338 km_X11_fraction ob_72 rfl (by decide) rfl (Nat.le_of_ble_eq_true rfl) dX11_rounds_215 (fun J_16 h => ?_)
  refine kf_iload hx dX11_rounds_218 1 rfl ?_
  exact hret _ _ x5 _ _ dX11_rounds_220 h
def w_X11_rounds (x1 : Int32) (I : HI) (J : HJ) (Post : Int32 → HI → HJ → Prop) : Prop :=
  ∀ I_1 : HI, I_1 = hI I 72 1 0 → (∀ I_2 : HI, I_2 = hI I_1 72 0 0 → (w_X11_isIn (Int32.toInt64 x1) 0 2 (fun (r_3 : Bool) => ((r_3 = true → ((¬ (I_2 72 20) = 0 → (∃ n, lp (wb_X11_rounds_49 I_2 x1 Post (fun (x2_6 : Int32) (x3_7 : Int64) (J_8 : HJ) => (¬ x1 = 0 → (∃ n, lp (wb_X11_rounds_123 I_2 J_8 x1 x3_7 Post (fun (x5_13 : Int32) (x6_14 : Int64) => (¬ x1 = 1 → (wj_X11_rounds_211 I_2 J_8 x5_13 (x3_7 - x6_14) Post)) ∧ (x1 = 1 → (wj_X11_rounds_211 I_2 J_8 x5_13 x6_14 Post)))) n (0, (-1), 1))) ∧ (x1 = 0 → (w_X11_whole  I_2 J_8 (fun (r_17 : Int64) => (w_X11_fraction x3_7 r_17 I_2 J_8 (fun (J_18 : HJ) => (Post x2_6 I_2 J_18)))))))) n ((-1), 0, 0, J))) ∧ ((I_2 72 20) = 0 → (w_X11_refusedBy 8 I_2 J (fun (r_19 : Int32) (I_20 : HI) => (Post r_19 I_20 J)))))) ∧ (r_3 = false → (w_X11_refusedBy 5 I_2 J (fun (r_21 : Int32) (I_22 : HI) => (Post r_21 I_22 J))))))))
set_option maxHeartbeats 4000000 in
set_option maxRecDepth 20000 in
theorem we_X11_rounds (g : kf_G) (hg : kf_g g) {x : kf_X} (hx : kf_ok g x RX11 cX11_rounds 12 3 75) (x1 : Int32) (I : HI) (J : HJ) (Post : Int32 → HI → HJ → Prop) (hret : ∀ (pc : Nat) (lv : List (Nat × Value)) (v : Int32) (Iy : HI) (Jy : HJ), decode cX11_rounds pc = .ok (.ireturn, 1) → Post v Iy Jy → kf_M g x 12 pc lv [.int v] Iy Jy) (h : w_X11_rounds x1 I J Post) : kf_M g x 12 0 [(0, .ref (g.2.2.2 72)), (1, .int x1)] [] I J := by
  unfold w_X11_rounds at h
  refine kf_aload_n hx dX11_rounds_0 rfl 0 rfl ?_
  refine kf_iconst (v := 0) hx dX11_rounds_1 (by decide) ?_
  refine kf_putI hx sl_72_1 fl_RX11_106 fp_11_1 dX11_rounds_2 ?_
  refine kf_nmI (fun I_1 eI_1 => ?_)
  replace h := h I_1 eI_1
  refine kf_aload_n hx dX11_rounds_5 rfl 0 rfl ?_
  refine kf_iconst (v := 0) hx dX11_rounds_6 (by decide) ?_
  refine kf_putI hx sl_72_0 fl_RX11_109 fp_11_0 dX11_rounds_7 ?_
  refine kf_nmI (fun I_2 eI_2 => ?_)
  replace h := h I_2 eI_2
  refine kf_iload_n hx dX11_rounds_10 rfl 1 rfl ?_
  refine kf_i2l hx dX11_rounds_11 ?_
  refine kf_lconst (v := 0) hx dX11_rounds_12 (by decide) ?_
  refine kf_ldc2 hx ko_RX11_364 dX11_rounds_13 ?_
  refine kf_callSbP (st := []) hx (m_X11_isIn g hg (Int32.toInt64 x1) 0 2 I_2 J _ h) lk_RX11_228 km_X11_isIn rfl (by decide) rfl (Nat.le_of_ble_eq_true rfl) dX11_rounds_16 (fun r_3 h => ?_)
  refine kf_ifB_ne hx 28 dX11_rounds_19 (by decide) (fun c => ?_) (fun c => ?_)
  · replace h := h.1 c
    refine kf_aload_n hx dX11_rounds_28 rfl 0 rfl ?_
    refine kf_getI hx sl_72_20 fl_RX11_287 dX11_rounds_29 ?_
    refine kf_if_ne hx 42 dX11_rounds_32 (by decide) (fun c => ?_) (fun c => ?_)
    · replace h := h.1 c
      refine kf_iconst (v := (-1)) hx dX11_rounds_42 (by decide) ?_
      refine kf_istore_n (lv' := [(2, .int (-1)), (0, .ref (g.2.2.2 72)), (1, .int x1)]) hx dX11_rounds_43 rfl (by decide) rfl ?_
      refine kf_lconst (v := 0) hx dX11_rounds_44 (by decide) ?_
      refine kf_lstore_n (lv' := [(3, .long 0), (2, .int (-1)), (0, .ref (g.2.2.2 72)), (1, .int x1)]) hx dX11_rounds_45 rfl (by decide) rfl ?_
      refine kf_iconst (v := 0) hx dX11_rounds_46 (by decide) ?_
      refine kf_istore (lv' := [(5, .int 0), (3, .long 0), (2, .int (-1)), (0, .ref (g.2.2.2 72)), (1, .int x1)]) hx dX11_rounds_47 (by decide) rfl ?_
      obtain ⟨n, h⟩ := h
      refine kf_sub [3, 4, 2, 1, 0] rfl ?_
      refine wl_X11_rounds_49 g hg hx I_2 x1 _ hret _ (fun x2_6 x3_7 J_8 h => ?_) n _ _ _ _ h
      refine kf_iload_n hx dX11_rounds_97 rfl 1 rfl ?_
      refine kf_if_ne hx 112 dX11_rounds_98 (by decide) (fun c => ?_) (fun c => ?_)
      · replace h := h.1 c
        refine kf_iconst (v := 0) hx dX11_rounds_112 (by decide) ?_
        refine kf_istore (lv' := [(5, .int 0), (0, .ref (g.2.2.2 72)), (1, .int x1), (2, .int x2_6), (3, .long x3_7)]) hx dX11_rounds_113 (by decide) rfl ?_
        refine kf_ldc2 hx ko_RX11_137 dX11_rounds_115 ?_
        refine kf_lstore (lv' := [(6, .long (-1)), (5, .int 0), (0, .ref (g.2.2.2 72)), (1, .int x1), (2, .int x2_6), (3, .long x3_7)]) hx dX11_rounds_118 (by decide) rfl ?_
        refine kf_iconst (v := 1) hx dX11_rounds_120 (by decide) ?_
        refine kf_istore (lv' := [(8, .int 1), (6, .long (-1)), (5, .int 0), (0, .ref (g.2.2.2 72)), (1, .int x1), (2, .int x2_6), (3, .long x3_7)]) hx dX11_rounds_121 (by decide) rfl ?_
        obtain ⟨n, h⟩ := h
        refine kf_sub [3, 4, 6, 2, 1, 0] rfl ?_
        refine wl_X11_rounds_123 g hg hx I_2 J_8 x1 x3_7 _ hret _ (fun x5_13 x6_14 h => ?_) n _ _ _ h
        refine kf_aload_n hx dX11_rounds_196 rfl 0 rfl ?_
        refine kf_iload_n hx dX11_rounds_197 rfl 1 rfl ?_
        refine kf_iconst (v := 1) hx dX11_rounds_198 (by decide) ?_
        refine kf_icmp_ne hx 207 dX11_rounds_199 (by decide) (fun c => ?_) (fun c => ?_)
        · replace h := h.1 c
          refine kf_lload_n hx dX11_rounds_207 rfl 2 rfl ?_
          refine kf_lload hx dX11_rounds_208 4 rfl ?_
          refine kf_lsub hx dX11_rounds_210 ?_
          refine kf_sub [0, 3] rfl ?_
          exact wk_X11_rounds_211 g hg hx I_2 J_8 x5_13 (x3_7 - x6_14) _ hret h
        · replace h := h.2 c
          refine kf_lload hx dX11_rounds_202 4 rfl ?_
          refine kf_goto hx 211 dX11_rounds_204 (by decide) ?_
          refine kf_sub [0, 3] rfl ?_
          exact wk_X11_rounds_211 g hg hx I_2 J_8 x5_13 x6_14 _ hret h
      · replace h := h.2 c
        refine kf_aload_n hx dX11_rounds_101 rfl 0 rfl ?_
        refine kf_lload_n hx dX11_rounds_102 rfl 3 rfl ?_
        refine kf_aload_n hx dX11_rounds_103 rfl 0 rfl ?_
        refine kf_callVlP (st := [.long x3_7, .ref (g.2.2.2 72)]) hx (m_X11_whole g hg  I_2 J_8 _ h) lk_RX11_334 km_X11_whole ob_72 rfl (by decide) rfl (Nat.le_of_ble_eq_true rfl) dX11_rounds_104 (fun r_17 h => ?_)
        refine kf_callVvJ (st := []) hx (m_X11_fraction g hg x3_7 r_17 I_2 J_8 _ h) lk_RX11_338 km_X11_fraction ob_72 rfl (by decide) rfl (Nat.le_of_ble_eq_true rfl) dX11_rounds_107 (fun J_18 h => ?_)
        refine kf_iload_n hx dX11_rounds_110 rfl 2 rfl ?_
        exact hret _ _ x2_6 _ _ dX11_rounds_111 h
    · replace h := h.2 c
      refine kf_aload_n hx dX11_rounds_35 rfl 0 rfl ?_
      refine kf_bipush (v := 8) hx dX11_rounds_36 (by decide) ?_
      refine kf_callViI (st := []) hx (m_X11_refusedBy g hg 8 I_2 J _ h) lk_RX11_272 km_X11_refusedBy ob_72 rfl (by decide) rfl (Nat.le_of_ble_eq_true rfl) dX11_rounds_38 (fun r_19 I_20 h => ?_)
      exact hret _ _ r_19 _ _ dX11_rounds_41 h
  · replace h := h.2 c
    refine kf_aload_n hx dX11_rounds_22 rfl 0 rfl ?_
    refine kf_iconst (v := 5) hx dX11_rounds_23 (by decide) ?_
    refine kf_callViI (st := []) hx (m_X11_refusedBy g hg 5 I_2 J _ h) lk_RX11_272 km_X11_refusedBy ob_72 rfl (by decide) rfl (Nat.le_of_ble_eq_true rfl) dX11_rounds_24 (fun r_21 I_22 h => ?_)
    exact hret _ _ r_21 _ _ dX11_rounds_27 h
set_option maxHeartbeats 4000000 in
set_option maxRecDepth 20000 in
theorem m_X11_rounds (g : kf_G) (hg : kf_g g) (x1 : Int32) (I : HI) (J : HJ) (Post : Int32 → HI → HJ → Prop) (h : w_X11_rounds x1 I J Post) : kf_Mi g yX11_rounds (kf_W yX11_rounds cX11_rounds 12 (Option.some Jvm.ClassFile.FieldType.int)) 3 75 [.ref (g.2.2.2 72), .int x1] I J Post :=
  kf_enti hg (by decide) (Nat.le_of_ble_eq_true rfl) rfl (fun x hx hr => we_X11_rounds g hg hx x1 I J Post (fun pc lv v I' J' hd hP => hr pc lv v I' J' hd hP) h)
theorem dX11_take_0 : decode cX11_take 0 = .ok (.aload_n 0, 1) := by decide +kernel
theorem dX11_take_1 : decode cX11_take 1 = .ok (.getfield 81, 3) := by decide +kernel
theorem dX11_take_4 : decode cX11_take 4 = .ok (.iload_n 1, 1) := by decide +kernel
theorem dX11_take_5 : decode cX11_take 5 = .ok (.iload_n 2, 1) := by decide +kernel
theorem dX11_take_6 : decode cX11_take 6 = .ok (.iastore, 1) := by decide +kernel
theorem dX11_take_7 : decode cX11_take 7 = .ok (.aload_n 0, 1) := by decide +kernel
theorem dX11_take_8 : decode cX11_take 8 = .ok (.getfield 87, 3) := by decide +kernel
theorem dX11_take_11 : decode cX11_take 11 = .ok (.iload_n 1, 1) := by decide +kernel
theorem dX11_take_12 : decode cX11_take 12 = .ok (.iload_n 3, 1) := by decide +kernel
theorem dX11_take_13 : decode cX11_take 13 = .ok (.iastore, 1) := by decide +kernel
theorem dX11_take_14 : decode cX11_take 14 = .ok (.iconst 0, 1) := by decide +kernel
theorem dX11_take_15 : decode cX11_take 15 = .ok (.istore 4, 2) := by decide +kernel
theorem dX11_take_17 : decode cX11_take 17 = .ok (.iload 4, 2) := by decide +kernel
theorem dX11_take_19 : decode cX11_take 19 = .ok (.aload_n 0, 1) := by decide +kernel
theorem dX11_take_20 : decode cX11_take 20 = .ok (.getfield 290, 3) := by decide +kernel
theorem dX11_take_23 : decode cX11_take 23 = .ok (.if_icmp .ge 36, 3) := by decide +kernel
theorem dX11_take_26 : decode cX11_take 26 = .ok (.aload_n 0, 1) := by decide +kernel
theorem dX11_take_27 : decode cX11_take 27 = .ok (.getfield 41, 3) := by decide +kernel
theorem dX11_take_30 : decode cX11_take 30 = .ok (.iload 4, 2) := by decide +kernel
theorem dX11_take_32 : decode cX11_take 32 = .ok (.iaload, 1) := by decide +kernel
theorem dX11_take_33 : decode cX11_take 33 = .ok (.iload_n 1, 1) := by decide +kernel
theorem dX11_take_34 : decode cX11_take 34 = .ok (.if_icmp .ne 19, 3) := by decide +kernel
theorem dX11_take_37 : decode cX11_take 37 = .ok (.aload_n 0, 1) := by decide +kernel
theorem dX11_take_38 : decode cX11_take 38 = .ok (.getfield 90, 3) := by decide +kernel
theorem dX11_take_41 : decode cX11_take 41 = .ok (.iload 4, 2) := by decide +kernel
theorem dX11_take_43 : decode cX11_take 43 = .ok (.iload_n 2, 1) := by decide +kernel
theorem dX11_take_44 : decode cX11_take 44 = .ok (.aload_n 0, 1) := by decide +kernel
theorem dX11_take_45 : decode cX11_take 45 = .ok (.getfield 50, 3) := by decide +kernel
theorem dX11_take_48 : decode cX11_take 48 = .ok (.iload 4, 2) := by decide +kernel
theorem dX11_take_50 : decode cX11_take 50 = .ok (.iaload, 1) := by decide +kernel
theorem dX11_take_51 : decode cX11_take 51 = .ok (.iadd, 1) := by decide +kernel
theorem dX11_take_52 : decode cX11_take 52 = .ok (.iastore, 1) := by decide +kernel
theorem dX11_take_53 : decode cX11_take 53 = .ok (.iinc 4 1, 3) := by decide +kernel
theorem dX11_take_56 : decode cX11_take 56 = .ok (.goto (-39), 3) := by decide +kernel
theorem dX11_take_59 : decode cX11_take 59 = .ok (.return_, 1) := by decide +kernel
def wb_X11_take_17 (J : HJ) (x1 : Int32) (x2 : Int32) (Post : HI → Prop) (E17 : HI → Prop) (K17 : (Int32 × HI) → Prop) (s : Int32 × HI) : Prop :=
  match s with
  | (x4, I) => ((I 72 21) ≤ x4 → (E17 I)) ∧ (¬ (I 72 21) ≤ x4 → (vp_in x4 10 ∧ ((¬ (I 79 (Int32.toNatClampNeg x4)) = x1 → (K17 ((x4 + 1), I))) ∧ ((I 79 (Int32.toNatClampNeg x4)) = x1 → (vp_in x4 10 ∧ (vp_in x4 10 ∧ (∀ I_3 : HI, I_3 = hI I 95 (Int32.toNatClampNeg x4) (x2 + (I 82 (Int32.toNatClampNeg x4))) → (K17 ((x4 + 1), I_3)))))))))
set_option maxHeartbeats 4000000 in
set_option maxRecDepth 20000 in
theorem ws_X11_take_17 (g : kf_G) (hg : kf_g g) {x : kf_X} (hx : kf_ok g x RX11 cX11_take 5 0 0) (J : HJ) (x1 : Int32) (x2 : Int32) (Post : HI → Prop) (hret : ∀ (pc : Nat) (lv : List (Nat × Value)) (Iy : HI), decode cX11_take pc = .ok (.return_, 1) → Post Iy → kf_M g x 5 pc lv [] Iy J) (E17 : HI → Prop) (hE17 : ∀ (Iy : HI), E17 Iy → kf_M g x 5 59 [] [] Iy J) (K17 : (Int32 × HI) → Prop) (hK17 : ∀ (y4 : Int32) (Iy : HI), K17 (y4, Iy) → kf_M g x 5 17 [(0, .ref (g.2.2.2 72)), (1, .int x1), (2, .int x2), (4, .int y4)] [] Iy J) (x4 : Int32) (I : HI) (h : wb_X11_take_17 J x1 x2 Post E17 K17 (x4, I)) : kf_M g x 5 17 [(0, .ref (g.2.2.2 72)), (1, .int x1), (2, .int x2), (4, .int x4)] [] I J := by
  unfold wb_X11_take_17 at h
  refine kf_iload hx dX11_take_17 3 rfl ?_
  refine kf_aload_n hx dX11_take_19 rfl 0 rfl ?_
  refine kf_getI hx sl_72_21 fl_RX11_290 dX11_take_20 ?_
  refine kf_icmp_ge hx 59 dX11_take_23 (by decide) (fun c => ?_) (fun c => ?_)
  · replace h := h.1 c
    refine kf_sub [] rfl ?_
    exact hE17 _ h
  · replace h := h.2 c
    refine kf_aload_n hx dX11_take_26 rfl 0 rfl ?_
    refine kf_getR (n := 79) hx sl_72_26 fl_RX11_41 dX11_take_27 ?_
    refine kf_iload hx dX11_take_30 3 rfl ?_
    refine kf_iald hx ar_79 h.1 dX11_take_32 ?_
    replace h := h.2
    refine kf_iload_n hx dX11_take_33 rfl 1 rfl ?_
    refine kf_icmp_ne hx 53 dX11_take_34 (by decide) (fun c => ?_) (fun c => ?_)
    · replace h := h.1 c
      refine kf_iinc (w := (x4 + 1)) (lv' := [(4, .int (x4 + 1)), (0, .ref (g.2.2.2 72)), (1, .int x1), (2, .int x2)]) hx dX11_take_53 3 rfl rfl (by decide) rfl ?_
      refine kf_goto hx 17 dX11_take_56 (by decide) ?_
      refine kf_sub [1, 2, 3, 0] rfl ?_
      exact hK17 _ _ h
    · replace h := h.2 c
      refine kf_aload_n hx dX11_take_37 rfl 0 rfl ?_
      refine kf_getR (n := 95) hx sl_72_43 fl_RX11_90 dX11_take_38 ?_
      refine kf_iload hx dX11_take_41 3 rfl ?_
      refine kf_iload_n hx dX11_take_43 rfl 2 rfl ?_
      refine kf_aload_n hx dX11_take_44 rfl 0 rfl ?_
      refine kf_getR (n := 82) hx sl_72_29 fl_RX11_50 dX11_take_45 ?_
      refine kf_iload hx dX11_take_48 3 rfl ?_
      refine kf_iald hx ar_82 h.1 dX11_take_50 ?_
      replace h := h.2
      refine kf_iadd hx dX11_take_51 ?_
      refine kf_iast hx ar_95 h.1 dX11_take_52 ?_
      replace h := h.2
      refine kf_nmI (fun I_3 eI_3 => ?_)
      replace h := h I_3 eI_3
      refine kf_iinc (w := (x4 + 1)) (lv' := [(4, .int (x4 + 1)), (0, .ref (g.2.2.2 72)), (1, .int x1), (2, .int x2)]) hx dX11_take_53 3 rfl rfl (by decide) rfl ?_
      refine kf_goto hx 17 dX11_take_56 (by decide) ?_
      refine kf_sub [1, 2, 3, 0] rfl ?_
      exact hK17 _ _ h
theorem wl_X11_take_17 (g : kf_G) (hg : kf_g g) {x : kf_X} (hx : kf_ok g x RX11 cX11_take 5 0 0) (J : HJ) (x1 : Int32) (x2 : Int32) (Post : HI → Prop) (hret : ∀ (pc : Nat) (lv : List (Nat × Value)) (Iy : HI), decode cX11_take pc = .ok (.return_, 1) → Post Iy → kf_M g x 5 pc lv [] Iy J) (E17 : HI → Prop) (hE17 : ∀ (Iy : HI), E17 Iy → kf_M g x 5 59 [] [] Iy J) : ∀ (n : Nat) (x4 : Int32) (I : HI), lp (wb_X11_take_17 J x1 x2 Post E17) n (x4, I) → kf_M g x 5 17 [(0, .ref (g.2.2.2 72)), (1, .int x1), (2, .int x2), (4, .int x4)] [] I J := by
  intro n
  induction n with
  | zero => intro x4 I h; exact h.elim
  | succ n ih => intro x4 I h; exact ws_X11_take_17 g hg hx J x1 x2 Post hret E17 hE17 (lp (wb_X11_take_17 J x1 x2 Post E17) n) ih x4 I h
def w_X11_take (x1 : Int32) (x2 : Int32) (x3 : Int32) (I : HI) (J : HJ) (Post : HI → Prop) : Prop :=
  vp_in x1 12 ∧ (∀ I_1 : HI, I_1 = hI I 92 (Int32.toNatClampNeg x1) x2 → (vp_in x1 12 ∧ (∀ I_2 : HI, I_2 = hI I_1 94 (Int32.toNatClampNeg x1) x3 → (∃ n, lp (wb_X11_take_17 J x1 x2 Post (fun (I_4 : HI) => Post I_4)) n (0, I_2)))))
set_option maxHeartbeats 4000000 in
set_option maxRecDepth 20000 in
theorem we_X11_take (g : kf_G) (hg : kf_g g) {x : kf_X} (hx : kf_ok g x RX11 cX11_take 5 0 0) (x1 : Int32) (x2 : Int32) (x3 : Int32) (I : HI) (J : HJ) (Post : HI → Prop) (hret : ∀ (pc : Nat) (lv : List (Nat × Value)) (Iy : HI), decode cX11_take pc = .ok (.return_, 1) → Post Iy → kf_M g x 5 pc lv [] Iy J) (h : w_X11_take x1 x2 x3 I J Post) : kf_M g x 5 0 [(0, .ref (g.2.2.2 72)), (1, .int x1), (2, .int x2), (3, .int x3)] [] I J := by
  unfold w_X11_take at h
  refine kf_aload_n hx dX11_take_0 rfl 0 rfl ?_
  refine kf_getR (n := 92) hx sl_72_40 fl_RX11_81 dX11_take_1 ?_
  refine kf_iload_n hx dX11_take_4 rfl 1 rfl ?_
  refine kf_iload_n hx dX11_take_5 rfl 2 rfl ?_
  refine kf_iast hx ar_92 h.1 dX11_take_6 ?_
  replace h := h.2
  refine kf_nmI (fun I_1 eI_1 => ?_)
  replace h := h I_1 eI_1
  refine kf_aload_n hx dX11_take_7 rfl 0 rfl ?_
  refine kf_getR (n := 94) hx sl_72_42 fl_RX11_87 dX11_take_8 ?_
  refine kf_iload_n hx dX11_take_11 rfl 1 rfl ?_
  refine kf_iload_n hx dX11_take_12 rfl 3 rfl ?_
  refine kf_iast hx ar_94 h.1 dX11_take_13 ?_
  replace h := h.2
  refine kf_nmI (fun I_2 eI_2 => ?_)
  replace h := h I_2 eI_2
  refine kf_iconst (v := 0) hx dX11_take_14 (by decide) ?_
  refine kf_istore (lv' := [(4, .int 0), (0, .ref (g.2.2.2 72)), (1, .int x1), (2, .int x2), (3, .int x3)]) hx dX11_take_15 (by decide) rfl ?_
  obtain ⟨n, h⟩ := h
  refine kf_sub [1, 2, 3, 0] rfl ?_
  refine wl_X11_take_17 g hg hx J x1 x2 _ hret _ (fun I_4 h => ?_) n _ _ h
  exact hret _ _ _ dX11_take_59 h
set_option maxHeartbeats 4000000 in
set_option maxRecDepth 20000 in
theorem m_X11_take (g : kf_G) (hg : kf_g g) (x1 : Int32) (x2 : Int32) (x3 : Int32) (I : HI) (J : HJ) (Post : HI → Prop) (h : w_X11_take x1 x2 x3 I J Post) : kf_Mv g yX11_take (kf_W yX11_take cX11_take 5 (Option.none : Option Jvm.ClassFile.FieldType)) 0 0 [.ref (g.2.2.2 72), .int x1, .int x2, .int x3] I J (fun I' J' => Post I' ∧ J' = J) :=
  kf_entv hg (by decide) (Nat.le_of_ble_eq_true rfl) rfl (fun x hx hr => we_X11_take g hg hx x1 x2 x3 I J Post (fun pc lv I' hd hP => hr pc lv I' J hd ⟨hP, rfl⟩) h)
theorem dX11_decide_0 : decode cX11_decide 0 = .ok (.aload_n 0, 1) := by decide +kernel
theorem dX11_decide_1 : decode cX11_decide 1 = .ok (.iload_n 1, 1) := by decide +kernel
theorem dX11_decide_2 : decode cX11_decide 2 = .ok (.invokevirtual 308, 3) := by decide +kernel
theorem dX11_decide_5 : decode cX11_decide 5 = .ok (.ifCond .ne 27, 3) := by decide +kernel
theorem dX11_decide_8 : decode cX11_decide 8 = .ok (.aload_n 0, 1) := by decide +kernel
theorem dX11_decide_9 : decode cX11_decide 9 = .ok (.getfield 81, 3) := by decide +kernel
theorem dX11_decide_12 : decode cX11_decide 12 = .ok (.iload_n 1, 1) := by decide +kernel
theorem dX11_decide_13 : decode cX11_decide 13 = .ok (.iaload, 1) := by decide +kernel
theorem dX11_decide_14 : decode cX11_decide 14 = .ok (.sipush 1000, 3) := by decide +kernel
theorem dX11_decide_17 : decode cX11_decide 17 = .ok (.if_icmp .lt 15, 3) := by decide +kernel
theorem dX11_decide_20 : decode cX11_decide 20 = .ok (.aload_n 0, 1) := by decide +kernel
theorem dX11_decide_21 : decode cX11_decide 21 = .ok (.getfield 84, 3) := by decide +kernel
theorem dX11_decide_24 : decode cX11_decide 24 = .ok (.iload_n 1, 1) := by decide +kernel
theorem dX11_decide_25 : decode cX11_decide 25 = .ok (.iaload, 1) := by decide +kernel
theorem dX11_decide_26 : decode cX11_decide 26 = .ok (.sipush 1000, 3) := by decide +kernel
theorem dX11_decide_29 : decode cX11_decide 29 = .ok (.if_icmp .ge 4, 3) := by decide +kernel
theorem dX11_decide_32 : decode cX11_decide 32 = .ok (.return_, 1) := by decide +kernel
theorem dX11_decide_33 : decode cX11_decide 33 = .ok (.iconst 0, 1) := by decide +kernel
theorem dX11_decide_34 : decode cX11_decide 34 = .ok (.istore 4, 2) := by decide +kernel
theorem dX11_decide_36 : decode cX11_decide 36 = .ok (.iconst 0, 1) := by decide +kernel
theorem dX11_decide_37 : decode cX11_decide 37 = .ok (.istore 5, 2) := by decide +kernel
theorem dX11_decide_39 : decode cX11_decide 39 = .ok (.iconst 0, 1) := by decide +kernel
theorem dX11_decide_40 : decode cX11_decide 40 = .ok (.istore 6, 2) := by decide +kernel
theorem dX11_decide_42 : decode cX11_decide 42 = .ok (.iload 6, 2) := by decide +kernel
theorem dX11_decide_44 : decode cX11_decide 44 = .ok (.aload_n 0, 1) := by decide +kernel
theorem dX11_decide_45 : decode cX11_decide 45 = .ok (.getfield 290, 3) := by decide +kernel
theorem dX11_decide_48 : decode cX11_decide 48 = .ok (.if_icmp .ge 71, 3) := by decide +kernel
theorem dX11_decide_51 : decode cX11_decide 51 = .ok (.aload_n 0, 1) := by decide +kernel
theorem dX11_decide_52 : decode cX11_decide 52 = .ok (.getfield 44, 3) := by decide +kernel
theorem dX11_decide_55 : decode cX11_decide 55 = .ok (.iload 6, 2) := by decide +kernel
theorem dX11_decide_57 : decode cX11_decide 57 = .ok (.iaload, 1) := by decide +kernel
theorem dX11_decide_58 : decode cX11_decide 58 = .ok (.iload_n 1, 1) := by decide +kernel
theorem dX11_decide_59 : decode cX11_decide 59 = .ok (.if_icmp .ne 54, 3) := by decide +kernel
theorem dX11_decide_62 : decode cX11_decide 62 = .ok (.iload_n 3, 1) := by decide +kernel
theorem dX11_decide_63 : decode cX11_decide 63 = .ok (.iload 6, 2) := by decide +kernel
theorem dX11_decide_65 : decode cX11_decide 65 = .ok (.ishr, 1) := by decide +kernel
theorem dX11_decide_66 : decode cX11_decide 66 = .ok (.iconst 1, 1) := by decide +kernel
theorem dX11_decide_67 : decode cX11_decide 67 = .ok (.iand, 1) := by decide +kernel
theorem dX11_decide_68 : decode cX11_decide 68 = .ok (.ifCond .eq 45, 3) := by decide +kernel
theorem dX11_decide_71 : decode cX11_decide 71 = .ok (.aload_n 0, 1) := by decide +kernel
theorem dX11_decide_72 : decode cX11_decide 72 = .ok (.getfield 90, 3) := by decide +kernel
theorem dX11_decide_75 : decode cX11_decide 75 = .ok (.iload 6, 2) := by decide +kernel
theorem dX11_decide_77 : decode cX11_decide 77 = .ok (.iaload, 1) := by decide +kernel
theorem dX11_decide_78 : decode cX11_decide 78 = .ok (.iload_n 2, 1) := by decide +kernel
theorem dX11_decide_79 : decode cX11_decide 79 = .ok (.if_icmp .le 6, 3) := by decide +kernel
theorem dX11_decide_82 : decode cX11_decide 82 = .ok (.goto 31, 3) := by decide +kernel
theorem dX11_decide_85 : decode cX11_decide 85 = .ok (.iinc 4 1, 3) := by decide +kernel
theorem dX11_decide_88 : decode cX11_decide 88 = .ok (.iload 5, 2) := by decide +kernel
theorem dX11_decide_90 : decode cX11_decide 90 = .ok (.aload_n 0, 1) := by decide +kernel
theorem dX11_decide_91 : decode cX11_decide 91 = .ok (.getfield 87, 3) := by decide +kernel
theorem dX11_decide_94 : decode cX11_decide 94 = .ok (.aload_n 0, 1) := by decide +kernel
theorem dX11_decide_95 : decode cX11_decide 95 = .ok (.getfield 41, 3) := by decide +kernel
theorem dX11_decide_98 : decode cX11_decide 98 = .ok (.iload 6, 2) := by decide +kernel
theorem dX11_decide_100 : decode cX11_decide 100 = .ok (.iaload, 1) := by decide +kernel
theorem dX11_decide_101 : decode cX11_decide 101 = .ok (.iaload, 1) := by decide +kernel
theorem dX11_decide_102 : decode cX11_decide 102 = .ok (.ifCond .ne 7, 3) := by decide +kernel
theorem dX11_decide_105 : decode cX11_decide 105 = .ok (.iconst 1, 1) := by decide +kernel
theorem dX11_decide_106 : decode cX11_decide 106 = .ok (.goto 4, 3) := by decide +kernel
theorem dX11_decide_109 : decode cX11_decide 109 = .ok (.iconst (-1), 1) := by decide +kernel
theorem dX11_decide_110 : decode cX11_decide 110 = .ok (.iadd, 1) := by decide +kernel
theorem dX11_decide_111 : decode cX11_decide 111 = .ok (.istore 5, 2) := by decide +kernel
theorem dX11_decide_113 : decode cX11_decide 113 = .ok (.iinc 6 1, 3) := by decide +kernel
theorem dX11_decide_116 : decode cX11_decide 116 = .ok (.goto (-74), 3) := by decide +kernel
theorem dX11_decide_119 : decode cX11_decide 119 = .ok (.iload 4, 2) := by decide +kernel
theorem dX11_decide_121 : decode cX11_decide 121 = .ok (.aload_n 0, 1) := by decide +kernel
theorem dX11_decide_122 : decode cX11_decide 122 = .ok (.iload_n 1, 1) := by decide +kernel
theorem dX11_decide_123 : decode cX11_decide 123 = .ok (.invokevirtual 311, 3) := by decide +kernel
theorem dX11_decide_126 : decode cX11_decide 126 = .ok (.if_icmp .ge 4, 3) := by decide +kernel
theorem dX11_decide_129 : decode cX11_decide 129 = .ok (.return_, 1) := by decide +kernel
theorem dX11_decide_130 : decode cX11_decide 130 = .ok (.aload_n 0, 1) := by decide +kernel
theorem dX11_decide_131 : decode cX11_decide 131 = .ok (.getfield 84, 3) := by decide +kernel
theorem dX11_decide_134 : decode cX11_decide 134 = .ok (.iload_n 1, 1) := by decide +kernel
theorem dX11_decide_135 : decode cX11_decide 135 = .ok (.iload_n 2, 1) := by decide +kernel
theorem dX11_decide_136 : decode cX11_decide 136 = .ok (.iastore, 1) := by decide +kernel
theorem dX11_decide_137 : decode cX11_decide 137 = .ok (.aload_n 0, 1) := by decide +kernel
theorem dX11_decide_138 : decode cX11_decide 138 = .ok (.getfield 87, 3) := by decide +kernel
theorem dX11_decide_141 : decode cX11_decide 141 = .ok (.iload_n 1, 1) := by decide +kernel
theorem dX11_decide_142 : decode cX11_decide 142 = .ok (.iload 5, 2) := by decide +kernel
theorem dX11_decide_144 : decode cX11_decide 144 = .ok (.ifCond .lt 7, 3) := by decide +kernel
theorem dX11_decide_147 : decode cX11_decide 147 = .ok (.iconst 0, 1) := by decide +kernel
theorem dX11_decide_148 : decode cX11_decide 148 = .ok (.goto 4, 3) := by decide +kernel
theorem dX11_decide_151 : decode cX11_decide 151 = .ok (.iconst 1, 1) := by decide +kernel
theorem dX11_decide_152 : decode cX11_decide 152 = .ok (.iastore, 1) := by decide +kernel
theorem dX11_decide_153 : decode cX11_decide 153 = .ok (.aload_n 0, 1) := by decide +kernel
theorem dX11_decide_154 : decode cX11_decide 154 = .ok (.iload_n 1, 1) := by decide +kernel
theorem dX11_decide_155 : decode cX11_decide 155 = .ok (.invokevirtual 373, 3) := by decide +kernel
theorem dX11_decide_158 : decode cX11_decide 158 = .ok (.ifCond .ne 15, 3) := by decide +kernel
theorem dX11_decide_161 : decode cX11_decide 161 = .ok (.aload_n 0, 1) := by decide +kernel
theorem dX11_decide_162 : decode cX11_decide 162 = .ok (.iload_n 1, 1) := by decide +kernel
theorem dX11_decide_163 : decode cX11_decide 163 = .ok (.iload_n 2, 1) := by decide +kernel
theorem dX11_decide_164 : decode cX11_decide 164 = .ok (.aload_n 0, 1) := by decide +kernel
theorem dX11_decide_165 : decode cX11_decide 165 = .ok (.getfield 87, 3) := by decide +kernel
theorem dX11_decide_168 : decode cX11_decide 168 = .ok (.iload_n 1, 1) := by decide +kernel
theorem dX11_decide_169 : decode cX11_decide 169 = .ok (.iaload, 1) := by decide +kernel
theorem dX11_decide_170 : decode cX11_decide 170 = .ok (.invokevirtual 369, 3) := by decide +kernel
theorem dX11_decide_173 : decode cX11_decide 173 = .ok (.return_, 1) := by decide +kernel
def wb_X11_decide_42 (I : HI) (J : HJ) (x1 : Int32) (x2 : Int32) (x3 : Int32) (Post : HI → Prop) (E42 : Int32 → Int32 → Prop) (K42 : (Int32 × Int32 × Int32) → Prop) (s : Int32 × Int32 × Int32) : Prop :=
  match s with
  | (x4, x5, x6) => ((I 72 21) ≤ x6 → (E42 x4 x5)) ∧ (¬ (I 72 21) ≤ x6 → (vp_in x6 10 ∧ ((¬ (I 80 (Int32.toNatClampNeg x6)) = x1 → (K42 (x4, x5, (x6 + 1)))) ∧ ((I 80 (Int32.toNatClampNeg x6)) = x1 → ((((x3 >>> (x6 &&& 31)) &&& 1) = 0 → (K42 (x4, x5, (x6 + 1)))) ∧ (¬ ((x3 >>> (x6 &&& 31)) &&& 1) = 0 → (vp_in x6 10 ∧ (((I 95 (Int32.toNatClampNeg x6)) ≤ x2 → (vp_in x6 10 ∧ (vp_in (I 79 (Int32.toNatClampNeg x6)) 12 ∧ ((¬ (I 94 (Int32.toNatClampNeg (I 79 (Int32.toNatClampNeg x6)))) = 0 → (K42 ((x4 + 1), (x5 + (-1)), (x6 + 1)))) ∧ ((I 94 (Int32.toNatClampNeg (I 79 (Int32.toNatClampNeg x6)))) = 0 → (K42 ((x4 + 1), (x5 + 1), (x6 + 1)))))))) ∧ (¬ (I 95 (Int32.toNatClampNeg x6)) ≤ x2 → (K42 (x4, x5, (x6 + 1))))))))))))
set_option maxHeartbeats 4000000 in
set_option maxRecDepth 20000 in
theorem ws_X11_decide_42 (g : kf_G) (hg : kf_g g) {x : kf_X} (hx : kf_ok g x RX11 cX11_decide 7 1 24) (I : HI) (J : HJ) (x1 : Int32) (x2 : Int32) (x3 : Int32) (Post : HI → Prop) (hret : ∀ (pc : Nat) (lv : List (Nat × Value)) (Iy : HI), decode cX11_decide pc = .ok (.return_, 1) → Post Iy → kf_M g x 7 pc lv [] Iy J) (E42 : Int32 → Int32 → Prop) (hE42 : ∀ (y4 : Int32) (y5 : Int32), E42 y4 y5 → kf_M g x 7 119 [(0, .ref (g.2.2.2 72)), (1, .int x1), (2, .int x2), (4, .int y4), (5, .int y5)] [] I J) (K42 : (Int32 × Int32 × Int32) → Prop) (hK42 : ∀ (y4 : Int32) (y5 : Int32) (y6 : Int32), K42 (y4, y5, y6) → kf_M g x 7 42 [(0, .ref (g.2.2.2 72)), (1, .int x1), (2, .int x2), (3, .int x3), (4, .int y4), (5, .int y5), (6, .int y6)] [] I J) (x4 : Int32) (x5 : Int32) (x6 : Int32) (h : wb_X11_decide_42 I J x1 x2 x3 Post E42 K42 (x4, x5, x6)) : kf_M g x 7 42 [(0, .ref (g.2.2.2 72)), (1, .int x1), (2, .int x2), (3, .int x3), (4, .int x4), (5, .int x5), (6, .int x6)] [] I J := by
  unfold wb_X11_decide_42 at h
  refine kf_iload hx dX11_decide_42 6 rfl ?_
  refine kf_aload_n hx dX11_decide_44 rfl 0 rfl ?_
  refine kf_getI hx sl_72_21 fl_RX11_290 dX11_decide_45 ?_
  refine kf_icmp_ge hx 119 dX11_decide_48 (by decide) (fun c => ?_) (fun c => ?_)
  · replace h := h.1 c
    refine kf_sub [0, 1, 2, 4, 5] rfl ?_
    exact hE42 _ _ h
  · replace h := h.2 c
    refine kf_aload_n hx dX11_decide_51 rfl 0 rfl ?_
    refine kf_getR (n := 80) hx sl_72_27 fl_RX11_44 dX11_decide_52 ?_
    refine kf_iload hx dX11_decide_55 6 rfl ?_
    refine kf_iald hx ar_80 h.1 dX11_decide_57 ?_
    replace h := h.2
    refine kf_iload_n hx dX11_decide_58 rfl 1 rfl ?_
    refine kf_icmp_ne hx 113 dX11_decide_59 (by decide) (fun c => ?_) (fun c => ?_)
    · replace h := h.1 c
      refine kf_iinc (w := (x6 + 1)) (lv' := [(6, .int (x6 + 1)), (0, .ref (g.2.2.2 72)), (1, .int x1), (2, .int x2), (3, .int x3), (4, .int x4), (5, .int x5)]) hx dX11_decide_113 6 rfl rfl (by decide) rfl ?_
      refine kf_goto hx 42 dX11_decide_116 (by decide) ?_
      refine kf_sub [1, 2, 3, 4, 5, 6, 0] rfl ?_
      exact hK42 _ _ _ h
    · replace h := h.2 c
      refine kf_iload_n hx dX11_decide_62 rfl 3 rfl ?_
      refine kf_iload hx dX11_decide_63 6 rfl ?_
      refine kf_ishr hx dX11_decide_65 ?_
      refine kf_iconst (v := 1) hx dX11_decide_66 (by decide) ?_
      refine kf_iand hx dX11_decide_67 ?_
      refine kf_if_eq hx 113 dX11_decide_68 (by decide) (fun c => ?_) (fun c => ?_)
      · replace h := h.1 c
        refine kf_iinc (w := (x6 + 1)) (lv' := [(6, .int (x6 + 1)), (0, .ref (g.2.2.2 72)), (1, .int x1), (2, .int x2), (3, .int x3), (4, .int x4), (5, .int x5)]) hx dX11_decide_113 6 rfl rfl (by decide) rfl ?_
        refine kf_goto hx 42 dX11_decide_116 (by decide) ?_
        refine kf_sub [1, 2, 3, 4, 5, 6, 0] rfl ?_
        exact hK42 _ _ _ h
      · replace h := h.2 c
        refine kf_aload_n hx dX11_decide_71 rfl 0 rfl ?_
        refine kf_getR (n := 95) hx sl_72_43 fl_RX11_90 dX11_decide_72 ?_
        refine kf_iload hx dX11_decide_75 6 rfl ?_
        refine kf_iald hx ar_95 h.1 dX11_decide_77 ?_
        replace h := h.2
        refine kf_iload_n hx dX11_decide_78 rfl 2 rfl ?_
        refine kf_icmp_le hx 85 dX11_decide_79 (by decide) (fun c => ?_) (fun c => ?_)
        · replace h := h.1 c
          refine kf_iinc (w := (x4 + 1)) (lv' := [(4, .int (x4 + 1)), (0, .ref (g.2.2.2 72)), (1, .int x1), (2, .int x2), (3, .int x3), (5, .int x5), (6, .int x6)]) hx dX11_decide_85 4 rfl rfl (by decide) rfl ?_
          refine kf_iload hx dX11_decide_88 5 rfl ?_
          refine kf_aload_n hx dX11_decide_90 rfl 1 rfl ?_
          refine kf_getR (n := 94) hx sl_72_42 fl_RX11_87 dX11_decide_91 ?_
          refine kf_aload_n hx dX11_decide_94 rfl 1 rfl ?_
          refine kf_getR (n := 79) hx sl_72_26 fl_RX11_41 dX11_decide_95 ?_
          refine kf_iload hx dX11_decide_98 6 rfl ?_
          refine kf_iald hx ar_79 h.1 dX11_decide_100 ?_
          replace h := h.2
          refine kf_iald hx ar_94 h.1 dX11_decide_101 ?_
          replace h := h.2
          refine kf_if_ne hx 109 dX11_decide_102 (by decide) (fun c => ?_) (fun c => ?_)
          · replace h := h.1 c
            refine kf_iconst (v := (-1)) hx dX11_decide_109 (by decide) ?_
            refine kf_iadd hx dX11_decide_110 ?_
            refine kf_istore (lv' := [(5, .int (x5 + (-1))), (4, .int (x4 + 1)), (0, .ref (g.2.2.2 72)), (1, .int x1), (2, .int x2), (3, .int x3), (6, .int x6)]) hx dX11_decide_111 (by decide) rfl ?_
            refine kf_iinc (w := (x6 + 1)) (lv' := [(6, .int (x6 + 1)), (5, .int (x5 + (-1))), (4, .int (x4 + 1)), (0, .ref (g.2.2.2 72)), (1, .int x1), (2, .int x2), (3, .int x3)]) hx dX11_decide_113 6 rfl rfl (by decide) rfl ?_
            refine kf_goto hx 42 dX11_decide_116 (by decide) ?_
            refine kf_sub [3, 4, 5, 6, 2, 1, 0] rfl ?_
            exact hK42 _ _ _ h
          · replace h := h.2 c
            refine kf_iconst (v := 1) hx dX11_decide_105 (by decide) ?_
            refine kf_goto hx 110 dX11_decide_106 (by decide) ?_
            refine kf_iadd hx dX11_decide_110 ?_
            refine kf_istore (lv' := [(5, .int (x5 + 1)), (4, .int (x4 + 1)), (0, .ref (g.2.2.2 72)), (1, .int x1), (2, .int x2), (3, .int x3), (6, .int x6)]) hx dX11_decide_111 (by decide) rfl ?_
            refine kf_iinc (w := (x6 + 1)) (lv' := [(6, .int (x6 + 1)), (5, .int (x5 + 1)), (4, .int (x4 + 1)), (0, .ref (g.2.2.2 72)), (1, .int x1), (2, .int x2), (3, .int x3)]) hx dX11_decide_113 6 rfl rfl (by decide) rfl ?_
            refine kf_goto hx 42 dX11_decide_116 (by decide) ?_
            refine kf_sub [3, 4, 5, 6, 2, 1, 0] rfl ?_
            exact hK42 _ _ _ h
        · replace h := h.2 c
          refine kf_goto hx 113 dX11_decide_82 (by decide) ?_
          refine kf_iinc (w := (x6 + 1)) (lv' := [(6, .int (x6 + 1)), (0, .ref (g.2.2.2 72)), (1, .int x1), (2, .int x2), (3, .int x3), (4, .int x4), (5, .int x5)]) hx dX11_decide_113 6 rfl rfl (by decide) rfl ?_
          refine kf_goto hx 42 dX11_decide_116 (by decide) ?_
          refine kf_sub [1, 2, 3, 4, 5, 6, 0] rfl ?_
          exact hK42 _ _ _ h
theorem wl_X11_decide_42 (g : kf_G) (hg : kf_g g) {x : kf_X} (hx : kf_ok g x RX11 cX11_decide 7 1 24) (I : HI) (J : HJ) (x1 : Int32) (x2 : Int32) (x3 : Int32) (Post : HI → Prop) (hret : ∀ (pc : Nat) (lv : List (Nat × Value)) (Iy : HI), decode cX11_decide pc = .ok (.return_, 1) → Post Iy → kf_M g x 7 pc lv [] Iy J) (E42 : Int32 → Int32 → Prop) (hE42 : ∀ (y4 : Int32) (y5 : Int32), E42 y4 y5 → kf_M g x 7 119 [(0, .ref (g.2.2.2 72)), (1, .int x1), (2, .int x2), (4, .int y4), (5, .int y5)] [] I J) : ∀ (n : Nat) (x4 : Int32) (x5 : Int32) (x6 : Int32), lp (wb_X11_decide_42 I J x1 x2 x3 Post E42) n (x4, x5, x6) → kf_M g x 7 42 [(0, .ref (g.2.2.2 72)), (1, .int x1), (2, .int x2), (3, .int x3), (4, .int x4), (5, .int x5), (6, .int x6)] [] I J := by
  intro n
  induction n with
  | zero => intro x4 x5 x6 h; exact h.elim
  | succ n ih => intro x4 x5 x6 h; exact ws_X11_decide_42 g hg hx I J x1 x2 x3 Post hret E42 hE42 (lp (wb_X11_decide_42 I J x1 x2 x3 Post E42) n) ih x4 x5 x6 h
def wj_X11_decide_152 (I : HI) (J : HJ) (x1 : Int32) (x2 : Int32) (t0 : Int32) (t1 : Int32) (Post : HI → Prop) : Prop :=
  vp_in t1 12 ∧ (∀ I_6 : HI, I_6 = hI I 94 (Int32.toNatClampNeg t1) t0 → (w_X11_late x1 I_6 J (fun (r_7 : Int32) => ((¬ r_7 = 0 → (Post I_6)) ∧ (r_7 = 0 → (vp_in x1 12 ∧ (w_X11_take x1 x2 (I_6 94 (Int32.toNatClampNeg x1)) I_6 J (fun (I_8 : HI) => (Post I_8)))))))))
set_option maxHeartbeats 4000000 in
set_option maxRecDepth 20000 in
theorem wk_X11_decide_152 (g : kf_G) (hg : kf_g g) {x : kf_X} (hx : kf_ok g x RX11 cX11_decide 7 1 24) (I : HI) (J : HJ) (x1 : Int32) (x2 : Int32) (t0 : Int32) (t1 : Int32) (Post : HI → Prop) (hret : ∀ (pc : Nat) (lv : List (Nat × Value)) (Iy : HI), decode cX11_decide pc = .ok (.return_, 1) → Post Iy → kf_M g x 7 pc lv [] Iy J) (h : wj_X11_decide_152 I J x1 x2 t0 t1 Post) : kf_M g x 7 152 [(0, .ref (g.2.2.2 72)), (1, .int x1), (2, .int x2)] [.int t0, .int t1, .ref (g.2.2.2 94)] I J := by
  unfold wj_X11_decide_152 at h
  refine kf_iast hx ar_94 h.1 dX11_decide_152 ?_
  replace h := h.2
  refine kf_nmI (fun I_6 eI_6 => ?_)
  replace h := h I_6 eI_6
  refine kf_aload_n hx dX11_decide_153 rfl 0 rfl ?_
  refine kf_iload_n hx dX11_decide_154 rfl 1 rfl ?_
  refine kf_callViP (st := []) hx (m_X11_late g hg x1 I_6 J _ h) lk_RX11_373 km_X11_late ob_72 rfl (by decide) rfl (Nat.le_of_ble_eq_true rfl) dX11_decide_155 (fun r_7 h => ?_)
  refine kf_if_ne hx 173 dX11_decide_158 (by decide) (fun c => ?_) (fun c => ?_)
  · replace h := h.1 c
    exact hret _ _ _ dX11_decide_173 h
  · replace h := h.2 c
    refine kf_aload_n hx dX11_decide_161 rfl 0 rfl ?_
    refine kf_iload_n hx dX11_decide_162 rfl 1 rfl ?_
    refine kf_iload_n hx dX11_decide_163 rfl 2 rfl ?_
    refine kf_aload_n hx dX11_decide_164 rfl 0 rfl ?_
    refine kf_getR (n := 94) hx sl_72_42 fl_RX11_87 dX11_decide_165 ?_
    refine kf_iload_n hx dX11_decide_168 rfl 1 rfl ?_
    refine kf_iald hx ar_94 h.1 dX11_decide_169 ?_
    replace h := h.2
    refine kf_callVvI (st := []) hx (m_X11_take g hg x1 x2 (I_6 94 (Int32.toNatClampNeg x1)) I_6 J _ h) lk_RX11_369 km_X11_take ob_72 rfl (by decide) rfl (Nat.le_of_ble_eq_true rfl) dX11_decide_170 (fun I_8 h => ?_)
    exact hret _ _ _ dX11_decide_173 h
def w_X11_decide (x1 : Int32) (x2 : Int32) (x3 : Int32) (I : HI) (J : HJ) (Post : HI → Prop) : Prop :=
  w_X11_isStubborn x1 I J (fun (r_1 : Bool) => ((r_1 = true → (Post I)) ∧ (r_1 = false → (vp_in x1 12 ∧ (((I 92 (Int32.toNatClampNeg x1)) < 1000 → (Post I)) ∧ (¬ (I 92 (Int32.toNatClampNeg x1)) < 1000 → (vp_in x1 12 ∧ ((1000 ≤ (I 93 (Int32.toNatClampNeg x1)) → (∃ n, lp (wb_X11_decide_42 I J x1 x2 x3 Post (fun (x4_2 : Int32) (x5_3 : Int32) => w_X11_needs x1 I J (fun (r_4 : Int32) => ((r_4 ≤ x4_2 → (vp_in x1 12 ∧ (∀ I_5 : HI, I_5 = hI I 93 (Int32.toNatClampNeg x1) x2 → ((x5_3 < 0 → (wj_X11_decide_152 I_5 J x1 x2 1 x1 Post)) ∧ (¬ x5_3 < 0 → (wj_X11_decide_152 I_5 J x1 x2 0 x1 Post)))))) ∧ (¬ r_4 ≤ x4_2 → (Post I)))))) n (0, 0, 0))) ∧ (¬ 1000 ≤ (I 93 (Int32.toNatClampNeg x1)) → (Post I))))))))))
set_option maxHeartbeats 4000000 in
set_option maxRecDepth 20000 in
theorem we_X11_decide (g : kf_G) (hg : kf_g g) {x : kf_X} (hx : kf_ok g x RX11 cX11_decide 7 1 24) (x1 : Int32) (x2 : Int32) (x3 : Int32) (I : HI) (J : HJ) (Post : HI → Prop) (hret : ∀ (pc : Nat) (lv : List (Nat × Value)) (Iy : HI), decode cX11_decide pc = .ok (.return_, 1) → Post Iy → kf_M g x 7 pc lv [] Iy J) (h : w_X11_decide x1 x2 x3 I J Post) : kf_M g x 7 0 [(0, .ref (g.2.2.2 72)), (1, .int x1), (2, .int x2), (3, .int x3)] [] I J := by
  unfold w_X11_decide at h
  refine kf_aload_n hx dX11_decide_0 rfl 0 rfl ?_
  refine kf_iload_n hx dX11_decide_1 rfl 1 rfl ?_
  refine kf_callVbP (st := []) hx (m_X11_isStubborn g hg x1 I J _ h) lk_RX11_308 km_X11_isStubborn ob_72 rfl (by decide) rfl (Nat.le_of_ble_eq_true rfl) dX11_decide_2 (fun r_1 h => ?_)
  refine kf_ifB_ne hx 32 dX11_decide_5 (by decide) (fun c => ?_) (fun c => ?_)
  · replace h := h.1 c
    exact hret _ _ _ dX11_decide_32 h
  · replace h := h.2 c
    refine kf_aload_n hx dX11_decide_8 rfl 0 rfl ?_
    refine kf_getR (n := 92) hx sl_72_40 fl_RX11_81 dX11_decide_9 ?_
    refine kf_iload_n hx dX11_decide_12 rfl 1 rfl ?_
    refine kf_iald hx ar_92 h.1 dX11_decide_13 ?_
    replace h := h.2
    refine kf_sipush (v := 1000) hx dX11_decide_14 (by decide) ?_
    refine kf_icmp_lt hx 32 dX11_decide_17 (by decide) (fun c => ?_) (fun c => ?_)
    · replace h := h.1 c
      exact hret _ _ _ dX11_decide_32 h
    · replace h := h.2 c
      refine kf_aload_n hx dX11_decide_20 rfl 0 rfl ?_
      refine kf_getR (n := 93) hx sl_72_41 fl_RX11_84 dX11_decide_21 ?_
      refine kf_iload_n hx dX11_decide_24 rfl 1 rfl ?_
      refine kf_iald hx ar_93 h.1 dX11_decide_25 ?_
      replace h := h.2
      refine kf_sipush (v := 1000) hx dX11_decide_26 (by decide) ?_
      refine kf_icmp_ge hx 33 dX11_decide_29 (by decide) (fun c => ?_) (fun c => ?_)
      · replace h := h.1 c
        refine kf_iconst (v := 0) hx dX11_decide_33 (by decide) ?_
        refine kf_istore (lv' := [(4, .int 0), (0, .ref (g.2.2.2 72)), (1, .int x1), (2, .int x2), (3, .int x3)]) hx dX11_decide_34 (by decide) rfl ?_
        refine kf_iconst (v := 0) hx dX11_decide_36 (by decide) ?_
        refine kf_istore (lv' := [(5, .int 0), (4, .int 0), (0, .ref (g.2.2.2 72)), (1, .int x1), (2, .int x2), (3, .int x3)]) hx dX11_decide_37 (by decide) rfl ?_
        refine kf_iconst (v := 0) hx dX11_decide_39 (by decide) ?_
        refine kf_istore (lv' := [(6, .int 0), (5, .int 0), (4, .int 0), (0, .ref (g.2.2.2 72)), (1, .int x1), (2, .int x2), (3, .int x3)]) hx dX11_decide_40 (by decide) rfl ?_
        obtain ⟨n, h⟩ := h
        refine kf_sub [3, 4, 5, 6, 2, 1, 0] rfl ?_
        refine wl_X11_decide_42 g hg hx I J x1 x2 x3 _ hret _ (fun x4_2 x5_3 h => ?_) n _ _ _ h
        refine kf_iload hx dX11_decide_119 3 rfl ?_
        refine kf_aload_n hx dX11_decide_121 rfl 0 rfl ?_
        refine kf_iload_n hx dX11_decide_122 rfl 1 rfl ?_
        refine kf_callViP (st := [.int x4_2]) hx (m_X11_needs g hg x1 I J _ h) lk_RX11_311 km_X11_needs ob_72 rfl (by decide) rfl (Nat.le_of_ble_eq_true rfl) dX11_decide_123 (fun r_4 h => ?_)
        refine kf_icmp_ge hx 130 dX11_decide_126 (by decide) (fun c => ?_) (fun c => ?_)
        · replace h := h.1 c
          refine kf_aload_n hx dX11_decide_130 rfl 0 rfl ?_
          refine kf_getR (n := 93) hx sl_72_41 fl_RX11_84 dX11_decide_131 ?_
          refine kf_iload_n hx dX11_decide_134 rfl 1 rfl ?_
          refine kf_iload_n hx dX11_decide_135 rfl 2 rfl ?_
          refine kf_iast hx ar_93 h.1 dX11_decide_136 ?_
          replace h := h.2
          refine kf_nmI (fun I_5 eI_5 => ?_)
          replace h := h I_5 eI_5
          refine kf_aload_n hx dX11_decide_137 rfl 0 rfl ?_
          refine kf_getR (n := 94) hx sl_72_42 fl_RX11_87 dX11_decide_138 ?_
          refine kf_iload_n hx dX11_decide_141 rfl 1 rfl ?_
          refine kf_iload hx dX11_decide_142 4 rfl ?_
          refine kf_if_lt hx 151 dX11_decide_144 (by decide) (fun c => ?_) (fun c => ?_)
          · replace h := h.1 c
            refine kf_iconst (v := 1) hx dX11_decide_151 (by decide) ?_
            refine kf_sub [0, 1, 2] rfl ?_
            exact wk_X11_decide_152 g hg hx I_5 J x1 x2 1 x1 _ hret h
          · replace h := h.2 c
            refine kf_iconst (v := 0) hx dX11_decide_147 (by decide) ?_
            refine kf_goto hx 152 dX11_decide_148 (by decide) ?_
            refine kf_sub [0, 1, 2] rfl ?_
            exact wk_X11_decide_152 g hg hx I_5 J x1 x2 0 x1 _ hret h
        · replace h := h.2 c
          exact hret _ _ _ dX11_decide_129 h
      · replace h := h.2 c
        exact hret _ _ _ dX11_decide_32 h
set_option maxHeartbeats 4000000 in
set_option maxRecDepth 20000 in
theorem m_X11_decide (g : kf_G) (hg : kf_g g) (x1 : Int32) (x2 : Int32) (x3 : Int32) (I : HI) (J : HJ) (Post : HI → Prop) (h : w_X11_decide x1 x2 x3 I J Post) : kf_Mv g yX11_decide (kf_W yX11_decide cX11_decide 7 (Option.none : Option Jvm.ClassFile.FieldType)) 1 24 [.ref (g.2.2.2 72), .int x1, .int x2, .int x3] I J (fun I' J' => Post I' ∧ J' = J) :=
  kf_entv hg (by decide) (Nat.le_of_ble_eq_true rfl) rfl (fun x hx hr => we_X11_decide g hg hx x1 x2 x3 I J Post (fun pc lv I' hd hP => hr pc lv I' J hd ⟨hP, rfl⟩) h)
theorem dX11_live_0 : decode cX11_live 0 = .ok (.iconst 0, 1) := by decide +kernel
theorem dX11_live_1 : decode cX11_live 1 = .ok (.istore 5, 2) := by decide +kernel
theorem dX11_live_3 : decode cX11_live 3 = .ok (.iload 5, 2) := by decide +kernel
theorem dX11_live_5 : decode cX11_live 5 = .ok (.aload_n 0, 1) := by decide +kernel
theorem dX11_live_6 : decode cX11_live 6 = .ok (.getfield 287, 3) := by decide +kernel
theorem dX11_live_9 : decode cX11_live 9 = .ok (.if_icmp .ge 37, 3) := by decide +kernel
theorem dX11_live_12 : decode cX11_live 12 = .ok (.aload_n 0, 1) := by decide +kernel
theorem dX11_live_13 : decode cX11_live 13 = .ok (.getfield 81, 3) := by decide +kernel
theorem dX11_live_16 : decode cX11_live 16 = .ok (.iload 5, 2) := by decide +kernel
theorem dX11_live_18 : decode cX11_live 18 = .ok (.sipush 1000, 3) := by decide +kernel
theorem dX11_live_21 : decode cX11_live 21 = .ok (.iastore, 1) := by decide +kernel
theorem dX11_live_22 : decode cX11_live 22 = .ok (.aload_n 0, 1) := by decide +kernel
theorem dX11_live_23 : decode cX11_live 23 = .ok (.getfield 84, 3) := by decide +kernel
theorem dX11_live_26 : decode cX11_live 26 = .ok (.iload 5, 2) := by decide +kernel
theorem dX11_live_28 : decode cX11_live 28 = .ok (.sipush 1000, 3) := by decide +kernel
theorem dX11_live_31 : decode cX11_live 31 = .ok (.iastore, 1) := by decide +kernel
theorem dX11_live_32 : decode cX11_live 32 = .ok (.aload_n 0, 1) := by decide +kernel
theorem dX11_live_33 : decode cX11_live 33 = .ok (.getfield 87, 3) := by decide +kernel
theorem dX11_live_36 : decode cX11_live 36 = .ok (.iload 5, 2) := by decide +kernel
theorem dX11_live_38 : decode cX11_live 38 = .ok (.iconst 2, 1) := by decide +kernel
theorem dX11_live_39 : decode cX11_live 39 = .ok (.iastore, 1) := by decide +kernel
theorem dX11_live_40 : decode cX11_live 40 = .ok (.iinc 5 1, 3) := by decide +kernel
theorem dX11_live_43 : decode cX11_live 43 = .ok (.goto (-40), 3) := by decide +kernel
theorem dX11_live_46 : decode cX11_live 46 = .ok (.iconst 0, 1) := by decide +kernel
theorem dX11_live_47 : decode cX11_live 47 = .ok (.istore 5, 2) := by decide +kernel
theorem dX11_live_49 : decode cX11_live 49 = .ok (.iload 5, 2) := by decide +kernel
theorem dX11_live_51 : decode cX11_live 51 = .ok (.aload_n 0, 1) := by decide +kernel
theorem dX11_live_52 : decode cX11_live 52 = .ok (.getfield 290, 3) := by decide +kernel
theorem dX11_live_55 : decode cX11_live 55 = .ok (.if_icmp .ge 19, 3) := by decide +kernel
theorem dX11_live_58 : decode cX11_live 58 = .ok (.aload_n 0, 1) := by decide +kernel
theorem dX11_live_59 : decode cX11_live 59 = .ok (.getfield 90, 3) := by decide +kernel
theorem dX11_live_62 : decode cX11_live 62 = .ok (.iload 5, 2) := by decide +kernel
theorem dX11_live_64 : decode cX11_live 64 = .ok (.sipush 1000, 3) := by decide +kernel
theorem dX11_live_67 : decode cX11_live 67 = .ok (.iastore, 1) := by decide +kernel
theorem dX11_live_68 : decode cX11_live 68 = .ok (.iinc 5 1, 3) := by decide +kernel
theorem dX11_live_71 : decode cX11_live 71 = .ok (.goto (-22), 3) := by decide +kernel
theorem dX11_live_74 : decode cX11_live 74 = .ok (.iconst 0, 1) := by decide +kernel
theorem dX11_live_75 : decode cX11_live 75 = .ok (.istore 5, 2) := by decide +kernel
theorem dX11_live_77 : decode cX11_live 77 = .ok (.iload 5, 2) := by decide +kernel
theorem dX11_live_79 : decode cX11_live 79 = .ok (.sipush 150, 3) := by decide +kernel
theorem dX11_live_82 : decode cX11_live 82 = .ok (.if_icmp .ge 213, 3) := by decide +kernel
theorem dX11_live_85 : decode cX11_live 85 = .ok (.iconst 0, 1) := by decide +kernel
theorem dX11_live_86 : decode cX11_live 86 = .ok (.istore 6, 2) := by decide +kernel
theorem dX11_live_88 : decode cX11_live 88 = .ok (.iload 6, 2) := by decide +kernel
theorem dX11_live_90 : decode cX11_live 90 = .ok (.aload_n 0, 1) := by decide +kernel
theorem dX11_live_91 : decode cX11_live 91 = .ok (.getfield 287, 3) := by decide +kernel
theorem dX11_live_94 : decode cX11_live 94 = .ok (.if_icmp .ge 167, 3) := by decide +kernel
theorem dX11_live_97 : decode cX11_live 97 = .ok (.aload_n 0, 1) := by decide +kernel
theorem dX11_live_98 : decode cX11_live 98 = .ok (.getfield 81, 3) := by decide +kernel
theorem dX11_live_101 : decode cX11_live 101 = .ok (.iload 6, 2) := by decide +kernel
theorem dX11_live_103 : decode cX11_live 103 = .ok (.iaload, 1) := by decide +kernel
theorem dX11_live_104 : decode cX11_live 104 = .ok (.sipush 1000, 3) := by decide +kernel
theorem dX11_live_107 : decode cX11_live 107 = .ok (.if_icmp .ne 20, 3) := by decide +kernel
theorem dX11_live_110 : decode cX11_live 110 = .ok (.aload_n 0, 1) := by decide +kernel
theorem dX11_live_111 : decode cX11_live 111 = .ok (.getfield 84, 3) := by decide +kernel
theorem dX11_live_114 : decode cX11_live 114 = .ok (.iload 6, 2) := by decide +kernel
theorem dX11_live_116 : decode cX11_live 116 = .ok (.iaload, 1) := by decide +kernel
theorem dX11_live_117 : decode cX11_live 117 = .ok (.sipush 1000, 3) := by decide +kernel
theorem dX11_live_120 : decode cX11_live 120 = .ok (.if_icmp .ne 7, 3) := by decide +kernel
theorem dX11_live_123 : decode cX11_live 123 = .ok (.iconst 1, 1) := by decide +kernel
theorem dX11_live_124 : decode cX11_live 124 = .ok (.goto 4, 3) := by decide +kernel
theorem dX11_live_127 : decode cX11_live 127 = .ok (.iconst 0, 1) := by decide +kernel
theorem dX11_live_128 : decode cX11_live 128 = .ok (.istore 7, 2) := by decide +kernel
theorem dX11_live_130 : decode cX11_live 130 = .ok (.iload 7, 2) := by decide +kernel
theorem dX11_live_132 : decode cX11_live 132 = .ok (.ifCond .eq 30, 3) := by decide +kernel
theorem dX11_live_135 : decode cX11_live 135 = .ok (.iload 5, 2) := by decide +kernel
theorem dX11_live_137 : decode cX11_live 137 = .ok (.ifCond .ne 25, 3) := by decide +kernel
theorem dX11_live_140 : decode cX11_live 140 = .ok (.iload_n 1, 1) := by decide +kernel
theorem dX11_live_141 : decode cX11_live 141 = .ok (.iload 6, 2) := by decide +kernel
theorem dX11_live_143 : decode cX11_live 143 = .ok (.ishr, 1) := by decide +kernel
theorem dX11_live_144 : decode cX11_live 144 = .ok (.iconst 1, 1) := by decide +kernel
theorem dX11_live_145 : decode cX11_live 145 = .ok (.iand, 1) := by decide +kernel
theorem dX11_live_146 : decode cX11_live 146 = .ok (.iconst 1, 1) := by decide +kernel
theorem dX11_live_147 : decode cX11_live 147 = .ok (.if_icmp .ne 15, 3) := by decide +kernel
theorem dX11_live_150 : decode cX11_live 150 = .ok (.aload_n 0, 1) := by decide +kernel
theorem dX11_live_151 : decode cX11_live 151 = .ok (.iload 6, 2) := by decide +kernel
theorem dX11_live_153 : decode cX11_live 153 = .ok (.iload 5, 2) := by decide +kernel
theorem dX11_live_155 : decode cX11_live 155 = .ok (.iconst 0, 1) := by decide +kernel
theorem dX11_live_156 : decode cX11_live 156 = .ok (.invokevirtual 369, 3) := by decide +kernel
theorem dX11_live_159 : decode cX11_live 159 = .ok (.goto 96, 3) := by decide +kernel
theorem dX11_live_162 : decode cX11_live 162 = .ok (.iload 7, 2) := by decide +kernel
theorem dX11_live_164 : decode cX11_live 164 = .ok (.ifCond .eq 31, 3) := by decide +kernel
theorem dX11_live_167 : decode cX11_live 167 = .ok (.iload 5, 2) := by decide +kernel
theorem dX11_live_169 : decode cX11_live 169 = .ok (.iload_n 3, 1) := by decide +kernel
theorem dX11_live_170 : decode cX11_live 170 = .ok (.if_icmp .ne 25, 3) := by decide +kernel
theorem dX11_live_173 : decode cX11_live 173 = .ok (.iload_n 2, 1) := by decide +kernel
theorem dX11_live_174 : decode cX11_live 174 = .ok (.iload 6, 2) := by decide +kernel
theorem dX11_live_176 : decode cX11_live 176 = .ok (.ishr, 1) := by decide +kernel
theorem dX11_live_177 : decode cX11_live 177 = .ok (.iconst 1, 1) := by decide +kernel
theorem dX11_live_178 : decode cX11_live 178 = .ok (.iand, 1) := by decide +kernel
theorem dX11_live_179 : decode cX11_live 179 = .ok (.iconst 1, 1) := by decide +kernel
theorem dX11_live_180 : decode cX11_live 180 = .ok (.if_icmp .ne 15, 3) := by decide +kernel
theorem dX11_live_183 : decode cX11_live 183 = .ok (.aload_n 0, 1) := by decide +kernel
theorem dX11_live_184 : decode cX11_live 184 = .ok (.iload 6, 2) := by decide +kernel
theorem dX11_live_186 : decode cX11_live 186 = .ok (.iload 5, 2) := by decide +kernel
theorem dX11_live_188 : decode cX11_live 188 = .ok (.iconst 1, 1) := by decide +kernel
theorem dX11_live_189 : decode cX11_live 189 = .ok (.invokevirtual 369, 3) := by decide +kernel
theorem dX11_live_192 : decode cX11_live 192 = .ok (.goto 63, 3) := by decide +kernel
theorem dX11_live_195 : decode cX11_live 195 = .ok (.aload_n 0, 1) := by decide +kernel
theorem dX11_live_196 : decode cX11_live 196 = .ok (.getfield 81, 3) := by decide +kernel
theorem dX11_live_199 : decode cX11_live 199 = .ok (.iload 6, 2) := by decide +kernel
theorem dX11_live_201 : decode cX11_live 201 = .ok (.iaload, 1) := by decide +kernel
theorem dX11_live_202 : decode cX11_live 202 = .ok (.sipush 1000, 3) := by decide +kernel
theorem dX11_live_205 : decode cX11_live 205 = .ok (.if_icmp .ne 50, 3) := by decide +kernel
theorem dX11_live_208 : decode cX11_live 208 = .ok (.aload_n 0, 1) := by decide +kernel
theorem dX11_live_209 : decode cX11_live 209 = .ok (.getfield 84, 3) := by decide +kernel
theorem dX11_live_212 : decode cX11_live 212 = .ok (.iload 6, 2) := by decide +kernel
theorem dX11_live_214 : decode cX11_live 214 = .ok (.iaload, 1) := by decide +kernel
theorem dX11_live_215 : decode cX11_live 215 = .ok (.sipush 1000, 3) := by decide +kernel
theorem dX11_live_218 : decode cX11_live 218 = .ok (.if_icmp .ge 37, 3) := by decide +kernel
theorem dX11_live_221 : decode cX11_live 221 = .ok (.aload_n 0, 1) := by decide +kernel
theorem dX11_live_222 : decode cX11_live 222 = .ok (.getfield 84, 3) := by decide +kernel
theorem dX11_live_225 : decode cX11_live 225 = .ok (.iload 6, 2) := by decide +kernel
theorem dX11_live_227 : decode cX11_live 227 = .ok (.iaload, 1) := by decide +kernel
theorem dX11_live_228 : decode cX11_live 228 = .ok (.aload_n 0, 1) := by decide +kernel
theorem dX11_live_229 : decode cX11_live 229 = .ok (.iload 6, 2) := by decide +kernel
theorem dX11_live_231 : decode cX11_live 231 = .ok (.invokevirtual 373, 3) := by decide +kernel
theorem dX11_live_234 : decode cX11_live 234 = .ok (.iadd, 1) := by decide +kernel
theorem dX11_live_235 : decode cX11_live 235 = .ok (.iload 5, 2) := by decide +kernel
theorem dX11_live_237 : decode cX11_live 237 = .ok (.if_icmp .ne 18, 3) := by decide +kernel
theorem dX11_live_240 : decode cX11_live 240 = .ok (.aload_n 0, 1) := by decide +kernel
theorem dX11_live_241 : decode cX11_live 241 = .ok (.iload 6, 2) := by decide +kernel
theorem dX11_live_243 : decode cX11_live 243 = .ok (.iload 5, 2) := by decide +kernel
theorem dX11_live_245 : decode cX11_live 245 = .ok (.aload_n 0, 1) := by decide +kernel
theorem dX11_live_246 : decode cX11_live 246 = .ok (.getfield 87, 3) := by decide +kernel
theorem dX11_live_249 : decode cX11_live 249 = .ok (.iload 6, 2) := by decide +kernel
theorem dX11_live_251 : decode cX11_live 251 = .ok (.iaload, 1) := by decide +kernel
theorem dX11_live_252 : decode cX11_live 252 = .ok (.invokevirtual 369, 3) := by decide +kernel
theorem dX11_live_255 : decode cX11_live 255 = .ok (.iinc 6 1, 3) := by decide +kernel
theorem dX11_live_258 : decode cX11_live 258 = .ok (.goto (-170), 3) := by decide +kernel
theorem dX11_live_261 : decode cX11_live 261 = .ok (.iconst 0, 1) := by decide +kernel
theorem dX11_live_262 : decode cX11_live 262 = .ok (.istore 6, 2) := by decide +kernel
theorem dX11_live_264 : decode cX11_live 264 = .ok (.iload 6, 2) := by decide +kernel
theorem dX11_live_266 : decode cX11_live 266 = .ok (.aload_n 0, 1) := by decide +kernel
theorem dX11_live_267 : decode cX11_live 267 = .ok (.getfield 287, 3) := by decide +kernel
theorem dX11_live_270 : decode cX11_live 270 = .ok (.if_icmp .ge 19, 3) := by decide +kernel
theorem dX11_live_273 : decode cX11_live 273 = .ok (.aload_n 0, 1) := by decide +kernel
theorem dX11_live_274 : decode cX11_live 274 = .ok (.iload 6, 2) := by decide +kernel
theorem dX11_live_276 : decode cX11_live 276 = .ok (.iload 5, 2) := by decide +kernel
theorem dX11_live_278 : decode cX11_live 278 = .ok (.iload 4, 2) := by decide +kernel
theorem dX11_live_280 : decode cX11_live 280 = .ok (.invokevirtual 376, 3) := by decide +kernel
theorem dX11_live_283 : decode cX11_live 283 = .ok (.iinc 6 1, 3) := by decide +kernel
theorem dX11_live_286 : decode cX11_live 286 = .ok (.goto (-22), 3) := by decide +kernel
theorem dX11_live_289 : decode cX11_live 289 = .ok (.iinc 5 1, 3) := by decide +kernel
theorem dX11_live_292 : decode cX11_live 292 = .ok (.goto (-215), 3) := by decide +kernel
theorem dX11_live_295 : decode cX11_live 295 = .ok (.return_, 1) := by decide +kernel
def wb_X11_live_3 (J : HJ) (x1 : Int32) (x2 : Int32) (x3 : Int32) (x4 : Int32) (Post : HI → Prop) (E3 : HI → Prop) (K3 : (Int32 × HI) → Prop) (s : Int32 × HI) : Prop :=
  match s with
  | (x5, I) => ((I 72 20) ≤ x5 → (E3 I)) ∧ (¬ (I 72 20) ≤ x5 → (vp_in x5 12 ∧ (∀ I_1 : HI, I_1 = hI I 92 (Int32.toNatClampNeg x5) 1000 → (vp_in x5 12 ∧ (∀ I_2 : HI, I_2 = hI I_1 93 (Int32.toNatClampNeg x5) 1000 → (vp_in x5 12 ∧ (∀ I_3 : HI, I_3 = hI I_2 94 (Int32.toNatClampNeg x5) 2 → (K3 ((x5 + 1), I_3)))))))))
set_option maxHeartbeats 4000000 in
set_option maxRecDepth 20000 in
theorem ws_X11_live_3 (g : kf_G) (hg : kf_g g) {x : kf_X} (hx : kf_ok g x RX11 cX11_live 8 2 50) (J : HJ) (x1 : Int32) (x2 : Int32) (x3 : Int32) (x4 : Int32) (Post : HI → Prop) (hret : ∀ (pc : Nat) (lv : List (Nat × Value)) (Iy : HI), decode cX11_live pc = .ok (.return_, 1) → Post Iy → kf_M g x 8 pc lv [] Iy J) (E3 : HI → Prop) (hE3 : ∀ (Iy : HI), E3 Iy → kf_M g x 8 46 [(0, .ref (g.2.2.2 72)), (1, .int x1), (2, .int x2), (3, .int x3), (4, .int x4)] [] Iy J) (K3 : (Int32 × HI) → Prop) (hK3 : ∀ (y5 : Int32) (Iy : HI), K3 (y5, Iy) → kf_M g x 8 3 [(0, .ref (g.2.2.2 72)), (1, .int x1), (2, .int x2), (3, .int x3), (4, .int x4), (5, .int y5)] [] Iy J) (x5 : Int32) (I : HI) (h : wb_X11_live_3 J x1 x2 x3 x4 Post E3 K3 (x5, I)) : kf_M g x 8 3 [(0, .ref (g.2.2.2 72)), (1, .int x1), (2, .int x2), (3, .int x3), (4, .int x4), (5, .int x5)] [] I J := by
  unfold wb_X11_live_3 at h
  refine kf_iload hx dX11_live_3 5 rfl ?_
  refine kf_aload_n hx dX11_live_5 rfl 0 rfl ?_
  refine kf_getI hx sl_72_20 fl_RX11_287 dX11_live_6 ?_
  refine kf_icmp_ge hx 46 dX11_live_9 (by decide) (fun c => ?_) (fun c => ?_)
  · replace h := h.1 c
    refine kf_sub [0, 1, 2, 3, 4] rfl ?_
    exact hE3 _ h
  · replace h := h.2 c
    refine kf_aload_n hx dX11_live_12 rfl 0 rfl ?_
    refine kf_getR (n := 92) hx sl_72_40 fl_RX11_81 dX11_live_13 ?_
    refine kf_iload hx dX11_live_16 5 rfl ?_
    refine kf_sipush (v := 1000) hx dX11_live_18 (by decide) ?_
    refine kf_iast hx ar_92 h.1 dX11_live_21 ?_
    replace h := h.2
    refine kf_nmI (fun I_1 eI_1 => ?_)
    replace h := h I_1 eI_1
    refine kf_aload_n hx dX11_live_22 rfl 0 rfl ?_
    refine kf_getR (n := 93) hx sl_72_41 fl_RX11_84 dX11_live_23 ?_
    refine kf_iload hx dX11_live_26 5 rfl ?_
    refine kf_sipush (v := 1000) hx dX11_live_28 (by decide) ?_
    refine kf_iast hx ar_93 h.1 dX11_live_31 ?_
    replace h := h.2
    refine kf_nmI (fun I_2 eI_2 => ?_)
    replace h := h I_2 eI_2
    refine kf_aload_n hx dX11_live_32 rfl 0 rfl ?_
    refine kf_getR (n := 94) hx sl_72_42 fl_RX11_87 dX11_live_33 ?_
    refine kf_iload hx dX11_live_36 5 rfl ?_
    refine kf_iconst (v := 2) hx dX11_live_38 (by decide) ?_
    refine kf_iast hx ar_94 h.1 dX11_live_39 ?_
    replace h := h.2
    refine kf_nmI (fun I_3 eI_3 => ?_)
    replace h := h I_3 eI_3
    refine kf_iinc (w := (x5 + 1)) (lv' := [(5, .int (x5 + 1)), (0, .ref (g.2.2.2 72)), (1, .int x1), (2, .int x2), (3, .int x3), (4, .int x4)]) hx dX11_live_40 5 rfl rfl (by decide) rfl ?_
    refine kf_goto hx 3 dX11_live_43 (by decide) ?_
    refine kf_sub [1, 2, 3, 4, 5, 0] rfl ?_
    exact hK3 _ _ h
theorem wl_X11_live_3 (g : kf_G) (hg : kf_g g) {x : kf_X} (hx : kf_ok g x RX11 cX11_live 8 2 50) (J : HJ) (x1 : Int32) (x2 : Int32) (x3 : Int32) (x4 : Int32) (Post : HI → Prop) (hret : ∀ (pc : Nat) (lv : List (Nat × Value)) (Iy : HI), decode cX11_live pc = .ok (.return_, 1) → Post Iy → kf_M g x 8 pc lv [] Iy J) (E3 : HI → Prop) (hE3 : ∀ (Iy : HI), E3 Iy → kf_M g x 8 46 [(0, .ref (g.2.2.2 72)), (1, .int x1), (2, .int x2), (3, .int x3), (4, .int x4)] [] Iy J) : ∀ (n : Nat) (x5 : Int32) (I : HI), lp (wb_X11_live_3 J x1 x2 x3 x4 Post E3) n (x5, I) → kf_M g x 8 3 [(0, .ref (g.2.2.2 72)), (1, .int x1), (2, .int x2), (3, .int x3), (4, .int x4), (5, .int x5)] [] I J := by
  intro n
  induction n with
  | zero => intro x5 I h; exact h.elim
  | succ n ih => intro x5 I h; exact ws_X11_live_3 g hg hx J x1 x2 x3 x4 Post hret E3 hE3 (lp (wb_X11_live_3 J x1 x2 x3 x4 Post E3) n) ih x5 I h
def wb_X11_live_49 (J : HJ) (x1 : Int32) (x2 : Int32) (x3 : Int32) (x4 : Int32) (Post : HI → Prop) (E49 : HI → Prop) (K49 : (Int32 × HI) → Prop) (s : Int32 × HI) : Prop :=
  match s with
  | (x5, I) => ((I 72 21) ≤ x5 → (E49 I)) ∧ (¬ (I 72 21) ≤ x5 → (vp_in x5 10 ∧ (∀ I_5 : HI, I_5 = hI I 95 (Int32.toNatClampNeg x5) 1000 → (K49 ((x5 + 1), I_5)))))
set_option maxHeartbeats 4000000 in
set_option maxRecDepth 20000 in
theorem ws_X11_live_49 (g : kf_G) (hg : kf_g g) {x : kf_X} (hx : kf_ok g x RX11 cX11_live 8 2 50) (J : HJ) (x1 : Int32) (x2 : Int32) (x3 : Int32) (x4 : Int32) (Post : HI → Prop) (hret : ∀ (pc : Nat) (lv : List (Nat × Value)) (Iy : HI), decode cX11_live pc = .ok (.return_, 1) → Post Iy → kf_M g x 8 pc lv [] Iy J) (E49 : HI → Prop) (hE49 : ∀ (Iy : HI), E49 Iy → kf_M g x 8 74 [(0, .ref (g.2.2.2 72)), (1, .int x1), (2, .int x2), (3, .int x3), (4, .int x4)] [] Iy J) (K49 : (Int32 × HI) → Prop) (hK49 : ∀ (y5 : Int32) (Iy : HI), K49 (y5, Iy) → kf_M g x 8 49 [(0, .ref (g.2.2.2 72)), (1, .int x1), (2, .int x2), (3, .int x3), (4, .int x4), (5, .int y5)] [] Iy J) (x5 : Int32) (I : HI) (h : wb_X11_live_49 J x1 x2 x3 x4 Post E49 K49 (x5, I)) : kf_M g x 8 49 [(0, .ref (g.2.2.2 72)), (1, .int x1), (2, .int x2), (3, .int x3), (4, .int x4), (5, .int x5)] [] I J := by
  unfold wb_X11_live_49 at h
  refine kf_iload hx dX11_live_49 5 rfl ?_
  refine kf_aload_n hx dX11_live_51 rfl 0 rfl ?_
  refine kf_getI hx sl_72_21 fl_RX11_290 dX11_live_52 ?_
  refine kf_icmp_ge hx 74 dX11_live_55 (by decide) (fun c => ?_) (fun c => ?_)
  · replace h := h.1 c
    refine kf_sub [0, 1, 2, 3, 4] rfl ?_
    exact hE49 _ h
  · replace h := h.2 c
    refine kf_aload_n hx dX11_live_58 rfl 0 rfl ?_
    refine kf_getR (n := 95) hx sl_72_43 fl_RX11_90 dX11_live_59 ?_
    refine kf_iload hx dX11_live_62 5 rfl ?_
    refine kf_sipush (v := 1000) hx dX11_live_64 (by decide) ?_
    refine kf_iast hx ar_95 h.1 dX11_live_67 ?_
    replace h := h.2
    refine kf_nmI (fun I_5 eI_5 => ?_)
    replace h := h I_5 eI_5
    refine kf_iinc (w := (x5 + 1)) (lv' := [(5, .int (x5 + 1)), (0, .ref (g.2.2.2 72)), (1, .int x1), (2, .int x2), (3, .int x3), (4, .int x4)]) hx dX11_live_68 5 rfl rfl (by decide) rfl ?_
    refine kf_goto hx 49 dX11_live_71 (by decide) ?_
    refine kf_sub [1, 2, 3, 4, 5, 0] rfl ?_
    exact hK49 _ _ h
theorem wl_X11_live_49 (g : kf_G) (hg : kf_g g) {x : kf_X} (hx : kf_ok g x RX11 cX11_live 8 2 50) (J : HJ) (x1 : Int32) (x2 : Int32) (x3 : Int32) (x4 : Int32) (Post : HI → Prop) (hret : ∀ (pc : Nat) (lv : List (Nat × Value)) (Iy : HI), decode cX11_live pc = .ok (.return_, 1) → Post Iy → kf_M g x 8 pc lv [] Iy J) (E49 : HI → Prop) (hE49 : ∀ (Iy : HI), E49 Iy → kf_M g x 8 74 [(0, .ref (g.2.2.2 72)), (1, .int x1), (2, .int x2), (3, .int x3), (4, .int x4)] [] Iy J) : ∀ (n : Nat) (x5 : Int32) (I : HI), lp (wb_X11_live_49 J x1 x2 x3 x4 Post E49) n (x5, I) → kf_M g x 8 49 [(0, .ref (g.2.2.2 72)), (1, .int x1), (2, .int x2), (3, .int x3), (4, .int x4), (5, .int x5)] [] I J := by
  intro n
  induction n with
  | zero => intro x5 I h; exact h.elim
  | succ n ih => intro x5 I h; exact ws_X11_live_49 g hg hx J x1 x2 x3 x4 Post hret E49 hE49 (lp (wb_X11_live_49 J x1 x2 x3 x4 Post E49) n) ih x5 I h
def wj_X11_live_195 (I : HI) (J : HJ) (x1 : Int32) (x2 : Int32) (x3 : Int32) (x4 : Int32) (x5 : Int32) (x6 : Int32) (E77 : HI → Prop) (K77 : Int32 × HI → Prop) (E88 : HI → Prop) (K88 : Int32 × HI → Prop) (Post : HI → Prop) : Prop :=
  vp_in x6 12 ∧ ((¬ (I 92 (Int32.toNatClampNeg x6)) = 1000 → (K88 ((x6 + 1), I))) ∧ ((I 92 (Int32.toNatClampNeg x6)) = 1000 → (vp_in x6 12 ∧ ((1000 ≤ (I 93 (Int32.toNatClampNeg x6)) → (K88 ((x6 + 1), I))) ∧ (¬ 1000 ≤ (I 93 (Int32.toNatClampNeg x6)) → (vp_in x6 12 ∧ (w_X11_late x6 I J (fun (r_7 : Int32) => ((¬ ((I 93 (Int32.toNatClampNeg x6)) + r_7) = x5 → (K88 ((x6 + 1), I))) ∧ (((I 93 (Int32.toNatClampNeg x6)) + r_7) = x5 → (vp_in x6 12 ∧ (w_X11_take x6 x5 (I 94 (Int32.toNatClampNeg x6)) I J (fun (I_8 : HI) => (K88 ((x6 + 1), I_8)))))))))))))))
set_option maxHeartbeats 4000000 in
set_option maxRecDepth 20000 in
theorem wk_X11_live_195 (g : kf_G) (hg : kf_g g) {x : kf_X} (hx : kf_ok g x RX11 cX11_live 8 2 50) (I : HI) (J : HJ) (x1 : Int32) (x2 : Int32) (x3 : Int32) (x4 : Int32) (x5 : Int32) (x6 : Int32) (E77 : HI → Prop) (K77 : Int32 × HI → Prop) (E88 : HI → Prop) (K88 : Int32 × HI → Prop) (hE77 : ∀ (Iy : HI), E77 Iy → kf_M g x 8 295 [] [] Iy J) (hK77 : ∀ (y5 : Int32) (Iy : HI), K77 (y5, Iy) → kf_M g x 8 77 [(0, .ref (g.2.2.2 72)), (1, .int x1), (2, .int x2), (3, .int x3), (4, .int x4), (5, .int y5)] [] Iy J) (hE88 : ∀ (Iy : HI), E88 Iy → kf_M g x 8 261 [(0, .ref (g.2.2.2 72)), (1, .int x1), (2, .int x2), (3, .int x3), (4, .int x4), (5, .int x5)] [] Iy J) (hK88 : ∀ (y6 : Int32) (Iy : HI), K88 (y6, Iy) → kf_M g x 8 88 [(0, .ref (g.2.2.2 72)), (1, .int x1), (2, .int x2), (3, .int x3), (4, .int x4), (5, .int x5), (6, .int y6)] [] Iy J) (Post : HI → Prop) (hret : ∀ (pc : Nat) (lv : List (Nat × Value)) (Iy : HI), decode cX11_live pc = .ok (.return_, 1) → Post Iy → kf_M g x 8 pc lv [] Iy J) (h : wj_X11_live_195 I J x1 x2 x3 x4 x5 x6 E77 K77 E88 K88 Post) : kf_M g x 8 195 [(0, .ref (g.2.2.2 72)), (1, .int x1), (2, .int x2), (3, .int x3), (4, .int x4), (5, .int x5), (6, .int x6)] [] I J := by
  unfold wj_X11_live_195 at h
  refine kf_aload_n hx dX11_live_195 rfl 0 rfl ?_
  refine kf_getR (n := 92) hx sl_72_40 fl_RX11_81 dX11_live_196 ?_
  refine kf_iload hx dX11_live_199 6 rfl ?_
  refine kf_iald hx ar_92 h.1 dX11_live_201 ?_
  replace h := h.2
  refine kf_sipush (v := 1000) hx dX11_live_202 (by decide) ?_
  refine kf_icmp_ne hx 255 dX11_live_205 (by decide) (fun c => ?_) (fun c => ?_)
  · replace h := h.1 c
    refine kf_iinc (w := (x6 + 1)) (lv' := [(6, .int (x6 + 1)), (0, .ref (g.2.2.2 72)), (1, .int x1), (2, .int x2), (3, .int x3), (4, .int x4), (5, .int x5)]) hx dX11_live_255 6 rfl rfl (by decide) rfl ?_
    refine kf_goto hx 88 dX11_live_258 (by decide) ?_
    refine kf_sub [1, 2, 3, 4, 5, 6, 0] rfl ?_
    exact hK88 _ _ h
  · replace h := h.2 c
    refine kf_aload_n hx dX11_live_208 rfl 0 rfl ?_
    refine kf_getR (n := 93) hx sl_72_41 fl_RX11_84 dX11_live_209 ?_
    refine kf_iload hx dX11_live_212 6 rfl ?_
    refine kf_iald hx ar_93 h.1 dX11_live_214 ?_
    replace h := h.2
    refine kf_sipush (v := 1000) hx dX11_live_215 (by decide) ?_
    refine kf_icmp_ge hx 255 dX11_live_218 (by decide) (fun c => ?_) (fun c => ?_)
    · replace h := h.1 c
      refine kf_iinc (w := (x6 + 1)) (lv' := [(6, .int (x6 + 1)), (0, .ref (g.2.2.2 72)), (1, .int x1), (2, .int x2), (3, .int x3), (4, .int x4), (5, .int x5)]) hx dX11_live_255 6 rfl rfl (by decide) rfl ?_
      refine kf_goto hx 88 dX11_live_258 (by decide) ?_
      refine kf_sub [1, 2, 3, 4, 5, 6, 0] rfl ?_
      exact hK88 _ _ h
    · replace h := h.2 c
      refine kf_aload_n hx dX11_live_221 rfl 0 rfl ?_
      refine kf_getR (n := 93) hx sl_72_41 fl_RX11_84 dX11_live_222 ?_
      refine kf_iload hx dX11_live_225 6 rfl ?_
      refine kf_iald hx ar_93 h.1 dX11_live_227 ?_
      replace h := h.2
      refine kf_aload_n hx dX11_live_228 rfl 0 rfl ?_
      refine kf_iload hx dX11_live_229 6 rfl ?_
      refine kf_callViP (st := [.int (I 93 (Int32.toNatClampNeg x6))]) hx (m_X11_late g hg x6 I J _ h) lk_RX11_373 km_X11_late ob_72 rfl (by decide) rfl (Nat.le_of_ble_eq_true rfl) dX11_live_231 (fun r_7 h => ?_)
      refine kf_iadd hx dX11_live_234 ?_
      refine kf_iload hx dX11_live_235 5 rfl ?_
      refine kf_icmp_ne hx 255 dX11_live_237 (by decide) (fun c => ?_) (fun c => ?_)
      · replace h := h.1 c
        refine kf_iinc (w := (x6 + 1)) (lv' := [(6, .int (x6 + 1)), (0, .ref (g.2.2.2 72)), (1, .int x1), (2, .int x2), (3, .int x3), (4, .int x4), (5, .int x5)]) hx dX11_live_255 6 rfl rfl (by decide) rfl ?_
        refine kf_goto hx 88 dX11_live_258 (by decide) ?_
        refine kf_sub [1, 2, 3, 4, 5, 6, 0] rfl ?_
        exact hK88 _ _ h
      · replace h := h.2 c
        refine kf_aload_n hx dX11_live_240 rfl 0 rfl ?_
        refine kf_iload hx dX11_live_241 6 rfl ?_
        refine kf_iload hx dX11_live_243 5 rfl ?_
        refine kf_aload_n hx dX11_live_245 rfl 0 rfl ?_
        refine kf_getR (n := 94) hx sl_72_42 fl_RX11_87 dX11_live_246 ?_
        refine kf_iload hx dX11_live_249 6 rfl ?_
        refine kf_iald hx ar_94 h.1 dX11_live_251 ?_
        replace h := h.2
        refine kf_callVvI (st := []) hx (m_X11_take g hg x6 x5 (I 94 (Int32.toNatClampNeg x6)) I J _ h) lk_RX11_369 km_X11_take ob_72 rfl (by decide) rfl (Nat.le_of_ble_eq_true rfl) dX11_live_252 (fun I_8 h => ?_)
        refine kf_iinc (w := (x6 + 1)) (lv' := [(6, .int (x6 + 1)), (0, .ref (g.2.2.2 72)), (1, .int x1), (2, .int x2), (3, .int x3), (4, .int x4), (5, .int x5)]) hx dX11_live_255 6 rfl rfl (by decide) rfl ?_
        refine kf_goto hx 88 dX11_live_258 (by decide) ?_
        refine kf_sub [1, 2, 3, 4, 5, 6, 0] rfl ?_
        exact hK88 _ _ h
def wj_X11_live_162 (I : HI) (J : HJ) (x1 : Int32) (x2 : Int32) (x3 : Int32) (x4 : Int32) (x5 : Int32) (x6 : Int32) (x7 : Int32) (E77 : HI → Prop) (K77 : Int32 × HI → Prop) (E88 : HI → Prop) (K88 : Int32 × HI → Prop) (Post : HI → Prop) : Prop :=
  (x7 = 0 → (wj_X11_live_195 I J x1 x2 x3 x4 x5 x6 E77 K77 E88 K88 Post)) ∧ (¬ x7 = 0 → ((¬ x5 = x3 → (wj_X11_live_195 I J x1 x2 x3 x4 x5 x6 E77 K77 E88 K88 Post)) ∧ (x5 = x3 → ((¬ ((x2 >>> (x6 &&& 31)) &&& 1) = 1 → (wj_X11_live_195 I J x1 x2 x3 x4 x5 x6 E77 K77 E88 K88 Post)) ∧ (((x2 >>> (x6 &&& 31)) &&& 1) = 1 → (w_X11_take x6 x5 1 I J (fun (I_9 : HI) => (K88 ((x6 + 1), I_9)))))))))
set_option maxHeartbeats 4000000 in
set_option maxRecDepth 20000 in
theorem wk_X11_live_162 (g : kf_G) (hg : kf_g g) {x : kf_X} (hx : kf_ok g x RX11 cX11_live 8 2 50) (I : HI) (J : HJ) (x1 : Int32) (x2 : Int32) (x3 : Int32) (x4 : Int32) (x5 : Int32) (x6 : Int32) (x7 : Int32) (E77 : HI → Prop) (K77 : Int32 × HI → Prop) (E88 : HI → Prop) (K88 : Int32 × HI → Prop) (hE77 : ∀ (Iy : HI), E77 Iy → kf_M g x 8 295 [] [] Iy J) (hK77 : ∀ (y5 : Int32) (Iy : HI), K77 (y5, Iy) → kf_M g x 8 77 [(0, .ref (g.2.2.2 72)), (1, .int x1), (2, .int x2), (3, .int x3), (4, .int x4), (5, .int y5)] [] Iy J) (hE88 : ∀ (Iy : HI), E88 Iy → kf_M g x 8 261 [(0, .ref (g.2.2.2 72)), (1, .int x1), (2, .int x2), (3, .int x3), (4, .int x4), (5, .int x5)] [] Iy J) (hK88 : ∀ (y6 : Int32) (Iy : HI), K88 (y6, Iy) → kf_M g x 8 88 [(0, .ref (g.2.2.2 72)), (1, .int x1), (2, .int x2), (3, .int x3), (4, .int x4), (5, .int x5), (6, .int y6)] [] Iy J) (Post : HI → Prop) (hret : ∀ (pc : Nat) (lv : List (Nat × Value)) (Iy : HI), decode cX11_live pc = .ok (.return_, 1) → Post Iy → kf_M g x 8 pc lv [] Iy J) (h : wj_X11_live_162 I J x1 x2 x3 x4 x5 x6 x7 E77 K77 E88 K88 Post) : kf_M g x 8 162 [(0, .ref (g.2.2.2 72)), (1, .int x1), (2, .int x2), (3, .int x3), (4, .int x4), (5, .int x5), (6, .int x6), (7, .int x7)] [] I J := by
  unfold wj_X11_live_162 at h
  refine kf_iload hx dX11_live_162 7 rfl ?_
  refine kf_if_eq hx 195 dX11_live_164 (by decide) (fun c => ?_) (fun c => ?_)
  · replace h := h.1 c
    refine kf_sub [0, 1, 2, 3, 4, 5, 6] rfl ?_
    exact wk_X11_live_195 g hg hx I J x1 x2 x3 x4 x5 x6 _ _ _ _ hE77 hK77 hE88 hK88 _ hret h
  · replace h := h.2 c
    refine kf_iload hx dX11_live_167 5 rfl ?_
    refine kf_iload_n hx dX11_live_169 rfl 3 rfl ?_
    refine kf_icmp_ne hx 195 dX11_live_170 (by decide) (fun c => ?_) (fun c => ?_)
    · replace h := h.1 c
      refine kf_sub [0, 1, 2, 3, 4, 5, 6] rfl ?_
      exact wk_X11_live_195 g hg hx I J x1 x2 x3 x4 x5 x6 _ _ _ _ hE77 hK77 hE88 hK88 _ hret h
    · replace h := h.2 c
      refine kf_iload_n hx dX11_live_173 rfl 2 rfl ?_
      refine kf_iload hx dX11_live_174 6 rfl ?_
      refine kf_ishr hx dX11_live_176 ?_
      refine kf_iconst (v := 1) hx dX11_live_177 (by decide) ?_
      refine kf_iand hx dX11_live_178 ?_
      refine kf_iconst (v := 1) hx dX11_live_179 (by decide) ?_
      refine kf_icmp_ne hx 195 dX11_live_180 (by decide) (fun c => ?_) (fun c => ?_)
      · replace h := h.1 c
        refine kf_sub [0, 1, 2, 3, 4, 5, 6] rfl ?_
        exact wk_X11_live_195 g hg hx I J x1 x2 x3 x4 x5 x6 _ _ _ _ hE77 hK77 hE88 hK88 _ hret h
      · replace h := h.2 c
        refine kf_aload_n hx dX11_live_183 rfl 0 rfl ?_
        refine kf_iload hx dX11_live_184 6 rfl ?_
        refine kf_iload hx dX11_live_186 5 rfl ?_
        refine kf_iconst (v := 1) hx dX11_live_188 (by decide) ?_
        refine kf_callVvI (st := []) hx (m_X11_take g hg x6 x5 1 I J _ h) lk_RX11_369 km_X11_take ob_72 rfl (by decide) rfl (Nat.le_of_ble_eq_true rfl) dX11_live_189 (fun I_9 h => ?_)
        refine kf_goto hx 255 dX11_live_192 (by decide) ?_
        refine kf_iinc (w := (x6 + 1)) (lv' := [(6, .int (x6 + 1)), (0, .ref (g.2.2.2 72)), (1, .int x1), (2, .int x2), (3, .int x3), (4, .int x4), (5, .int x5), (7, .int x7)]) hx dX11_live_255 6 rfl rfl (by decide) rfl ?_
        refine kf_goto hx 88 dX11_live_258 (by decide) ?_
        refine kf_sub [1, 2, 3, 4, 5, 6, 0] rfl ?_
        exact hK88 _ _ h
def wj_X11_live_128 (I : HI) (J : HJ) (x1 : Int32) (x2 : Int32) (x3 : Int32) (x4 : Int32) (x5 : Int32) (x6 : Int32) (t0 : Int32) (E77 : HI → Prop) (K77 : Int32 × HI → Prop) (E88 : HI → Prop) (K88 : Int32 × HI → Prop) (Post : HI → Prop) : Prop :=
  (t0 = 0 → (wj_X11_live_162 I J x1 x2 x3 x4 x5 x6 t0 E77 K77 E88 K88 Post)) ∧ (¬ t0 = 0 → ((¬ x5 = 0 → (wj_X11_live_162 I J x1 x2 x3 x4 x5 x6 t0 E77 K77 E88 K88 Post)) ∧ (x5 = 0 → ((¬ ((x1 >>> (x6 &&& 31)) &&& 1) = 1 → (wj_X11_live_162 I J x1 x2 x3 x4 x5 x6 t0 E77 K77 E88 K88 Post)) ∧ (((x1 >>> (x6 &&& 31)) &&& 1) = 1 → (w_X11_take x6 x5 0 I J (fun (I_10 : HI) => (K88 ((x6 + 1), I_10)))))))))
set_option maxHeartbeats 4000000 in
set_option maxRecDepth 20000 in
theorem wk_X11_live_128 (g : kf_G) (hg : kf_g g) {x : kf_X} (hx : kf_ok g x RX11 cX11_live 8 2 50) (I : HI) (J : HJ) (x1 : Int32) (x2 : Int32) (x3 : Int32) (x4 : Int32) (x5 : Int32) (x6 : Int32) (t0 : Int32) (E77 : HI → Prop) (K77 : Int32 × HI → Prop) (E88 : HI → Prop) (K88 : Int32 × HI → Prop) (hE77 : ∀ (Iy : HI), E77 Iy → kf_M g x 8 295 [] [] Iy J) (hK77 : ∀ (y5 : Int32) (Iy : HI), K77 (y5, Iy) → kf_M g x 8 77 [(0, .ref (g.2.2.2 72)), (1, .int x1), (2, .int x2), (3, .int x3), (4, .int x4), (5, .int y5)] [] Iy J) (hE88 : ∀ (Iy : HI), E88 Iy → kf_M g x 8 261 [(0, .ref (g.2.2.2 72)), (1, .int x1), (2, .int x2), (3, .int x3), (4, .int x4), (5, .int x5)] [] Iy J) (hK88 : ∀ (y6 : Int32) (Iy : HI), K88 (y6, Iy) → kf_M g x 8 88 [(0, .ref (g.2.2.2 72)), (1, .int x1), (2, .int x2), (3, .int x3), (4, .int x4), (5, .int x5), (6, .int y6)] [] Iy J) (Post : HI → Prop) (hret : ∀ (pc : Nat) (lv : List (Nat × Value)) (Iy : HI), decode cX11_live pc = .ok (.return_, 1) → Post Iy → kf_M g x 8 pc lv [] Iy J) (h : wj_X11_live_128 I J x1 x2 x3 x4 x5 x6 t0 E77 K77 E88 K88 Post) : kf_M g x 8 128 [(0, .ref (g.2.2.2 72)), (1, .int x1), (2, .int x2), (3, .int x3), (4, .int x4), (5, .int x5), (6, .int x6)] [.int t0] I J := by
  unfold wj_X11_live_128 at h
  refine kf_istore (lv' := [(7, .int t0), (0, .ref (g.2.2.2 72)), (1, .int x1), (2, .int x2), (3, .int x3), (4, .int x4), (5, .int x5), (6, .int x6)]) hx dX11_live_128 (by decide) rfl ?_
  refine kf_iload hx dX11_live_130 0 rfl ?_
  refine kf_if_eq hx 162 dX11_live_132 (by decide) (fun c => ?_) (fun c => ?_)
  · replace h := h.1 c
    refine kf_sub [1, 2, 3, 4, 5, 6, 7, 0] rfl ?_
    exact wk_X11_live_162 g hg hx I J x1 x2 x3 x4 x5 x6 t0 _ _ _ _ hE77 hK77 hE88 hK88 _ hret h
  · replace h := h.2 c
    refine kf_iload hx dX11_live_135 6 rfl ?_
    refine kf_if_ne hx 162 dX11_live_137 (by decide) (fun c => ?_) (fun c => ?_)
    · replace h := h.1 c
      refine kf_sub [1, 2, 3, 4, 5, 6, 7, 0] rfl ?_
      exact wk_X11_live_162 g hg hx I J x1 x2 x3 x4 x5 x6 t0 _ _ _ _ hE77 hK77 hE88 hK88 _ hret h
    · replace h := h.2 c
      refine kf_iload_n hx dX11_live_140 rfl 2 rfl ?_
      refine kf_iload hx dX11_live_141 7 rfl ?_
      refine kf_ishr hx dX11_live_143 ?_
      refine kf_iconst (v := 1) hx dX11_live_144 (by decide) ?_
      refine kf_iand hx dX11_live_145 ?_
      refine kf_iconst (v := 1) hx dX11_live_146 (by decide) ?_
      refine kf_icmp_ne hx 162 dX11_live_147 (by decide) (fun c => ?_) (fun c => ?_)
      · replace h := h.1 c
        refine kf_sub [1, 2, 3, 4, 5, 6, 7, 0] rfl ?_
        exact wk_X11_live_162 g hg hx I J x1 x2 x3 x4 x5 x6 t0 _ _ _ _ hE77 hK77 hE88 hK88 _ hret h
      · replace h := h.2 c
        refine kf_aload_n hx dX11_live_150 rfl 1 rfl ?_
        refine kf_iload hx dX11_live_151 7 rfl ?_
        refine kf_iload hx dX11_live_153 6 rfl ?_
        refine kf_iconst (v := 0) hx dX11_live_155 (by decide) ?_
        refine kf_callVvI (st := []) hx (m_X11_take g hg x6 x5 0 I J _ h) lk_RX11_369 km_X11_take ob_72 rfl (by decide) rfl (Nat.le_of_ble_eq_true rfl) dX11_live_156 (fun I_10 h => ?_)
        refine kf_goto hx 255 dX11_live_159 (by decide) ?_
        refine kf_iinc (w := (x6 + 1)) (lv' := [(6, .int (x6 + 1)), (7, .int t0), (0, .ref (g.2.2.2 72)), (1, .int x1), (2, .int x2), (3, .int x3), (4, .int x4), (5, .int x5)]) hx dX11_live_255 7 rfl rfl (by decide) rfl ?_
        refine kf_goto hx 88 dX11_live_258 (by decide) ?_
        refine kf_sub [2, 3, 4, 5, 6, 7, 0] rfl ?_
        exact hK88 _ _ h
def wj_X11_live_127 (I : HI) (J : HJ) (x1 : Int32) (x2 : Int32) (x3 : Int32) (x4 : Int32) (x5 : Int32) (x6 : Int32) (E77 : HI → Prop) (K77 : Int32 × HI → Prop) (E88 : HI → Prop) (K88 : Int32 × HI → Prop) (Post : HI → Prop) : Prop :=
  wj_X11_live_128 I J x1 x2 x3 x4 x5 x6 0 E77 K77 E88 K88 Post
set_option maxHeartbeats 4000000 in
set_option maxRecDepth 20000 in
theorem wk_X11_live_127 (g : kf_G) (hg : kf_g g) {x : kf_X} (hx : kf_ok g x RX11 cX11_live 8 2 50) (I : HI) (J : HJ) (x1 : Int32) (x2 : Int32) (x3 : Int32) (x4 : Int32) (x5 : Int32) (x6 : Int32) (E77 : HI → Prop) (K77 : Int32 × HI → Prop) (E88 : HI → Prop) (K88 : Int32 × HI → Prop) (hE77 : ∀ (Iy : HI), E77 Iy → kf_M g x 8 295 [] [] Iy J) (hK77 : ∀ (y5 : Int32) (Iy : HI), K77 (y5, Iy) → kf_M g x 8 77 [(0, .ref (g.2.2.2 72)), (1, .int x1), (2, .int x2), (3, .int x3), (4, .int x4), (5, .int y5)] [] Iy J) (hE88 : ∀ (Iy : HI), E88 Iy → kf_M g x 8 261 [(0, .ref (g.2.2.2 72)), (1, .int x1), (2, .int x2), (3, .int x3), (4, .int x4), (5, .int x5)] [] Iy J) (hK88 : ∀ (y6 : Int32) (Iy : HI), K88 (y6, Iy) → kf_M g x 8 88 [(0, .ref (g.2.2.2 72)), (1, .int x1), (2, .int x2), (3, .int x3), (4, .int x4), (5, .int x5), (6, .int y6)] [] Iy J) (Post : HI → Prop) (hret : ∀ (pc : Nat) (lv : List (Nat × Value)) (Iy : HI), decode cX11_live pc = .ok (.return_, 1) → Post Iy → kf_M g x 8 pc lv [] Iy J) (h : wj_X11_live_127 I J x1 x2 x3 x4 x5 x6 E77 K77 E88 K88 Post) : kf_M g x 8 127 [(0, .ref (g.2.2.2 72)), (1, .int x1), (2, .int x2), (3, .int x3), (4, .int x4), (5, .int x5), (6, .int x6)] [] I J := by
  unfold wj_X11_live_127 at h
  refine kf_iconst (v := 0) hx dX11_live_127 (by decide) ?_
  exact wk_X11_live_128 g hg hx I J x1 x2 x3 x4 x5 x6 0 _ _ _ _ hE77 hK77 hE88 hK88 _ hret h
def wb_X11_live_88 (J : HJ) (x1 : Int32) (x2 : Int32) (x3 : Int32) (x4 : Int32) (x5 : Int32) (E77 : HI → Prop) (K77 : Int32 × HI → Prop) (Post : HI → Prop) (E88 : HI → Prop) (K88 : (Int32 × HI) → Prop) (s : Int32 × HI) : Prop :=
  match s with
  | (x6, I) => ((I 72 20) ≤ x6 → (E88 I)) ∧ (¬ (I 72 20) ≤ x6 → (vp_in x6 12 ∧ ((¬ (I 92 (Int32.toNatClampNeg x6)) = 1000 → (wj_X11_live_127 I J x1 x2 x3 x4 x5 x6 E77 K77 E88 K88 Post)) ∧ ((I 92 (Int32.toNatClampNeg x6)) = 1000 → (vp_in x6 12 ∧ ((¬ (I 93 (Int32.toNatClampNeg x6)) = 1000 → (wj_X11_live_127 I J x1 x2 x3 x4 x5 x6 E77 K77 E88 K88 Post)) ∧ ((I 93 (Int32.toNatClampNeg x6)) = 1000 → (wj_X11_live_128 I J x1 x2 x3 x4 x5 x6 1 E77 K77 E88 K88 Post))))))))
set_option maxHeartbeats 4000000 in
set_option maxRecDepth 20000 in
theorem ws_X11_live_88 (g : kf_G) (hg : kf_g g) {x : kf_X} (hx : kf_ok g x RX11 cX11_live 8 2 50) (J : HJ) (x1 : Int32) (x2 : Int32) (x3 : Int32) (x4 : Int32) (x5 : Int32) (E77 : HI → Prop) (K77 : Int32 × HI → Prop) (hE77 : ∀ (Iy : HI), E77 Iy → kf_M g x 8 295 [] [] Iy J) (hK77 : ∀ (y5 : Int32) (Iy : HI), K77 (y5, Iy) → kf_M g x 8 77 [(0, .ref (g.2.2.2 72)), (1, .int x1), (2, .int x2), (3, .int x3), (4, .int x4), (5, .int y5)] [] Iy J) (Post : HI → Prop) (hret : ∀ (pc : Nat) (lv : List (Nat × Value)) (Iy : HI), decode cX11_live pc = .ok (.return_, 1) → Post Iy → kf_M g x 8 pc lv [] Iy J) (E88 : HI → Prop) (hE88 : ∀ (Iy : HI), E88 Iy → kf_M g x 8 261 [(0, .ref (g.2.2.2 72)), (1, .int x1), (2, .int x2), (3, .int x3), (4, .int x4), (5, .int x5)] [] Iy J) (K88 : (Int32 × HI) → Prop) (hK88 : ∀ (y6 : Int32) (Iy : HI), K88 (y6, Iy) → kf_M g x 8 88 [(0, .ref (g.2.2.2 72)), (1, .int x1), (2, .int x2), (3, .int x3), (4, .int x4), (5, .int x5), (6, .int y6)] [] Iy J) (x6 : Int32) (I : HI) (h : wb_X11_live_88 J x1 x2 x3 x4 x5 E77 K77 Post E88 K88 (x6, I)) : kf_M g x 8 88 [(0, .ref (g.2.2.2 72)), (1, .int x1), (2, .int x2), (3, .int x3), (4, .int x4), (5, .int x5), (6, .int x6)] [] I J := by
  unfold wb_X11_live_88 at h
  refine kf_iload hx dX11_live_88 6 rfl ?_
  refine kf_aload_n hx dX11_live_90 rfl 0 rfl ?_
  refine kf_getI hx sl_72_20 fl_RX11_287 dX11_live_91 ?_
  refine kf_icmp_ge hx 261 dX11_live_94 (by decide) (fun c => ?_) (fun c => ?_)
  · replace h := h.1 c
    refine kf_sub [0, 1, 2, 3, 4, 5] rfl ?_
    exact hE88 _ h
  · replace h := h.2 c
    refine kf_aload_n hx dX11_live_97 rfl 0 rfl ?_
    refine kf_getR (n := 92) hx sl_72_40 fl_RX11_81 dX11_live_98 ?_
    refine kf_iload hx dX11_live_101 6 rfl ?_
    refine kf_iald hx ar_92 h.1 dX11_live_103 ?_
    replace h := h.2
    refine kf_sipush (v := 1000) hx dX11_live_104 (by decide) ?_
    refine kf_icmp_ne hx 127 dX11_live_107 (by decide) (fun c => ?_) (fun c => ?_)
    · replace h := h.1 c
      exact wk_X11_live_127 g hg hx I J x1 x2 x3 x4 x5 x6 _ _ _ _ hE77 hK77 hE88 hK88 _ hret h
    · replace h := h.2 c
      refine kf_aload_n hx dX11_live_110 rfl 0 rfl ?_
      refine kf_getR (n := 93) hx sl_72_41 fl_RX11_84 dX11_live_111 ?_
      refine kf_iload hx dX11_live_114 6 rfl ?_
      refine kf_iald hx ar_93 h.1 dX11_live_116 ?_
      replace h := h.2
      refine kf_sipush (v := 1000) hx dX11_live_117 (by decide) ?_
      refine kf_icmp_ne hx 127 dX11_live_120 (by decide) (fun c => ?_) (fun c => ?_)
      · replace h := h.1 c
        exact wk_X11_live_127 g hg hx I J x1 x2 x3 x4 x5 x6 _ _ _ _ hE77 hK77 hE88 hK88 _ hret h
      · replace h := h.2 c
        refine kf_iconst (v := 1) hx dX11_live_123 (by decide) ?_
        refine kf_goto hx 128 dX11_live_124 (by decide) ?_
        exact wk_X11_live_128 g hg hx I J x1 x2 x3 x4 x5 x6 1 _ _ _ _ hE77 hK77 hE88 hK88 _ hret h
theorem wl_X11_live_88 (g : kf_G) (hg : kf_g g) {x : kf_X} (hx : kf_ok g x RX11 cX11_live 8 2 50) (J : HJ) (x1 : Int32) (x2 : Int32) (x3 : Int32) (x4 : Int32) (x5 : Int32) (E77 : HI → Prop) (K77 : Int32 × HI → Prop) (hE77 : ∀ (Iy : HI), E77 Iy → kf_M g x 8 295 [] [] Iy J) (hK77 : ∀ (y5 : Int32) (Iy : HI), K77 (y5, Iy) → kf_M g x 8 77 [(0, .ref (g.2.2.2 72)), (1, .int x1), (2, .int x2), (3, .int x3), (4, .int x4), (5, .int y5)] [] Iy J) (Post : HI → Prop) (hret : ∀ (pc : Nat) (lv : List (Nat × Value)) (Iy : HI), decode cX11_live pc = .ok (.return_, 1) → Post Iy → kf_M g x 8 pc lv [] Iy J) (E88 : HI → Prop) (hE88 : ∀ (Iy : HI), E88 Iy → kf_M g x 8 261 [(0, .ref (g.2.2.2 72)), (1, .int x1), (2, .int x2), (3, .int x3), (4, .int x4), (5, .int x5)] [] Iy J) : ∀ (n : Nat) (x6 : Int32) (I : HI), lp (wb_X11_live_88 J x1 x2 x3 x4 x5 E77 K77 Post E88) n (x6, I) → kf_M g x 8 88 [(0, .ref (g.2.2.2 72)), (1, .int x1), (2, .int x2), (3, .int x3), (4, .int x4), (5, .int x5), (6, .int x6)] [] I J := by
  intro n
  induction n with
  | zero => intro x6 I h; exact h.elim
  | succ n ih => intro x6 I h; exact ws_X11_live_88 g hg hx J x1 x2 x3 x4 x5 E77 K77 hE77 hK77 Post hret E88 hE88 (lp (wb_X11_live_88 J x1 x2 x3 x4 x5 E77 K77 Post E88) n) ih x6 I h
def wb_X11_live_264 (J : HJ) (x1 : Int32) (x2 : Int32) (x3 : Int32) (x4 : Int32) (x5 : Int32) (E77 : HI → Prop) (K77 : Int32 × HI → Prop) (Post : HI → Prop) (E264 : HI → Prop) (K264 : (Int32 × HI) → Prop) (s : Int32 × HI) : Prop :=
  match s with
  | (x6, I) => ((I 72 20) ≤ x6 → (E264 I)) ∧ (¬ (I 72 20) ≤ x6 → (w_X11_decide x6 x5 x4 I J (fun (I_12 : HI) => (K264 ((x6 + 1), I_12)))))
set_option maxHeartbeats 4000000 in
set_option maxRecDepth 20000 in
theorem ws_X11_live_264 (g : kf_G) (hg : kf_g g) {x : kf_X} (hx : kf_ok g x RX11 cX11_live 8 2 50) (J : HJ) (x1 : Int32) (x2 : Int32) (x3 : Int32) (x4 : Int32) (x5 : Int32) (E77 : HI → Prop) (K77 : Int32 × HI → Prop) (hE77 : ∀ (Iy : HI), E77 Iy → kf_M g x 8 295 [] [] Iy J) (hK77 : ∀ (y5 : Int32) (Iy : HI), K77 (y5, Iy) → kf_M g x 8 77 [(0, .ref (g.2.2.2 72)), (1, .int x1), (2, .int x2), (3, .int x3), (4, .int x4), (5, .int y5)] [] Iy J) (Post : HI → Prop) (hret : ∀ (pc : Nat) (lv : List (Nat × Value)) (Iy : HI), decode cX11_live pc = .ok (.return_, 1) → Post Iy → kf_M g x 8 pc lv [] Iy J) (E264 : HI → Prop) (hE264 : ∀ (Iy : HI), E264 Iy → kf_M g x 8 289 [(0, .ref (g.2.2.2 72)), (1, .int x1), (2, .int x2), (3, .int x3), (4, .int x4), (5, .int x5)] [] Iy J) (K264 : (Int32 × HI) → Prop) (hK264 : ∀ (y6 : Int32) (Iy : HI), K264 (y6, Iy) → kf_M g x 8 264 [(0, .ref (g.2.2.2 72)), (1, .int x1), (2, .int x2), (3, .int x3), (4, .int x4), (5, .int x5), (6, .int y6)] [] Iy J) (x6 : Int32) (I : HI) (h : wb_X11_live_264 J x1 x2 x3 x4 x5 E77 K77 Post E264 K264 (x6, I)) : kf_M g x 8 264 [(0, .ref (g.2.2.2 72)), (1, .int x1), (2, .int x2), (3, .int x3), (4, .int x4), (5, .int x5), (6, .int x6)] [] I J := by
  unfold wb_X11_live_264 at h
  refine kf_iload hx dX11_live_264 6 rfl ?_
  refine kf_aload_n hx dX11_live_266 rfl 0 rfl ?_
  refine kf_getI hx sl_72_20 fl_RX11_287 dX11_live_267 ?_
  refine kf_icmp_ge hx 289 dX11_live_270 (by decide) (fun c => ?_) (fun c => ?_)
  · replace h := h.1 c
    refine kf_sub [0, 1, 2, 3, 4, 5] rfl ?_
    exact hE264 _ h
  · replace h := h.2 c
    refine kf_aload_n hx dX11_live_273 rfl 0 rfl ?_
    refine kf_iload hx dX11_live_274 6 rfl ?_
    refine kf_iload hx dX11_live_276 5 rfl ?_
    refine kf_iload hx dX11_live_278 4 rfl ?_
    refine kf_callVvI (st := []) hx (m_X11_decide g hg x6 x5 x4 I J _ h) lk_RX11_376 km_X11_decide ob_72 rfl (by decide) rfl (Nat.le_of_ble_eq_true rfl) dX11_live_280 (fun I_12 h => ?_)
    refine kf_iinc (w := (x6 + 1)) (lv' := [(6, .int (x6 + 1)), (0, .ref (g.2.2.2 72)), (1, .int x1), (2, .int x2), (3, .int x3), (4, .int x4), (5, .int x5)]) hx dX11_live_283 6 rfl rfl (by decide) rfl ?_
    refine kf_goto hx 264 dX11_live_286 (by decide) ?_
    refine kf_sub [1, 2, 3, 4, 5, 6, 0] rfl ?_
    exact hK264 _ _ h
theorem wl_X11_live_264 (g : kf_G) (hg : kf_g g) {x : kf_X} (hx : kf_ok g x RX11 cX11_live 8 2 50) (J : HJ) (x1 : Int32) (x2 : Int32) (x3 : Int32) (x4 : Int32) (x5 : Int32) (E77 : HI → Prop) (K77 : Int32 × HI → Prop) (hE77 : ∀ (Iy : HI), E77 Iy → kf_M g x 8 295 [] [] Iy J) (hK77 : ∀ (y5 : Int32) (Iy : HI), K77 (y5, Iy) → kf_M g x 8 77 [(0, .ref (g.2.2.2 72)), (1, .int x1), (2, .int x2), (3, .int x3), (4, .int x4), (5, .int y5)] [] Iy J) (Post : HI → Prop) (hret : ∀ (pc : Nat) (lv : List (Nat × Value)) (Iy : HI), decode cX11_live pc = .ok (.return_, 1) → Post Iy → kf_M g x 8 pc lv [] Iy J) (E264 : HI → Prop) (hE264 : ∀ (Iy : HI), E264 Iy → kf_M g x 8 289 [(0, .ref (g.2.2.2 72)), (1, .int x1), (2, .int x2), (3, .int x3), (4, .int x4), (5, .int x5)] [] Iy J) : ∀ (n : Nat) (x6 : Int32) (I : HI), lp (wb_X11_live_264 J x1 x2 x3 x4 x5 E77 K77 Post E264) n (x6, I) → kf_M g x 8 264 [(0, .ref (g.2.2.2 72)), (1, .int x1), (2, .int x2), (3, .int x3), (4, .int x4), (5, .int x5), (6, .int x6)] [] I J := by
  intro n
  induction n with
  | zero => intro x6 I h; exact h.elim
  | succ n ih => intro x6 I h; exact ws_X11_live_264 g hg hx J x1 x2 x3 x4 x5 E77 K77 hE77 hK77 Post hret E264 hE264 (lp (wb_X11_live_264 J x1 x2 x3 x4 x5 E77 K77 Post E264) n) ih x6 I h
def wb_X11_live_77 (J : HJ) (x1 : Int32) (x2 : Int32) (x3 : Int32) (x4 : Int32) (Post : HI → Prop) (E77 : HI → Prop) (K77 : (Int32 × HI) → Prop) (s : Int32 × HI) : Prop :=
  match s with
  | (x5, I) => (150 ≤ x5 → (E77 I)) ∧ (¬ 150 ≤ x5 → (∃ n, lp (wb_X11_live_88 J x1 x2 x3 x4 x5 E77 K77 Post (fun (I_11 : HI) => ∃ n, lp (wb_X11_live_264 J x1 x2 x3 x4 x5 E77 K77 Post (fun (I_13 : HI) => K77 ((x5 + 1), I_13))) n (0, I_11))) n (0, I)))
set_option maxHeartbeats 4000000 in
set_option maxRecDepth 20000 in
theorem ws_X11_live_77 (g : kf_G) (hg : kf_g g) {x : kf_X} (hx : kf_ok g x RX11 cX11_live 8 2 50) (J : HJ) (x1 : Int32) (x2 : Int32) (x3 : Int32) (x4 : Int32) (Post : HI → Prop) (hret : ∀ (pc : Nat) (lv : List (Nat × Value)) (Iy : HI), decode cX11_live pc = .ok (.return_, 1) → Post Iy → kf_M g x 8 pc lv [] Iy J) (E77 : HI → Prop) (hE77 : ∀ (Iy : HI), E77 Iy → kf_M g x 8 295 [] [] Iy J) (K77 : (Int32 × HI) → Prop) (hK77 : ∀ (y5 : Int32) (Iy : HI), K77 (y5, Iy) → kf_M g x 8 77 [(0, .ref (g.2.2.2 72)), (1, .int x1), (2, .int x2), (3, .int x3), (4, .int x4), (5, .int y5)] [] Iy J) (x5 : Int32) (I : HI) (h : wb_X11_live_77 J x1 x2 x3 x4 Post E77 K77 (x5, I)) : kf_M g x 8 77 [(0, .ref (g.2.2.2 72)), (1, .int x1), (2, .int x2), (3, .int x3), (4, .int x4), (5, .int x5)] [] I J := by
  unfold wb_X11_live_77 at h
  refine kf_iload hx dX11_live_77 5 rfl ?_
  refine kf_sipush (v := 150) hx dX11_live_79 (by decide) ?_
  refine kf_icmp_ge hx 295 dX11_live_82 (by decide) (fun c => ?_) (fun c => ?_)
  · replace h := h.1 c
    refine kf_sub [] rfl ?_
    exact hE77 _ h
  · replace h := h.2 c
    refine kf_iconst (v := 0) hx dX11_live_85 (by decide) ?_
    refine kf_istore (lv' := [(6, .int 0), (0, .ref (g.2.2.2 72)), (1, .int x1), (2, .int x2), (3, .int x3), (4, .int x4), (5, .int x5)]) hx dX11_live_86 (by decide) rfl ?_
    obtain ⟨n, h⟩ := h
    refine kf_sub [1, 2, 3, 4, 5, 6, 0] rfl ?_
    refine wl_X11_live_88 g hg hx J x1 x2 x3 x4 x5 _ _ hE77 hK77 _ hret _ (fun I_11 h => ?_) n _ _ h
    refine kf_iconst (v := 0) hx dX11_live_261 (by decide) ?_
    refine kf_istore (lv' := [(6, .int 0), (0, .ref (g.2.2.2 72)), (1, .int x1), (2, .int x2), (3, .int x3), (4, .int x4), (5, .int x5)]) hx dX11_live_262 (by decide) rfl ?_
    obtain ⟨n, h⟩ := h
    refine kf_sub [1, 2, 3, 4, 5, 6, 0] rfl ?_
    refine wl_X11_live_264 g hg hx J x1 x2 x3 x4 x5 _ _ hE77 hK77 _ hret _ (fun I_13 h => ?_) n _ _ h
    refine kf_iinc (w := (x5 + 1)) (lv' := [(5, .int (x5 + 1)), (0, .ref (g.2.2.2 72)), (1, .int x1), (2, .int x2), (3, .int x3), (4, .int x4)]) hx dX11_live_289 5 rfl rfl (by decide) rfl ?_
    refine kf_goto hx 77 dX11_live_292 (by decide) ?_
    refine kf_sub [1, 2, 3, 4, 5, 0] rfl ?_
    exact hK77 _ _ h
theorem wl_X11_live_77 (g : kf_G) (hg : kf_g g) {x : kf_X} (hx : kf_ok g x RX11 cX11_live 8 2 50) (J : HJ) (x1 : Int32) (x2 : Int32) (x3 : Int32) (x4 : Int32) (Post : HI → Prop) (hret : ∀ (pc : Nat) (lv : List (Nat × Value)) (Iy : HI), decode cX11_live pc = .ok (.return_, 1) → Post Iy → kf_M g x 8 pc lv [] Iy J) (E77 : HI → Prop) (hE77 : ∀ (Iy : HI), E77 Iy → kf_M g x 8 295 [] [] Iy J) : ∀ (n : Nat) (x5 : Int32) (I : HI), lp (wb_X11_live_77 J x1 x2 x3 x4 Post E77) n (x5, I) → kf_M g x 8 77 [(0, .ref (g.2.2.2 72)), (1, .int x1), (2, .int x2), (3, .int x3), (4, .int x4), (5, .int x5)] [] I J := by
  intro n
  induction n with
  | zero => intro x5 I h; exact h.elim
  | succ n ih => intro x5 I h; exact ws_X11_live_77 g hg hx J x1 x2 x3 x4 Post hret E77 hE77 (lp (wb_X11_live_77 J x1 x2 x3 x4 Post E77) n) ih x5 I h
def w_X11_live (x1 : Int32) (x2 : Int32) (x3 : Int32) (x4 : Int32) (I : HI) (J : HJ) (Post : HI → Prop) : Prop :=
  ∃ n, lp (wb_X11_live_3 J x1 x2 x3 x4 Post (fun (I_4 : HI) => ∃ n, lp (wb_X11_live_49 J x1 x2 x3 x4 Post (fun (I_6 : HI) => ∃ n, lp (wb_X11_live_77 J x1 x2 x3 x4 Post (fun (I_14 : HI) => Post I_14)) n (0, I_6))) n (0, I_4))) n (0, I)
set_option maxHeartbeats 4000000 in
set_option maxRecDepth 20000 in
theorem we_X11_live (g : kf_G) (hg : kf_g g) {x : kf_X} (hx : kf_ok g x RX11 cX11_live 8 2 50) (x1 : Int32) (x2 : Int32) (x3 : Int32) (x4 : Int32) (I : HI) (J : HJ) (Post : HI → Prop) (hret : ∀ (pc : Nat) (lv : List (Nat × Value)) (Iy : HI), decode cX11_live pc = .ok (.return_, 1) → Post Iy → kf_M g x 8 pc lv [] Iy J) (h : w_X11_live x1 x2 x3 x4 I J Post) : kf_M g x 8 0 [(0, .ref (g.2.2.2 72)), (1, .int x1), (2, .int x2), (3, .int x3), (4, .int x4)] [] I J := by
  unfold w_X11_live at h
  refine kf_iconst (v := 0) hx dX11_live_0 (by decide) ?_
  refine kf_istore (lv' := [(5, .int 0), (0, .ref (g.2.2.2 72)), (1, .int x1), (2, .int x2), (3, .int x3), (4, .int x4)]) hx dX11_live_1 (by decide) rfl ?_
  obtain ⟨n, h⟩ := h
  refine kf_sub [1, 2, 3, 4, 5, 0] rfl ?_
  refine wl_X11_live_3 g hg hx J x1 x2 x3 x4 _ hret _ (fun I_4 h => ?_) n _ _ h
  refine kf_iconst (v := 0) hx dX11_live_46 (by decide) ?_
  refine kf_istore (lv' := [(5, .int 0), (0, .ref (g.2.2.2 72)), (1, .int x1), (2, .int x2), (3, .int x3), (4, .int x4)]) hx dX11_live_47 (by decide) rfl ?_
  obtain ⟨n, h⟩ := h
  refine kf_sub [1, 2, 3, 4, 5, 0] rfl ?_
  refine wl_X11_live_49 g hg hx J x1 x2 x3 x4 _ hret _ (fun I_6 h => ?_) n _ _ h
  refine kf_iconst (v := 0) hx dX11_live_74 (by decide) ?_
  refine kf_istore (lv' := [(5, .int 0), (0, .ref (g.2.2.2 72)), (1, .int x1), (2, .int x2), (3, .int x3), (4, .int x4)]) hx dX11_live_75 (by decide) rfl ?_
  obtain ⟨n, h⟩ := h
  refine kf_sub [1, 2, 3, 4, 5, 0] rfl ?_
  refine wl_X11_live_77 g hg hx J x1 x2 x3 x4 _ hret _ (fun I_14 h => ?_) n _ _ h
  exact hret _ _ _ dX11_live_295 h
set_option maxHeartbeats 4000000 in
set_option maxRecDepth 20000 in
theorem m_X11_live (g : kf_G) (hg : kf_g g) (x1 : Int32) (x2 : Int32) (x3 : Int32) (x4 : Int32) (I : HI) (J : HJ) (Post : HI → Prop) (h : w_X11_live x1 x2 x3 x4 I J Post) : kf_Mv g yX11_live (kf_W yX11_live cX11_live 8 (Option.none : Option Jvm.ClassFile.FieldType)) 2 50 [.ref (g.2.2.2 72), .int x1, .int x2, .int x3, .int x4] I J (fun I' J' => Post I' ∧ J' = J) :=
  kf_entv hg (by decide) (Nat.le_of_ble_eq_true rfl) rfl (fun x hx hr => we_X11_live g hg hx x1 x2 x3 x4 I J Post (fun pc lv I' hd hP => hr pc lv I' J hd ⟨hP, rfl⟩) h)
theorem dX11_meanOf_0 : decode cX11_meanOf 0 = .ok (.lconst 0, 1) := by decide +kernel
theorem dX11_meanOf_1 : decode cX11_meanOf 1 = .ok (.lstore 5, 2) := by decide +kernel
theorem dX11_meanOf_3 : decode cX11_meanOf 3 = .ok (.iconst 0, 1) := by decide +kernel
theorem dX11_meanOf_4 : decode cX11_meanOf 4 = .ok (.istore 7, 2) := by decide +kernel
theorem dX11_meanOf_6 : decode cX11_meanOf 6 = .ok (.iload 7, 2) := by decide +kernel
theorem dX11_meanOf_8 : decode cX11_meanOf 8 = .ok (.iconst 1, 1) := by decide +kernel
theorem dX11_meanOf_9 : decode cX11_meanOf 9 = .ok (.aload_n 0, 1) := by decide +kernel
theorem dX11_meanOf_10 : decode cX11_meanOf 10 = .ok (.getfield 290, 3) := by decide +kernel
theorem dX11_meanOf_13 : decode cX11_meanOf 13 = .ok (.ishl, 1) := by decide +kernel
theorem dX11_meanOf_14 : decode cX11_meanOf 14 = .ok (.if_icmp .ge 90, 3) := by decide +kernel
theorem dX11_meanOf_17 : decode cX11_meanOf 17 = .ok (.aload_n 0, 1) := by decide +kernel
theorem dX11_meanOf_18 : decode cX11_meanOf 18 = .ok (.iload 7, 2) := by decide +kernel
theorem dX11_meanOf_20 : decode cX11_meanOf 20 = .ok (.invokevirtual 304, 3) := by decide +kernel
theorem dX11_meanOf_23 : decode cX11_meanOf 23 = .ok (.lstore 8, 2) := by decide +kernel
theorem dX11_meanOf_25 : decode cX11_meanOf 25 = .ok (.lload 8, 2) := by decide +kernel
theorem dX11_meanOf_27 : decode cX11_meanOf 27 = .ok (.lconst 0, 1) := by decide +kernel
theorem dX11_meanOf_28 : decode cX11_meanOf 28 = .ok (.lcmp, 1) := by decide +kernel
theorem dX11_meanOf_29 : decode cX11_meanOf 29 = .ok (.ifCond .ne 6, 3) := by decide +kernel
theorem dX11_meanOf_32 : decode cX11_meanOf 32 = .ok (.goto 66, 3) := by decide +kernel
theorem dX11_meanOf_35 : decode cX11_meanOf 35 = .ok (.aload_n 0, 1) := by decide +kernel
theorem dX11_meanOf_36 : decode cX11_meanOf 36 = .ok (.iload_n 1, 1) := by decide +kernel
theorem dX11_meanOf_37 : decode cX11_meanOf 37 = .ok (.iload_n 2, 1) := by decide +kernel
theorem dX11_meanOf_38 : decode cX11_meanOf 38 = .ok (.iload_n 3, 1) := by decide +kernel
theorem dX11_meanOf_39 : decode cX11_meanOf 39 = .ok (.iload 7, 2) := by decide +kernel
theorem dX11_meanOf_41 : decode cX11_meanOf 41 = .ok (.invokevirtual 379, 3) := by decide +kernel
theorem dX11_meanOf_44 : decode cX11_meanOf 44 = .ok (.iconst 0, 1) := by decide +kernel
theorem dX11_meanOf_45 : decode cX11_meanOf 45 = .ok (.istore 10, 2) := by decide +kernel
theorem dX11_meanOf_47 : decode cX11_meanOf 47 = .ok (.iload 10, 2) := by decide +kernel
theorem dX11_meanOf_49 : decode cX11_meanOf 49 = .ok (.aload_n 0, 1) := by decide +kernel
theorem dX11_meanOf_50 : decode cX11_meanOf 50 = .ok (.getfield 287, 3) := by decide +kernel
theorem dX11_meanOf_53 : decode cX11_meanOf 53 = .ok (.if_icmp .ge 45, 3) := by decide +kernel
theorem dX11_meanOf_56 : decode cX11_meanOf 56 = .ok (.lload 5, 2) := by decide +kernel
theorem dX11_meanOf_58 : decode cX11_meanOf 58 = .ok (.aload_n 0, 1) := by decide +kernel
theorem dX11_meanOf_59 : decode cX11_meanOf 59 = .ok (.getfield 81, 3) := by decide +kernel
theorem dX11_meanOf_62 : decode cX11_meanOf 62 = .ok (.iload 10, 2) := by decide +kernel
theorem dX11_meanOf_64 : decode cX11_meanOf 64 = .ok (.iaload, 1) := by decide +kernel
theorem dX11_meanOf_65 : decode cX11_meanOf 65 = .ok (.sipush 1000, 3) := by decide +kernel
theorem dX11_meanOf_68 : decode cX11_meanOf 68 = .ok (.if_icmp .ge 20, 3) := by decide +kernel
theorem dX11_meanOf_71 : decode cX11_meanOf 71 = .ok (.aload_n 0, 1) := by decide +kernel
theorem dX11_meanOf_72 : decode cX11_meanOf 72 = .ok (.getfield 87, 3) := by decide +kernel
theorem dX11_meanOf_75 : decode cX11_meanOf 75 = .ok (.iload 10, 2) := by decide +kernel
theorem dX11_meanOf_77 : decode cX11_meanOf 77 = .ok (.iaload, 1) := by decide +kernel
theorem dX11_meanOf_78 : decode cX11_meanOf 78 = .ok (.iload 4, 2) := by decide +kernel
theorem dX11_meanOf_80 : decode cX11_meanOf 80 = .ok (.if_icmp .ne 8, 3) := by decide +kernel
theorem dX11_meanOf_83 : decode cX11_meanOf 83 = .ok (.lload 8, 2) := by decide +kernel
theorem dX11_meanOf_85 : decode cX11_meanOf 85 = .ok (.goto 4, 3) := by decide +kernel
theorem dX11_meanOf_88 : decode cX11_meanOf 88 = .ok (.lconst 0, 1) := by decide +kernel
theorem dX11_meanOf_89 : decode cX11_meanOf 89 = .ok (.ladd, 1) := by decide +kernel
theorem dX11_meanOf_90 : decode cX11_meanOf 90 = .ok (.lstore 5, 2) := by decide +kernel
theorem dX11_meanOf_92 : decode cX11_meanOf 92 = .ok (.iinc 10 1, 3) := by decide +kernel
theorem dX11_meanOf_95 : decode cX11_meanOf 95 = .ok (.goto (-48), 3) := by decide +kernel
theorem dX11_meanOf_98 : decode cX11_meanOf 98 = .ok (.iinc 7 1, 3) := by decide +kernel
theorem dX11_meanOf_101 : decode cX11_meanOf 101 = .ok (.goto (-95), 3) := by decide +kernel
theorem dX11_meanOf_104 : decode cX11_meanOf 104 = .ok (.lload 5, 2) := by decide +kernel
theorem dX11_meanOf_106 : decode cX11_meanOf 106 = .ok (.lreturn, 1) := by decide +kernel
def wb_X11_meanOf_47 (I : HI) (J : HJ) (x1 : Int32) (x2 : Int32) (x3 : Int32) (x4 : Int32) (x7 : Int32) (x8 : Int64) (E6 : Int64 → HI → Prop) (K6 : Int64 × Int32 × HI → Prop) (Post : Int64 → HI → Prop) (E47 : Int64 → Prop) (K47 : (Int64 × Int32) → Prop) (s : Int64 × Int32) : Prop :=
  match s with
  | (x5, x10) => ((I 72 20) ≤ x10 → (E47 x5)) ∧ (¬ (I 72 20) ≤ x10 → (vp_in x10 12 ∧ ((1000 ≤ (I 92 (Int32.toNatClampNeg x10)) → (K47 ((x5 + 0), (x10 + 1)))) ∧ (¬ 1000 ≤ (I 92 (Int32.toNatClampNeg x10)) → (vp_in x10 12 ∧ ((¬ (I 94 (Int32.toNatClampNeg x10)) = x4 → (K47 ((x5 + 0), (x10 + 1)))) ∧ ((I 94 (Int32.toNatClampNeg x10)) = x4 → (K47 ((x5 + x8), (x10 + 1))))))))))
set_option maxHeartbeats 4000000 in
set_option maxRecDepth 20000 in
theorem ws_X11_meanOf_47 (g : kf_G) (hg : kf_g g) {x : kf_X} (hx : kf_ok g x RX11 cX11_meanOf 11 3 77) (I : HI) (J : HJ) (x1 : Int32) (x2 : Int32) (x3 : Int32) (x4 : Int32) (x7 : Int32) (x8 : Int64) (E6 : Int64 → HI → Prop) (K6 : Int64 × Int32 × HI → Prop) (hE6 : ∀ (y5 : Int64) (Iy : HI), E6 y5 Iy → kf_M g x 11 104 [(5, .long y5)] [] Iy J) (hK6 : ∀ (y5 : Int64) (y7 : Int32) (Iy : HI), K6 (y5, y7, Iy) → kf_M g x 11 6 [(0, .ref (g.2.2.2 72)), (1, .int x1), (2, .int x2), (3, .int x3), (4, .int x4), (5, .long y5), (7, .int y7)] [] Iy J) (Post : Int64 → HI → Prop) (hret : ∀ (pc : Nat) (lv : List (Nat × Value)) (v : Int64) (Iy : HI), decode cX11_meanOf pc = .ok (.lreturn, 1) → Post v Iy → kf_M g x 11 pc lv [.long v] Iy J) (E47 : Int64 → Prop) (hE47 : ∀ (y5 : Int64), E47 y5 → kf_M g x 11 98 [(0, .ref (g.2.2.2 72)), (1, .int x1), (2, .int x2), (3, .int x3), (4, .int x4), (5, .long y5), (7, .int x7)] [] I J) (K47 : (Int64 × Int32) → Prop) (hK47 : ∀ (y5 : Int64) (y10 : Int32), K47 (y5, y10) → kf_M g x 11 47 [(0, .ref (g.2.2.2 72)), (1, .int x1), (2, .int x2), (3, .int x3), (4, .int x4), (5, .long y5), (7, .int x7), (8, .long x8), (10, .int y10)] [] I J) (x5 : Int64) (x10 : Int32) (h : wb_X11_meanOf_47 I J x1 x2 x3 x4 x7 x8 E6 K6 Post E47 K47 (x5, x10)) : kf_M g x 11 47 [(0, .ref (g.2.2.2 72)), (1, .int x1), (2, .int x2), (3, .int x3), (4, .int x4), (5, .long x5), (7, .int x7), (8, .long x8), (10, .int x10)] [] I J := by
  unfold wb_X11_meanOf_47 at h
  refine kf_iload hx dX11_meanOf_47 8 rfl ?_
  refine kf_aload_n hx dX11_meanOf_49 rfl 0 rfl ?_
  refine kf_getI hx sl_72_20 fl_RX11_287 dX11_meanOf_50 ?_
  refine kf_icmp_ge hx 98 dX11_meanOf_53 (by decide) (fun c => ?_) (fun c => ?_)
  · replace h := h.1 c
    refine kf_sub [0, 1, 2, 3, 4, 5, 6] rfl ?_
    exact hE47 _ h
  · replace h := h.2 c
    refine kf_lload hx dX11_meanOf_56 5 rfl ?_
    refine kf_aload_n hx dX11_meanOf_58 rfl 0 rfl ?_
    refine kf_getR (n := 92) hx sl_72_40 fl_RX11_81 dX11_meanOf_59 ?_
    refine kf_iload hx dX11_meanOf_62 8 rfl ?_
    refine kf_iald hx ar_92 h.1 dX11_meanOf_64 ?_
    replace h := h.2
    refine kf_sipush (v := 1000) hx dX11_meanOf_65 (by decide) ?_
    refine kf_icmp_ge hx 88 dX11_meanOf_68 (by decide) (fun c => ?_) (fun c => ?_)
    · replace h := h.1 c
      refine kf_lconst (v := 0) hx dX11_meanOf_88 (by decide) ?_
      refine kf_ladd hx dX11_meanOf_89 ?_
      refine kf_lstore (lv' := [(5, .long (x5 + 0)), (0, .ref (g.2.2.2 72)), (1, .int x1), (2, .int x2), (3, .int x3), (4, .int x4), (7, .int x7), (8, .long x8), (10, .int x10)]) hx dX11_meanOf_90 (by decide) rfl ?_
      refine kf_iinc (w := (x10 + 1)) (lv' := [(10, .int (x10 + 1)), (5, .long (x5 + 0)), (0, .ref (g.2.2.2 72)), (1, .int x1), (2, .int x2), (3, .int x3), (4, .int x4), (7, .int x7), (8, .long x8)]) hx dX11_meanOf_92 8 rfl rfl (by decide) rfl ?_
      refine kf_goto hx 47 dX11_meanOf_95 (by decide) ?_
      refine kf_sub [2, 3, 4, 5, 6, 1, 7, 8, 0] rfl ?_
      exact hK47 _ _ h
    · replace h := h.2 c
      refine kf_aload_n hx dX11_meanOf_71 rfl 0 rfl ?_
      refine kf_getR (n := 94) hx sl_72_42 fl_RX11_87 dX11_meanOf_72 ?_
      refine kf_iload hx dX11_meanOf_75 8 rfl ?_
      refine kf_iald hx ar_94 h.1 dX11_meanOf_77 ?_
      replace h := h.2
      refine kf_iload hx dX11_meanOf_78 4 rfl ?_
      refine kf_icmp_ne hx 88 dX11_meanOf_80 (by decide) (fun c => ?_) (fun c => ?_)
      · replace h := h.1 c
        refine kf_lconst (v := 0) hx dX11_meanOf_88 (by decide) ?_
        refine kf_ladd hx dX11_meanOf_89 ?_
        refine kf_lstore (lv' := [(5, .long (x5 + 0)), (0, .ref (g.2.2.2 72)), (1, .int x1), (2, .int x2), (3, .int x3), (4, .int x4), (7, .int x7), (8, .long x8), (10, .int x10)]) hx dX11_meanOf_90 (by decide) rfl ?_
        refine kf_iinc (w := (x10 + 1)) (lv' := [(10, .int (x10 + 1)), (5, .long (x5 + 0)), (0, .ref (g.2.2.2 72)), (1, .int x1), (2, .int x2), (3, .int x3), (4, .int x4), (7, .int x7), (8, .long x8)]) hx dX11_meanOf_92 8 rfl rfl (by decide) rfl ?_
        refine kf_goto hx 47 dX11_meanOf_95 (by decide) ?_
        refine kf_sub [2, 3, 4, 5, 6, 1, 7, 8, 0] rfl ?_
        exact hK47 _ _ h
      · replace h := h.2 c
        refine kf_lload hx dX11_meanOf_83 7 rfl ?_
        refine kf_goto hx 89 dX11_meanOf_85 (by decide) ?_
        refine kf_ladd hx dX11_meanOf_89 ?_
        refine kf_lstore (lv' := [(5, .long (x5 + x8)), (0, .ref (g.2.2.2 72)), (1, .int x1), (2, .int x2), (3, .int x3), (4, .int x4), (7, .int x7), (8, .long x8), (10, .int x10)]) hx dX11_meanOf_90 (by decide) rfl ?_
        refine kf_iinc (w := (x10 + 1)) (lv' := [(10, .int (x10 + 1)), (5, .long (x5 + x8)), (0, .ref (g.2.2.2 72)), (1, .int x1), (2, .int x2), (3, .int x3), (4, .int x4), (7, .int x7), (8, .long x8)]) hx dX11_meanOf_92 8 rfl rfl (by decide) rfl ?_
        refine kf_goto hx 47 dX11_meanOf_95 (by decide) ?_
        refine kf_sub [2, 3, 4, 5, 6, 1, 7, 8, 0] rfl ?_
        exact hK47 _ _ h
theorem wl_X11_meanOf_47 (g : kf_G) (hg : kf_g g) {x : kf_X} (hx : kf_ok g x RX11 cX11_meanOf 11 3 77) (I : HI) (J : HJ) (x1 : Int32) (x2 : Int32) (x3 : Int32) (x4 : Int32) (x7 : Int32) (x8 : Int64) (E6 : Int64 → HI → Prop) (K6 : Int64 × Int32 × HI → Prop) (hE6 : ∀ (y5 : Int64) (Iy : HI), E6 y5 Iy → kf_M g x 11 104 [(5, .long y5)] [] Iy J) (hK6 : ∀ (y5 : Int64) (y7 : Int32) (Iy : HI), K6 (y5, y7, Iy) → kf_M g x 11 6 [(0, .ref (g.2.2.2 72)), (1, .int x1), (2, .int x2), (3, .int x3), (4, .int x4), (5, .long y5), (7, .int y7)] [] Iy J) (Post : Int64 → HI → Prop) (hret : ∀ (pc : Nat) (lv : List (Nat × Value)) (v : Int64) (Iy : HI), decode cX11_meanOf pc = .ok (.lreturn, 1) → Post v Iy → kf_M g x 11 pc lv [.long v] Iy J) (E47 : Int64 → Prop) (hE47 : ∀ (y5 : Int64), E47 y5 → kf_M g x 11 98 [(0, .ref (g.2.2.2 72)), (1, .int x1), (2, .int x2), (3, .int x3), (4, .int x4), (5, .long y5), (7, .int x7)] [] I J) : ∀ (n : Nat) (x5 : Int64) (x10 : Int32), lp (wb_X11_meanOf_47 I J x1 x2 x3 x4 x7 x8 E6 K6 Post E47) n (x5, x10) → kf_M g x 11 47 [(0, .ref (g.2.2.2 72)), (1, .int x1), (2, .int x2), (3, .int x3), (4, .int x4), (5, .long x5), (7, .int x7), (8, .long x8), (10, .int x10)] [] I J := by
  intro n
  induction n with
  | zero => intro x5 x10 h; exact h.elim
  | succ n ih => intro x5 x10 h; exact ws_X11_meanOf_47 g hg hx I J x1 x2 x3 x4 x7 x8 E6 K6 hE6 hK6 Post hret E47 hE47 (lp (wb_X11_meanOf_47 I J x1 x2 x3 x4 x7 x8 E6 K6 Post E47) n) ih x5 x10 h
def wb_X11_meanOf_6 (J : HJ) (x1 : Int32) (x2 : Int32) (x3 : Int32) (x4 : Int32) (Post : Int64 → HI → Prop) (E6 : Int64 → HI → Prop) (K6 : (Int64 × Int32 × HI) → Prop) (s : Int64 × Int32 × HI) : Prop :=
  match s with
  | (x5, x7, I) => ((1 <<< ((I 72 21) &&& 31)) ≤ x7 → (E6 x5 I)) ∧ (¬ (1 <<< ((I 72 21) &&& 31)) ≤ x7 → (w_X11_weightOf x7 I J (fun (r_1 : Int64) => ((¬ r_1 = 0 → (w_X11_live x1 x2 x3 x7 I J (fun (I_2 : HI) => (∃ n, lp (wb_X11_meanOf_47 I_2 J x1 x2 x3 x4 x7 r_1 E6 K6 Post (fun (x5_3 : Int64) => K6 (x5_3, (x7 + 1), I_2))) n (x5, 0))))) ∧ (r_1 = 0 → (K6 (x5, (x7 + 1), I)))))))
set_option maxHeartbeats 4000000 in
set_option maxRecDepth 20000 in
theorem ws_X11_meanOf_6 (g : kf_G) (hg : kf_g g) {x : kf_X} (hx : kf_ok g x RX11 cX11_meanOf 11 3 77) (J : HJ) (x1 : Int32) (x2 : Int32) (x3 : Int32) (x4 : Int32) (Post : Int64 → HI → Prop) (hret : ∀ (pc : Nat) (lv : List (Nat × Value)) (v : Int64) (Iy : HI), decode cX11_meanOf pc = .ok (.lreturn, 1) → Post v Iy → kf_M g x 11 pc lv [.long v] Iy J) (E6 : Int64 → HI → Prop) (hE6 : ∀ (y5 : Int64) (Iy : HI), E6 y5 Iy → kf_M g x 11 104 [(5, .long y5)] [] Iy J) (K6 : (Int64 × Int32 × HI) → Prop) (hK6 : ∀ (y5 : Int64) (y7 : Int32) (Iy : HI), K6 (y5, y7, Iy) → kf_M g x 11 6 [(0, .ref (g.2.2.2 72)), (1, .int x1), (2, .int x2), (3, .int x3), (4, .int x4), (5, .long y5), (7, .int y7)] [] Iy J) (x5 : Int64) (x7 : Int32) (I : HI) (h : wb_X11_meanOf_6 J x1 x2 x3 x4 Post E6 K6 (x5, x7, I)) : kf_M g x 11 6 [(0, .ref (g.2.2.2 72)), (1, .int x1), (2, .int x2), (3, .int x3), (4, .int x4), (5, .long x5), (7, .int x7)] [] I J := by
  unfold wb_X11_meanOf_6 at h
  refine kf_iload hx dX11_meanOf_6 6 rfl ?_
  refine kf_iconst (v := 1) hx dX11_meanOf_8 (by decide) ?_
  refine kf_aload_n hx dX11_meanOf_9 rfl 0 rfl ?_
  refine kf_getI hx sl_72_21 fl_RX11_290 dX11_meanOf_10 ?_
  refine kf_ishl hx dX11_meanOf_13 ?_
  refine kf_icmp_ge hx 104 dX11_meanOf_14 (by decide) (fun c => ?_) (fun c => ?_)
  · replace h := h.1 c
    refine kf_sub [5] rfl ?_
    exact hE6 _ _ h
  · replace h := h.2 c
    refine kf_aload_n hx dX11_meanOf_17 rfl 0 rfl ?_
    refine kf_iload hx dX11_meanOf_18 6 rfl ?_
    refine kf_callVlP (st := []) hx (m_X11_weightOf g hg x7 I J _ h) lk_RX11_304 km_X11_weightOf ob_72 rfl (by decide) rfl (Nat.le_of_ble_eq_true rfl) dX11_meanOf_20 (fun r_1 h => ?_)
    refine kf_lstore (lv' := [(8, .long r_1), (0, .ref (g.2.2.2 72)), (1, .int x1), (2, .int x2), (3, .int x3), (4, .int x4), (5, .long x5), (7, .int x7)]) hx dX11_meanOf_23 (by decide) rfl ?_
    refine kf_lload hx dX11_meanOf_25 0 rfl ?_
    refine kf_lconst (v := 0) hx dX11_meanOf_27 (by decide) ?_
    refine kf_l_ne hx 35 dX11_meanOf_28 dX11_meanOf_29 (by decide) (fun c => ?_) (fun c => ?_)
    · replace h := h.1 c
      refine kf_aload_n hx dX11_meanOf_35 rfl 1 rfl ?_
      refine kf_iload_n hx dX11_meanOf_36 rfl 2 rfl ?_
      refine kf_iload_n hx dX11_meanOf_37 rfl 3 rfl ?_
      refine kf_iload_n hx dX11_meanOf_38 rfl 4 rfl ?_
      refine kf_iload hx dX11_meanOf_39 7 rfl ?_
      refine kf_callVvI (st := []) hx (m_X11_live g hg x1 x2 x3 x7 I J _ h) lk_RX11_379 km_X11_live ob_72 rfl (by decide) rfl (Nat.le_of_ble_eq_true rfl) dX11_meanOf_41 (fun I_2 h => ?_)
      refine kf_iconst (v := 0) hx dX11_meanOf_44 (by decide) ?_
      refine kf_istore (lv' := [(10, .int 0), (8, .long r_1), (0, .ref (g.2.2.2 72)), (1, .int x1), (2, .int x2), (3, .int x3), (4, .int x4), (5, .long x5), (7, .int x7)]) hx dX11_meanOf_45 (by decide) rfl ?_
      obtain ⟨n, h⟩ := h
      refine kf_sub [2, 3, 4, 5, 6, 7, 8, 1, 0] rfl ?_
      refine wl_X11_meanOf_47 g hg hx I_2 J x1 x2 x3 x4 x7 r_1 _ _ hE6 hK6 _ hret _ (fun x5_3 h => ?_) n _ _ h
      refine kf_iinc (w := (x7 + 1)) (lv' := [(7, .int (x7 + 1)), (0, .ref (g.2.2.2 72)), (1, .int x1), (2, .int x2), (3, .int x3), (4, .int x4), (5, .long x5_3)]) hx dX11_meanOf_98 6 rfl rfl (by decide) rfl ?_
      refine kf_goto hx 6 dX11_meanOf_101 (by decide) ?_
      refine kf_sub [1, 2, 3, 4, 5, 6, 0] rfl ?_
      exact hK6 _ _ _ h
    · replace h := h.2 c
      refine kf_goto hx 98 dX11_meanOf_32 (by decide) ?_
      refine kf_iinc (w := (x7 + 1)) (lv' := [(7, .int (x7 + 1)), (8, .long r_1), (0, .ref (g.2.2.2 72)), (1, .int x1), (2, .int x2), (3, .int x3), (4, .int x4), (5, .long x5)]) hx dX11_meanOf_98 7 rfl rfl (by decide) rfl ?_
      refine kf_goto hx 6 dX11_meanOf_101 (by decide) ?_
      refine kf_sub [2, 3, 4, 5, 6, 7, 0] rfl ?_
      exact hK6 _ _ _ h
theorem wl_X11_meanOf_6 (g : kf_G) (hg : kf_g g) {x : kf_X} (hx : kf_ok g x RX11 cX11_meanOf 11 3 77) (J : HJ) (x1 : Int32) (x2 : Int32) (x3 : Int32) (x4 : Int32) (Post : Int64 → HI → Prop) (hret : ∀ (pc : Nat) (lv : List (Nat × Value)) (v : Int64) (Iy : HI), decode cX11_meanOf pc = .ok (.lreturn, 1) → Post v Iy → kf_M g x 11 pc lv [.long v] Iy J) (E6 : Int64 → HI → Prop) (hE6 : ∀ (y5 : Int64) (Iy : HI), E6 y5 Iy → kf_M g x 11 104 [(5, .long y5)] [] Iy J) : ∀ (n : Nat) (x5 : Int64) (x7 : Int32) (I : HI), lp (wb_X11_meanOf_6 J x1 x2 x3 x4 Post E6) n (x5, x7, I) → kf_M g x 11 6 [(0, .ref (g.2.2.2 72)), (1, .int x1), (2, .int x2), (3, .int x3), (4, .int x4), (5, .long x5), (7, .int x7)] [] I J := by
  intro n
  induction n with
  | zero => intro x5 x7 I h; exact h.elim
  | succ n ih => intro x5 x7 I h; exact ws_X11_meanOf_6 g hg hx J x1 x2 x3 x4 Post hret E6 hE6 (lp (wb_X11_meanOf_6 J x1 x2 x3 x4 Post E6) n) ih x5 x7 I h
def w_X11_meanOf (x1 : Int32) (x2 : Int32) (x3 : Int32) (x4 : Int32) (I : HI) (J : HJ) (Post : Int64 → HI → Prop) : Prop :=
  ∃ n, lp (wb_X11_meanOf_6 J x1 x2 x3 x4 Post (fun (x5_4 : Int64) (I_5 : HI) => Post x5_4 I_5)) n (0, 0, I)
set_option maxHeartbeats 4000000 in
set_option maxRecDepth 20000 in
theorem we_X11_meanOf (g : kf_G) (hg : kf_g g) {x : kf_X} (hx : kf_ok g x RX11 cX11_meanOf 11 3 77) (x1 : Int32) (x2 : Int32) (x3 : Int32) (x4 : Int32) (I : HI) (J : HJ) (Post : Int64 → HI → Prop) (hret : ∀ (pc : Nat) (lv : List (Nat × Value)) (v : Int64) (Iy : HI), decode cX11_meanOf pc = .ok (.lreturn, 1) → Post v Iy → kf_M g x 11 pc lv [.long v] Iy J) (h : w_X11_meanOf x1 x2 x3 x4 I J Post) : kf_M g x 11 0 [(0, .ref (g.2.2.2 72)), (1, .int x1), (2, .int x2), (3, .int x3), (4, .int x4)] [] I J := by
  unfold w_X11_meanOf at h
  refine kf_lconst (v := 0) hx dX11_meanOf_0 (by decide) ?_
  refine kf_lstore (lv' := [(5, .long 0), (0, .ref (g.2.2.2 72)), (1, .int x1), (2, .int x2), (3, .int x3), (4, .int x4)]) hx dX11_meanOf_1 (by decide) rfl ?_
  refine kf_iconst (v := 0) hx dX11_meanOf_3 (by decide) ?_
  refine kf_istore (lv' := [(7, .int 0), (5, .long 0), (0, .ref (g.2.2.2 72)), (1, .int x1), (2, .int x2), (3, .int x3), (4, .int x4)]) hx dX11_meanOf_4 (by decide) rfl ?_
  obtain ⟨n, h⟩ := h
  refine kf_sub [2, 3, 4, 5, 6, 1, 0] rfl ?_
  refine wl_X11_meanOf_6 g hg hx J x1 x2 x3 x4 _ hret _ (fun x5_4 I_5 h => ?_) n _ _ _ h
  refine kf_lload hx dX11_meanOf_104 0 rfl ?_
  exact hret _ _ x5_4 _ dX11_meanOf_106 h
set_option maxHeartbeats 4000000 in
set_option maxRecDepth 20000 in
theorem m_X11_meanOf (g : kf_G) (hg : kf_g g) (x1 : Int32) (x2 : Int32) (x3 : Int32) (x4 : Int32) (I : HI) (J : HJ) (Post : Int64 → HI → Prop) (h : w_X11_meanOf x1 x2 x3 x4 I J Post) : kf_Ml g yX11_meanOf (kf_W yX11_meanOf cX11_meanOf 11 (Option.some Jvm.ClassFile.FieldType.long)) 3 77 [.ref (g.2.2.2 72), .int x1, .int x2, .int x3, .int x4] I J (fun v I' J' => Post v I' ∧ J' = J) :=
  kf_entl hg (by decide) (Nat.le_of_ble_eq_true rfl) rfl (fun x hx hr => we_X11_meanOf g hg hx x1 x2 x3 x4 I J Post (fun pc lv v I' hd hP => hr pc lv v I' J hd ⟨hP, rfl⟩) h)
theorem dX11_fight_0 : decode cX11_fight 0 = .ok (.aload_n 0, 1) := by decide +kernel
theorem dX11_fight_1 : decode cX11_fight 1 = .ok (.iconst 0, 1) := by decide +kernel
theorem dX11_fight_2 : decode cX11_fight 2 = .ok (.putfield 106, 3) := by decide +kernel
theorem dX11_fight_5 : decode cX11_fight 5 = .ok (.aload_n 0, 1) := by decide +kernel
theorem dX11_fight_6 : decode cX11_fight 6 = .ok (.iconst 0, 1) := by decide +kernel
theorem dX11_fight_7 : decode cX11_fight 7 = .ok (.putfield 109, 3) := by decide +kernel
theorem dX11_fight_10 : decode cX11_fight 10 = .ok (.aload_n 0, 1) := by decide +kernel
theorem dX11_fight_11 : decode cX11_fight 11 = .ok (.iload_n 1, 1) := by decide +kernel
theorem dX11_fight_12 : decode cX11_fight 12 = .ok (.invokevirtual 314, 3) := by decide +kernel
theorem dX11_fight_15 : decode cX11_fight 15 = .ok (.ifCond .eq 11, 3) := by decide +kernel
theorem dX11_fight_18 : decode cX11_fight 18 = .ok (.aload_n 0, 1) := by decide +kernel
theorem dX11_fight_19 : decode cX11_fight 19 = .ok (.iload_n 2, 1) := by decide +kernel
theorem dX11_fight_20 : decode cX11_fight 20 = .ok (.invokevirtual 314, 3) := by decide +kernel
theorem dX11_fight_23 : decode cX11_fight 23 = .ok (.ifCond .ne 9, 3) := by decide +kernel
theorem dX11_fight_26 : decode cX11_fight 26 = .ok (.aload_n 0, 1) := by decide +kernel
theorem dX11_fight_27 : decode cX11_fight 27 = .ok (.iconst 2, 1) := by decide +kernel
theorem dX11_fight_28 : decode cX11_fight 28 = .ok (.invokevirtual 121, 3) := by decide +kernel
theorem dX11_fight_31 : decode cX11_fight 31 = .ok (.ireturn, 1) := by decide +kernel
theorem dX11_fight_32 : decode cX11_fight 32 = .ok (.iload_n 3, 1) := by decide +kernel
theorem dX11_fight_33 : decode cX11_fight 33 = .ok (.i2l, 1) := by decide +kernel
theorem dX11_fight_34 : decode cX11_fight 34 = .ok (.lconst 0, 1) := by decide +kernel
theorem dX11_fight_35 : decode cX11_fight 35 = .ok (.ldc2_w 382, 3) := by decide +kernel
theorem dX11_fight_38 : decode cX11_fight 38 = .ok (.invokestatic 228, 3) := by decide +kernel
theorem dX11_fight_41 : decode cX11_fight 41 = .ok (.ifCond .eq 14, 3) := by decide +kernel
theorem dX11_fight_44 : decode cX11_fight 44 = .ok (.iload 4, 2) := by decide +kernel
theorem dX11_fight_46 : decode cX11_fight 46 = .ok (.i2l, 1) := by decide +kernel
theorem dX11_fight_47 : decode cX11_fight 47 = .ok (.lconst 0, 1) := by decide +kernel
theorem dX11_fight_48 : decode cX11_fight 48 = .ok (.lconst 1, 1) := by decide +kernel
theorem dX11_fight_49 : decode cX11_fight 49 = .ok (.invokestatic 228, 3) := by decide +kernel
theorem dX11_fight_52 : decode cX11_fight 52 = .ok (.ifCond .ne 9, 3) := by decide +kernel
theorem dX11_fight_55 : decode cX11_fight 55 = .ok (.aload_n 0, 1) := by decide +kernel
theorem dX11_fight_56 : decode cX11_fight 56 = .ok (.iconst 5, 1) := by decide +kernel
theorem dX11_fight_57 : decode cX11_fight 57 = .ok (.invokevirtual 121, 3) := by decide +kernel
theorem dX11_fight_60 : decode cX11_fight 60 = .ok (.ireturn, 1) := by decide +kernel
theorem dX11_fight_61 : decode cX11_fight 61 = .ok (.aload_n 0, 1) := by decide +kernel
theorem dX11_fight_62 : decode cX11_fight 62 = .ok (.aload_n 0, 1) := by decide +kernel
theorem dX11_fight_63 : decode cX11_fight 63 = .ok (.iload_n 1, 1) := by decide +kernel
theorem dX11_fight_64 : decode cX11_fight 64 = .ok (.iload_n 2, 1) := by decide +kernel
theorem dX11_fight_65 : decode cX11_fight 65 = .ok (.iload_n 3, 1) := by decide +kernel
theorem dX11_fight_66 : decode cX11_fight 66 = .ok (.iload 4, 2) := by decide +kernel
theorem dX11_fight_68 : decode cX11_fight 68 = .ok (.ifCond .ne 7, 3) := by decide +kernel
theorem dX11_fight_71 : decode cX11_fight 71 = .ok (.iconst 0, 1) := by decide +kernel
theorem dX11_fight_72 : decode cX11_fight 72 = .ok (.goto 4, 3) := by decide +kernel
theorem dX11_fight_75 : decode cX11_fight 75 = .ok (.iconst 1, 1) := by decide +kernel
theorem dX11_fight_76 : decode cX11_fight 76 = .ok (.invokevirtual 384, 3) := by decide +kernel
theorem dX11_fight_79 : decode cX11_fight 79 = .ok (.aload_n 0, 1) := by decide +kernel
theorem dX11_fight_80 : decode cX11_fight 80 = .ok (.invokevirtual 334, 3) := by decide +kernel
theorem dX11_fight_83 : decode cX11_fight 83 = .ok (.invokevirtual 338, 3) := by decide +kernel
theorem dX11_fight_86 : decode cX11_fight 86 = .ok (.iconst 1, 1) := by decide +kernel
theorem dX11_fight_87 : decode cX11_fight 87 = .ok (.ireturn, 1) := by decide +kernel
def wj_X11_fight_26 (I : HI) (J : HJ)  (Post : Bool → HI → HJ → Prop) : Prop :=
  w_X11_no 2 I J (fun (r_4 : Bool) (I_5 : HI) => (Post r_4 I_5 J))
set_option maxHeartbeats 4000000 in
set_option maxRecDepth 20000 in
theorem wk_X11_fight_26 (g : kf_G) (hg : kf_g g) {x : kf_X} (hx : kf_ok g x RX11 cX11_fight 5 4 107) (I : HI) (J : HJ)  (Post : Bool → HI → HJ → Prop) (hret : ∀ (pc : Nat) (lv : List (Nat × Value)) (v : Bool) (Iy : HI) (Jy : HJ), decode cX11_fight pc = .ok (.ireturn, 1) → Post v Iy Jy → kf_M g x 5 pc lv [.int (kb v)] Iy Jy) (h : wj_X11_fight_26 I J  Post) : kf_M g x 5 26 [(0, .ref (g.2.2.2 72))] [] I J := by
  unfold wj_X11_fight_26 at h
  refine kf_aload_n hx dX11_fight_26 rfl 0 rfl ?_
  refine kf_iconst (v := 2) hx dX11_fight_27 (by decide) ?_
  refine kf_callVbI (st := []) hx (m_X11_no g hg 2 I J _ h) lk_RX11_121 km_X11_no ob_72 rfl (by decide) rfl (Nat.le_of_ble_eq_true rfl) dX11_fight_28 (fun r_4 I_5 h => ?_)
  exact hret _ _ r_4 _ _ dX11_fight_31 h
def wj_X11_fight_55 (I : HI) (J : HJ)  (Post : Bool → HI → HJ → Prop) : Prop :=
  w_X11_no 5 I J (fun (r_8 : Bool) (I_9 : HI) => (Post r_8 I_9 J))
set_option maxHeartbeats 4000000 in
set_option maxRecDepth 20000 in
theorem wk_X11_fight_55 (g : kf_G) (hg : kf_g g) {x : kf_X} (hx : kf_ok g x RX11 cX11_fight 5 4 107) (I : HI) (J : HJ)  (Post : Bool → HI → HJ → Prop) (hret : ∀ (pc : Nat) (lv : List (Nat × Value)) (v : Bool) (Iy : HI) (Jy : HJ), decode cX11_fight pc = .ok (.ireturn, 1) → Post v Iy Jy → kf_M g x 5 pc lv [.int (kb v)] Iy Jy) (h : wj_X11_fight_55 I J  Post) : kf_M g x 5 55 [(0, .ref (g.2.2.2 72))] [] I J := by
  unfold wj_X11_fight_55 at h
  refine kf_aload_n hx dX11_fight_55 rfl 0 rfl ?_
  refine kf_iconst (v := 5) hx dX11_fight_56 (by decide) ?_
  refine kf_callVbI (st := []) hx (m_X11_no g hg 5 I J _ h) lk_RX11_121 km_X11_no ob_72 rfl (by decide) rfl (Nat.le_of_ble_eq_true rfl) dX11_fight_57 (fun r_8 I_9 h => ?_)
  exact hret _ _ r_8 _ _ dX11_fight_60 h
def wj_X11_fight_76 (I : HI) (J : HJ) (t0 : Int32) (t1 : Int32) (t2 : Int32) (t3 : Int32) (Post : Bool → HI → HJ → Prop) : Prop :=
  w_X11_meanOf t3 t2 t1 t0 I J (fun (r_11 : Int64) (I_12 : HI) => (w_X11_whole  I_12 J (fun (r_13 : Int64) => (w_X11_fraction r_11 r_13 I_12 J (fun (J_14 : HJ) => (Post true I_12 J_14))))))
set_option maxHeartbeats 4000000 in
set_option maxRecDepth 20000 in
theorem wk_X11_fight_76 (g : kf_G) (hg : kf_g g) {x : kf_X} (hx : kf_ok g x RX11 cX11_fight 5 4 107) (I : HI) (J : HJ) (t0 : Int32) (t1 : Int32) (t2 : Int32) (t3 : Int32) (Post : Bool → HI → HJ → Prop) (hret : ∀ (pc : Nat) (lv : List (Nat × Value)) (v : Bool) (Iy : HI) (Jy : HJ), decode cX11_fight pc = .ok (.ireturn, 1) → Post v Iy Jy → kf_M g x 5 pc lv [.int (kb v)] Iy Jy) (h : wj_X11_fight_76 I J t0 t1 t2 t3 Post) : kf_M g x 5 76 [(0, .ref (g.2.2.2 72))] [.int t0, .int t1, .int t2, .int t3, .ref (g.2.2.2 72), .ref (g.2.2.2 72)] I J := by
  unfold wj_X11_fight_76 at h
  refine kf_callVlI (st := [.ref (g.2.2.2 72)]) hx (m_X11_meanOf g hg t3 t2 t1 t0 I J _ h) lk_RX11_384 km_X11_meanOf ob_72 rfl (by decide) rfl (Nat.le_of_ble_eq_true rfl) dX11_fight_76 (fun r_11 I_12 h => ?_)
  refine kf_aload_n hx dX11_fight_79 rfl 0 rfl ?_
  refine kf_callVlP (st := [.long r_11, .ref (g.2.2.2 72)]) hx (m_X11_whole g hg  I_12 J _ h) lk_RX11_334 km_X11_whole ob_72 rfl (by decide) rfl (Nat.le_of_ble_eq_true rfl) dX11_fight_80 (fun r_13 h => ?_)
  refine kf_callVvJ (st := []) hx (m_X11_fraction g hg r_11 r_13 I_12 J _ h) lk_RX11_338 km_X11_fraction ob_72 rfl (by decide) rfl (Nat.le_of_ble_eq_true rfl) dX11_fight_83 (fun J_14 h => ?_)
  refine kf_iconst (v := 1) hx dX11_fight_86 (by decide) ?_
  exact hret _ _ true _ _ dX11_fight_87 h
def w_X11_fight (x1 : Int32) (x2 : Int32) (x3 : Int32) (x4 : Int32) (I : HI) (J : HJ) (Post : Bool → HI → HJ → Prop) : Prop :=
  ∀ I_1 : HI, I_1 = hI I 72 1 0 → (∀ I_2 : HI, I_2 = hI I_1 72 0 0 → (w_X11_areSeeds x1 I_2 J (fun (r_3 : Bool) => ((r_3 = false → (wj_X11_fight_26 I_2 J Post)) ∧ (r_3 = true → (w_X11_areSeeds x2 I_2 J (fun (r_6 : Bool) => ((r_6 = true → (w_X11_isIn (Int32.toInt64 x3) 0 20 (fun (r_7 : Bool) => ((r_7 = false → (wj_X11_fight_55 I_2 J Post)) ∧ (r_7 = true → (w_X11_isIn (Int32.toInt64 x4) 0 1 (fun (r_10 : Bool) => ((r_10 = true → ((¬ x4 = 0 → (wj_X11_fight_76 I_2 J 1 x3 x2 x1 Post)) ∧ (x4 = 0 → (wj_X11_fight_76 I_2 J 0 x3 x2 x1 Post)))) ∧ (r_10 = false → (wj_X11_fight_55 I_2 J Post)))))))))) ∧ (r_6 = false → (wj_X11_fight_26 I_2 J Post))))))))))
set_option maxHeartbeats 4000000 in
set_option maxRecDepth 20000 in
theorem we_X11_fight (g : kf_G) (hg : kf_g g) {x : kf_X} (hx : kf_ok g x RX11 cX11_fight 5 4 107) (x1 : Int32) (x2 : Int32) (x3 : Int32) (x4 : Int32) (I : HI) (J : HJ) (Post : Bool → HI → HJ → Prop) (hret : ∀ (pc : Nat) (lv : List (Nat × Value)) (v : Bool) (Iy : HI) (Jy : HJ), decode cX11_fight pc = .ok (.ireturn, 1) → Post v Iy Jy → kf_M g x 5 pc lv [.int (kb v)] Iy Jy) (h : w_X11_fight x1 x2 x3 x4 I J Post) : kf_M g x 5 0 [(0, .ref (g.2.2.2 72)), (1, .int x1), (2, .int x2), (3, .int x3), (4, .int x4)] [] I J := by
  unfold w_X11_fight at h
  refine kf_aload_n hx dX11_fight_0 rfl 0 rfl ?_
  refine kf_iconst (v := 0) hx dX11_fight_1 (by decide) ?_
  refine kf_putI hx sl_72_1 fl_RX11_106 fp_11_1 dX11_fight_2 ?_
  refine kf_nmI (fun I_1 eI_1 => ?_)
  replace h := h I_1 eI_1
  refine kf_aload_n hx dX11_fight_5 rfl 0 rfl ?_
  refine kf_iconst (v := 0) hx dX11_fight_6 (by decide) ?_
  refine kf_putI hx sl_72_0 fl_RX11_109 fp_11_0 dX11_fight_7 ?_
  refine kf_nmI (fun I_2 eI_2 => ?_)
  replace h := h I_2 eI_2
  refine kf_aload_n hx dX11_fight_10 rfl 0 rfl ?_
  refine kf_iload_n hx dX11_fight_11 rfl 1 rfl ?_
  refine kf_callVbP (st := []) hx (m_X11_areSeeds g hg x1 I_2 J _ h) lk_RX11_314 km_X11_areSeeds ob_72 rfl (by decide) rfl (Nat.le_of_ble_eq_true rfl) dX11_fight_12 (fun r_3 h => ?_)
  refine kf_ifB_eq hx 26 dX11_fight_15 (by decide) (fun c => ?_) (fun c => ?_)
  · replace h := h.1 c
    refine kf_sub [0] rfl ?_
    exact wk_X11_fight_26 g hg hx I_2 J  _ hret h
  · replace h := h.2 c
    refine kf_aload_n hx dX11_fight_18 rfl 0 rfl ?_
    refine kf_iload_n hx dX11_fight_19 rfl 2 rfl ?_
    refine kf_callVbP (st := []) hx (m_X11_areSeeds g hg x2 I_2 J _ h) lk_RX11_314 km_X11_areSeeds ob_72 rfl (by decide) rfl (Nat.le_of_ble_eq_true rfl) dX11_fight_20 (fun r_6 h => ?_)
    refine kf_ifB_ne hx 32 dX11_fight_23 (by decide) (fun c => ?_) (fun c => ?_)
    · replace h := h.1 c
      refine kf_iload_n hx dX11_fight_32 rfl 3 rfl ?_
      refine kf_i2l hx dX11_fight_33 ?_
      refine kf_lconst (v := 0) hx dX11_fight_34 (by decide) ?_
      refine kf_ldc2 hx ko_RX11_382 dX11_fight_35 ?_
      refine kf_callSbP (st := []) hx (m_X11_isIn g hg (Int32.toInt64 x3) 0 20 I_2 J _ h) lk_RX11_228 km_X11_isIn rfl (by decide) rfl (Nat.le_of_ble_eq_true rfl) dX11_fight_38 (fun r_7 h => ?_)
      refine kf_ifB_eq hx 55 dX11_fight_41 (by decide) (fun c => ?_) (fun c => ?_)
      · replace h := h.1 c
        refine kf_sub [0] rfl ?_
        exact wk_X11_fight_55 g hg hx I_2 J  _ hret h
      · replace h := h.2 c
        refine kf_iload hx dX11_fight_44 4 rfl ?_
        refine kf_i2l hx dX11_fight_46 ?_
        refine kf_lconst (v := 0) hx dX11_fight_47 (by decide) ?_
        refine kf_lconst (v := 1) hx dX11_fight_48 (by decide) ?_
        refine kf_callSbP (st := []) hx (m_X11_isIn g hg (Int32.toInt64 x4) 0 1 I_2 J _ h) lk_RX11_228 km_X11_isIn rfl (by decide) rfl (Nat.le_of_ble_eq_true rfl) dX11_fight_49 (fun r_10 h => ?_)
        refine kf_ifB_ne hx 61 dX11_fight_52 (by decide) (fun c => ?_) (fun c => ?_)
        · replace h := h.1 c
          refine kf_aload_n hx dX11_fight_61 rfl 0 rfl ?_
          refine kf_aload_n hx dX11_fight_62 rfl 0 rfl ?_
          refine kf_iload_n hx dX11_fight_63 rfl 1 rfl ?_
          refine kf_iload_n hx dX11_fight_64 rfl 2 rfl ?_
          refine kf_iload_n hx dX11_fight_65 rfl 3 rfl ?_
          refine kf_iload hx dX11_fight_66 4 rfl ?_
          refine kf_if_ne hx 75 dX11_fight_68 (by decide) (fun c => ?_) (fun c => ?_)
          · replace h := h.1 c
            refine kf_iconst (v := 1) hx dX11_fight_75 (by decide) ?_
            refine kf_sub [0] rfl ?_
            exact wk_X11_fight_76 g hg hx I_2 J 1 x3 x2 x1 _ hret h
          · replace h := h.2 c
            refine kf_iconst (v := 0) hx dX11_fight_71 (by decide) ?_
            refine kf_goto hx 76 dX11_fight_72 (by decide) ?_
            refine kf_sub [0] rfl ?_
            exact wk_X11_fight_76 g hg hx I_2 J 0 x3 x2 x1 _ hret h
        · replace h := h.2 c
          refine kf_sub [0] rfl ?_
          exact wk_X11_fight_55 g hg hx I_2 J  _ hret h
    · replace h := h.2 c
      refine kf_sub [0] rfl ?_
      exact wk_X11_fight_26 g hg hx I_2 J  _ hret h
set_option maxHeartbeats 4000000 in
set_option maxRecDepth 20000 in
theorem m_X11_fight (g : kf_G) (hg : kf_g g) (x1 : Int32) (x2 : Int32) (x3 : Int32) (x4 : Int32) (I : HI) (J : HJ) (Post : Bool → HI → HJ → Prop) (h : w_X11_fight x1 x2 x3 x4 I J Post) : kf_Mb g yX11_fight (kf_W yX11_fight cX11_fight 5 (Option.some Jvm.ClassFile.FieldType.boolean)) 4 107 [.ref (g.2.2.2 72), .int x1, .int x2, .int x3, .int x4] I J Post :=
  kf_entb hg (by decide) (Nat.le_of_ble_eq_true rfl) rfl (fun x hx hr => we_X11_fight g hg hx x1 x2 x3 x4 I J Post (fun pc lv v I' J' hd hP => hr pc lv v I' J' hd hP) h)
theorem dX11_answer_0 : decode cX11_answer 0 = .ok (.aload_n 0, 1) := by decide +kernel
theorem dX11_answer_1 : decode cX11_answer 1 = .ok (.iconst 0, 1) := by decide +kernel
theorem dX11_answer_2 : decode cX11_answer 2 = .ok (.putfield 106, 3) := by decide +kernel
theorem dX11_answer_5 : decode cX11_answer 5 = .ok (.aload_n 0, 1) := by decide +kernel
theorem dX11_answer_6 : decode cX11_answer 6 = .ok (.iconst 0, 1) := by decide +kernel
theorem dX11_answer_7 : decode cX11_answer 7 = .ok (.putfield 109, 3) := by decide +kernel
theorem dX11_answer_10 : decode cX11_answer 10 = .ok (.aload_n 0, 1) := by decide +kernel
theorem dX11_answer_11 : decode cX11_answer 11 = .ok (.iload_n 1, 1) := by decide +kernel
theorem dX11_answer_12 : decode cX11_answer 12 = .ok (.invokevirtual 314, 3) := by decide +kernel
theorem dX11_answer_15 : decode cX11_answer 15 = .ok (.ifCond .ne 9, 3) := by decide +kernel
theorem dX11_answer_18 : decode cX11_answer 18 = .ok (.aload_n 0, 1) := by decide +kernel
theorem dX11_answer_19 : decode cX11_answer 19 = .ok (.iconst 2, 1) := by decide +kernel
theorem dX11_answer_20 : decode cX11_answer 20 = .ok (.invokevirtual 272, 3) := by decide +kernel
theorem dX11_answer_23 : decode cX11_answer 23 = .ok (.ireturn, 1) := by decide +kernel
theorem dX11_answer_24 : decode cX11_answer 24 = .ok (.iload_n 2, 1) := by decide +kernel
theorem dX11_answer_25 : decode cX11_answer 25 = .ok (.i2l, 1) := by decide +kernel
theorem dX11_answer_26 : decode cX11_answer 26 = .ok (.lconst 0, 1) := by decide +kernel
theorem dX11_answer_27 : decode cX11_answer 27 = .ok (.ldc2_w 382, 3) := by decide +kernel
theorem dX11_answer_30 : decode cX11_answer 30 = .ok (.invokestatic 228, 3) := by decide +kernel
theorem dX11_answer_33 : decode cX11_answer 33 = .ok (.ifCond .ne 9, 3) := by decide +kernel
theorem dX11_answer_36 : decode cX11_answer 36 = .ok (.aload_n 0, 1) := by decide +kernel
theorem dX11_answer_37 : decode cX11_answer 37 = .ok (.iconst 5, 1) := by decide +kernel
theorem dX11_answer_38 : decode cX11_answer 38 = .ok (.invokevirtual 272, 3) := by decide +kernel
theorem dX11_answer_41 : decode cX11_answer 41 = .ok (.ireturn, 1) := by decide +kernel
theorem dX11_answer_42 : decode cX11_answer 42 = .ok (.aload_n 0, 1) := by decide +kernel
theorem dX11_answer_43 : decode cX11_answer 43 = .ok (.getfield 287, 3) := by decide +kernel
theorem dX11_answer_46 : decode cX11_answer 46 = .ok (.ifCond .ne 10, 3) := by decide +kernel
theorem dX11_answer_49 : decode cX11_answer 49 = .ok (.aload_n 0, 1) := by decide +kernel
theorem dX11_answer_50 : decode cX11_answer 50 = .ok (.bipush 8, 2) := by decide +kernel
theorem dX11_answer_52 : decode cX11_answer 52 = .ok (.invokevirtual 272, 3) := by decide +kernel
theorem dX11_answer_55 : decode cX11_answer 55 = .ok (.ireturn, 1) := by decide +kernel
theorem dX11_answer_56 : decode cX11_answer 56 = .ok (.iconst (-1), 1) := by decide +kernel
theorem dX11_answer_57 : decode cX11_answer 57 = .ok (.istore_n 3, 1) := by decide +kernel
theorem dX11_answer_58 : decode cX11_answer 58 = .ok (.lconst 0, 1) := by decide +kernel
theorem dX11_answer_59 : decode cX11_answer 59 = .ok (.lstore 4, 2) := by decide +kernel
theorem dX11_answer_61 : decode cX11_answer 61 = .ok (.iconst 0, 1) := by decide +kernel
theorem dX11_answer_62 : decode cX11_answer 62 = .ok (.istore 6, 2) := by decide +kernel
theorem dX11_answer_64 : decode cX11_answer 64 = .ok (.iload 6, 2) := by decide +kernel
theorem dX11_answer_66 : decode cX11_answer 66 = .ok (.aload_n 0, 1) := by decide +kernel
theorem dX11_answer_67 : decode cX11_answer 67 = .ok (.getfield 287, 3) := by decide +kernel
theorem dX11_answer_70 : decode cX11_answer 70 = .ok (.if_icmp .ge 44, 3) := by decide +kernel
theorem dX11_answer_73 : decode cX11_answer 73 = .ok (.aload_n 0, 1) := by decide +kernel
theorem dX11_answer_74 : decode cX11_answer 74 = .ok (.iload_n 1, 1) := by decide +kernel
theorem dX11_answer_75 : decode cX11_answer 75 = .ok (.iconst 1, 1) := by decide +kernel
theorem dX11_answer_76 : decode cX11_answer 76 = .ok (.iload 6, 2) := by decide +kernel
theorem dX11_answer_78 : decode cX11_answer 78 = .ok (.ishl, 1) := by decide +kernel
theorem dX11_answer_79 : decode cX11_answer 79 = .ok (.iload_n 2, 1) := by decide +kernel
theorem dX11_answer_80 : decode cX11_answer 80 = .ok (.iconst 1, 1) := by decide +kernel
theorem dX11_answer_81 : decode cX11_answer 81 = .ok (.invokevirtual 384, 3) := by decide +kernel
theorem dX11_answer_84 : decode cX11_answer 84 = .ok (.lstore 7, 2) := by decide +kernel
theorem dX11_answer_86 : decode cX11_answer 86 = .ok (.iload_n 3, 1) := by decide +kernel
theorem dX11_answer_87 : decode cX11_answer 87 = .ok (.ifCond .lt 14, 3) := by decide +kernel
theorem dX11_answer_90 : decode cX11_answer 90 = .ok (.lload 7, 2) := by decide +kernel
theorem dX11_answer_92 : decode cX11_answer 92 = .ok (.lload 4, 2) := by decide +kernel
theorem dX11_answer_94 : decode cX11_answer 94 = .ok (.lcmp, 1) := by decide +kernel
theorem dX11_answer_95 : decode cX11_answer 95 = .ok (.ifCond .gt 6, 3) := by decide +kernel
theorem dX11_answer_98 : decode cX11_answer 98 = .ok (.goto 10, 3) := by decide +kernel
theorem dX11_answer_101 : decode cX11_answer 101 = .ok (.iload 6, 2) := by decide +kernel
theorem dX11_answer_103 : decode cX11_answer 103 = .ok (.istore_n 3, 1) := by decide +kernel
theorem dX11_answer_104 : decode cX11_answer 104 = .ok (.lload 7, 2) := by decide +kernel
theorem dX11_answer_106 : decode cX11_answer 106 = .ok (.lstore 4, 2) := by decide +kernel
theorem dX11_answer_108 : decode cX11_answer 108 = .ok (.iinc 6 1, 3) := by decide +kernel
theorem dX11_answer_111 : decode cX11_answer 111 = .ok (.goto (-47), 3) := by decide +kernel
theorem dX11_answer_114 : decode cX11_answer 114 = .ok (.aload_n 0, 1) := by decide +kernel
theorem dX11_answer_115 : decode cX11_answer 115 = .ok (.lload 4, 2) := by decide +kernel
theorem dX11_answer_117 : decode cX11_answer 117 = .ok (.aload_n 0, 1) := by decide +kernel
theorem dX11_answer_118 : decode cX11_answer 118 = .ok (.invokevirtual 334, 3) := by decide +kernel
theorem dX11_answer_121 : decode cX11_answer 121 = .ok (.invokevirtual 338, 3) := by decide +kernel
theorem dX11_answer_124 : decode cX11_answer 124 = .ok (.iload_n 3, 1) := by decide +kernel
theorem dX11_answer_125 : decode cX11_answer 125 = .ok (.ireturn, 1) := by decide +kernel
def wb_X11_answer_64 (J : HJ) (x1 : Int32) (x2 : Int32) (Post : Int32 → HI → HJ → Prop) (E64 : Int32 → Int64 → HI → Prop) (K64 : (Int32 × Int64 × Int32 × HI) → Prop) (s : Int32 × Int64 × Int32 × HI) : Prop :=
  match s with
  | (x3, x4, x6, I) => ((I 72 20) ≤ x6 → (E64 x3 x4 I)) ∧ (¬ (I 72 20) ≤ x6 → (w_X11_meanOf x1 (1 <<< (x6 &&& 31)) x2 1 I J (fun (r_5 : Int64) (I_6 : HI) => ((x3 < 0 → (K64 (x6, r_5, (x6 + 1), I_6))) ∧ (¬ x3 < 0 → ((x4 < r_5 → (K64 (x6, r_5, (x6 + 1), I_6))) ∧ (¬ x4 < r_5 → (K64 (x3, x4, (x6 + 1), I_6)))))))))
set_option maxHeartbeats 4000000 in
set_option maxRecDepth 20000 in
theorem ws_X11_answer_64 (g : kf_G) (hg : kf_g g) {x : kf_X} (hx : kf_ok g x RX11 cX11_answer 9 4 107) (J : HJ) (x1 : Int32) (x2 : Int32) (Post : Int32 → HI → HJ → Prop) (hret : ∀ (pc : Nat) (lv : List (Nat × Value)) (v : Int32) (Iy : HI) (Jy : HJ), decode cX11_answer pc = .ok (.ireturn, 1) → Post v Iy Jy → kf_M g x 9 pc lv [.int v] Iy Jy) (E64 : Int32 → Int64 → HI → Prop) (hE64 : ∀ (y3 : Int32) (y4 : Int64) (Iy : HI), E64 y3 y4 Iy → kf_M g x 9 114 [(0, .ref (g.2.2.2 72)), (3, .int y3), (4, .long y4)] [] Iy J) (K64 : (Int32 × Int64 × Int32 × HI) → Prop) (hK64 : ∀ (y3 : Int32) (y4 : Int64) (y6 : Int32) (Iy : HI), K64 (y3, y4, y6, Iy) → kf_M g x 9 64 [(0, .ref (g.2.2.2 72)), (1, .int x1), (2, .int x2), (3, .int y3), (4, .long y4), (6, .int y6)] [] Iy J) (x3 : Int32) (x4 : Int64) (x6 : Int32) (I : HI) (h : wb_X11_answer_64 J x1 x2 Post E64 K64 (x3, x4, x6, I)) : kf_M g x 9 64 [(0, .ref (g.2.2.2 72)), (1, .int x1), (2, .int x2), (3, .int x3), (4, .long x4), (6, .int x6)] [] I J := by
  unfold wb_X11_answer_64 at h
  refine kf_iload hx dX11_answer_64 5 rfl ?_
  refine kf_aload_n hx dX11_answer_66 rfl 0 rfl ?_
  refine kf_getI hx sl_72_20 fl_RX11_287 dX11_answer_67 ?_
  refine kf_icmp_ge hx 114 dX11_answer_70 (by decide) (fun c => ?_) (fun c => ?_)
  · replace h := h.1 c
    refine kf_sub [0, 3, 4] rfl ?_
    exact hE64 _ _ _ h
  · replace h := h.2 c
    refine kf_aload_n hx dX11_answer_73 rfl 0 rfl ?_
    refine kf_iload_n hx dX11_answer_74 rfl 1 rfl ?_
    refine kf_iconst (v := 1) hx dX11_answer_75 (by decide) ?_
    refine kf_iload hx dX11_answer_76 5 rfl ?_
    refine kf_ishl hx dX11_answer_78 ?_
    refine kf_iload_n hx dX11_answer_79 rfl 2 rfl ?_
    refine kf_iconst (v := 1) hx dX11_answer_80 (by decide) ?_
    refine kf_callVlI (st := []) hx (m_X11_meanOf g hg x1 (1 <<< (x6 &&& 31)) x2 1 I J _ h) lk_RX11_384 km_X11_meanOf ob_72 rfl (by decide) rfl (Nat.le_of_ble_eq_true rfl) dX11_answer_81 (fun r_5 I_6 h => ?_)
    refine kf_lstore (lv' := [(7, .long r_5), (0, .ref (g.2.2.2 72)), (1, .int x1), (2, .int x2), (3, .int x3), (4, .long x4), (6, .int x6)]) hx dX11_answer_84 (by decide) rfl ?_
    refine kf_iload_n hx dX11_answer_86 rfl 4 rfl ?_
    refine kf_if_lt hx 101 dX11_answer_87 (by decide) (fun c => ?_) (fun c => ?_)
    · replace h := h.1 c
      refine kf_iload hx dX11_answer_101 6 rfl ?_
      refine kf_istore_n (lv' := [(3, .int x6), (7, .long r_5), (0, .ref (g.2.2.2 72)), (1, .int x1), (2, .int x2), (4, .long x4), (6, .int x6)]) hx dX11_answer_103 rfl (by decide) rfl ?_
      refine kf_lload hx dX11_answer_104 1 rfl ?_
      refine kf_lstore (lv' := [(4, .long r_5), (3, .int x6), (7, .long r_5), (0, .ref (g.2.2.2 72)), (1, .int x1), (2, .int x2), (6, .int x6)]) hx dX11_answer_106 (by decide) rfl ?_
      refine kf_iinc (w := (x6 + 1)) (lv' := [(6, .int (x6 + 1)), (4, .long r_5), (3, .int x6), (7, .long r_5), (0, .ref (g.2.2.2 72)), (1, .int x1), (2, .int x2)]) hx dX11_answer_108 6 rfl rfl (by decide) rfl ?_
      refine kf_goto hx 64 dX11_answer_111 (by decide) ?_
      refine kf_sub [4, 5, 6, 2, 1, 0] rfl ?_
      exact hK64 _ _ _ _ h
    · replace h := h.2 c
      refine kf_lload hx dX11_answer_90 0 rfl ?_
      refine kf_lload hx dX11_answer_92 5 rfl ?_
      refine kf_l_gt hx 101 dX11_answer_94 dX11_answer_95 (by decide) (fun c => ?_) (fun c => ?_)
      · replace h := h.1 c
        refine kf_iload hx dX11_answer_101 6 rfl ?_
        refine kf_istore_n (lv' := [(3, .int x6), (7, .long r_5), (0, .ref (g.2.2.2 72)), (1, .int x1), (2, .int x2), (4, .long x4), (6, .int x6)]) hx dX11_answer_103 rfl (by decide) rfl ?_
        refine kf_lload hx dX11_answer_104 1 rfl ?_
        refine kf_lstore (lv' := [(4, .long r_5), (3, .int x6), (7, .long r_5), (0, .ref (g.2.2.2 72)), (1, .int x1), (2, .int x2), (6, .int x6)]) hx dX11_answer_106 (by decide) rfl ?_
        refine kf_iinc (w := (x6 + 1)) (lv' := [(6, .int (x6 + 1)), (4, .long r_5), (3, .int x6), (7, .long r_5), (0, .ref (g.2.2.2 72)), (1, .int x1), (2, .int x2)]) hx dX11_answer_108 6 rfl rfl (by decide) rfl ?_
        refine kf_goto hx 64 dX11_answer_111 (by decide) ?_
        refine kf_sub [4, 5, 6, 2, 1, 0] rfl ?_
        exact hK64 _ _ _ _ h
      · replace h := h.2 c
        refine kf_goto hx 108 dX11_answer_98 (by decide) ?_
        refine kf_iinc (w := (x6 + 1)) (lv' := [(6, .int (x6 + 1)), (7, .long r_5), (0, .ref (g.2.2.2 72)), (1, .int x1), (2, .int x2), (3, .int x3), (4, .long x4)]) hx dX11_answer_108 6 rfl rfl (by decide) rfl ?_
        refine kf_goto hx 64 dX11_answer_111 (by decide) ?_
        refine kf_sub [2, 3, 4, 5, 6, 0] rfl ?_
        exact hK64 _ _ _ _ h
theorem wl_X11_answer_64 (g : kf_G) (hg : kf_g g) {x : kf_X} (hx : kf_ok g x RX11 cX11_answer 9 4 107) (J : HJ) (x1 : Int32) (x2 : Int32) (Post : Int32 → HI → HJ → Prop) (hret : ∀ (pc : Nat) (lv : List (Nat × Value)) (v : Int32) (Iy : HI) (Jy : HJ), decode cX11_answer pc = .ok (.ireturn, 1) → Post v Iy Jy → kf_M g x 9 pc lv [.int v] Iy Jy) (E64 : Int32 → Int64 → HI → Prop) (hE64 : ∀ (y3 : Int32) (y4 : Int64) (Iy : HI), E64 y3 y4 Iy → kf_M g x 9 114 [(0, .ref (g.2.2.2 72)), (3, .int y3), (4, .long y4)] [] Iy J) : ∀ (n : Nat) (x3 : Int32) (x4 : Int64) (x6 : Int32) (I : HI), lp (wb_X11_answer_64 J x1 x2 Post E64) n (x3, x4, x6, I) → kf_M g x 9 64 [(0, .ref (g.2.2.2 72)), (1, .int x1), (2, .int x2), (3, .int x3), (4, .long x4), (6, .int x6)] [] I J := by
  intro n
  induction n with
  | zero => intro x3 x4 x6 I h; exact h.elim
  | succ n ih => intro x3 x4 x6 I h; exact ws_X11_answer_64 g hg hx J x1 x2 Post hret E64 hE64 (lp (wb_X11_answer_64 J x1 x2 Post E64) n) ih x3 x4 x6 I h
def w_X11_answer (x1 : Int32) (x2 : Int32) (I : HI) (J : HJ) (Post : Int32 → HI → HJ → Prop) : Prop :=
  ∀ I_1 : HI, I_1 = hI I 72 1 0 → (∀ I_2 : HI, I_2 = hI I_1 72 0 0 → (w_X11_areSeeds x1 I_2 J (fun (r_3 : Bool) => ((r_3 = true → (w_X11_isIn (Int32.toInt64 x2) 0 20 (fun (r_4 : Bool) => ((r_4 = true → ((¬ (I_2 72 20) = 0 → (∃ n, lp (wb_X11_answer_64 J x1 x2 Post (fun (x3_7 : Int32) (x4_8 : Int64) (I_9 : HI) => w_X11_whole  I_9 J (fun (r_10 : Int64) => (w_X11_fraction x4_8 r_10 I_9 J (fun (J_11 : HJ) => (Post x3_7 I_9 J_11)))))) n ((-1), 0, 0, I_2))) ∧ ((I_2 72 20) = 0 → (w_X11_refusedBy 8 I_2 J (fun (r_12 : Int32) (I_13 : HI) => (Post r_12 I_13 J)))))) ∧ (r_4 = false → (w_X11_refusedBy 5 I_2 J (fun (r_14 : Int32) (I_15 : HI) => (Post r_14 I_15 J)))))))) ∧ (r_3 = false → (w_X11_refusedBy 2 I_2 J (fun (r_16 : Int32) (I_17 : HI) => (Post r_16 I_17 J))))))))
set_option maxHeartbeats 4000000 in
set_option maxRecDepth 20000 in
theorem we_X11_answer (g : kf_G) (hg : kf_g g) {x : kf_X} (hx : kf_ok g x RX11 cX11_answer 9 4 107) (x1 : Int32) (x2 : Int32) (I : HI) (J : HJ) (Post : Int32 → HI → HJ → Prop) (hret : ∀ (pc : Nat) (lv : List (Nat × Value)) (v : Int32) (Iy : HI) (Jy : HJ), decode cX11_answer pc = .ok (.ireturn, 1) → Post v Iy Jy → kf_M g x 9 pc lv [.int v] Iy Jy) (h : w_X11_answer x1 x2 I J Post) : kf_M g x 9 0 [(0, .ref (g.2.2.2 72)), (1, .int x1), (2, .int x2)] [] I J := by
  unfold w_X11_answer at h
  refine kf_aload_n hx dX11_answer_0 rfl 0 rfl ?_
  refine kf_iconst (v := 0) hx dX11_answer_1 (by decide) ?_
  refine kf_putI hx sl_72_1 fl_RX11_106 fp_11_1 dX11_answer_2 ?_
  refine kf_nmI (fun I_1 eI_1 => ?_)
  replace h := h I_1 eI_1
  refine kf_aload_n hx dX11_answer_5 rfl 0 rfl ?_
  refine kf_iconst (v := 0) hx dX11_answer_6 (by decide) ?_
  refine kf_putI hx sl_72_0 fl_RX11_109 fp_11_0 dX11_answer_7 ?_
  refine kf_nmI (fun I_2 eI_2 => ?_)
  replace h := h I_2 eI_2
  refine kf_aload_n hx dX11_answer_10 rfl 0 rfl ?_
  refine kf_iload_n hx dX11_answer_11 rfl 1 rfl ?_
  refine kf_callVbP (st := []) hx (m_X11_areSeeds g hg x1 I_2 J _ h) lk_RX11_314 km_X11_areSeeds ob_72 rfl (by decide) rfl (Nat.le_of_ble_eq_true rfl) dX11_answer_12 (fun r_3 h => ?_)
  refine kf_ifB_ne hx 24 dX11_answer_15 (by decide) (fun c => ?_) (fun c => ?_)
  · replace h := h.1 c
    refine kf_iload_n hx dX11_answer_24 rfl 2 rfl ?_
    refine kf_i2l hx dX11_answer_25 ?_
    refine kf_lconst (v := 0) hx dX11_answer_26 (by decide) ?_
    refine kf_ldc2 hx ko_RX11_382 dX11_answer_27 ?_
    refine kf_callSbP (st := []) hx (m_X11_isIn g hg (Int32.toInt64 x2) 0 20 I_2 J _ h) lk_RX11_228 km_X11_isIn rfl (by decide) rfl (Nat.le_of_ble_eq_true rfl) dX11_answer_30 (fun r_4 h => ?_)
    refine kf_ifB_ne hx 42 dX11_answer_33 (by decide) (fun c => ?_) (fun c => ?_)
    · replace h := h.1 c
      refine kf_aload_n hx dX11_answer_42 rfl 0 rfl ?_
      refine kf_getI hx sl_72_20 fl_RX11_287 dX11_answer_43 ?_
      refine kf_if_ne hx 56 dX11_answer_46 (by decide) (fun c => ?_) (fun c => ?_)
      · replace h := h.1 c
        refine kf_iconst (v := (-1)) hx dX11_answer_56 (by decide) ?_
        refine kf_istore_n (lv' := [(3, .int (-1)), (0, .ref (g.2.2.2 72)), (1, .int x1), (2, .int x2)]) hx dX11_answer_57 rfl (by decide) rfl ?_
        refine kf_lconst (v := 0) hx dX11_answer_58 (by decide) ?_
        refine kf_lstore (lv' := [(4, .long 0), (3, .int (-1)), (0, .ref (g.2.2.2 72)), (1, .int x1), (2, .int x2)]) hx dX11_answer_59 (by decide) rfl ?_
        refine kf_iconst (v := 0) hx dX11_answer_61 (by decide) ?_
        refine kf_istore (lv' := [(6, .int 0), (4, .long 0), (3, .int (-1)), (0, .ref (g.2.2.2 72)), (1, .int x1), (2, .int x2)]) hx dX11_answer_62 (by decide) rfl ?_
        obtain ⟨n, h⟩ := h
        refine kf_sub [3, 4, 5, 2, 1, 0] rfl ?_
        refine wl_X11_answer_64 g hg hx J x1 x2 _ hret _ (fun x3_7 x4_8 I_9 h => ?_) n _ _ _ _ h
        refine kf_aload_n hx dX11_answer_114 rfl 0 rfl ?_
        refine kf_lload hx dX11_answer_115 2 rfl ?_
        refine kf_aload_n hx dX11_answer_117 rfl 0 rfl ?_
        refine kf_callVlP (st := [.long x4_8, .ref (g.2.2.2 72)]) hx (m_X11_whole g hg  I_9 J _ h) lk_RX11_334 km_X11_whole ob_72 rfl (by decide) rfl (Nat.le_of_ble_eq_true rfl) dX11_answer_118 (fun r_10 h => ?_)
        refine kf_callVvJ (st := []) hx (m_X11_fraction g hg x4_8 r_10 I_9 J _ h) lk_RX11_338 km_X11_fraction ob_72 rfl (by decide) rfl (Nat.le_of_ble_eq_true rfl) dX11_answer_121 (fun J_11 h => ?_)
        refine kf_iload_n hx dX11_answer_124 rfl 1 rfl ?_
        exact hret _ _ x3_7 _ _ dX11_answer_125 h
      · replace h := h.2 c
        refine kf_aload_n hx dX11_answer_49 rfl 0 rfl ?_
        refine kf_bipush (v := 8) hx dX11_answer_50 (by decide) ?_
        refine kf_callViI (st := []) hx (m_X11_refusedBy g hg 8 I_2 J _ h) lk_RX11_272 km_X11_refusedBy ob_72 rfl (by decide) rfl (Nat.le_of_ble_eq_true rfl) dX11_answer_52 (fun r_12 I_13 h => ?_)
        exact hret _ _ r_12 _ _ dX11_answer_55 h
    · replace h := h.2 c
      refine kf_aload_n hx dX11_answer_36 rfl 0 rfl ?_
      refine kf_iconst (v := 5) hx dX11_answer_37 (by decide) ?_
      refine kf_callViI (st := []) hx (m_X11_refusedBy g hg 5 I_2 J _ h) lk_RX11_272 km_X11_refusedBy ob_72 rfl (by decide) rfl (Nat.le_of_ble_eq_true rfl) dX11_answer_38 (fun r_14 I_15 h => ?_)
      exact hret _ _ r_14 _ _ dX11_answer_41 h
  · replace h := h.2 c
    refine kf_aload_n hx dX11_answer_18 rfl 0 rfl ?_
    refine kf_iconst (v := 2) hx dX11_answer_19 (by decide) ?_
    refine kf_callViI (st := []) hx (m_X11_refusedBy g hg 2 I_2 J _ h) lk_RX11_272 km_X11_refusedBy ob_72 rfl (by decide) rfl (Nat.le_of_ble_eq_true rfl) dX11_answer_20 (fun r_16 I_17 h => ?_)
    exact hret _ _ r_16 _ _ dX11_answer_23 h
set_option maxHeartbeats 4000000 in
set_option maxRecDepth 20000 in
theorem m_X11_answer (g : kf_G) (hg : kf_g g) (x1 : Int32) (x2 : Int32) (I : HI) (J : HJ) (Post : Int32 → HI → HJ → Prop) (h : w_X11_answer x1 x2 I J Post) : kf_Mi g yX11_answer (kf_W yX11_answer cX11_answer 9 (Option.some Jvm.ClassFile.FieldType.int)) 4 107 [.ref (g.2.2.2 72), .int x1, .int x2] I J Post :=
  kf_enti hg (by decide) (Nat.le_of_ble_eq_true rfl) rfl (fun x hx hr => we_X11_answer g hg hx x1 x2 I J Post (fun pc lv v I' J' hd hP => hr pc lv v I' J' hd hP) h)
theorem dX11_latest_0 : decode cX11_latest 0 = .ok (.aload_n 0, 1) := by decide +kernel
theorem dX11_latest_1 : decode cX11_latest 1 = .ok (.iconst 0, 1) := by decide +kernel
theorem dX11_latest_2 : decode cX11_latest 2 = .ok (.putfield 106, 3) := by decide +kernel
theorem dX11_latest_5 : decode cX11_latest 5 = .ok (.aload_n 0, 1) := by decide +kernel
theorem dX11_latest_6 : decode cX11_latest 6 = .ok (.iconst 0, 1) := by decide +kernel
theorem dX11_latest_7 : decode cX11_latest 7 = .ok (.putfield 109, 3) := by decide +kernel
theorem dX11_latest_10 : decode cX11_latest 10 = .ok (.aload_n 0, 1) := by decide +kernel
theorem dX11_latest_11 : decode cX11_latest 11 = .ok (.iload_n 1, 1) := by decide +kernel
theorem dX11_latest_12 : decode cX11_latest 12 = .ok (.invokevirtual 314, 3) := by decide +kernel
theorem dX11_latest_15 : decode cX11_latest 15 = .ok (.ifCond .eq 11, 3) := by decide +kernel
theorem dX11_latest_18 : decode cX11_latest 18 = .ok (.aload_n 0, 1) := by decide +kernel
theorem dX11_latest_19 : decode cX11_latest 19 = .ok (.iload_n 2, 1) := by decide +kernel
theorem dX11_latest_20 : decode cX11_latest 20 = .ok (.invokevirtual 296, 3) := by decide +kernel
theorem dX11_latest_23 : decode cX11_latest 23 = .ok (.ifCond .ne 9, 3) := by decide +kernel
theorem dX11_latest_26 : decode cX11_latest 26 = .ok (.aload_n 0, 1) := by decide +kernel
theorem dX11_latest_27 : decode cX11_latest 27 = .ok (.iconst 2, 1) := by decide +kernel
theorem dX11_latest_28 : decode cX11_latest 28 = .ok (.invokevirtual 272, 3) := by decide +kernel
theorem dX11_latest_31 : decode cX11_latest 31 = .ok (.ireturn, 1) := by decide +kernel
theorem dX11_latest_32 : decode cX11_latest 32 = .ok (.aload_n 0, 1) := by decide +kernel
theorem dX11_latest_33 : decode cX11_latest 33 = .ok (.iload_n 1, 1) := by decide +kernel
theorem dX11_latest_34 : decode cX11_latest 34 = .ok (.iconst 0, 1) := by decide +kernel
theorem dX11_latest_35 : decode cX11_latest 35 = .ok (.iconst 0, 1) := by decide +kernel
theorem dX11_latest_36 : decode cX11_latest 36 = .ok (.iconst 0, 1) := by decide +kernel
theorem dX11_latest_37 : decode cX11_latest 37 = .ok (.invokevirtual 384, 3) := by decide +kernel
theorem dX11_latest_40 : decode cX11_latest 40 = .ok (.lstore_n 3, 1) := by decide +kernel
theorem dX11_latest_41 : decode cX11_latest 41 = .ok (.bipush 20, 2) := by decide +kernel
theorem dX11_latest_43 : decode cX11_latest 43 = .ok (.istore 5, 2) := by decide +kernel
theorem dX11_latest_45 : decode cX11_latest 45 = .ok (.iload 5, 2) := by decide +kernel
theorem dX11_latest_47 : decode cX11_latest 47 = .ok (.ifCond .lt 32, 3) := by decide +kernel
theorem dX11_latest_50 : decode cX11_latest 50 = .ok (.ldc2_w 364, 3) := by decide +kernel
theorem dX11_latest_53 : decode cX11_latest 53 = .ok (.aload_n 0, 1) := by decide +kernel
theorem dX11_latest_54 : decode cX11_latest 54 = .ok (.iload_n 1, 1) := by decide +kernel
theorem dX11_latest_55 : decode cX11_latest 55 = .ok (.iconst 1, 1) := by decide +kernel
theorem dX11_latest_56 : decode cX11_latest 56 = .ok (.iload_n 2, 1) := by decide +kernel
theorem dX11_latest_57 : decode cX11_latest 57 = .ok (.ishl, 1) := by decide +kernel
theorem dX11_latest_58 : decode cX11_latest 58 = .ok (.iload 5, 2) := by decide +kernel
theorem dX11_latest_60 : decode cX11_latest 60 = .ok (.iconst 0, 1) := by decide +kernel
theorem dX11_latest_61 : decode cX11_latest 61 = .ok (.invokevirtual 384, 3) := by decide +kernel
theorem dX11_latest_64 : decode cX11_latest 64 = .ok (.lmul, 1) := by decide +kernel
theorem dX11_latest_65 : decode cX11_latest 65 = .ok (.lload_n 3, 1) := by decide +kernel
theorem dX11_latest_66 : decode cX11_latest 66 = .ok (.lcmp, 1) := by decide +kernel
theorem dX11_latest_67 : decode cX11_latest 67 = .ok (.ifCond .gt 6, 3) := by decide +kernel
theorem dX11_latest_70 : decode cX11_latest 70 = .ok (.iload 5, 2) := by decide +kernel
theorem dX11_latest_72 : decode cX11_latest 72 = .ok (.ireturn, 1) := by decide +kernel
theorem dX11_latest_73 : decode cX11_latest 73 = .ok (.iinc 5 (-1), 3) := by decide +kernel
theorem dX11_latest_76 : decode cX11_latest 76 = .ok (.goto (-31), 3) := by decide +kernel
theorem dX11_latest_79 : decode cX11_latest 79 = .ok (.aload_n 0, 1) := by decide +kernel
theorem dX11_latest_80 : decode cX11_latest 80 = .ok (.bipush 9, 2) := by decide +kernel
theorem dX11_latest_82 : decode cX11_latest 82 = .ok (.invokevirtual 272, 3) := by decide +kernel
theorem dX11_latest_85 : decode cX11_latest 85 = .ok (.ireturn, 1) := by decide +kernel
def wj_X11_latest_26 (I : HI) (J : HJ)  (Post : Int32 → HI → Prop) : Prop :=
  w_X11_refusedBy 2 I J (fun (r_4 : Int32) (I_5 : HI) => (Post r_4 I_5))
set_option maxHeartbeats 4000000 in
set_option maxRecDepth 20000 in
theorem wk_X11_latest_26 (g : kf_G) (hg : kf_g g) {x : kf_X} (hx : kf_ok g x RX11 cX11_latest 6 4 107) (I : HI) (J : HJ)  (Post : Int32 → HI → Prop) (hret : ∀ (pc : Nat) (lv : List (Nat × Value)) (v : Int32) (Iy : HI), decode cX11_latest pc = .ok (.ireturn, 1) → Post v Iy → kf_M g x 6 pc lv [.int v] Iy J) (h : wj_X11_latest_26 I J  Post) : kf_M g x 6 26 [(0, .ref (g.2.2.2 72))] [] I J := by
  unfold wj_X11_latest_26 at h
  refine kf_aload_n hx dX11_latest_26 rfl 0 rfl ?_
  refine kf_iconst (v := 2) hx dX11_latest_27 (by decide) ?_
  refine kf_callViI (st := []) hx (m_X11_refusedBy g hg 2 I J _ h) lk_RX11_272 km_X11_refusedBy ob_72 rfl (by decide) rfl (Nat.le_of_ble_eq_true rfl) dX11_latest_28 (fun r_4 I_5 h => ?_)
  exact hret _ _ r_4 _ dX11_latest_31 h
def wb_X11_latest_45 (J : HJ) (x1 : Int32) (x2 : Int32) (x3 : Int64) (Post : Int32 → HI → Prop) (E45 : HI → Prop) (K45 : (Int32 × HI) → Prop) (s : Int32 × HI) : Prop :=
  match s with
  | (x5, I) => (x5 < 0 → (E45 I)) ∧ (¬ x5 < 0 → (w_X11_meanOf x1 (1 <<< (x2 &&& 31)) x5 0 I J (fun (r_9 : Int64) (I_10 : HI) => ((x3 < (2 * r_9) → (K45 ((x5 + (-1)), I_10))) ∧ (¬ x3 < (2 * r_9) → (Post x5 I_10))))))
set_option maxHeartbeats 4000000 in
set_option maxRecDepth 20000 in
theorem ws_X11_latest_45 (g : kf_G) (hg : kf_g g) {x : kf_X} (hx : kf_ok g x RX11 cX11_latest 6 4 107) (J : HJ) (x1 : Int32) (x2 : Int32) (x3 : Int64) (Post : Int32 → HI → Prop) (hret : ∀ (pc : Nat) (lv : List (Nat × Value)) (v : Int32) (Iy : HI), decode cX11_latest pc = .ok (.ireturn, 1) → Post v Iy → kf_M g x 6 pc lv [.int v] Iy J) (E45 : HI → Prop) (hE45 : ∀ (Iy : HI), E45 Iy → kf_M g x 6 79 [(0, .ref (g.2.2.2 72))] [] Iy J) (K45 : (Int32 × HI) → Prop) (hK45 : ∀ (y5 : Int32) (Iy : HI), K45 (y5, Iy) → kf_M g x 6 45 [(0, .ref (g.2.2.2 72)), (1, .int x1), (2, .int x2), (3, .long x3), (5, .int y5)] [] Iy J) (x5 : Int32) (I : HI) (h : wb_X11_latest_45 J x1 x2 x3 Post E45 K45 (x5, I)) : kf_M g x 6 45 [(0, .ref (g.2.2.2 72)), (1, .int x1), (2, .int x2), (3, .long x3), (5, .int x5)] [] I J := by
  unfold wb_X11_latest_45 at h
  refine kf_iload hx dX11_latest_45 4 rfl ?_
  refine kf_if_lt hx 79 dX11_latest_47 (by decide) (fun c => ?_) (fun c => ?_)
  · replace h := h.1 c
    refine kf_sub [0] rfl ?_
    exact hE45 _ h
  · replace h := h.2 c
    refine kf_ldc2 hx ko_RX11_364 dX11_latest_50 ?_
    refine kf_aload_n hx dX11_latest_53 rfl 0 rfl ?_
    refine kf_iload_n hx dX11_latest_54 rfl 1 rfl ?_
    refine kf_iconst (v := 1) hx dX11_latest_55 (by decide) ?_
    refine kf_iload_n hx dX11_latest_56 rfl 2 rfl ?_
    refine kf_ishl hx dX11_latest_57 ?_
    refine kf_iload hx dX11_latest_58 4 rfl ?_
    refine kf_iconst (v := 0) hx dX11_latest_60 (by decide) ?_
    refine kf_callVlI (st := [.long 2]) hx (m_X11_meanOf g hg x1 (1 <<< (x2 &&& 31)) x5 0 I J _ h) lk_RX11_384 km_X11_meanOf ob_72 rfl (by decide) rfl (Nat.le_of_ble_eq_true rfl) dX11_latest_61 (fun r_9 I_10 h => ?_)
    refine kf_lmul hx dX11_latest_64 ?_
    refine kf_lload_n hx dX11_latest_65 rfl 3 rfl ?_
    refine kf_l_gt hx 73 dX11_latest_66 dX11_latest_67 (by decide) (fun c => ?_) (fun c => ?_)
    · replace h := h.1 c
      refine kf_iinc (w := (x5 + (-1))) (lv' := [(5, .int (x5 + (-1))), (0, .ref (g.2.2.2 72)), (1, .int x1), (2, .int x2), (3, .long x3)]) hx dX11_latest_73 4 rfl rfl (by decide) rfl ?_
      refine kf_goto hx 45 dX11_latest_76 (by decide) ?_
      refine kf_sub [1, 2, 3, 4, 0] rfl ?_
      exact hK45 _ _ h
    · replace h := h.2 c
      refine kf_iload hx dX11_latest_70 4 rfl ?_
      exact hret _ _ x5 _ dX11_latest_72 h
theorem wl_X11_latest_45 (g : kf_G) (hg : kf_g g) {x : kf_X} (hx : kf_ok g x RX11 cX11_latest 6 4 107) (J : HJ) (x1 : Int32) (x2 : Int32) (x3 : Int64) (Post : Int32 → HI → Prop) (hret : ∀ (pc : Nat) (lv : List (Nat × Value)) (v : Int32) (Iy : HI), decode cX11_latest pc = .ok (.ireturn, 1) → Post v Iy → kf_M g x 6 pc lv [.int v] Iy J) (E45 : HI → Prop) (hE45 : ∀ (Iy : HI), E45 Iy → kf_M g x 6 79 [(0, .ref (g.2.2.2 72))] [] Iy J) : ∀ (n : Nat) (x5 : Int32) (I : HI), lp (wb_X11_latest_45 J x1 x2 x3 Post E45) n (x5, I) → kf_M g x 6 45 [(0, .ref (g.2.2.2 72)), (1, .int x1), (2, .int x2), (3, .long x3), (5, .int x5)] [] I J := by
  intro n
  induction n with
  | zero => intro x5 I h; exact h.elim
  | succ n ih => intro x5 I h; exact ws_X11_latest_45 g hg hx J x1 x2 x3 Post hret E45 hE45 (lp (wb_X11_latest_45 J x1 x2 x3 Post E45) n) ih x5 I h
def w_X11_latest (x1 : Int32) (x2 : Int32) (I : HI) (J : HJ) (Post : Int32 → HI → Prop) : Prop :=
  ∀ I_1 : HI, I_1 = hI I 72 1 0 → (∀ I_2 : HI, I_2 = hI I_1 72 0 0 → (w_X11_areSeeds x1 I_2 J (fun (r_3 : Bool) => ((r_3 = false → (wj_X11_latest_26 I_2 J Post)) ∧ (r_3 = true → (w_X11_isOne x2 I_2 J (fun (r_6 : Bool) => ((r_6 = true → (w_X11_meanOf x1 0 0 0 I_2 J (fun (r_7 : Int64) (I_8 : HI) => (∃ n, lp (wb_X11_latest_45 J x1 x2 r_7 Post (fun (I_11 : HI) => w_X11_refusedBy 9 I_11 J (fun (r_12 : Int32) (I_13 : HI) => (Post r_12 I_13)))) n (20, I_8))))) ∧ (r_6 = false → (wj_X11_latest_26 I_2 J Post))))))))))
set_option maxHeartbeats 4000000 in
set_option maxRecDepth 20000 in
theorem we_X11_latest (g : kf_G) (hg : kf_g g) {x : kf_X} (hx : kf_ok g x RX11 cX11_latest 6 4 107) (x1 : Int32) (x2 : Int32) (I : HI) (J : HJ) (Post : Int32 → HI → Prop) (hret : ∀ (pc : Nat) (lv : List (Nat × Value)) (v : Int32) (Iy : HI), decode cX11_latest pc = .ok (.ireturn, 1) → Post v Iy → kf_M g x 6 pc lv [.int v] Iy J) (h : w_X11_latest x1 x2 I J Post) : kf_M g x 6 0 [(0, .ref (g.2.2.2 72)), (1, .int x1), (2, .int x2)] [] I J := by
  unfold w_X11_latest at h
  refine kf_aload_n hx dX11_latest_0 rfl 0 rfl ?_
  refine kf_iconst (v := 0) hx dX11_latest_1 (by decide) ?_
  refine kf_putI hx sl_72_1 fl_RX11_106 fp_11_1 dX11_latest_2 ?_
  refine kf_nmI (fun I_1 eI_1 => ?_)
  replace h := h I_1 eI_1
  refine kf_aload_n hx dX11_latest_5 rfl 0 rfl ?_
  refine kf_iconst (v := 0) hx dX11_latest_6 (by decide) ?_
  refine kf_putI hx sl_72_0 fl_RX11_109 fp_11_0 dX11_latest_7 ?_
  refine kf_nmI (fun I_2 eI_2 => ?_)
  replace h := h I_2 eI_2
  refine kf_aload_n hx dX11_latest_10 rfl 0 rfl ?_
  refine kf_iload_n hx dX11_latest_11 rfl 1 rfl ?_
  refine kf_callVbP (st := []) hx (m_X11_areSeeds g hg x1 I_2 J _ h) lk_RX11_314 km_X11_areSeeds ob_72 rfl (by decide) rfl (Nat.le_of_ble_eq_true rfl) dX11_latest_12 (fun r_3 h => ?_)
  refine kf_ifB_eq hx 26 dX11_latest_15 (by decide) (fun c => ?_) (fun c => ?_)
  · replace h := h.1 c
    refine kf_sub [0] rfl ?_
    exact wk_X11_latest_26 g hg hx I_2 J  _ hret h
  · replace h := h.2 c
    refine kf_aload_n hx dX11_latest_18 rfl 0 rfl ?_
    refine kf_iload_n hx dX11_latest_19 rfl 2 rfl ?_
    refine kf_callVbP (st := []) hx (m_X11_isOne g hg x2 I_2 J _ h) lk_RX11_296 km_X11_isOne ob_72 rfl (by decide) rfl (Nat.le_of_ble_eq_true rfl) dX11_latest_20 (fun r_6 h => ?_)
    refine kf_ifB_ne hx 32 dX11_latest_23 (by decide) (fun c => ?_) (fun c => ?_)
    · replace h := h.1 c
      refine kf_aload_n hx dX11_latest_32 rfl 0 rfl ?_
      refine kf_iload_n hx dX11_latest_33 rfl 1 rfl ?_
      refine kf_iconst (v := 0) hx dX11_latest_34 (by decide) ?_
      refine kf_iconst (v := 0) hx dX11_latest_35 (by decide) ?_
      refine kf_iconst (v := 0) hx dX11_latest_36 (by decide) ?_
      refine kf_callVlI (st := []) hx (m_X11_meanOf g hg x1 0 0 0 I_2 J _ h) lk_RX11_384 km_X11_meanOf ob_72 rfl (by decide) rfl (Nat.le_of_ble_eq_true rfl) dX11_latest_37 (fun r_7 I_8 h => ?_)
      refine kf_lstore_n (lv' := [(3, .long r_7), (0, .ref (g.2.2.2 72)), (1, .int x1), (2, .int x2)]) hx dX11_latest_40 rfl (by decide) rfl ?_
      refine kf_bipush (v := 20) hx dX11_latest_41 (by decide) ?_
      refine kf_istore (lv' := [(5, .int 20), (3, .long r_7), (0, .ref (g.2.2.2 72)), (1, .int x1), (2, .int x2)]) hx dX11_latest_43 (by decide) rfl ?_
      obtain ⟨n, h⟩ := h
      refine kf_sub [2, 3, 4, 1, 0] rfl ?_
      refine wl_X11_latest_45 g hg hx J x1 x2 r_7 _ hret _ (fun I_11 h => ?_) n _ _ h
      refine kf_aload_n hx dX11_latest_79 rfl 0 rfl ?_
      refine kf_bipush (v := 9) hx dX11_latest_80 (by decide) ?_
      refine kf_callViI (st := []) hx (m_X11_refusedBy g hg 9 I_11 J _ h) lk_RX11_272 km_X11_refusedBy ob_72 rfl (by decide) rfl (Nat.le_of_ble_eq_true rfl) dX11_latest_82 (fun r_12 I_13 h => ?_)
      exact hret _ _ r_12 _ dX11_latest_85 h
    · replace h := h.2 c
      refine kf_sub [0] rfl ?_
      exact wk_X11_latest_26 g hg hx I_2 J  _ hret h
set_option maxHeartbeats 4000000 in
set_option maxRecDepth 20000 in
theorem m_X11_latest (g : kf_G) (hg : kf_g g) (x1 : Int32) (x2 : Int32) (I : HI) (J : HJ) (Post : Int32 → HI → Prop) (h : w_X11_latest x1 x2 I J Post) : kf_Mi g yX11_latest (kf_W yX11_latest cX11_latest 6 (Option.some Jvm.ClassFile.FieldType.int)) 4 107 [.ref (g.2.2.2 72), .int x1, .int x2] I J (fun v I' J' => Post v I' ∧ J' = J) :=
  kf_enti hg (by decide) (Nat.le_of_ble_eq_true rfl) rfl (fun x hx hr => we_X11_latest g hg hx x1 x2 I J Post (fun pc lv v I' hd hP => hr pc lv v I' J hd ⟨hP, rfl⟩) h)
theorem dX11_stops_0 : decode cX11_stops 0 = .ok (.aload_n 0, 1) := by decide +kernel
theorem dX11_stops_1 : decode cX11_stops 1 = .ok (.iconst 0, 1) := by decide +kernel
theorem dX11_stops_2 : decode cX11_stops 2 = .ok (.putfield 106, 3) := by decide +kernel
theorem dX11_stops_5 : decode cX11_stops 5 = .ok (.aload_n 0, 1) := by decide +kernel
theorem dX11_stops_6 : decode cX11_stops 6 = .ok (.iconst 0, 1) := by decide +kernel
theorem dX11_stops_7 : decode cX11_stops 7 = .ok (.putfield 109, 3) := by decide +kernel
theorem dX11_stops_10 : decode cX11_stops 10 = .ok (.aload_n 0, 1) := by decide +kernel
theorem dX11_stops_11 : decode cX11_stops 11 = .ok (.iload_n 1, 1) := by decide +kernel
theorem dX11_stops_12 : decode cX11_stops 12 = .ok (.invokevirtual 314, 3) := by decide +kernel
theorem dX11_stops_15 : decode cX11_stops 15 = .ok (.ifCond .ne 9, 3) := by decide +kernel
theorem dX11_stops_18 : decode cX11_stops 18 = .ok (.aload_n 0, 1) := by decide +kernel
theorem dX11_stops_19 : decode cX11_stops 19 = .ok (.iconst 2, 1) := by decide +kernel
theorem dX11_stops_20 : decode cX11_stops 20 = .ok (.invokevirtual 272, 3) := by decide +kernel
theorem dX11_stops_23 : decode cX11_stops 23 = .ok (.ireturn, 1) := by decide +kernel
theorem dX11_stops_24 : decode cX11_stops 24 = .ok (.iload_n 2, 1) := by decide +kernel
theorem dX11_stops_25 : decode cX11_stops 25 = .ok (.i2l, 1) := by decide +kernel
theorem dX11_stops_26 : decode cX11_stops 26 = .ok (.lconst 0, 1) := by decide +kernel
theorem dX11_stops_27 : decode cX11_stops 27 = .ok (.ldc2_w 388, 3) := by decide +kernel
theorem dX11_stops_30 : decode cX11_stops 30 = .ok (.invokestatic 228, 3) := by decide +kernel
theorem dX11_stops_33 : decode cX11_stops 33 = .ok (.ifCond .ne 9, 3) := by decide +kernel
theorem dX11_stops_36 : decode cX11_stops 36 = .ok (.aload_n 0, 1) := by decide +kernel
theorem dX11_stops_37 : decode cX11_stops 37 = .ok (.iconst 5, 1) := by decide +kernel
theorem dX11_stops_38 : decode cX11_stops 38 = .ok (.invokevirtual 272, 3) := by decide +kernel
theorem dX11_stops_41 : decode cX11_stops 41 = .ok (.ireturn, 1) := by decide +kernel
theorem dX11_stops_42 : decode cX11_stops 42 = .ok (.iconst 0, 1) := by decide +kernel
theorem dX11_stops_43 : decode cX11_stops 43 = .ok (.istore_n 3, 1) := by decide +kernel
theorem dX11_stops_44 : decode cX11_stops 44 = .ok (.aload_n 0, 1) := by decide +kernel
theorem dX11_stops_45 : decode cX11_stops 45 = .ok (.iload_n 1, 1) := by decide +kernel
theorem dX11_stops_46 : decode cX11_stops 46 = .ok (.iconst 0, 1) := by decide +kernel
theorem dX11_stops_47 : decode cX11_stops 47 = .ok (.invokevirtual 330, 3) := by decide +kernel
theorem dX11_stops_50 : decode cX11_stops 50 = .ok (.lstore 4, 2) := by decide +kernel
theorem dX11_stops_52 : decode cX11_stops 52 = .ok (.iconst 1, 1) := by decide +kernel
theorem dX11_stops_53 : decode cX11_stops 53 = .ok (.istore 6, 2) := by decide +kernel
theorem dX11_stops_55 : decode cX11_stops 55 = .ok (.iload 6, 2) := by decide +kernel
theorem dX11_stops_57 : decode cX11_stops 57 = .ok (.iconst 1, 1) := by decide +kernel
theorem dX11_stops_58 : decode cX11_stops 58 = .ok (.aload_n 0, 1) := by decide +kernel
theorem dX11_stops_59 : decode cX11_stops 59 = .ok (.getfield 290, 3) := by decide +kernel
theorem dX11_stops_62 : decode cX11_stops 62 = .ok (.ishl, 1) := by decide +kernel
theorem dX11_stops_63 : decode cX11_stops 63 = .ok (.if_icmp .ge 68, 3) := by decide +kernel
theorem dX11_stops_66 : decode cX11_stops 66 = .ok (.iload 6, 2) := by decide +kernel
theorem dX11_stops_68 : decode cX11_stops 68 = .ok (.invokestatic 325, 3) := by decide +kernel
theorem dX11_stops_71 : decode cX11_stops 71 = .ok (.iload_n 2, 1) := by decide +kernel
theorem dX11_stops_72 : decode cX11_stops 72 = .ok (.if_icmp .le 6, 3) := by decide +kernel
theorem dX11_stops_75 : decode cX11_stops 75 = .ok (.goto 50, 3) := by decide +kernel
theorem dX11_stops_78 : decode cX11_stops 78 = .ok (.aload_n 0, 1) := by decide +kernel
theorem dX11_stops_79 : decode cX11_stops 79 = .ok (.iload_n 1, 1) := by decide +kernel
theorem dX11_stops_80 : decode cX11_stops 80 = .ok (.iload 6, 2) := by decide +kernel
theorem dX11_stops_82 : decode cX11_stops 82 = .ok (.invokevirtual 330, 3) := by decide +kernel
theorem dX11_stops_85 : decode cX11_stops 85 = .ok (.lstore 7, 2) := by decide +kernel
theorem dX11_stops_87 : decode cX11_stops 87 = .ok (.lload 7, 2) := by decide +kernel
theorem dX11_stops_89 : decode cX11_stops 89 = .ok (.lload 4, 2) := by decide +kernel
theorem dX11_stops_91 : decode cX11_stops 91 = .ok (.lcmp, 1) := by decide +kernel
theorem dX11_stops_92 : decode cX11_stops 92 = .ok (.ifCond .gt 33, 3) := by decide +kernel
theorem dX11_stops_95 : decode cX11_stops 95 = .ok (.lload 7, 2) := by decide +kernel
theorem dX11_stops_97 : decode cX11_stops 97 = .ok (.lload 4, 2) := by decide +kernel
theorem dX11_stops_99 : decode cX11_stops 99 = .ok (.lcmp, 1) := by decide +kernel
theorem dX11_stops_100 : decode cX11_stops 100 = .ok (.ifCond .ne 18, 3) := by decide +kernel
theorem dX11_stops_103 : decode cX11_stops 103 = .ok (.iload 6, 2) := by decide +kernel
theorem dX11_stops_105 : decode cX11_stops 105 = .ok (.invokestatic 325, 3) := by decide +kernel
theorem dX11_stops_108 : decode cX11_stops 108 = .ok (.iload_n 3, 1) := by decide +kernel
theorem dX11_stops_109 : decode cX11_stops 109 = .ok (.invokestatic 325, 3) := by decide +kernel
theorem dX11_stops_112 : decode cX11_stops 112 = .ok (.if_icmp .lt 6, 3) := by decide +kernel
theorem dX11_stops_115 : decode cX11_stops 115 = .ok (.goto 10, 3) := by decide +kernel
theorem dX11_stops_118 : decode cX11_stops 118 = .ok (.lload 7, 2) := by decide +kernel
theorem dX11_stops_120 : decode cX11_stops 120 = .ok (.lstore 4, 2) := by decide +kernel
theorem dX11_stops_122 : decode cX11_stops 122 = .ok (.iload 6, 2) := by decide +kernel
theorem dX11_stops_124 : decode cX11_stops 124 = .ok (.istore_n 3, 1) := by decide +kernel
theorem dX11_stops_125 : decode cX11_stops 125 = .ok (.iinc 6 1, 3) := by decide +kernel
theorem dX11_stops_128 : decode cX11_stops 128 = .ok (.goto (-73), 3) := by decide +kernel
theorem dX11_stops_131 : decode cX11_stops 131 = .ok (.aload_n 0, 1) := by decide +kernel
theorem dX11_stops_132 : decode cX11_stops 132 = .ok (.lload 4, 2) := by decide +kernel
theorem dX11_stops_134 : decode cX11_stops 134 = .ok (.aload_n 0, 1) := by decide +kernel
theorem dX11_stops_135 : decode cX11_stops 135 = .ok (.invokevirtual 334, 3) := by decide +kernel
theorem dX11_stops_138 : decode cX11_stops 138 = .ok (.invokevirtual 338, 3) := by decide +kernel
theorem dX11_stops_141 : decode cX11_stops 141 = .ok (.iload_n 3, 1) := by decide +kernel
theorem dX11_stops_142 : decode cX11_stops 142 = .ok (.ireturn, 1) := by decide +kernel
def wb_X11_stops_55 (I : HI) (J : HJ) (x1 : Int32) (x2 : Int32) (Post : Int32 → HI → HJ → Prop) (E55 : Int32 → Int64 → Prop) (K55 : (Int32 × Int64 × Int32) → Prop) (s : Int32 × Int64 × Int32) : Prop :=
  match s with
  | (x3, x4, x6) => ((1 <<< ((I 72 21) &&& 31)) ≤ x6 → (E55 x3 x4)) ∧ (¬ (1 <<< ((I 72 21) &&& 31)) ≤ x6 → (w_J6_bitCount_0f7a4 x6 (fun (r_6 : Int32) => ((r_6 ≤ x2 → (w_X11_spreadOf x1 x6 I J (fun (r_7 : Int64) => ((x4 < r_7 → (K55 (x3, x4, (x6 + 1)))) ∧ (¬ x4 < r_7 → ((¬ r_7 = x4 → (K55 (x6, r_7, (x6 + 1)))) ∧ (r_7 = x4 → (w_J6_bitCount_0f7a4 x6 (fun (r_8 : Int32) => (w_J6_bitCount_0f7a4 x3 (fun (r_9 : Int32) => ((r_8 < r_9 → (K55 (x6, r_7, (x6 + 1)))) ∧ (¬ r_8 < r_9 → (K55 (x3, x4, (x6 + 1)))))))))))))))) ∧ (¬ r_6 ≤ x2 → (K55 (x3, x4, (x6 + 1))))))))
set_option maxHeartbeats 4000000 in
set_option maxRecDepth 20000 in
theorem ws_X11_stops_55 (g : kf_G) (hg : kf_g g) {x : kf_X} (hx : kf_ok g x RX11 cX11_stops 9 3 75) (I : HI) (J : HJ) (x1 : Int32) (x2 : Int32) (Post : Int32 → HI → HJ → Prop) (hret : ∀ (pc : Nat) (lv : List (Nat × Value)) (v : Int32) (Iy : HI) (Jy : HJ), decode cX11_stops pc = .ok (.ireturn, 1) → Post v Iy Jy → kf_M g x 9 pc lv [.int v] Iy Jy) (E55 : Int32 → Int64 → Prop) (hE55 : ∀ (y3 : Int32) (y4 : Int64), E55 y3 y4 → kf_M g x 9 131 [(0, .ref (g.2.2.2 72)), (3, .int y3), (4, .long y4)] [] I J) (K55 : (Int32 × Int64 × Int32) → Prop) (hK55 : ∀ (y3 : Int32) (y4 : Int64) (y6 : Int32), K55 (y3, y4, y6) → kf_M g x 9 55 [(0, .ref (g.2.2.2 72)), (1, .int x1), (2, .int x2), (3, .int y3), (4, .long y4), (6, .int y6)] [] I J) (x3 : Int32) (x4 : Int64) (x6 : Int32) (h : wb_X11_stops_55 I J x1 x2 Post E55 K55 (x3, x4, x6)) : kf_M g x 9 55 [(0, .ref (g.2.2.2 72)), (1, .int x1), (2, .int x2), (3, .int x3), (4, .long x4), (6, .int x6)] [] I J := by
  unfold wb_X11_stops_55 at h
  refine kf_iload hx dX11_stops_55 5 rfl ?_
  refine kf_iconst (v := 1) hx dX11_stops_57 (by decide) ?_
  refine kf_aload_n hx dX11_stops_58 rfl 0 rfl ?_
  refine kf_getI hx sl_72_21 fl_RX11_290 dX11_stops_59 ?_
  refine kf_ishl hx dX11_stops_62 ?_
  refine kf_icmp_ge hx 131 dX11_stops_63 (by decide) (fun c => ?_) (fun c => ?_)
  · replace h := h.1 c
    refine kf_sub [0, 3, 4] rfl ?_
    exact hE55 _ _ h
  · replace h := h.2 c
    refine kf_iload hx dX11_stops_66 5 rfl ?_
    refine kf_callSiP (st := []) hx (m_J6_bitCount_0f7a4 g hg x6 I J _ h) lk_RX11_325 km_J6_bitCount_0f7a4 rfl (by decide) rfl (Nat.le_of_ble_eq_true rfl) dX11_stops_68 (fun r_6 h => ?_)
    refine kf_iload_n hx dX11_stops_71 rfl 2 rfl ?_
    refine kf_icmp_le hx 78 dX11_stops_72 (by decide) (fun c => ?_) (fun c => ?_)
    · replace h := h.1 c
      refine kf_aload_n hx dX11_stops_78 rfl 0 rfl ?_
      refine kf_iload_n hx dX11_stops_79 rfl 1 rfl ?_
      refine kf_iload hx dX11_stops_80 5 rfl ?_
      refine kf_callVlP (st := []) hx (m_X11_spreadOf g hg x1 x6 I J _ h) lk_RX11_330 km_X11_spreadOf ob_72 rfl (by decide) rfl (Nat.le_of_ble_eq_true rfl) dX11_stops_82 (fun r_7 h => ?_)
      refine kf_lstore (lv' := [(7, .long r_7), (0, .ref (g.2.2.2 72)), (1, .int x1), (2, .int x2), (3, .int x3), (4, .long x4), (6, .int x6)]) hx dX11_stops_85 (by decide) rfl ?_
      refine kf_lload hx dX11_stops_87 0 rfl ?_
      refine kf_lload hx dX11_stops_89 5 rfl ?_
      refine kf_l_gt hx 125 dX11_stops_91 dX11_stops_92 (by decide) (fun c => ?_) (fun c => ?_)
      · replace h := h.1 c
        refine kf_iinc (w := (x6 + 1)) (lv' := [(6, .int (x6 + 1)), (7, .long r_7), (0, .ref (g.2.2.2 72)), (1, .int x1), (2, .int x2), (3, .int x3), (4, .long x4)]) hx dX11_stops_125 6 rfl rfl (by decide) rfl ?_
        refine kf_goto hx 55 dX11_stops_128 (by decide) ?_
        refine kf_sub [2, 3, 4, 5, 6, 0] rfl ?_
        exact hK55 _ _ _ h
      · replace h := h.2 c
        refine kf_lload hx dX11_stops_95 0 rfl ?_
        refine kf_lload hx dX11_stops_97 5 rfl ?_
        refine kf_l_ne hx 118 dX11_stops_99 dX11_stops_100 (by decide) (fun c => ?_) (fun c => ?_)
        · replace h := h.1 c
          refine kf_lload hx dX11_stops_118 0 rfl ?_
          refine kf_lstore (lv' := [(4, .long r_7), (7, .long r_7), (0, .ref (g.2.2.2 72)), (1, .int x1), (2, .int x2), (3, .int x3), (6, .int x6)]) hx dX11_stops_120 (by decide) rfl ?_
          refine kf_iload hx dX11_stops_122 6 rfl ?_
          refine kf_istore_n (lv' := [(3, .int x6), (4, .long r_7), (7, .long r_7), (0, .ref (g.2.2.2 72)), (1, .int x1), (2, .int x2), (6, .int x6)]) hx dX11_stops_124 rfl (by decide) rfl ?_
          refine kf_iinc (w := (x6 + 1)) (lv' := [(6, .int (x6 + 1)), (3, .int x6), (4, .long r_7), (7, .long r_7), (0, .ref (g.2.2.2 72)), (1, .int x1), (2, .int x2)]) hx dX11_stops_125 6 rfl rfl (by decide) rfl ?_
          refine kf_goto hx 55 dX11_stops_128 (by decide) ?_
          refine kf_sub [4, 5, 6, 1, 2, 0] rfl ?_
          exact hK55 _ _ _ h
        · replace h := h.2 c
          refine kf_iload hx dX11_stops_103 6 rfl ?_
          refine kf_callSiP (st := []) hx (m_J6_bitCount_0f7a4 g hg x6 I J _ h) lk_RX11_325 km_J6_bitCount_0f7a4 rfl (by decide) rfl (Nat.le_of_ble_eq_true rfl) dX11_stops_105 (fun r_8 h => ?_)
          refine kf_iload_n hx dX11_stops_108 rfl 4 rfl ?_
          refine kf_callSiP (st := [.int r_8]) hx (m_J6_bitCount_0f7a4 g hg x3 I J _ h) lk_RX11_325 km_J6_bitCount_0f7a4 rfl (by decide) rfl (Nat.le_of_ble_eq_true rfl) dX11_stops_109 (fun r_9 h => ?_)
          refine kf_icmp_lt hx 118 dX11_stops_112 (by decide) (fun c => ?_) (fun c => ?_)
          · replace h := h.1 c
            refine kf_lload hx dX11_stops_118 0 rfl ?_
            refine kf_lstore (lv' := [(4, .long r_7), (7, .long r_7), (0, .ref (g.2.2.2 72)), (1, .int x1), (2, .int x2), (3, .int x3), (6, .int x6)]) hx dX11_stops_120 (by decide) rfl ?_
            refine kf_iload hx dX11_stops_122 6 rfl ?_
            refine kf_istore_n (lv' := [(3, .int x6), (4, .long r_7), (7, .long r_7), (0, .ref (g.2.2.2 72)), (1, .int x1), (2, .int x2), (6, .int x6)]) hx dX11_stops_124 rfl (by decide) rfl ?_
            refine kf_iinc (w := (x6 + 1)) (lv' := [(6, .int (x6 + 1)), (3, .int x6), (4, .long r_7), (7, .long r_7), (0, .ref (g.2.2.2 72)), (1, .int x1), (2, .int x2)]) hx dX11_stops_125 6 rfl rfl (by decide) rfl ?_
            refine kf_goto hx 55 dX11_stops_128 (by decide) ?_
            refine kf_sub [4, 5, 6, 1, 2, 0] rfl ?_
            exact hK55 _ _ _ h
          · replace h := h.2 c
            refine kf_goto hx 125 dX11_stops_115 (by decide) ?_
            refine kf_iinc (w := (x6 + 1)) (lv' := [(6, .int (x6 + 1)), (7, .long r_7), (0, .ref (g.2.2.2 72)), (1, .int x1), (2, .int x2), (3, .int x3), (4, .long x4)]) hx dX11_stops_125 6 rfl rfl (by decide) rfl ?_
            refine kf_goto hx 55 dX11_stops_128 (by decide) ?_
            refine kf_sub [2, 3, 4, 5, 6, 0] rfl ?_
            exact hK55 _ _ _ h
    · replace h := h.2 c
      refine kf_goto hx 125 dX11_stops_75 (by decide) ?_
      refine kf_iinc (w := (x6 + 1)) (lv' := [(6, .int (x6 + 1)), (0, .ref (g.2.2.2 72)), (1, .int x1), (2, .int x2), (3, .int x3), (4, .long x4)]) hx dX11_stops_125 5 rfl rfl (by decide) rfl ?_
      refine kf_goto hx 55 dX11_stops_128 (by decide) ?_
      refine kf_sub [1, 2, 3, 4, 5, 0] rfl ?_
      exact hK55 _ _ _ h
theorem wl_X11_stops_55 (g : kf_G) (hg : kf_g g) {x : kf_X} (hx : kf_ok g x RX11 cX11_stops 9 3 75) (I : HI) (J : HJ) (x1 : Int32) (x2 : Int32) (Post : Int32 → HI → HJ → Prop) (hret : ∀ (pc : Nat) (lv : List (Nat × Value)) (v : Int32) (Iy : HI) (Jy : HJ), decode cX11_stops pc = .ok (.ireturn, 1) → Post v Iy Jy → kf_M g x 9 pc lv [.int v] Iy Jy) (E55 : Int32 → Int64 → Prop) (hE55 : ∀ (y3 : Int32) (y4 : Int64), E55 y3 y4 → kf_M g x 9 131 [(0, .ref (g.2.2.2 72)), (3, .int y3), (4, .long y4)] [] I J) : ∀ (n : Nat) (x3 : Int32) (x4 : Int64) (x6 : Int32), lp (wb_X11_stops_55 I J x1 x2 Post E55) n (x3, x4, x6) → kf_M g x 9 55 [(0, .ref (g.2.2.2 72)), (1, .int x1), (2, .int x2), (3, .int x3), (4, .long x4), (6, .int x6)] [] I J := by
  intro n
  induction n with
  | zero => intro x3 x4 x6 h; exact h.elim
  | succ n ih => intro x3 x4 x6 h; exact ws_X11_stops_55 g hg hx I J x1 x2 Post hret E55 hE55 (lp (wb_X11_stops_55 I J x1 x2 Post E55) n) ih x3 x4 x6 h
def w_X11_stops (x1 : Int32) (x2 : Int32) (I : HI) (J : HJ) (Post : Int32 → HI → HJ → Prop) : Prop :=
  ∀ I_1 : HI, I_1 = hI I 72 1 0 → (∀ I_2 : HI, I_2 = hI I_1 72 0 0 → (w_X11_areSeeds x1 I_2 J (fun (r_3 : Bool) => ((r_3 = true → (w_X11_isIn (Int32.toInt64 x2) 0 3 (fun (r_4 : Bool) => ((r_4 = true → (w_X11_spreadOf x1 0 I_2 J (fun (r_5 : Int64) => (∃ n, lp (wb_X11_stops_55 I_2 J x1 x2 Post (fun (x3_10 : Int32) (x4_11 : Int64) => w_X11_whole  I_2 J (fun (r_12 : Int64) => (w_X11_fraction x4_11 r_12 I_2 J (fun (J_13 : HJ) => (Post x3_10 I_2 J_13)))))) n (0, r_5, 1))))) ∧ (r_4 = false → (w_X11_refusedBy 5 I_2 J (fun (r_14 : Int32) (I_15 : HI) => (Post r_14 I_15 J)))))))) ∧ (r_3 = false → (w_X11_refusedBy 2 I_2 J (fun (r_16 : Int32) (I_17 : HI) => (Post r_16 I_17 J))))))))
set_option maxHeartbeats 4000000 in
set_option maxRecDepth 20000 in
theorem we_X11_stops (g : kf_G) (hg : kf_g g) {x : kf_X} (hx : kf_ok g x RX11 cX11_stops 9 3 75) (x1 : Int32) (x2 : Int32) (I : HI) (J : HJ) (Post : Int32 → HI → HJ → Prop) (hret : ∀ (pc : Nat) (lv : List (Nat × Value)) (v : Int32) (Iy : HI) (Jy : HJ), decode cX11_stops pc = .ok (.ireturn, 1) → Post v Iy Jy → kf_M g x 9 pc lv [.int v] Iy Jy) (h : w_X11_stops x1 x2 I J Post) : kf_M g x 9 0 [(0, .ref (g.2.2.2 72)), (1, .int x1), (2, .int x2)] [] I J := by
  unfold w_X11_stops at h
  refine kf_aload_n hx dX11_stops_0 rfl 0 rfl ?_
  refine kf_iconst (v := 0) hx dX11_stops_1 (by decide) ?_
  refine kf_putI hx sl_72_1 fl_RX11_106 fp_11_1 dX11_stops_2 ?_
  refine kf_nmI (fun I_1 eI_1 => ?_)
  replace h := h I_1 eI_1
  refine kf_aload_n hx dX11_stops_5 rfl 0 rfl ?_
  refine kf_iconst (v := 0) hx dX11_stops_6 (by decide) ?_
  refine kf_putI hx sl_72_0 fl_RX11_109 fp_11_0 dX11_stops_7 ?_
  refine kf_nmI (fun I_2 eI_2 => ?_)
  replace h := h I_2 eI_2
  refine kf_aload_n hx dX11_stops_10 rfl 0 rfl ?_
  refine kf_iload_n hx dX11_stops_11 rfl 1 rfl ?_
  refine kf_callVbP (st := []) hx (m_X11_areSeeds g hg x1 I_2 J _ h) lk_RX11_314 km_X11_areSeeds ob_72 rfl (by decide) rfl (Nat.le_of_ble_eq_true rfl) dX11_stops_12 (fun r_3 h => ?_)
  refine kf_ifB_ne hx 24 dX11_stops_15 (by decide) (fun c => ?_) (fun c => ?_)
  · replace h := h.1 c
    refine kf_iload_n hx dX11_stops_24 rfl 2 rfl ?_
    refine kf_i2l hx dX11_stops_25 ?_
    refine kf_lconst (v := 0) hx dX11_stops_26 (by decide) ?_
    refine kf_ldc2 hx ko_RX11_388 dX11_stops_27 ?_
    refine kf_callSbP (st := []) hx (m_X11_isIn g hg (Int32.toInt64 x2) 0 3 I_2 J _ h) lk_RX11_228 km_X11_isIn rfl (by decide) rfl (Nat.le_of_ble_eq_true rfl) dX11_stops_30 (fun r_4 h => ?_)
    refine kf_ifB_ne hx 42 dX11_stops_33 (by decide) (fun c => ?_) (fun c => ?_)
    · replace h := h.1 c
      refine kf_iconst (v := 0) hx dX11_stops_42 (by decide) ?_
      refine kf_istore_n (lv' := [(3, .int 0), (0, .ref (g.2.2.2 72)), (1, .int x1), (2, .int x2)]) hx dX11_stops_43 rfl (by decide) rfl ?_
      refine kf_aload_n hx dX11_stops_44 rfl 1 rfl ?_
      refine kf_iload_n hx dX11_stops_45 rfl 2 rfl ?_
      refine kf_iconst (v := 0) hx dX11_stops_46 (by decide) ?_
      refine kf_callVlP (st := []) hx (m_X11_spreadOf g hg x1 0 I_2 J _ h) lk_RX11_330 km_X11_spreadOf ob_72 rfl (by decide) rfl (Nat.le_of_ble_eq_true rfl) dX11_stops_47 (fun r_5 h => ?_)
      refine kf_lstore (lv' := [(4, .long r_5), (3, .int 0), (0, .ref (g.2.2.2 72)), (1, .int x1), (2, .int x2)]) hx dX11_stops_50 (by decide) rfl ?_
      refine kf_iconst (v := 1) hx dX11_stops_52 (by decide) ?_
      refine kf_istore (lv' := [(6, .int 1), (4, .long r_5), (3, .int 0), (0, .ref (g.2.2.2 72)), (1, .int x1), (2, .int x2)]) hx dX11_stops_53 (by decide) rfl ?_
      obtain ⟨n, h⟩ := h
      refine kf_sub [3, 4, 5, 2, 1, 0] rfl ?_
      refine wl_X11_stops_55 g hg hx I_2 J x1 x2 _ hret _ (fun x3_10 x4_11 h => ?_) n _ _ _ h
      refine kf_aload_n hx dX11_stops_131 rfl 0 rfl ?_
      refine kf_lload hx dX11_stops_132 2 rfl ?_
      refine kf_aload_n hx dX11_stops_134 rfl 0 rfl ?_
      refine kf_callVlP (st := [.long x4_11, .ref (g.2.2.2 72)]) hx (m_X11_whole g hg  I_2 J _ h) lk_RX11_334 km_X11_whole ob_72 rfl (by decide) rfl (Nat.le_of_ble_eq_true rfl) dX11_stops_135 (fun r_12 h => ?_)
      refine kf_callVvJ (st := []) hx (m_X11_fraction g hg x4_11 r_12 I_2 J _ h) lk_RX11_338 km_X11_fraction ob_72 rfl (by decide) rfl (Nat.le_of_ble_eq_true rfl) dX11_stops_138 (fun J_13 h => ?_)
      refine kf_iload_n hx dX11_stops_141 rfl 1 rfl ?_
      exact hret _ _ x3_10 _ _ dX11_stops_142 h
    · replace h := h.2 c
      refine kf_aload_n hx dX11_stops_36 rfl 0 rfl ?_
      refine kf_iconst (v := 5) hx dX11_stops_37 (by decide) ?_
      refine kf_callViI (st := []) hx (m_X11_refusedBy g hg 5 I_2 J _ h) lk_RX11_272 km_X11_refusedBy ob_72 rfl (by decide) rfl (Nat.le_of_ble_eq_true rfl) dX11_stops_38 (fun r_14 I_15 h => ?_)
      exact hret _ _ r_14 _ _ dX11_stops_41 h
  · replace h := h.2 c
    refine kf_aload_n hx dX11_stops_18 rfl 0 rfl ?_
    refine kf_iconst (v := 2) hx dX11_stops_19 (by decide) ?_
    refine kf_callViI (st := []) hx (m_X11_refusedBy g hg 2 I_2 J _ h) lk_RX11_272 km_X11_refusedBy ob_72 rfl (by decide) rfl (Nat.le_of_ble_eq_true rfl) dX11_stops_20 (fun r_16 I_17 h => ?_)
    exact hret _ _ r_16 _ _ dX11_stops_23 h
set_option maxHeartbeats 4000000 in
set_option maxRecDepth 20000 in
theorem m_X11_stops (g : kf_G) (hg : kf_g g) (x1 : Int32) (x2 : Int32) (I : HI) (J : HJ) (Post : Int32 → HI → HJ → Prop) (h : w_X11_stops x1 x2 I J Post) : kf_Mi g yX11_stops (kf_W yX11_stops cX11_stops 9 (Option.some Jvm.ClassFile.FieldType.int)) 3 75 [.ref (g.2.2.2 72), .int x1, .int x2] I J Post :=
  kf_enti hg (by decide) (Nat.le_of_ble_eq_true rfl) rfl (fun x hx hr => we_X11_stops g hg hx x1 x2 I J Post (fun pc lv v I' J' hd hP => hr pc lv v I' J' hd hP) h)
theorem dX11_beganBy_0 : decode cX11_beganBy 0 = .ok (.lconst 0, 1) := by decide +kernel
theorem dX11_beganBy_1 : decode cX11_beganBy 1 = .ok (.lstore 4, 2) := by decide +kernel
theorem dX11_beganBy_3 : decode cX11_beganBy 3 = .ok (.iconst 0, 1) := by decide +kernel
theorem dX11_beganBy_4 : decode cX11_beganBy 4 = .ok (.istore 6, 2) := by decide +kernel
theorem dX11_beganBy_6 : decode cX11_beganBy 6 = .ok (.iload 6, 2) := by decide +kernel
theorem dX11_beganBy_8 : decode cX11_beganBy 8 = .ok (.iconst 1, 1) := by decide +kernel
theorem dX11_beganBy_9 : decode cX11_beganBy 9 = .ok (.aload_n 0, 1) := by decide +kernel
theorem dX11_beganBy_10 : decode cX11_beganBy 10 = .ok (.getfield 290, 3) := by decide +kernel
theorem dX11_beganBy_13 : decode cX11_beganBy 13 = .ok (.ishl, 1) := by decide +kernel
theorem dX11_beganBy_14 : decode cX11_beganBy 14 = .ok (.if_icmp .ge 135, 3) := by decide +kernel
theorem dX11_beganBy_17 : decode cX11_beganBy 17 = .ok (.aload_n 0, 1) := by decide +kernel
theorem dX11_beganBy_18 : decode cX11_beganBy 18 = .ok (.iload 6, 2) := by decide +kernel
theorem dX11_beganBy_20 : decode cX11_beganBy 20 = .ok (.invokevirtual 304, 3) := by decide +kernel
theorem dX11_beganBy_23 : decode cX11_beganBy 23 = .ok (.lstore 7, 2) := by decide +kernel
theorem dX11_beganBy_25 : decode cX11_beganBy 25 = .ok (.lload 7, 2) := by decide +kernel
theorem dX11_beganBy_27 : decode cX11_beganBy 27 = .ok (.lconst 0, 1) := by decide +kernel
theorem dX11_beganBy_28 : decode cX11_beganBy 28 = .ok (.lcmp, 1) := by decide +kernel
theorem dX11_beganBy_29 : decode cX11_beganBy 29 = .ok (.ifCond .ne 6, 3) := by decide +kernel
theorem dX11_beganBy_32 : decode cX11_beganBy 32 = .ok (.goto 111, 3) := by decide +kernel
theorem dX11_beganBy_35 : decode cX11_beganBy 35 = .ok (.aload_n 0, 1) := by decide +kernel
theorem dX11_beganBy_36 : decode cX11_beganBy 36 = .ok (.iconst 1, 1) := by decide +kernel
theorem dX11_beganBy_37 : decode cX11_beganBy 37 = .ok (.iload_n 3, 1) := by decide +kernel
theorem dX11_beganBy_38 : decode cX11_beganBy 38 = .ok (.ishl, 1) := by decide +kernel
theorem dX11_beganBy_39 : decode cX11_beganBy 39 = .ok (.iconst 0, 1) := by decide +kernel
theorem dX11_beganBy_40 : decode cX11_beganBy 40 = .ok (.iconst 0, 1) := by decide +kernel
theorem dX11_beganBy_41 : decode cX11_beganBy 41 = .ok (.iload 6, 2) := by decide +kernel
theorem dX11_beganBy_43 : decode cX11_beganBy 43 = .ok (.invokevirtual 379, 3) := by decide +kernel
theorem dX11_beganBy_46 : decode cX11_beganBy 46 = .ok (.iconst 1, 1) := by decide +kernel
theorem dX11_beganBy_47 : decode cX11_beganBy 47 = .ok (.istore 9, 2) := by decide +kernel
theorem dX11_beganBy_49 : decode cX11_beganBy 49 = .ok (.iconst 0, 1) := by decide +kernel
theorem dX11_beganBy_50 : decode cX11_beganBy 50 = .ok (.istore 10, 2) := by decide +kernel
theorem dX11_beganBy_52 : decode cX11_beganBy 52 = .ok (.iload 10, 2) := by decide +kernel
theorem dX11_beganBy_54 : decode cX11_beganBy 54 = .ok (.aload_n 0, 1) := by decide +kernel
theorem dX11_beganBy_55 : decode cX11_beganBy 55 = .ok (.getfield 287, 3) := by decide +kernel
theorem dX11_beganBy_58 : decode cX11_beganBy 58 = .ok (.if_icmp .ge 69, 3) := by decide +kernel
theorem dX11_beganBy_61 : decode cX11_beganBy 61 = .ok (.iload 9, 2) := by decide +kernel
theorem dX11_beganBy_63 : decode cX11_beganBy 63 = .ok (.ifCond .eq 64, 3) := by decide +kernel
theorem dX11_beganBy_66 : decode cX11_beganBy 66 = .ok (.aload_n 0, 1) := by decide +kernel
theorem dX11_beganBy_67 : decode cX11_beganBy 67 = .ok (.iload_n 1, 1) := by decide +kernel
theorem dX11_beganBy_68 : decode cX11_beganBy 68 = .ok (.iload 10, 2) := by decide +kernel
theorem dX11_beganBy_70 : decode cX11_beganBy 70 = .ok (.invokevirtual 390, 3) := by decide +kernel
theorem dX11_beganBy_73 : decode cX11_beganBy 73 = .ok (.lconst 0, 1) := by decide +kernel
theorem dX11_beganBy_74 : decode cX11_beganBy 74 = .ok (.lcmp, 1) := by decide +kernel
theorem dX11_beganBy_75 : decode cX11_beganBy 75 = .ok (.ifCond .lt 39, 3) := by decide +kernel
theorem dX11_beganBy_78 : decode cX11_beganBy 78 = .ok (.aload_n 0, 1) := by decide +kernel
theorem dX11_beganBy_79 : decode cX11_beganBy 79 = .ok (.iload_n 1, 1) := by decide +kernel
theorem dX11_beganBy_80 : decode cX11_beganBy 80 = .ok (.iload 10, 2) := by decide +kernel
theorem dX11_beganBy_82 : decode cX11_beganBy 82 = .ok (.invokevirtual 390, 3) := by decide +kernel
theorem dX11_beganBy_85 : decode cX11_beganBy 85 = .ok (.lconst 1, 1) := by decide +kernel
theorem dX11_beganBy_86 : decode cX11_beganBy 86 = .ok (.lcmp, 1) := by decide +kernel
theorem dX11_beganBy_87 : decode cX11_beganBy 87 = .ok (.ifCond .ne 7, 3) := by decide +kernel
theorem dX11_beganBy_90 : decode cX11_beganBy 90 = .ok (.iconst 1, 1) := by decide +kernel
theorem dX11_beganBy_91 : decode cX11_beganBy 91 = .ok (.goto 4, 3) := by decide +kernel
theorem dX11_beganBy_94 : decode cX11_beganBy 94 = .ok (.iconst 0, 1) := by decide +kernel
theorem dX11_beganBy_95 : decode cX11_beganBy 95 = .ok (.aload_n 0, 1) := by decide +kernel
theorem dX11_beganBy_96 : decode cX11_beganBy 96 = .ok (.getfield 81, 3) := by decide +kernel
theorem dX11_beganBy_99 : decode cX11_beganBy 99 = .ok (.iload 10, 2) := by decide +kernel
theorem dX11_beganBy_101 : decode cX11_beganBy 101 = .ok (.iaload, 1) := by decide +kernel
theorem dX11_beganBy_102 : decode cX11_beganBy 102 = .ok (.iload_n 2, 1) := by decide +kernel
theorem dX11_beganBy_103 : decode cX11_beganBy 103 = .ok (.if_icmp .gt 7, 3) := by decide +kernel
theorem dX11_beganBy_106 : decode cX11_beganBy 106 = .ok (.iconst 1, 1) := by decide +kernel
theorem dX11_beganBy_107 : decode cX11_beganBy 107 = .ok (.goto 4, 3) := by decide +kernel
theorem dX11_beganBy_110 : decode cX11_beganBy 110 = .ok (.iconst 0, 1) := by decide +kernel
theorem dX11_beganBy_111 : decode cX11_beganBy 111 = .ok (.if_icmp .ne 7, 3) := by decide +kernel
theorem dX11_beganBy_114 : decode cX11_beganBy 114 = .ok (.iconst 1, 1) := by decide +kernel
theorem dX11_beganBy_115 : decode cX11_beganBy 115 = .ok (.goto 4, 3) := by decide +kernel
theorem dX11_beganBy_118 : decode cX11_beganBy 118 = .ok (.iconst 0, 1) := by decide +kernel
theorem dX11_beganBy_119 : decode cX11_beganBy 119 = .ok (.istore 9, 2) := by decide +kernel
theorem dX11_beganBy_121 : decode cX11_beganBy 121 = .ok (.iinc 10 1, 3) := by decide +kernel
theorem dX11_beganBy_124 : decode cX11_beganBy 124 = .ok (.goto (-72), 3) := by decide +kernel
theorem dX11_beganBy_127 : decode cX11_beganBy 127 = .ok (.lload 4, 2) := by decide +kernel
theorem dX11_beganBy_129 : decode cX11_beganBy 129 = .ok (.iload 9, 2) := by decide +kernel
theorem dX11_beganBy_131 : decode cX11_beganBy 131 = .ok (.ifCond .eq 8, 3) := by decide +kernel
theorem dX11_beganBy_134 : decode cX11_beganBy 134 = .ok (.lload 7, 2) := by decide +kernel
theorem dX11_beganBy_136 : decode cX11_beganBy 136 = .ok (.goto 4, 3) := by decide +kernel
theorem dX11_beganBy_139 : decode cX11_beganBy 139 = .ok (.lconst 0, 1) := by decide +kernel
theorem dX11_beganBy_140 : decode cX11_beganBy 140 = .ok (.ladd, 1) := by decide +kernel
theorem dX11_beganBy_141 : decode cX11_beganBy 141 = .ok (.lstore 4, 2) := by decide +kernel
theorem dX11_beganBy_143 : decode cX11_beganBy 143 = .ok (.iinc 6 1, 3) := by decide +kernel
theorem dX11_beganBy_146 : decode cX11_beganBy 146 = .ok (.goto (-140), 3) := by decide +kernel
theorem dX11_beganBy_149 : decode cX11_beganBy 149 = .ok (.lload 4, 2) := by decide +kernel
theorem dX11_beganBy_151 : decode cX11_beganBy 151 = .ok (.lreturn, 1) := by decide +kernel
def wj_X11_beganBy_111 (I : HI) (J : HJ) (x1 : Int32) (x2 : Int32) (x3 : Int32) (x4 : Int64) (x6 : Int32) (x7 : Int64) (x10 : Int32) (t0 : Int32) (t1 : Int32) (E6 : Int64 → HI → Prop) (K6 : Int64 × Int32 × HI → Prop) (E52 : Int32 → Prop) (K52 : Int32 × Int32 → Prop) (Post : Int64 → HI → Prop) : Prop :=
  (¬ t1 = t0 → (K52 (0, (x10 + 1)))) ∧ (t1 = t0 → (K52 (1, (x10 + 1))))
set_option maxHeartbeats 4000000 in
set_option maxRecDepth 20000 in
theorem wk_X11_beganBy_111 (g : kf_G) (hg : kf_g g) {x : kf_X} (hx : kf_ok g x RX11 cX11_beganBy 11 3 77) (I : HI) (J : HJ) (x1 : Int32) (x2 : Int32) (x3 : Int32) (x4 : Int64) (x6 : Int32) (x7 : Int64) (x10 : Int32) (t0 : Int32) (t1 : Int32) (E6 : Int64 → HI → Prop) (K6 : Int64 × Int32 × HI → Prop) (E52 : Int32 → Prop) (K52 : Int32 × Int32 → Prop) (hE6 : ∀ (y4 : Int64) (Iy : HI), E6 y4 Iy → kf_M g x 11 149 [(4, .long y4)] [] Iy J) (hK6 : ∀ (y4 : Int64) (y6 : Int32) (Iy : HI), K6 (y4, y6, Iy) → kf_M g x 11 6 [(0, .ref (g.2.2.2 72)), (1, .int x1), (2, .int x2), (3, .int x3), (4, .long y4), (6, .int y6)] [] Iy J) (hE52 : ∀ (y9 : Int32), E52 y9 → kf_M g x 11 127 [(0, .ref (g.2.2.2 72)), (1, .int x1), (2, .int x2), (3, .int x3), (4, .long x4), (6, .int x6), (7, .long x7), (9, .int y9)] [] I J) (hK52 : ∀ (y9 : Int32) (y10 : Int32), K52 (y9, y10) → kf_M g x 11 52 [(0, .ref (g.2.2.2 72)), (1, .int x1), (2, .int x2), (3, .int x3), (4, .long x4), (6, .int x6), (7, .long x7), (9, .int y9), (10, .int y10)] [] I J) (Post : Int64 → HI → Prop) (hret : ∀ (pc : Nat) (lv : List (Nat × Value)) (v : Int64) (Iy : HI), decode cX11_beganBy pc = .ok (.lreturn, 1) → Post v Iy → kf_M g x 11 pc lv [.long v] Iy J) (h : wj_X11_beganBy_111 I J x1 x2 x3 x4 x6 x7 x10 t0 t1 E6 K6 E52 K52 Post) : kf_M g x 11 111 [(0, .ref (g.2.2.2 72)), (1, .int x1), (2, .int x2), (3, .int x3), (4, .long x4), (6, .int x6), (7, .long x7), (10, .int x10)] [.int t0, .int t1] I J := by
  unfold wj_X11_beganBy_111 at h
  refine kf_icmp_ne hx 118 dX11_beganBy_111 (by decide) (fun c => ?_) (fun c => ?_)
  · replace h := h.1 c
    refine kf_iconst (v := 0) hx dX11_beganBy_118 (by decide) ?_
    refine kf_istore (lv' := [(9, .int 0), (0, .ref (g.2.2.2 72)), (1, .int x1), (2, .int x2), (3, .int x3), (4, .long x4), (6, .int x6), (7, .long x7), (10, .int x10)]) hx dX11_beganBy_119 (by decide) rfl ?_
    refine kf_iinc (w := (x10 + 1)) (lv' := [(10, .int (x10 + 1)), (9, .int 0), (0, .ref (g.2.2.2 72)), (1, .int x1), (2, .int x2), (3, .int x3), (4, .long x4), (6, .int x6), (7, .long x7)]) hx dX11_beganBy_121 8 rfl rfl (by decide) rfl ?_
    refine kf_goto hx 52 dX11_beganBy_124 (by decide) ?_
    refine kf_sub [2, 3, 4, 5, 6, 7, 8, 1, 0] rfl ?_
    exact hK52 _ _ h
  · replace h := h.2 c
    refine kf_iconst (v := 1) hx dX11_beganBy_114 (by decide) ?_
    refine kf_goto hx 119 dX11_beganBy_115 (by decide) ?_
    refine kf_istore (lv' := [(9, .int 1), (0, .ref (g.2.2.2 72)), (1, .int x1), (2, .int x2), (3, .int x3), (4, .long x4), (6, .int x6), (7, .long x7), (10, .int x10)]) hx dX11_beganBy_119 (by decide) rfl ?_
    refine kf_iinc (w := (x10 + 1)) (lv' := [(10, .int (x10 + 1)), (9, .int 1), (0, .ref (g.2.2.2 72)), (1, .int x1), (2, .int x2), (3, .int x3), (4, .long x4), (6, .int x6), (7, .long x7)]) hx dX11_beganBy_121 8 rfl rfl (by decide) rfl ?_
    refine kf_goto hx 52 dX11_beganBy_124 (by decide) ?_
    refine kf_sub [2, 3, 4, 5, 6, 7, 8, 1, 0] rfl ?_
    exact hK52 _ _ h
def wj_X11_beganBy_95 (I : HI) (J : HJ) (x1 : Int32) (x2 : Int32) (x3 : Int32) (x4 : Int64) (x6 : Int32) (x7 : Int64) (x10 : Int32) (t0 : Int32) (E6 : Int64 → HI → Prop) (K6 : Int64 × Int32 × HI → Prop) (E52 : Int32 → Prop) (K52 : Int32 × Int32 → Prop) (Post : Int64 → HI → Prop) : Prop :=
  vp_in x10 12 ∧ ((x2 < (I 92 (Int32.toNatClampNeg x10)) → (wj_X11_beganBy_111 I J x1 x2 x3 x4 x6 x7 x10 0 t0 E6 K6 E52 K52 Post)) ∧ (¬ x2 < (I 92 (Int32.toNatClampNeg x10)) → (wj_X11_beganBy_111 I J x1 x2 x3 x4 x6 x7 x10 1 t0 E6 K6 E52 K52 Post)))
set_option maxHeartbeats 4000000 in
set_option maxRecDepth 20000 in
theorem wk_X11_beganBy_95 (g : kf_G) (hg : kf_g g) {x : kf_X} (hx : kf_ok g x RX11 cX11_beganBy 11 3 77) (I : HI) (J : HJ) (x1 : Int32) (x2 : Int32) (x3 : Int32) (x4 : Int64) (x6 : Int32) (x7 : Int64) (x10 : Int32) (t0 : Int32) (E6 : Int64 → HI → Prop) (K6 : Int64 × Int32 × HI → Prop) (E52 : Int32 → Prop) (K52 : Int32 × Int32 → Prop) (hE6 : ∀ (y4 : Int64) (Iy : HI), E6 y4 Iy → kf_M g x 11 149 [(4, .long y4)] [] Iy J) (hK6 : ∀ (y4 : Int64) (y6 : Int32) (Iy : HI), K6 (y4, y6, Iy) → kf_M g x 11 6 [(0, .ref (g.2.2.2 72)), (1, .int x1), (2, .int x2), (3, .int x3), (4, .long y4), (6, .int y6)] [] Iy J) (hE52 : ∀ (y9 : Int32), E52 y9 → kf_M g x 11 127 [(0, .ref (g.2.2.2 72)), (1, .int x1), (2, .int x2), (3, .int x3), (4, .long x4), (6, .int x6), (7, .long x7), (9, .int y9)] [] I J) (hK52 : ∀ (y9 : Int32) (y10 : Int32), K52 (y9, y10) → kf_M g x 11 52 [(0, .ref (g.2.2.2 72)), (1, .int x1), (2, .int x2), (3, .int x3), (4, .long x4), (6, .int x6), (7, .long x7), (9, .int y9), (10, .int y10)] [] I J) (Post : Int64 → HI → Prop) (hret : ∀ (pc : Nat) (lv : List (Nat × Value)) (v : Int64) (Iy : HI), decode cX11_beganBy pc = .ok (.lreturn, 1) → Post v Iy → kf_M g x 11 pc lv [.long v] Iy J) (h : wj_X11_beganBy_95 I J x1 x2 x3 x4 x6 x7 x10 t0 E6 K6 E52 K52 Post) : kf_M g x 11 95 [(0, .ref (g.2.2.2 72)), (1, .int x1), (2, .int x2), (3, .int x3), (4, .long x4), (6, .int x6), (7, .long x7), (10, .int x10)] [.int t0] I J := by
  unfold wj_X11_beganBy_95 at h
  refine kf_aload_n hx dX11_beganBy_95 rfl 0 rfl ?_
  refine kf_getR (n := 92) hx sl_72_40 fl_RX11_81 dX11_beganBy_96 ?_
  refine kf_iload hx dX11_beganBy_99 7 rfl ?_
  refine kf_iald hx ar_92 h.1 dX11_beganBy_101 ?_
  replace h := h.2
  refine kf_iload_n hx dX11_beganBy_102 rfl 2 rfl ?_
  refine kf_icmp_gt hx 110 dX11_beganBy_103 (by decide) (fun c => ?_) (fun c => ?_)
  · replace h := h.1 c
    refine kf_iconst (v := 0) hx dX11_beganBy_110 (by decide) ?_
    exact wk_X11_beganBy_111 g hg hx I J x1 x2 x3 x4 x6 x7 x10 0 t0 _ _ _ _ hE6 hK6 hE52 hK52 _ hret h
  · replace h := h.2 c
    refine kf_iconst (v := 1) hx dX11_beganBy_106 (by decide) ?_
    refine kf_goto hx 111 dX11_beganBy_107 (by decide) ?_
    exact wk_X11_beganBy_111 g hg hx I J x1 x2 x3 x4 x6 x7 x10 1 t0 _ _ _ _ hE6 hK6 hE52 hK52 _ hret h
def wb_X11_beganBy_52 (I : HI) (J : HJ) (x1 : Int32) (x2 : Int32) (x3 : Int32) (x4 : Int64) (x6 : Int32) (x7 : Int64) (E6 : Int64 → HI → Prop) (K6 : Int64 × Int32 × HI → Prop) (Post : Int64 → HI → Prop) (E52 : Int32 → Prop) (K52 : (Int32 × Int32) → Prop) (s : Int32 × Int32) : Prop :=
  match s with
  | (x9, x10) => ((I 72 20) ≤ x10 → (E52 x9)) ∧ (¬ (I 72 20) ≤ x10 → ((x9 = 0 → (E52 x9)) ∧ (¬ x9 = 0 → (w_X11_numberOf x1 x10 I J (fun (r_3 : Int64) => ((r_3 < 0 → (K52 (1, (x10 + 1)))) ∧ (¬ r_3 < 0 → (w_X11_numberOf x1 x10 I J (fun (r_4 : Int64) => ((¬ r_4 = 1 → (wj_X11_beganBy_95 I J x1 x2 x3 x4 x6 x7 x10 0 E6 K6 E52 K52 Post)) ∧ (r_4 = 1 → (wj_X11_beganBy_95 I J x1 x2 x3 x4 x6 x7 x10 1 E6 K6 E52 K52 Post))))))))))))
set_option maxHeartbeats 4000000 in
set_option maxRecDepth 20000 in
theorem ws_X11_beganBy_52 (g : kf_G) (hg : kf_g g) {x : kf_X} (hx : kf_ok g x RX11 cX11_beganBy 11 3 77) (I : HI) (J : HJ) (x1 : Int32) (x2 : Int32) (x3 : Int32) (x4 : Int64) (x6 : Int32) (x7 : Int64) (E6 : Int64 → HI → Prop) (K6 : Int64 × Int32 × HI → Prop) (hE6 : ∀ (y4 : Int64) (Iy : HI), E6 y4 Iy → kf_M g x 11 149 [(4, .long y4)] [] Iy J) (hK6 : ∀ (y4 : Int64) (y6 : Int32) (Iy : HI), K6 (y4, y6, Iy) → kf_M g x 11 6 [(0, .ref (g.2.2.2 72)), (1, .int x1), (2, .int x2), (3, .int x3), (4, .long y4), (6, .int y6)] [] Iy J) (Post : Int64 → HI → Prop) (hret : ∀ (pc : Nat) (lv : List (Nat × Value)) (v : Int64) (Iy : HI), decode cX11_beganBy pc = .ok (.lreturn, 1) → Post v Iy → kf_M g x 11 pc lv [.long v] Iy J) (E52 : Int32 → Prop) (hE52 : ∀ (y9 : Int32), E52 y9 → kf_M g x 11 127 [(0, .ref (g.2.2.2 72)), (1, .int x1), (2, .int x2), (3, .int x3), (4, .long x4), (6, .int x6), (7, .long x7), (9, .int y9)] [] I J) (K52 : (Int32 × Int32) → Prop) (hK52 : ∀ (y9 : Int32) (y10 : Int32), K52 (y9, y10) → kf_M g x 11 52 [(0, .ref (g.2.2.2 72)), (1, .int x1), (2, .int x2), (3, .int x3), (4, .long x4), (6, .int x6), (7, .long x7), (9, .int y9), (10, .int y10)] [] I J) (x9 : Int32) (x10 : Int32) (h : wb_X11_beganBy_52 I J x1 x2 x3 x4 x6 x7 E6 K6 Post E52 K52 (x9, x10)) : kf_M g x 11 52 [(0, .ref (g.2.2.2 72)), (1, .int x1), (2, .int x2), (3, .int x3), (4, .long x4), (6, .int x6), (7, .long x7), (9, .int x9), (10, .int x10)] [] I J := by
  unfold wb_X11_beganBy_52 at h
  refine kf_iload hx dX11_beganBy_52 8 rfl ?_
  refine kf_aload_n hx dX11_beganBy_54 rfl 0 rfl ?_
  refine kf_getI hx sl_72_20 fl_RX11_287 dX11_beganBy_55 ?_
  refine kf_icmp_ge hx 127 dX11_beganBy_58 (by decide) (fun c => ?_) (fun c => ?_)
  · replace h := h.1 c
    refine kf_sub [0, 1, 2, 3, 4, 5, 6, 7] rfl ?_
    exact hE52 _ h
  · replace h := h.2 c
    refine kf_iload hx dX11_beganBy_61 7 rfl ?_
    refine kf_if_eq hx 127 dX11_beganBy_63 (by decide) (fun c => ?_) (fun c => ?_)
    · replace h := h.1 c
      refine kf_sub [0, 1, 2, 3, 4, 5, 6, 7] rfl ?_
      exact hE52 _ h
    · replace h := h.2 c
      refine kf_aload_n hx dX11_beganBy_66 rfl 0 rfl ?_
      refine kf_iload_n hx dX11_beganBy_67 rfl 1 rfl ?_
      refine kf_iload hx dX11_beganBy_68 8 rfl ?_
      refine kf_callVlP (st := []) hx (m_X11_numberOf g hg x1 x10 I J _ h) lk_RX11_390 km_X11_numberOf ob_72 rfl (by decide) rfl (Nat.le_of_ble_eq_true rfl) dX11_beganBy_70 (fun r_3 h => ?_)
      refine kf_lconst (v := 0) hx dX11_beganBy_73 (by decide) ?_
      refine kf_l_lt hx 114 dX11_beganBy_74 dX11_beganBy_75 (by decide) (fun c => ?_) (fun c => ?_)
      · replace h := h.1 c
        refine kf_iconst (v := 1) hx dX11_beganBy_114 (by decide) ?_
        refine kf_goto hx 119 dX11_beganBy_115 (by decide) ?_
        refine kf_istore (lv' := [(9, .int 1), (0, .ref (g.2.2.2 72)), (1, .int x1), (2, .int x2), (3, .int x3), (4, .long x4), (6, .int x6), (7, .long x7), (10, .int x10)]) hx dX11_beganBy_119 (by decide) rfl ?_
        refine kf_iinc (w := (x10 + 1)) (lv' := [(10, .int (x10 + 1)), (9, .int 1), (0, .ref (g.2.2.2 72)), (1, .int x1), (2, .int x2), (3, .int x3), (4, .long x4), (6, .int x6), (7, .long x7)]) hx dX11_beganBy_121 8 rfl rfl (by decide) rfl ?_
        refine kf_goto hx 52 dX11_beganBy_124 (by decide) ?_
        refine kf_sub [2, 3, 4, 5, 6, 7, 8, 1, 0] rfl ?_
        exact hK52 _ _ h
      · replace h := h.2 c
        refine kf_aload_n hx dX11_beganBy_78 rfl 0 rfl ?_
        refine kf_iload_n hx dX11_beganBy_79 rfl 1 rfl ?_
        refine kf_iload hx dX11_beganBy_80 8 rfl ?_
        refine kf_callVlP (st := []) hx (m_X11_numberOf g hg x1 x10 I J _ h) lk_RX11_390 km_X11_numberOf ob_72 rfl (by decide) rfl (Nat.le_of_ble_eq_true rfl) dX11_beganBy_82 (fun r_4 h => ?_)
        refine kf_lconst (v := 1) hx dX11_beganBy_85 (by decide) ?_
        refine kf_l_ne hx 94 dX11_beganBy_86 dX11_beganBy_87 (by decide) (fun c => ?_) (fun c => ?_)
        · replace h := h.1 c
          refine kf_iconst (v := 0) hx dX11_beganBy_94 (by decide) ?_
          refine kf_sub [0, 1, 2, 3, 4, 5, 6, 8] rfl ?_
          exact wk_X11_beganBy_95 g hg hx I J x1 x2 x3 x4 x6 x7 x10 0 _ _ _ _ hE6 hK6 hE52 hK52 _ hret h
        · replace h := h.2 c
          refine kf_iconst (v := 1) hx dX11_beganBy_90 (by decide) ?_
          refine kf_goto hx 95 dX11_beganBy_91 (by decide) ?_
          refine kf_sub [0, 1, 2, 3, 4, 5, 6, 8] rfl ?_
          exact wk_X11_beganBy_95 g hg hx I J x1 x2 x3 x4 x6 x7 x10 1 _ _ _ _ hE6 hK6 hE52 hK52 _ hret h
theorem wl_X11_beganBy_52 (g : kf_G) (hg : kf_g g) {x : kf_X} (hx : kf_ok g x RX11 cX11_beganBy 11 3 77) (I : HI) (J : HJ) (x1 : Int32) (x2 : Int32) (x3 : Int32) (x4 : Int64) (x6 : Int32) (x7 : Int64) (E6 : Int64 → HI → Prop) (K6 : Int64 × Int32 × HI → Prop) (hE6 : ∀ (y4 : Int64) (Iy : HI), E6 y4 Iy → kf_M g x 11 149 [(4, .long y4)] [] Iy J) (hK6 : ∀ (y4 : Int64) (y6 : Int32) (Iy : HI), K6 (y4, y6, Iy) → kf_M g x 11 6 [(0, .ref (g.2.2.2 72)), (1, .int x1), (2, .int x2), (3, .int x3), (4, .long y4), (6, .int y6)] [] Iy J) (Post : Int64 → HI → Prop) (hret : ∀ (pc : Nat) (lv : List (Nat × Value)) (v : Int64) (Iy : HI), decode cX11_beganBy pc = .ok (.lreturn, 1) → Post v Iy → kf_M g x 11 pc lv [.long v] Iy J) (E52 : Int32 → Prop) (hE52 : ∀ (y9 : Int32), E52 y9 → kf_M g x 11 127 [(0, .ref (g.2.2.2 72)), (1, .int x1), (2, .int x2), (3, .int x3), (4, .long x4), (6, .int x6), (7, .long x7), (9, .int y9)] [] I J) : ∀ (n : Nat) (x9 : Int32) (x10 : Int32), lp (wb_X11_beganBy_52 I J x1 x2 x3 x4 x6 x7 E6 K6 Post E52) n (x9, x10) → kf_M g x 11 52 [(0, .ref (g.2.2.2 72)), (1, .int x1), (2, .int x2), (3, .int x3), (4, .long x4), (6, .int x6), (7, .long x7), (9, .int x9), (10, .int x10)] [] I J := by
  intro n
  induction n with
  | zero => intro x9 x10 h; exact h.elim
  | succ n ih => intro x9 x10 h; exact ws_X11_beganBy_52 g hg hx I J x1 x2 x3 x4 x6 x7 E6 K6 hE6 hK6 Post hret E52 hE52 (lp (wb_X11_beganBy_52 I J x1 x2 x3 x4 x6 x7 E6 K6 Post E52) n) ih x9 x10 h
def wb_X11_beganBy_6 (J : HJ) (x1 : Int32) (x2 : Int32) (x3 : Int32) (Post : Int64 → HI → Prop) (E6 : Int64 → HI → Prop) (K6 : (Int64 × Int32 × HI) → Prop) (s : Int64 × Int32 × HI) : Prop :=
  match s with
  | (x4, x6, I) => ((1 <<< ((I 72 21) &&& 31)) ≤ x6 → (E6 x4 I)) ∧ (¬ (1 <<< ((I 72 21) &&& 31)) ≤ x6 → (w_X11_weightOf x6 I J (fun (r_1 : Int64) => ((¬ r_1 = 0 → (w_X11_live (1 <<< (x3 &&& 31)) 0 0 x6 I J (fun (I_2 : HI) => (∃ n, lp (wb_X11_beganBy_52 I_2 J x1 x2 x3 x4 x6 r_1 E6 K6 Post (fun (x9_5 : Int32) => (x9_5 = 0 → (K6 ((x4 + 0), (x6 + 1), I_2))) ∧ (¬ x9_5 = 0 → (K6 ((x4 + r_1), (x6 + 1), I_2))))) n (1, 0))))) ∧ (r_1 = 0 → (K6 (x4, (x6 + 1), I)))))))
set_option maxHeartbeats 4000000 in
set_option maxRecDepth 20000 in
theorem ws_X11_beganBy_6 (g : kf_G) (hg : kf_g g) {x : kf_X} (hx : kf_ok g x RX11 cX11_beganBy 11 3 77) (J : HJ) (x1 : Int32) (x2 : Int32) (x3 : Int32) (Post : Int64 → HI → Prop) (hret : ∀ (pc : Nat) (lv : List (Nat × Value)) (v : Int64) (Iy : HI), decode cX11_beganBy pc = .ok (.lreturn, 1) → Post v Iy → kf_M g x 11 pc lv [.long v] Iy J) (E6 : Int64 → HI → Prop) (hE6 : ∀ (y4 : Int64) (Iy : HI), E6 y4 Iy → kf_M g x 11 149 [(4, .long y4)] [] Iy J) (K6 : (Int64 × Int32 × HI) → Prop) (hK6 : ∀ (y4 : Int64) (y6 : Int32) (Iy : HI), K6 (y4, y6, Iy) → kf_M g x 11 6 [(0, .ref (g.2.2.2 72)), (1, .int x1), (2, .int x2), (3, .int x3), (4, .long y4), (6, .int y6)] [] Iy J) (x4 : Int64) (x6 : Int32) (I : HI) (h : wb_X11_beganBy_6 J x1 x2 x3 Post E6 K6 (x4, x6, I)) : kf_M g x 11 6 [(0, .ref (g.2.2.2 72)), (1, .int x1), (2, .int x2), (3, .int x3), (4, .long x4), (6, .int x6)] [] I J := by
  unfold wb_X11_beganBy_6 at h
  refine kf_iload hx dX11_beganBy_6 5 rfl ?_
  refine kf_iconst (v := 1) hx dX11_beganBy_8 (by decide) ?_
  refine kf_aload_n hx dX11_beganBy_9 rfl 0 rfl ?_
  refine kf_getI hx sl_72_21 fl_RX11_290 dX11_beganBy_10 ?_
  refine kf_ishl hx dX11_beganBy_13 ?_
  refine kf_icmp_ge hx 149 dX11_beganBy_14 (by decide) (fun c => ?_) (fun c => ?_)
  · replace h := h.1 c
    refine kf_sub [4] rfl ?_
    exact hE6 _ _ h
  · replace h := h.2 c
    refine kf_aload_n hx dX11_beganBy_17 rfl 0 rfl ?_
    refine kf_iload hx dX11_beganBy_18 5 rfl ?_
    refine kf_callVlP (st := []) hx (m_X11_weightOf g hg x6 I J _ h) lk_RX11_304 km_X11_weightOf ob_72 rfl (by decide) rfl (Nat.le_of_ble_eq_true rfl) dX11_beganBy_20 (fun r_1 h => ?_)
    refine kf_lstore (lv' := [(7, .long r_1), (0, .ref (g.2.2.2 72)), (1, .int x1), (2, .int x2), (3, .int x3), (4, .long x4), (6, .int x6)]) hx dX11_beganBy_23 (by decide) rfl ?_
    refine kf_lload hx dX11_beganBy_25 0 rfl ?_
    refine kf_lconst (v := 0) hx dX11_beganBy_27 (by decide) ?_
    refine kf_l_ne hx 35 dX11_beganBy_28 dX11_beganBy_29 (by decide) (fun c => ?_) (fun c => ?_)
    · replace h := h.1 c
      refine kf_aload_n hx dX11_beganBy_35 rfl 1 rfl ?_
      refine kf_iconst (v := 1) hx dX11_beganBy_36 (by decide) ?_
      refine kf_iload_n hx dX11_beganBy_37 rfl 4 rfl ?_
      refine kf_ishl hx dX11_beganBy_38 ?_
      refine kf_iconst (v := 0) hx dX11_beganBy_39 (by decide) ?_
      refine kf_iconst (v := 0) hx dX11_beganBy_40 (by decide) ?_
      refine kf_iload hx dX11_beganBy_41 6 rfl ?_
      refine kf_callVvI (st := []) hx (m_X11_live g hg (1 <<< (x3 &&& 31)) 0 0 x6 I J _ h) lk_RX11_379 km_X11_live ob_72 rfl (by decide) rfl (Nat.le_of_ble_eq_true rfl) dX11_beganBy_43 (fun I_2 h => ?_)
      refine kf_iconst (v := 1) hx dX11_beganBy_46 (by decide) ?_
      refine kf_istore (lv' := [(9, .int 1), (7, .long r_1), (0, .ref (g.2.2.2 72)), (1, .int x1), (2, .int x2), (3, .int x3), (4, .long x4), (6, .int x6)]) hx dX11_beganBy_47 (by decide) rfl ?_
      refine kf_iconst (v := 0) hx dX11_beganBy_49 (by decide) ?_
      refine kf_istore (lv' := [(10, .int 0), (9, .int 1), (7, .long r_1), (0, .ref (g.2.2.2 72)), (1, .int x1), (2, .int x2), (3, .int x3), (4, .long x4), (6, .int x6)]) hx dX11_beganBy_50 (by decide) rfl ?_
      obtain ⟨n, h⟩ := h
      refine kf_sub [3, 4, 5, 6, 7, 8, 2, 1, 0] rfl ?_
      refine wl_X11_beganBy_52 g hg hx I_2 J x1 x2 x3 x4 x6 r_1 _ _ hE6 hK6 _ hret _ (fun x9_5 h => ?_) n _ _ h
      refine kf_lload hx dX11_beganBy_127 4 rfl ?_
      refine kf_iload hx dX11_beganBy_129 7 rfl ?_
      refine kf_if_eq hx 139 dX11_beganBy_131 (by decide) (fun c => ?_) (fun c => ?_)
      · replace h := h.1 c
        refine kf_lconst (v := 0) hx dX11_beganBy_139 (by decide) ?_
        refine kf_ladd hx dX11_beganBy_140 ?_
        refine kf_lstore (lv' := [(4, .long (x4 + 0)), (0, .ref (g.2.2.2 72)), (1, .int x1), (2, .int x2), (3, .int x3), (6, .int x6), (7, .long r_1), (9, .int x9_5)]) hx dX11_beganBy_141 (by decide) rfl ?_
        refine kf_iinc (w := (x6 + 1)) (lv' := [(6, .int (x6 + 1)), (4, .long (x4 + 0)), (0, .ref (g.2.2.2 72)), (1, .int x1), (2, .int x2), (3, .int x3), (7, .long r_1), (9, .int x9_5)]) hx dX11_beganBy_143 5 rfl rfl (by decide) rfl ?_
        refine kf_goto hx 6 dX11_beganBy_146 (by decide) ?_
        refine kf_sub [2, 3, 4, 5, 1, 0] rfl ?_
        exact hK6 _ _ _ h
      · replace h := h.2 c
        refine kf_lload hx dX11_beganBy_134 6 rfl ?_
        refine kf_goto hx 140 dX11_beganBy_136 (by decide) ?_
        refine kf_ladd hx dX11_beganBy_140 ?_
        refine kf_lstore (lv' := [(4, .long (x4 + r_1)), (0, .ref (g.2.2.2 72)), (1, .int x1), (2, .int x2), (3, .int x3), (6, .int x6), (7, .long r_1), (9, .int x9_5)]) hx dX11_beganBy_141 (by decide) rfl ?_
        refine kf_iinc (w := (x6 + 1)) (lv' := [(6, .int (x6 + 1)), (4, .long (x4 + r_1)), (0, .ref (g.2.2.2 72)), (1, .int x1), (2, .int x2), (3, .int x3), (7, .long r_1), (9, .int x9_5)]) hx dX11_beganBy_143 5 rfl rfl (by decide) rfl ?_
        refine kf_goto hx 6 dX11_beganBy_146 (by decide) ?_
        refine kf_sub [2, 3, 4, 5, 1, 0] rfl ?_
        exact hK6 _ _ _ h
    · replace h := h.2 c
      refine kf_goto hx 143 dX11_beganBy_32 (by decide) ?_
      refine kf_iinc (w := (x6 + 1)) (lv' := [(6, .int (x6 + 1)), (7, .long r_1), (0, .ref (g.2.2.2 72)), (1, .int x1), (2, .int x2), (3, .int x3), (4, .long x4)]) hx dX11_beganBy_143 6 rfl rfl (by decide) rfl ?_
      refine kf_goto hx 6 dX11_beganBy_146 (by decide) ?_
      refine kf_sub [2, 3, 4, 5, 6, 0] rfl ?_
      exact hK6 _ _ _ h
theorem wl_X11_beganBy_6 (g : kf_G) (hg : kf_g g) {x : kf_X} (hx : kf_ok g x RX11 cX11_beganBy 11 3 77) (J : HJ) (x1 : Int32) (x2 : Int32) (x3 : Int32) (Post : Int64 → HI → Prop) (hret : ∀ (pc : Nat) (lv : List (Nat × Value)) (v : Int64) (Iy : HI), decode cX11_beganBy pc = .ok (.lreturn, 1) → Post v Iy → kf_M g x 11 pc lv [.long v] Iy J) (E6 : Int64 → HI → Prop) (hE6 : ∀ (y4 : Int64) (Iy : HI), E6 y4 Iy → kf_M g x 11 149 [(4, .long y4)] [] Iy J) : ∀ (n : Nat) (x4 : Int64) (x6 : Int32) (I : HI), lp (wb_X11_beganBy_6 J x1 x2 x3 Post E6) n (x4, x6, I) → kf_M g x 11 6 [(0, .ref (g.2.2.2 72)), (1, .int x1), (2, .int x2), (3, .int x3), (4, .long x4), (6, .int x6)] [] I J := by
  intro n
  induction n with
  | zero => intro x4 x6 I h; exact h.elim
  | succ n ih => intro x4 x6 I h; exact ws_X11_beganBy_6 g hg hx J x1 x2 x3 Post hret E6 hE6 (lp (wb_X11_beganBy_6 J x1 x2 x3 Post E6) n) ih x4 x6 I h
def w_X11_beganBy (x1 : Int32) (x2 : Int32) (x3 : Int32) (I : HI) (J : HJ) (Post : Int64 → HI → Prop) : Prop :=
  ∃ n, lp (wb_X11_beganBy_6 J x1 x2 x3 Post (fun (x4_6 : Int64) (I_7 : HI) => Post x4_6 I_7)) n (0, 0, I)
set_option maxHeartbeats 4000000 in
set_option maxRecDepth 20000 in
theorem we_X11_beganBy (g : kf_G) (hg : kf_g g) {x : kf_X} (hx : kf_ok g x RX11 cX11_beganBy 11 3 77) (x1 : Int32) (x2 : Int32) (x3 : Int32) (I : HI) (J : HJ) (Post : Int64 → HI → Prop) (hret : ∀ (pc : Nat) (lv : List (Nat × Value)) (v : Int64) (Iy : HI), decode cX11_beganBy pc = .ok (.lreturn, 1) → Post v Iy → kf_M g x 11 pc lv [.long v] Iy J) (h : w_X11_beganBy x1 x2 x3 I J Post) : kf_M g x 11 0 [(0, .ref (g.2.2.2 72)), (1, .int x1), (2, .int x2), (3, .int x3)] [] I J := by
  unfold w_X11_beganBy at h
  refine kf_lconst (v := 0) hx dX11_beganBy_0 (by decide) ?_
  refine kf_lstore (lv' := [(4, .long 0), (0, .ref (g.2.2.2 72)), (1, .int x1), (2, .int x2), (3, .int x3)]) hx dX11_beganBy_1 (by decide) rfl ?_
  refine kf_iconst (v := 0) hx dX11_beganBy_3 (by decide) ?_
  refine kf_istore (lv' := [(6, .int 0), (4, .long 0), (0, .ref (g.2.2.2 72)), (1, .int x1), (2, .int x2), (3, .int x3)]) hx dX11_beganBy_4 (by decide) rfl ?_
  obtain ⟨n, h⟩ := h
  refine kf_sub [2, 3, 4, 5, 1, 0] rfl ?_
  refine wl_X11_beganBy_6 g hg hx J x1 x2 x3 _ hret _ (fun x4_6 I_7 h => ?_) n _ _ _ h
  refine kf_lload hx dX11_beganBy_149 0 rfl ?_
  exact hret _ _ x4_6 _ dX11_beganBy_151 h
set_option maxHeartbeats 4000000 in
set_option maxRecDepth 20000 in
theorem m_X11_beganBy (g : kf_G) (hg : kf_g g) (x1 : Int32) (x2 : Int32) (x3 : Int32) (I : HI) (J : HJ) (Post : Int64 → HI → Prop) (h : w_X11_beganBy x1 x2 x3 I J Post) : kf_Ml g yX11_beganBy (kf_W yX11_beganBy cX11_beganBy 11 (Option.some Jvm.ClassFile.FieldType.long)) 3 77 [.ref (g.2.2.2 72), .int x1, .int x2, .int x3] I J (fun v I' J' => Post v I' ∧ J' = J) :=
  kf_entl hg (by decide) (Nat.le_of_ble_eq_true rfl) rfl (fun x hx hr => we_X11_beganBy g hg hx x1 x2 x3 I J Post (fun pc lv v I' hd hP => hr pc lv v I' J hd ⟨hP, rfl⟩) h)
theorem dX11_source_0 : decode cX11_source 0 = .ok (.aload_n 0, 1) := by decide +kernel
theorem dX11_source_1 : decode cX11_source 1 = .ok (.iconst 0, 1) := by decide +kernel
theorem dX11_source_2 : decode cX11_source 2 = .ok (.putfield 106, 3) := by decide +kernel
theorem dX11_source_5 : decode cX11_source 5 = .ok (.aload_n 0, 1) := by decide +kernel
theorem dX11_source_6 : decode cX11_source 6 = .ok (.iconst 0, 1) := by decide +kernel
theorem dX11_source_7 : decode cX11_source 7 = .ok (.putfield 109, 3) := by decide +kernel
theorem dX11_source_10 : decode cX11_source 10 = .ok (.iload_n 1, 1) := by decide +kernel
theorem dX11_source_11 : decode cX11_source 11 = .ok (.i2l, 1) := by decide +kernel
theorem dX11_source_12 : decode cX11_source 12 = .ok (.lconst 0, 1) := by decide +kernel
theorem dX11_source_13 : decode cX11_source 13 = .ok (.ldc2_w 388, 3) := by decide +kernel
theorem dX11_source_16 : decode cX11_source 16 = .ok (.invokestatic 228, 3) := by decide +kernel
theorem dX11_source_19 : decode cX11_source 19 = .ok (.ifCond .ne 9, 3) := by decide +kernel
theorem dX11_source_22 : decode cX11_source 22 = .ok (.aload_n 0, 1) := by decide +kernel
theorem dX11_source_23 : decode cX11_source 23 = .ok (.iconst 1, 1) := by decide +kernel
theorem dX11_source_24 : decode cX11_source 24 = .ok (.invokevirtual 121, 3) := by decide +kernel
theorem dX11_source_27 : decode cX11_source 27 = .ok (.ireturn, 1) := by decide +kernel
theorem dX11_source_28 : decode cX11_source 28 = .ok (.aload_n 0, 1) := by decide +kernel
theorem dX11_source_29 : decode cX11_source 29 = .ok (.iload_n 3, 1) := by decide +kernel
theorem dX11_source_30 : decode cX11_source 30 = .ok (.invokevirtual 296, 3) := by decide +kernel
theorem dX11_source_33 : decode cX11_source 33 = .ok (.ifCond .ne 9, 3) := by decide +kernel
theorem dX11_source_36 : decode cX11_source 36 = .ok (.aload_n 0, 1) := by decide +kernel
theorem dX11_source_37 : decode cX11_source 37 = .ok (.iconst 2, 1) := by decide +kernel
theorem dX11_source_38 : decode cX11_source 38 = .ok (.invokevirtual 121, 3) := by decide +kernel
theorem dX11_source_41 : decode cX11_source 41 = .ok (.ireturn, 1) := by decide +kernel
theorem dX11_source_42 : decode cX11_source 42 = .ok (.aload_n 0, 1) := by decide +kernel
theorem dX11_source_43 : decode cX11_source 43 = .ok (.getfield 17, 3) := by decide +kernel
theorem dX11_source_46 : decode cX11_source 46 = .ok (.iload_n 1, 1) := by decide +kernel
theorem dX11_source_47 : decode cX11_source 47 = .ok (.iaload, 1) := by decide +kernel
theorem dX11_source_48 : decode cX11_source 48 = .ok (.ifCond .ge 9, 3) := by decide +kernel
theorem dX11_source_51 : decode cX11_source 51 = .ok (.aload_n 0, 1) := by decide +kernel
theorem dX11_source_52 : decode cX11_source 52 = .ok (.iconst 3, 1) := by decide +kernel
theorem dX11_source_53 : decode cX11_source 53 = .ok (.invokevirtual 121, 3) := by decide +kernel
theorem dX11_source_56 : decode cX11_source 56 = .ok (.ireturn, 1) := by decide +kernel
theorem dX11_source_57 : decode cX11_source 57 = .ok (.iload_n 2, 1) := by decide +kernel
theorem dX11_source_58 : decode cX11_source 58 = .ok (.i2l, 1) := by decide +kernel
theorem dX11_source_59 : decode cX11_source 59 = .ok (.lconst 0, 1) := by decide +kernel
theorem dX11_source_60 : decode cX11_source 60 = .ok (.ldc2_w 393, 3) := by decide +kernel
theorem dX11_source_63 : decode cX11_source 63 = .ok (.invokestatic 228, 3) := by decide +kernel
theorem dX11_source_66 : decode cX11_source 66 = .ok (.ifCond .ne 9, 3) := by decide +kernel
theorem dX11_source_69 : decode cX11_source 69 = .ok (.aload_n 0, 1) := by decide +kernel
theorem dX11_source_70 : decode cX11_source 70 = .ok (.iconst 5, 1) := by decide +kernel
theorem dX11_source_71 : decode cX11_source 71 = .ok (.invokevirtual 121, 3) := by decide +kernel
theorem dX11_source_74 : decode cX11_source 74 = .ok (.ireturn, 1) := by decide +kernel
theorem dX11_source_75 : decode cX11_source 75 = .ok (.aload_n 0, 1) := by decide +kernel
theorem dX11_source_76 : decode cX11_source 76 = .ok (.getfield 17, 3) := by decide +kernel
theorem dX11_source_79 : decode cX11_source 79 = .ok (.iload_n 1, 1) := by decide +kernel
theorem dX11_source_80 : decode cX11_source 80 = .ok (.iaload, 1) := by decide +kernel
theorem dX11_source_81 : decode cX11_source 81 = .ok (.aload_n 0, 1) := by decide +kernel
theorem dX11_source_82 : decode cX11_source 82 = .ok (.getfield 287, 3) := by decide +kernel
theorem dX11_source_85 : decode cX11_source 85 = .ok (.if_icmp .ge 9, 3) := by decide +kernel
theorem dX11_source_88 : decode cX11_source 88 = .ok (.aload_n 0, 1) := by decide +kernel
theorem dX11_source_89 : decode cX11_source 89 = .ok (.iconst 4, 1) := by decide +kernel
theorem dX11_source_90 : decode cX11_source 90 = .ok (.invokevirtual 121, 3) := by decide +kernel
theorem dX11_source_93 : decode cX11_source 93 = .ok (.ireturn, 1) := by decide +kernel
theorem dX11_source_94 : decode cX11_source 94 = .ok (.iconst 0, 1) := by decide +kernel
theorem dX11_source_95 : decode cX11_source 95 = .ok (.istore 4, 2) := by decide +kernel
theorem dX11_source_97 : decode cX11_source 97 = .ok (.iload 4, 2) := by decide +kernel
theorem dX11_source_99 : decode cX11_source 99 = .ok (.aload_n 0, 1) := by decide +kernel
theorem dX11_source_100 : decode cX11_source 100 = .ok (.getfield 287, 3) := by decide +kernel
theorem dX11_source_103 : decode cX11_source 103 = .ok (.if_icmp .ge 32, 3) := by decide +kernel
theorem dX11_source_106 : decode cX11_source 106 = .ok (.aload_n 0, 1) := by decide +kernel
theorem dX11_source_107 : decode cX11_source 107 = .ok (.iload_n 1, 1) := by decide +kernel
theorem dX11_source_108 : decode cX11_source 108 = .ok (.iload 4, 2) := by decide +kernel
theorem dX11_source_110 : decode cX11_source 110 = .ok (.invokevirtual 390, 3) := by decide +kernel
theorem dX11_source_113 : decode cX11_source 113 = .ok (.ldc2_w 137, 3) := by decide +kernel
theorem dX11_source_116 : decode cX11_source 116 = .ok (.lconst 1, 1) := by decide +kernel
theorem dX11_source_117 : decode cX11_source 117 = .ok (.invokestatic 228, 3) := by decide +kernel
theorem dX11_source_120 : decode cX11_source 120 = .ok (.ifCond .ne 9, 3) := by decide +kernel
theorem dX11_source_123 : decode cX11_source 123 = .ok (.aload_n 0, 1) := by decide +kernel
theorem dX11_source_124 : decode cX11_source 124 = .ok (.iconst 5, 1) := by decide +kernel
theorem dX11_source_125 : decode cX11_source 125 = .ok (.invokevirtual 121, 3) := by decide +kernel
theorem dX11_source_128 : decode cX11_source 128 = .ok (.ireturn, 1) := by decide +kernel
theorem dX11_source_129 : decode cX11_source 129 = .ok (.iinc 4 1, 3) := by decide +kernel
theorem dX11_source_132 : decode cX11_source 132 = .ok (.goto (-35), 3) := by decide +kernel
theorem dX11_source_135 : decode cX11_source 135 = .ok (.lconst 0, 1) := by decide +kernel
theorem dX11_source_136 : decode cX11_source 136 = .ok (.lstore 4, 2) := by decide +kernel
theorem dX11_source_138 : decode cX11_source 138 = .ok (.iconst 0, 1) := by decide +kernel
theorem dX11_source_139 : decode cX11_source 139 = .ok (.istore 6, 2) := by decide +kernel
theorem dX11_source_141 : decode cX11_source 141 = .ok (.iload 6, 2) := by decide +kernel
theorem dX11_source_143 : decode cX11_source 143 = .ok (.aload_n 0, 1) := by decide +kernel
theorem dX11_source_144 : decode cX11_source 144 = .ok (.getfield 287, 3) := by decide +kernel
theorem dX11_source_147 : decode cX11_source 147 = .ok (.if_icmp .ge 22, 3) := by decide +kernel
theorem dX11_source_150 : decode cX11_source 150 = .ok (.lload 4, 2) := by decide +kernel
theorem dX11_source_152 : decode cX11_source 152 = .ok (.aload_n 0, 1) := by decide +kernel
theorem dX11_source_153 : decode cX11_source 153 = .ok (.iload_n 1, 1) := by decide +kernel
theorem dX11_source_154 : decode cX11_source 154 = .ok (.iload_n 2, 1) := by decide +kernel
theorem dX11_source_155 : decode cX11_source 155 = .ok (.iload 6, 2) := by decide +kernel
theorem dX11_source_157 : decode cX11_source 157 = .ok (.invokevirtual 395, 3) := by decide +kernel
theorem dX11_source_160 : decode cX11_source 160 = .ok (.ladd, 1) := by decide +kernel
theorem dX11_source_161 : decode cX11_source 161 = .ok (.lstore 4, 2) := by decide +kernel
theorem dX11_source_163 : decode cX11_source 163 = .ok (.iinc 6 1, 3) := by decide +kernel
theorem dX11_source_166 : decode cX11_source 166 = .ok (.goto (-25), 3) := by decide +kernel
theorem dX11_source_169 : decode cX11_source 169 = .ok (.lload 4, 2) := by decide +kernel
theorem dX11_source_171 : decode cX11_source 171 = .ok (.lconst 0, 1) := by decide +kernel
theorem dX11_source_172 : decode cX11_source 172 = .ok (.lcmp, 1) := by decide +kernel
theorem dX11_source_173 : decode cX11_source 173 = .ok (.ifCond .ne 10, 3) := by decide +kernel
theorem dX11_source_176 : decode cX11_source 176 = .ok (.aload_n 0, 1) := by decide +kernel
theorem dX11_source_177 : decode cX11_source 177 = .ok (.bipush 9, 2) := by decide +kernel
theorem dX11_source_179 : decode cX11_source 179 = .ok (.invokevirtual 121, 3) := by decide +kernel
theorem dX11_source_182 : decode cX11_source 182 = .ok (.ireturn, 1) := by decide +kernel
theorem dX11_source_183 : decode cX11_source 183 = .ok (.aload_n 0, 1) := by decide +kernel
theorem dX11_source_184 : decode cX11_source 184 = .ok (.aload_n 0, 1) := by decide +kernel
theorem dX11_source_185 : decode cX11_source 185 = .ok (.iload_n 1, 1) := by decide +kernel
theorem dX11_source_186 : decode cX11_source 186 = .ok (.iload_n 2, 1) := by decide +kernel
theorem dX11_source_187 : decode cX11_source 187 = .ok (.iload_n 3, 1) := by decide +kernel
theorem dX11_source_188 : decode cX11_source 188 = .ok (.invokevirtual 395, 3) := by decide +kernel
theorem dX11_source_191 : decode cX11_source 191 = .ok (.lload 4, 2) := by decide +kernel
theorem dX11_source_193 : decode cX11_source 193 = .ok (.invokevirtual 338, 3) := by decide +kernel
theorem dX11_source_196 : decode cX11_source 196 = .ok (.iconst 1, 1) := by decide +kernel
theorem dX11_source_197 : decode cX11_source 197 = .ok (.ireturn, 1) := by decide +kernel
def wb_X11_source_97 (I : HI) (J : HJ) (x1 : Int32) (x2 : Int32) (x3 : Int32) (Post : Bool → HI → HJ → Prop) (E97 : Prop) (K97 : Int32 → Prop) (x4 : Int32) : Prop :=
  ((I 72 20) ≤ x4 → E97) ∧ (¬ (I 72 20) ≤ x4 → (w_X11_numberOf x1 x4 I J (fun (r_6 : Int64) => (w_X11_isIn r_6 (-1) 1 (fun (r_7 : Bool) => ((r_7 = true → (K97 (x4 + 1))) ∧ (r_7 = false → (w_X11_no 5 I J (fun (r_8 : Bool) (I_9 : HI) => (Post r_8 I_9 J))))))))))
set_option maxHeartbeats 4000000 in
set_option maxRecDepth 20000 in
theorem ws_X11_source_97 (g : kf_G) (hg : kf_g g) {x : kf_X} (hx : kf_ok g x RX11 cX11_source 7 4 107) (I : HI) (J : HJ) (x1 : Int32) (x2 : Int32) (x3 : Int32) (Post : Bool → HI → HJ → Prop) (hret : ∀ (pc : Nat) (lv : List (Nat × Value)) (v : Bool) (Iy : HI) (Jy : HJ), decode cX11_source pc = .ok (.ireturn, 1) → Post v Iy Jy → kf_M g x 7 pc lv [.int (kb v)] Iy Jy) (E97 : Prop) (hE97 : E97 → kf_M g x 7 135 [(0, .ref (g.2.2.2 72)), (1, .int x1), (2, .int x2), (3, .int x3)] [] I J) (K97 : Int32 → Prop) (hK97 : ∀ (y4 : Int32), K97 y4 → kf_M g x 7 97 [(0, .ref (g.2.2.2 72)), (1, .int x1), (2, .int x2), (3, .int x3), (4, .int y4)] [] I J) (x4 : Int32) (h : wb_X11_source_97 I J x1 x2 x3 Post E97 K97 x4) : kf_M g x 7 97 [(0, .ref (g.2.2.2 72)), (1, .int x1), (2, .int x2), (3, .int x3), (4, .int x4)] [] I J := by
  unfold wb_X11_source_97 at h
  refine kf_iload hx dX11_source_97 4 rfl ?_
  refine kf_aload_n hx dX11_source_99 rfl 0 rfl ?_
  refine kf_getI hx sl_72_20 fl_RX11_287 dX11_source_100 ?_
  refine kf_icmp_ge hx 135 dX11_source_103 (by decide) (fun c => ?_) (fun c => ?_)
  · replace h := h.1 c
    refine kf_sub [0, 1, 2, 3] rfl ?_
    exact hE97  h
  · replace h := h.2 c
    refine kf_aload_n hx dX11_source_106 rfl 0 rfl ?_
    refine kf_iload_n hx dX11_source_107 rfl 1 rfl ?_
    refine kf_iload hx dX11_source_108 4 rfl ?_
    refine kf_callVlP (st := []) hx (m_X11_numberOf g hg x1 x4 I J _ h) lk_RX11_390 km_X11_numberOf ob_72 rfl (by decide) rfl (Nat.le_of_ble_eq_true rfl) dX11_source_110 (fun r_6 h => ?_)
    refine kf_ldc2 hx ko_RX11_137 dX11_source_113 ?_
    refine kf_lconst (v := 1) hx dX11_source_116 (by decide) ?_
    refine kf_callSbP (st := []) hx (m_X11_isIn g hg r_6 (-1) 1 I J _ h) lk_RX11_228 km_X11_isIn rfl (by decide) rfl (Nat.le_of_ble_eq_true rfl) dX11_source_117 (fun r_7 h => ?_)
    refine kf_ifB_ne hx 129 dX11_source_120 (by decide) (fun c => ?_) (fun c => ?_)
    · replace h := h.1 c
      refine kf_iinc (w := (x4 + 1)) (lv' := [(4, .int (x4 + 1)), (0, .ref (g.2.2.2 72)), (1, .int x1), (2, .int x2), (3, .int x3)]) hx dX11_source_129 4 rfl rfl (by decide) rfl ?_
      refine kf_goto hx 97 dX11_source_132 (by decide) ?_
      refine kf_sub [1, 2, 3, 4, 0] rfl ?_
      exact hK97 _ h
    · replace h := h.2 c
      refine kf_aload_n hx dX11_source_123 rfl 0 rfl ?_
      refine kf_iconst (v := 5) hx dX11_source_124 (by decide) ?_
      refine kf_callVbI (st := []) hx (m_X11_no g hg 5 I J _ h) lk_RX11_121 km_X11_no ob_72 rfl (by decide) rfl (Nat.le_of_ble_eq_true rfl) dX11_source_125 (fun r_8 I_9 h => ?_)
      exact hret _ _ r_8 _ _ dX11_source_128 h
theorem wl_X11_source_97 (g : kf_G) (hg : kf_g g) {x : kf_X} (hx : kf_ok g x RX11 cX11_source 7 4 107) (I : HI) (J : HJ) (x1 : Int32) (x2 : Int32) (x3 : Int32) (Post : Bool → HI → HJ → Prop) (hret : ∀ (pc : Nat) (lv : List (Nat × Value)) (v : Bool) (Iy : HI) (Jy : HJ), decode cX11_source pc = .ok (.ireturn, 1) → Post v Iy Jy → kf_M g x 7 pc lv [.int (kb v)] Iy Jy) (E97 : Prop) (hE97 : E97 → kf_M g x 7 135 [(0, .ref (g.2.2.2 72)), (1, .int x1), (2, .int x2), (3, .int x3)] [] I J) : ∀ (n : Nat) (x4 : Int32), lp (wb_X11_source_97 I J x1 x2 x3 Post E97) n x4 → kf_M g x 7 97 [(0, .ref (g.2.2.2 72)), (1, .int x1), (2, .int x2), (3, .int x3), (4, .int x4)] [] I J := by
  intro n
  induction n with
  | zero => intro x4 h; exact h.elim
  | succ n ih => intro x4 h; exact ws_X11_source_97 g hg hx I J x1 x2 x3 Post hret E97 hE97 (lp (wb_X11_source_97 I J x1 x2 x3 Post E97) n) ih x4 h
def wb_X11_source_141 (J : HJ) (x1 : Int32) (x2 : Int32) (x3 : Int32) (Post : Bool → HI → HJ → Prop) (E141 : Int64 → HI → Prop) (K141 : (Int64 × Int32 × HI) → Prop) (s : Int64 × Int32 × HI) : Prop :=
  match s with
  | (x4, x6, I) => ((I 72 20) ≤ x6 → (E141 x4 I)) ∧ (¬ (I 72 20) ≤ x6 → (w_X11_beganBy x1 x2 x6 I J (fun (r_10 : Int64) (I_11 : HI) => (K141 ((x4 + r_10), (x6 + 1), I_11)))))
set_option maxHeartbeats 4000000 in
set_option maxRecDepth 20000 in
theorem ws_X11_source_141 (g : kf_G) (hg : kf_g g) {x : kf_X} (hx : kf_ok g x RX11 cX11_source 7 4 107) (J : HJ) (x1 : Int32) (x2 : Int32) (x3 : Int32) (Post : Bool → HI → HJ → Prop) (hret : ∀ (pc : Nat) (lv : List (Nat × Value)) (v : Bool) (Iy : HI) (Jy : HJ), decode cX11_source pc = .ok (.ireturn, 1) → Post v Iy Jy → kf_M g x 7 pc lv [.int (kb v)] Iy Jy) (E141 : Int64 → HI → Prop) (hE141 : ∀ (y4 : Int64) (Iy : HI), E141 y4 Iy → kf_M g x 7 169 [(0, .ref (g.2.2.2 72)), (1, .int x1), (2, .int x2), (3, .int x3), (4, .long y4)] [] Iy J) (K141 : (Int64 × Int32 × HI) → Prop) (hK141 : ∀ (y4 : Int64) (y6 : Int32) (Iy : HI), K141 (y4, y6, Iy) → kf_M g x 7 141 [(0, .ref (g.2.2.2 72)), (1, .int x1), (2, .int x2), (3, .int x3), (4, .long y4), (6, .int y6)] [] Iy J) (x4 : Int64) (x6 : Int32) (I : HI) (h : wb_X11_source_141 J x1 x2 x3 Post E141 K141 (x4, x6, I)) : kf_M g x 7 141 [(0, .ref (g.2.2.2 72)), (1, .int x1), (2, .int x2), (3, .int x3), (4, .long x4), (6, .int x6)] [] I J := by
  unfold wb_X11_source_141 at h
  refine kf_iload hx dX11_source_141 5 rfl ?_
  refine kf_aload_n hx dX11_source_143 rfl 0 rfl ?_
  refine kf_getI hx sl_72_20 fl_RX11_287 dX11_source_144 ?_
  refine kf_icmp_ge hx 169 dX11_source_147 (by decide) (fun c => ?_) (fun c => ?_)
  · replace h := h.1 c
    refine kf_sub [0, 1, 2, 3, 4] rfl ?_
    exact hE141 _ _ h
  · replace h := h.2 c
    refine kf_lload hx dX11_source_150 4 rfl ?_
    refine kf_aload_n hx dX11_source_152 rfl 0 rfl ?_
    refine kf_iload_n hx dX11_source_153 rfl 1 rfl ?_
    refine kf_iload_n hx dX11_source_154 rfl 2 rfl ?_
    refine kf_iload hx dX11_source_155 5 rfl ?_
    refine kf_callVlI (st := [.long x4]) hx (m_X11_beganBy g hg x1 x2 x6 I J _ h) lk_RX11_395 km_X11_beganBy ob_72 rfl (by decide) rfl (Nat.le_of_ble_eq_true rfl) dX11_source_157 (fun r_10 I_11 h => ?_)
    refine kf_ladd hx dX11_source_160 ?_
    refine kf_lstore (lv' := [(4, .long (x4 + r_10)), (0, .ref (g.2.2.2 72)), (1, .int x1), (2, .int x2), (3, .int x3), (6, .int x6)]) hx dX11_source_161 (by decide) rfl ?_
    refine kf_iinc (w := (x6 + 1)) (lv' := [(6, .int (x6 + 1)), (4, .long (x4 + r_10)), (0, .ref (g.2.2.2 72)), (1, .int x1), (2, .int x2), (3, .int x3)]) hx dX11_source_163 5 rfl rfl (by decide) rfl ?_
    refine kf_goto hx 141 dX11_source_166 (by decide) ?_
    refine kf_sub [2, 3, 4, 5, 1, 0] rfl ?_
    exact hK141 _ _ _ h
theorem wl_X11_source_141 (g : kf_G) (hg : kf_g g) {x : kf_X} (hx : kf_ok g x RX11 cX11_source 7 4 107) (J : HJ) (x1 : Int32) (x2 : Int32) (x3 : Int32) (Post : Bool → HI → HJ → Prop) (hret : ∀ (pc : Nat) (lv : List (Nat × Value)) (v : Bool) (Iy : HI) (Jy : HJ), decode cX11_source pc = .ok (.ireturn, 1) → Post v Iy Jy → kf_M g x 7 pc lv [.int (kb v)] Iy Jy) (E141 : Int64 → HI → Prop) (hE141 : ∀ (y4 : Int64) (Iy : HI), E141 y4 Iy → kf_M g x 7 169 [(0, .ref (g.2.2.2 72)), (1, .int x1), (2, .int x2), (3, .int x3), (4, .long y4)] [] Iy J) : ∀ (n : Nat) (x4 : Int64) (x6 : Int32) (I : HI), lp (wb_X11_source_141 J x1 x2 x3 Post E141) n (x4, x6, I) → kf_M g x 7 141 [(0, .ref (g.2.2.2 72)), (1, .int x1), (2, .int x2), (3, .int x3), (4, .long x4), (6, .int x6)] [] I J := by
  intro n
  induction n with
  | zero => intro x4 x6 I h; exact h.elim
  | succ n ih => intro x4 x6 I h; exact ws_X11_source_141 g hg hx J x1 x2 x3 Post hret E141 hE141 (lp (wb_X11_source_141 J x1 x2 x3 Post E141) n) ih x4 x6 I h
def w_X11_source (x1 : Int32) (x2 : Int32) (x3 : Int32) (I : HI) (J : HJ) (Post : Bool → HI → HJ → Prop) : Prop :=
  ∀ I_1 : HI, I_1 = hI I 72 1 0 → (∀ I_2 : HI, I_2 = hI I_1 72 0 0 → (w_X11_isIn (Int32.toInt64 x1) 0 3 (fun (r_3 : Bool) => ((r_3 = true → (w_X11_isOne x3 I_2 J (fun (r_4 : Bool) => ((r_4 = true → (vp_in x1 4 ∧ ((0 ≤ (I_2 74 (Int32.toNatClampNeg x1)) → (w_X11_isIn (Int32.toInt64 x2) 0 149 (fun (r_5 : Bool) => ((r_5 = true → (vp_in x1 4 ∧ (((I_2 72 20) ≤ (I_2 74 (Int32.toNatClampNeg x1)) → (∃ n, lp (wb_X11_source_97 I_2 J x1 x2 x3 Post (∃ n, lp (wb_X11_source_141 J x1 x2 x3 Post (fun (x4_12 : Int64) (I_13 : HI) => (¬ x4_12 = 0 → (w_X11_beganBy x1 x2 x3 I_13 J (fun (r_14 : Int64) (I_15 : HI) => (w_X11_fraction r_14 x4_12 I_15 J (fun (J_16 : HJ) => (Post true I_15 J_16)))))) ∧ (x4_12 = 0 → (w_X11_no 9 I_13 J (fun (r_17 : Bool) (I_18 : HI) => (Post r_17 I_18 J)))))) n (0, 0, I_2))) n 0)) ∧ (¬ (I_2 72 20) ≤ (I_2 74 (Int32.toNatClampNeg x1)) → (w_X11_no 4 I_2 J (fun (r_19 : Bool) (I_20 : HI) => (Post r_19 I_20 J))))))) ∧ (r_5 = false → (w_X11_no 5 I_2 J (fun (r_21 : Bool) (I_22 : HI) => (Post r_21 I_22 J)))))))) ∧ (¬ 0 ≤ (I_2 74 (Int32.toNatClampNeg x1)) → (w_X11_no 3 I_2 J (fun (r_23 : Bool) (I_24 : HI) => (Post r_23 I_24 J))))))) ∧ (r_4 = false → (w_X11_no 2 I_2 J (fun (r_25 : Bool) (I_26 : HI) => (Post r_25 I_26 J)))))))) ∧ (r_3 = false → (w_X11_no 1 I_2 J (fun (r_27 : Bool) (I_28 : HI) => (Post r_27 I_28 J))))))))
set_option maxHeartbeats 4000000 in
set_option maxRecDepth 20000 in
theorem we_X11_source (g : kf_G) (hg : kf_g g) {x : kf_X} (hx : kf_ok g x RX11 cX11_source 7 4 107) (x1 : Int32) (x2 : Int32) (x3 : Int32) (I : HI) (J : HJ) (Post : Bool → HI → HJ → Prop) (hret : ∀ (pc : Nat) (lv : List (Nat × Value)) (v : Bool) (Iy : HI) (Jy : HJ), decode cX11_source pc = .ok (.ireturn, 1) → Post v Iy Jy → kf_M g x 7 pc lv [.int (kb v)] Iy Jy) (h : w_X11_source x1 x2 x3 I J Post) : kf_M g x 7 0 [(0, .ref (g.2.2.2 72)), (1, .int x1), (2, .int x2), (3, .int x3)] [] I J := by
  unfold w_X11_source at h
  refine kf_aload_n hx dX11_source_0 rfl 0 rfl ?_
  refine kf_iconst (v := 0) hx dX11_source_1 (by decide) ?_
  refine kf_putI hx sl_72_1 fl_RX11_106 fp_11_1 dX11_source_2 ?_
  refine kf_nmI (fun I_1 eI_1 => ?_)
  replace h := h I_1 eI_1
  refine kf_aload_n hx dX11_source_5 rfl 0 rfl ?_
  refine kf_iconst (v := 0) hx dX11_source_6 (by decide) ?_
  refine kf_putI hx sl_72_0 fl_RX11_109 fp_11_0 dX11_source_7 ?_
  refine kf_nmI (fun I_2 eI_2 => ?_)
  replace h := h I_2 eI_2
  refine kf_iload_n hx dX11_source_10 rfl 1 rfl ?_
  refine kf_i2l hx dX11_source_11 ?_
  refine kf_lconst (v := 0) hx dX11_source_12 (by decide) ?_
  refine kf_ldc2 hx ko_RX11_388 dX11_source_13 ?_
  refine kf_callSbP (st := []) hx (m_X11_isIn g hg (Int32.toInt64 x1) 0 3 I_2 J _ h) lk_RX11_228 km_X11_isIn rfl (by decide) rfl (Nat.le_of_ble_eq_true rfl) dX11_source_16 (fun r_3 h => ?_)
  refine kf_ifB_ne hx 28 dX11_source_19 (by decide) (fun c => ?_) (fun c => ?_)
  · replace h := h.1 c
    refine kf_aload_n hx dX11_source_28 rfl 0 rfl ?_
    refine kf_iload_n hx dX11_source_29 rfl 3 rfl ?_
    refine kf_callVbP (st := []) hx (m_X11_isOne g hg x3 I_2 J _ h) lk_RX11_296 km_X11_isOne ob_72 rfl (by decide) rfl (Nat.le_of_ble_eq_true rfl) dX11_source_30 (fun r_4 h => ?_)
    refine kf_ifB_ne hx 42 dX11_source_33 (by decide) (fun c => ?_) (fun c => ?_)
    · replace h := h.1 c
      refine kf_aload_n hx dX11_source_42 rfl 0 rfl ?_
      refine kf_getR (n := 74) hx sl_72_5 fl_RX11_17 dX11_source_43 ?_
      refine kf_iload_n hx dX11_source_46 rfl 1 rfl ?_
      refine kf_iald hx ar_74 h.1 dX11_source_47 ?_
      replace h := h.2
      refine kf_if_ge hx 57 dX11_source_48 (by decide) (fun c => ?_) (fun c => ?_)
      · replace h := h.1 c
        refine kf_iload_n hx dX11_source_57 rfl 2 rfl ?_
        refine kf_i2l hx dX11_source_58 ?_
        refine kf_lconst (v := 0) hx dX11_source_59 (by decide) ?_
        refine kf_ldc2 hx ko_RX11_393 dX11_source_60 ?_
        refine kf_callSbP (st := []) hx (m_X11_isIn g hg (Int32.toInt64 x2) 0 149 I_2 J _ h) lk_RX11_228 km_X11_isIn rfl (by decide) rfl (Nat.le_of_ble_eq_true rfl) dX11_source_63 (fun r_5 h => ?_)
        refine kf_ifB_ne hx 75 dX11_source_66 (by decide) (fun c => ?_) (fun c => ?_)
        · replace h := h.1 c
          refine kf_aload_n hx dX11_source_75 rfl 0 rfl ?_
          refine kf_getR (n := 74) hx sl_72_5 fl_RX11_17 dX11_source_76 ?_
          refine kf_iload_n hx dX11_source_79 rfl 1 rfl ?_
          refine kf_iald hx ar_74 h.1 dX11_source_80 ?_
          replace h := h.2
          refine kf_aload_n hx dX11_source_81 rfl 0 rfl ?_
          refine kf_getI hx sl_72_20 fl_RX11_287 dX11_source_82 ?_
          refine kf_icmp_ge hx 94 dX11_source_85 (by decide) (fun c => ?_) (fun c => ?_)
          · replace h := h.1 c
            refine kf_iconst (v := 0) hx dX11_source_94 (by decide) ?_
            refine kf_istore (lv' := [(4, .int 0), (0, .ref (g.2.2.2 72)), (1, .int x1), (2, .int x2), (3, .int x3)]) hx dX11_source_95 (by decide) rfl ?_
            obtain ⟨n, h⟩ := h
            refine kf_sub [1, 2, 3, 4, 0] rfl ?_
            refine wl_X11_source_97 g hg hx I_2 J x1 x2 x3 _ hret _ (fun h => ?_) n _ h
            refine kf_lconst (v := 0) hx dX11_source_135 (by decide) ?_
            refine kf_lstore (lv' := [(4, .long 0), (0, .ref (g.2.2.2 72)), (1, .int x1), (2, .int x2), (3, .int x3)]) hx dX11_source_136 (by decide) rfl ?_
            refine kf_iconst (v := 0) hx dX11_source_138 (by decide) ?_
            refine kf_istore (lv' := [(6, .int 0), (4, .long 0), (0, .ref (g.2.2.2 72)), (1, .int x1), (2, .int x2), (3, .int x3)]) hx dX11_source_139 (by decide) rfl ?_
            obtain ⟨n, h⟩ := h
            refine kf_sub [2, 3, 4, 5, 1, 0] rfl ?_
            refine wl_X11_source_141 g hg hx J x1 x2 x3 _ hret _ (fun x4_12 I_13 h => ?_) n _ _ _ h
            refine kf_lload hx dX11_source_169 4 rfl ?_
            refine kf_lconst (v := 0) hx dX11_source_171 (by decide) ?_
            refine kf_l_ne hx 183 dX11_source_172 dX11_source_173 (by decide) (fun c => ?_) (fun c => ?_)
            · replace h := h.1 c
              refine kf_aload_n hx dX11_source_183 rfl 0 rfl ?_
              refine kf_aload_n hx dX11_source_184 rfl 0 rfl ?_
              refine kf_iload_n hx dX11_source_185 rfl 1 rfl ?_
              refine kf_iload_n hx dX11_source_186 rfl 2 rfl ?_
              refine kf_iload_n hx dX11_source_187 rfl 3 rfl ?_
              refine kf_callVlI (st := [.ref (g.2.2.2 72)]) hx (m_X11_beganBy g hg x1 x2 x3 I_13 J _ h) lk_RX11_395 km_X11_beganBy ob_72 rfl (by decide) rfl (Nat.le_of_ble_eq_true rfl) dX11_source_188 (fun r_14 I_15 h => ?_)
              refine kf_lload hx dX11_source_191 4 rfl ?_
              refine kf_callVvJ (st := []) hx (m_X11_fraction g hg r_14 x4_12 I_15 J _ h) lk_RX11_338 km_X11_fraction ob_72 rfl (by decide) rfl (Nat.le_of_ble_eq_true rfl) dX11_source_193 (fun J_16 h => ?_)
              refine kf_iconst (v := 1) hx dX11_source_196 (by decide) ?_
              exact hret _ _ true _ _ dX11_source_197 h
            · replace h := h.2 c
              refine kf_aload_n hx dX11_source_176 rfl 0 rfl ?_
              refine kf_bipush (v := 9) hx dX11_source_177 (by decide) ?_
              refine kf_callVbI (st := []) hx (m_X11_no g hg 9 I_13 J _ h) lk_RX11_121 km_X11_no ob_72 rfl (by decide) rfl (Nat.le_of_ble_eq_true rfl) dX11_source_179 (fun r_17 I_18 h => ?_)
              exact hret _ _ r_17 _ _ dX11_source_182 h
          · replace h := h.2 c
            refine kf_aload_n hx dX11_source_88 rfl 0 rfl ?_
            refine kf_iconst (v := 4) hx dX11_source_89 (by decide) ?_
            refine kf_callVbI (st := []) hx (m_X11_no g hg 4 I_2 J _ h) lk_RX11_121 km_X11_no ob_72 rfl (by decide) rfl (Nat.le_of_ble_eq_true rfl) dX11_source_90 (fun r_19 I_20 h => ?_)
            exact hret _ _ r_19 _ _ dX11_source_93 h
        · replace h := h.2 c
          refine kf_aload_n hx dX11_source_69 rfl 0 rfl ?_
          refine kf_iconst (v := 5) hx dX11_source_70 (by decide) ?_
          refine kf_callVbI (st := []) hx (m_X11_no g hg 5 I_2 J _ h) lk_RX11_121 km_X11_no ob_72 rfl (by decide) rfl (Nat.le_of_ble_eq_true rfl) dX11_source_71 (fun r_21 I_22 h => ?_)
          exact hret _ _ r_21 _ _ dX11_source_74 h
      · replace h := h.2 c
        refine kf_aload_n hx dX11_source_51 rfl 0 rfl ?_
        refine kf_iconst (v := 3) hx dX11_source_52 (by decide) ?_
        refine kf_callVbI (st := []) hx (m_X11_no g hg 3 I_2 J _ h) lk_RX11_121 km_X11_no ob_72 rfl (by decide) rfl (Nat.le_of_ble_eq_true rfl) dX11_source_53 (fun r_23 I_24 h => ?_)
        exact hret _ _ r_23 _ _ dX11_source_56 h
    · replace h := h.2 c
      refine kf_aload_n hx dX11_source_36 rfl 0 rfl ?_
      refine kf_iconst (v := 2) hx dX11_source_37 (by decide) ?_
      refine kf_callVbI (st := []) hx (m_X11_no g hg 2 I_2 J _ h) lk_RX11_121 km_X11_no ob_72 rfl (by decide) rfl (Nat.le_of_ble_eq_true rfl) dX11_source_38 (fun r_25 I_26 h => ?_)
      exact hret _ _ r_25 _ _ dX11_source_41 h
  · replace h := h.2 c
    refine kf_aload_n hx dX11_source_22 rfl 0 rfl ?_
    refine kf_iconst (v := 1) hx dX11_source_23 (by decide) ?_
    refine kf_callVbI (st := []) hx (m_X11_no g hg 1 I_2 J _ h) lk_RX11_121 km_X11_no ob_72 rfl (by decide) rfl (Nat.le_of_ble_eq_true rfl) dX11_source_24 (fun r_27 I_28 h => ?_)
    exact hret _ _ r_27 _ _ dX11_source_27 h
set_option maxHeartbeats 4000000 in
set_option maxRecDepth 20000 in
theorem m_X11_source (g : kf_G) (hg : kf_g g) (x1 : Int32) (x2 : Int32) (x3 : Int32) (I : HI) (J : HJ) (Post : Bool → HI → HJ → Prop) (h : w_X11_source x1 x2 x3 I J Post) : kf_Mb g yX11_source (kf_W yX11_source cX11_source 7 (Option.some Jvm.ClassFile.FieldType.boolean)) 4 107 [.ref (g.2.2.2 72), .int x1, .int x2, .int x3] I J Post :=
  kf_entb hg (by decide) (Nat.le_of_ble_eq_true rfl) rfl (fun x hx hr => we_X11_source g hg hx x1 x2 x3 I J Post (fun pc lv v I' J' hd hP => hr pc lv v I' J' hd hP) h)
theorem dX11_run_0 : decode cX11_run 0 = .ok (.aload_n 0, 1) := by decide +kernel
theorem dX11_run_1 : decode cX11_run 1 = .ok (.iconst 0, 1) := by decide +kernel
theorem dX11_run_2 : decode cX11_run 2 = .ok (.putfield 106, 3) := by decide +kernel
theorem dX11_run_5 : decode cX11_run 5 = .ok (.aload_n 0, 1) := by decide +kernel
theorem dX11_run_6 : decode cX11_run 6 = .ok (.iconst 0, 1) := by decide +kernel
theorem dX11_run_7 : decode cX11_run 7 = .ok (.putfield 109, 3) := by decide +kernel
theorem dX11_run_10 : decode cX11_run 10 = .ok (.iload_n 1, 1) := by decide +kernel
theorem dX11_run_11 : decode cX11_run 11 = .ok (.i2l, 1) := by decide +kernel
theorem dX11_run_12 : decode cX11_run 12 = .ok (.lconst 0, 1) := by decide +kernel
theorem dX11_run_13 : decode cX11_run 13 = .ok (.ldc2_w 388, 3) := by decide +kernel
theorem dX11_run_16 : decode cX11_run 16 = .ok (.invokestatic 228, 3) := by decide +kernel
theorem dX11_run_19 : decode cX11_run 19 = .ok (.ifCond .ne 9, 3) := by decide +kernel
theorem dX11_run_22 : decode cX11_run 22 = .ok (.aload_n 0, 1) := by decide +kernel
theorem dX11_run_23 : decode cX11_run 23 = .ok (.iconst 1, 1) := by decide +kernel
theorem dX11_run_24 : decode cX11_run 24 = .ok (.invokevirtual 272, 3) := by decide +kernel
theorem dX11_run_27 : decode cX11_run 27 = .ok (.ireturn, 1) := by decide +kernel
theorem dX11_run_28 : decode cX11_run 28 = .ok (.aload_n 0, 1) := by decide +kernel
theorem dX11_run_29 : decode cX11_run 29 = .ok (.getfield 17, 3) := by decide +kernel
theorem dX11_run_32 : decode cX11_run 32 = .ok (.iload_n 1, 1) := by decide +kernel
theorem dX11_run_33 : decode cX11_run 33 = .ok (.iaload, 1) := by decide +kernel
theorem dX11_run_34 : decode cX11_run 34 = .ok (.ifCond .ge 9, 3) := by decide +kernel
theorem dX11_run_37 : decode cX11_run 37 = .ok (.aload_n 0, 1) := by decide +kernel
theorem dX11_run_38 : decode cX11_run 38 = .ok (.iconst 3, 1) := by decide +kernel
theorem dX11_run_39 : decode cX11_run 39 = .ok (.invokevirtual 272, 3) := by decide +kernel
theorem dX11_run_42 : decode cX11_run 42 = .ok (.ireturn, 1) := by decide +kernel
theorem dX11_run_43 : decode cX11_run 43 = .ok (.aload_n 0, 1) := by decide +kernel
theorem dX11_run_44 : decode cX11_run 44 = .ok (.getfield 17, 3) := by decide +kernel
theorem dX11_run_47 : decode cX11_run 47 = .ok (.iload_n 1, 1) := by decide +kernel
theorem dX11_run_48 : decode cX11_run 48 = .ok (.iaload, 1) := by decide +kernel
theorem dX11_run_49 : decode cX11_run 49 = .ok (.aload_n 0, 1) := by decide +kernel
theorem dX11_run_50 : decode cX11_run 50 = .ok (.getfield 287, 3) := by decide +kernel
theorem dX11_run_53 : decode cX11_run 53 = .ok (.if_icmp .ge 9, 3) := by decide +kernel
theorem dX11_run_56 : decode cX11_run 56 = .ok (.aload_n 0, 1) := by decide +kernel
theorem dX11_run_57 : decode cX11_run 57 = .ok (.iconst 4, 1) := by decide +kernel
theorem dX11_run_58 : decode cX11_run 58 = .ok (.invokevirtual 272, 3) := by decide +kernel
theorem dX11_run_61 : decode cX11_run 61 = .ok (.ireturn, 1) := by decide +kernel
theorem dX11_run_62 : decode cX11_run 62 = .ok (.iconst 0, 1) := by decide +kernel
theorem dX11_run_63 : decode cX11_run 63 = .ok (.istore_n 2, 1) := by decide +kernel
theorem dX11_run_64 : decode cX11_run 64 = .ok (.iload_n 2, 1) := by decide +kernel
theorem dX11_run_65 : decode cX11_run 65 = .ok (.aload_n 0, 1) := by decide +kernel
theorem dX11_run_66 : decode cX11_run 66 = .ok (.getfield 287, 3) := by decide +kernel
theorem dX11_run_69 : decode cX11_run 69 = .ok (.if_icmp .ge 33, 3) := by decide +kernel
theorem dX11_run_72 : decode cX11_run 72 = .ok (.aload_n 0, 1) := by decide +kernel
theorem dX11_run_73 : decode cX11_run 73 = .ok (.iload_n 1, 1) := by decide +kernel
theorem dX11_run_74 : decode cX11_run 74 = .ok (.iload_n 2, 1) := by decide +kernel
theorem dX11_run_75 : decode cX11_run 75 = .ok (.invokevirtual 390, 3) := by decide +kernel
theorem dX11_run_78 : decode cX11_run 78 = .ok (.ldc2_w 137, 3) := by decide +kernel
theorem dX11_run_81 : decode cX11_run 81 = .ok (.ldc2_w 393, 3) := by decide +kernel
theorem dX11_run_84 : decode cX11_run 84 = .ok (.invokestatic 228, 3) := by decide +kernel
theorem dX11_run_87 : decode cX11_run 87 = .ok (.ifCond .ne 9, 3) := by decide +kernel
theorem dX11_run_90 : decode cX11_run 90 = .ok (.aload_n 0, 1) := by decide +kernel
theorem dX11_run_91 : decode cX11_run 91 = .ok (.iconst 5, 1) := by decide +kernel
theorem dX11_run_92 : decode cX11_run 92 = .ok (.invokevirtual 272, 3) := by decide +kernel
theorem dX11_run_95 : decode cX11_run 95 = .ok (.ireturn, 1) := by decide +kernel
theorem dX11_run_96 : decode cX11_run 96 = .ok (.iinc 2 1, 3) := by decide +kernel
theorem dX11_run_99 : decode cX11_run 99 = .ok (.goto (-35), 3) := by decide +kernel
theorem dX11_run_102 : decode cX11_run 102 = .ok (.aload_n 0, 1) := by decide +kernel
theorem dX11_run_103 : decode cX11_run 103 = .ok (.getfield 293, 3) := by decide +kernel
theorem dX11_run_106 : decode cX11_run 106 = .ok (.bipush 15, 2) := by decide +kernel
theorem dX11_run_108 : decode cX11_run 108 = .ok (.if_icmp .ne 10, 3) := by decide +kernel
theorem dX11_run_111 : decode cX11_run 111 = .ok (.aload_n 0, 1) := by decide +kernel
theorem dX11_run_112 : decode cX11_run 112 = .ok (.bipush 7, 2) := by decide +kernel
theorem dX11_run_114 : decode cX11_run 114 = .ok (.invokevirtual 272, 3) := by decide +kernel
theorem dX11_run_117 : decode cX11_run 117 = .ok (.ireturn, 1) := by decide +kernel
theorem dX11_run_118 : decode cX11_run 118 = .ok (.iconst 0, 1) := by decide +kernel
theorem dX11_run_119 : decode cX11_run 119 = .ok (.istore_n 2, 1) := by decide +kernel
theorem dX11_run_120 : decode cX11_run 120 = .ok (.iload_n 2, 1) := by decide +kernel
theorem dX11_run_121 : decode cX11_run 121 = .ok (.aload_n 0, 1) := by decide +kernel
theorem dX11_run_122 : decode cX11_run 122 = .ok (.getfield 287, 3) := by decide +kernel
theorem dX11_run_125 : decode cX11_run 125 = .ok (.if_icmp .ge 30, 3) := by decide +kernel
theorem dX11_run_128 : decode cX11_run 128 = .ok (.aload_n 0, 1) := by decide +kernel
theorem dX11_run_129 : decode cX11_run 129 = .ok (.getfield 78, 3) := by decide +kernel
theorem dX11_run_132 : decode cX11_run 132 = .ok (.bipush 12, 2) := by decide +kernel
theorem dX11_run_134 : decode cX11_run 134 = .ok (.aload_n 0, 1) := by decide +kernel
theorem dX11_run_135 : decode cX11_run 135 = .ok (.getfield 293, 3) := by decide +kernel
theorem dX11_run_138 : decode cX11_run 138 = .ok (.imul, 1) := by decide +kernel
theorem dX11_run_139 : decode cX11_run 139 = .ok (.iload_n 2, 1) := by decide +kernel
theorem dX11_run_140 : decode cX11_run 140 = .ok (.iadd, 1) := by decide +kernel
theorem dX11_run_141 : decode cX11_run 141 = .ok (.aload_n 0, 1) := by decide +kernel
theorem dX11_run_142 : decode cX11_run 142 = .ok (.iload_n 1, 1) := by decide +kernel
theorem dX11_run_143 : decode cX11_run 143 = .ok (.iload_n 2, 1) := by decide +kernel
theorem dX11_run_144 : decode cX11_run 144 = .ok (.invokevirtual 390, 3) := by decide +kernel
theorem dX11_run_147 : decode cX11_run 147 = .ok (.l2i, 1) := by decide +kernel
theorem dX11_run_148 : decode cX11_run 148 = .ok (.iastore, 1) := by decide +kernel
theorem dX11_run_149 : decode cX11_run 149 = .ok (.iinc 2 1, 3) := by decide +kernel
theorem dX11_run_152 : decode cX11_run 152 = .ok (.goto (-32), 3) := by decide +kernel
theorem dX11_run_155 : decode cX11_run 155 = .ok (.aload_n 0, 1) := by decide +kernel
theorem dX11_run_156 : decode cX11_run 156 = .ok (.dup, 1) := by decide +kernel
theorem dX11_run_157 : decode cX11_run 157 = .ok (.getfield 293, 3) := by decide +kernel
theorem dX11_run_160 : decode cX11_run 160 = .ok (.iconst 1, 1) := by decide +kernel
theorem dX11_run_161 : decode cX11_run 161 = .ok (.iadd, 1) := by decide +kernel
theorem dX11_run_162 : decode cX11_run 162 = .ok (.putfield 293, 3) := by decide +kernel
theorem dX11_run_165 : decode cX11_run 165 = .ok (.aload_n 0, 1) := by decide +kernel
theorem dX11_run_166 : decode cX11_run 166 = .ok (.getfield 293, 3) := by decide +kernel
theorem dX11_run_169 : decode cX11_run 169 = .ok (.iconst 1, 1) := by decide +kernel
theorem dX11_run_170 : decode cX11_run 170 = .ok (.isub, 1) := by decide +kernel
theorem dX11_run_171 : decode cX11_run 171 = .ok (.ireturn, 1) := by decide +kernel
def wb_X11_run_64 (I : HI) (J : HJ) (x1 : Int32) (Post : Int32 → HI → Prop) (E64 : Prop) (K64 : Int32 → Prop) (x2 : Int32) : Prop :=
  ((I 72 20) ≤ x2 → E64) ∧ (¬ (I 72 20) ≤ x2 → (w_X11_numberOf x1 x2 I J (fun (r_4 : Int64) => (w_X11_isIn r_4 (-1) 149 (fun (r_5 : Bool) => ((r_5 = true → (K64 (x2 + 1))) ∧ (r_5 = false → (w_X11_refusedBy 5 I J (fun (r_6 : Int32) (I_7 : HI) => (Post r_6 I_7))))))))))
set_option maxHeartbeats 4000000 in
set_option maxRecDepth 20000 in
theorem ws_X11_run_64 (g : kf_G) (hg : kf_g g) {x : kf_X} (hx : kf_ok g x RX11 cX11_run 3 1 25) (I : HI) (J : HJ) (x1 : Int32) (Post : Int32 → HI → Prop) (hret : ∀ (pc : Nat) (lv : List (Nat × Value)) (v : Int32) (Iy : HI), decode cX11_run pc = .ok (.ireturn, 1) → Post v Iy → kf_M g x 3 pc lv [.int v] Iy J) (E64 : Prop) (hE64 : E64 → kf_M g x 3 102 [(0, .ref (g.2.2.2 72)), (1, .int x1)] [] I J) (K64 : Int32 → Prop) (hK64 : ∀ (y2 : Int32), K64 y2 → kf_M g x 3 64 [(0, .ref (g.2.2.2 72)), (1, .int x1), (2, .int y2)] [] I J) (x2 : Int32) (h : wb_X11_run_64 I J x1 Post E64 K64 x2) : kf_M g x 3 64 [(0, .ref (g.2.2.2 72)), (1, .int x1), (2, .int x2)] [] I J := by
  unfold wb_X11_run_64 at h
  refine kf_iload_n hx dX11_run_64 rfl 2 rfl ?_
  refine kf_aload_n hx dX11_run_65 rfl 0 rfl ?_
  refine kf_getI hx sl_72_20 fl_RX11_287 dX11_run_66 ?_
  refine kf_icmp_ge hx 102 dX11_run_69 (by decide) (fun c => ?_) (fun c => ?_)
  · replace h := h.1 c
    refine kf_sub [0, 1] rfl ?_
    exact hE64  h
  · replace h := h.2 c
    refine kf_aload_n hx dX11_run_72 rfl 0 rfl ?_
    refine kf_iload_n hx dX11_run_73 rfl 1 rfl ?_
    refine kf_iload_n hx dX11_run_74 rfl 2 rfl ?_
    refine kf_callVlP (st := []) hx (m_X11_numberOf g hg x1 x2 I J _ h) lk_RX11_390 km_X11_numberOf ob_72 rfl (by decide) rfl (Nat.le_of_ble_eq_true rfl) dX11_run_75 (fun r_4 h => ?_)
    refine kf_ldc2 hx ko_RX11_137 dX11_run_78 ?_
    refine kf_ldc2 hx ko_RX11_393 dX11_run_81 ?_
    refine kf_callSbP (st := []) hx (m_X11_isIn g hg r_4 (-1) 149 I J _ h) lk_RX11_228 km_X11_isIn rfl (by decide) rfl (Nat.le_of_ble_eq_true rfl) dX11_run_84 (fun r_5 h => ?_)
    refine kf_ifB_ne hx 96 dX11_run_87 (by decide) (fun c => ?_) (fun c => ?_)
    · replace h := h.1 c
      refine kf_iinc (w := (x2 + 1)) (lv' := [(2, .int (x2 + 1)), (0, .ref (g.2.2.2 72)), (1, .int x1)]) hx dX11_run_96 2 rfl rfl (by decide) rfl ?_
      refine kf_goto hx 64 dX11_run_99 (by decide) ?_
      refine kf_sub [1, 2, 0] rfl ?_
      exact hK64 _ h
    · replace h := h.2 c
      refine kf_aload_n hx dX11_run_90 rfl 0 rfl ?_
      refine kf_iconst (v := 5) hx dX11_run_91 (by decide) ?_
      refine kf_callViI (st := []) hx (m_X11_refusedBy g hg 5 I J _ h) lk_RX11_272 km_X11_refusedBy ob_72 rfl (by decide) rfl (Nat.le_of_ble_eq_true rfl) dX11_run_92 (fun r_6 I_7 h => ?_)
      exact hret _ _ r_6 _ dX11_run_95 h
theorem wl_X11_run_64 (g : kf_G) (hg : kf_g g) {x : kf_X} (hx : kf_ok g x RX11 cX11_run 3 1 25) (I : HI) (J : HJ) (x1 : Int32) (Post : Int32 → HI → Prop) (hret : ∀ (pc : Nat) (lv : List (Nat × Value)) (v : Int32) (Iy : HI), decode cX11_run pc = .ok (.ireturn, 1) → Post v Iy → kf_M g x 3 pc lv [.int v] Iy J) (E64 : Prop) (hE64 : E64 → kf_M g x 3 102 [(0, .ref (g.2.2.2 72)), (1, .int x1)] [] I J) : ∀ (n : Nat) (x2 : Int32), lp (wb_X11_run_64 I J x1 Post E64) n x2 → kf_M g x 3 64 [(0, .ref (g.2.2.2 72)), (1, .int x1), (2, .int x2)] [] I J := by
  intro n
  induction n with
  | zero => intro x2 h; exact h.elim
  | succ n ih => intro x2 h; exact ws_X11_run_64 g hg hx I J x1 Post hret E64 hE64 (lp (wb_X11_run_64 I J x1 Post E64) n) ih x2 h
def wb_X11_run_120 (J : HJ) (x1 : Int32) (Post : Int32 → HI → Prop) (E120 : HI → Prop) (K120 : (Int32 × HI) → Prop) (s : Int32 × HI) : Prop :=
  match s with
  | (x2, I) => ((I 72 20) ≤ x2 → (E120 I)) ∧ (¬ (I 72 20) ≤ x2 → (w_X11_numberOf x1 x2 I J (fun (r_8 : Int64) => (vp_in ((12 * (I 72 38)) + x2) 180 ∧ (∀ I_9 : HI, I_9 = hI I 91 (Int32.toNatClampNeg ((12 * (I 72 38)) + x2)) (Int64.toInt32 r_8) → (K120 ((x2 + 1), I_9)))))))
set_option maxHeartbeats 4000000 in
set_option maxRecDepth 20000 in
theorem ws_X11_run_120 (g : kf_G) (hg : kf_g g) {x : kf_X} (hx : kf_ok g x RX11 cX11_run 3 1 25) (J : HJ) (x1 : Int32) (Post : Int32 → HI → Prop) (hret : ∀ (pc : Nat) (lv : List (Nat × Value)) (v : Int32) (Iy : HI), decode cX11_run pc = .ok (.ireturn, 1) → Post v Iy → kf_M g x 3 pc lv [.int v] Iy J) (E120 : HI → Prop) (hE120 : ∀ (Iy : HI), E120 Iy → kf_M g x 3 155 [(0, .ref (g.2.2.2 72))] [] Iy J) (K120 : (Int32 × HI) → Prop) (hK120 : ∀ (y2 : Int32) (Iy : HI), K120 (y2, Iy) → kf_M g x 3 120 [(0, .ref (g.2.2.2 72)), (1, .int x1), (2, .int y2)] [] Iy J) (x2 : Int32) (I : HI) (h : wb_X11_run_120 J x1 Post E120 K120 (x2, I)) : kf_M g x 3 120 [(0, .ref (g.2.2.2 72)), (1, .int x1), (2, .int x2)] [] I J := by
  unfold wb_X11_run_120 at h
  refine kf_iload_n hx dX11_run_120 rfl 2 rfl ?_
  refine kf_aload_n hx dX11_run_121 rfl 0 rfl ?_
  refine kf_getI hx sl_72_20 fl_RX11_287 dX11_run_122 ?_
  refine kf_icmp_ge hx 155 dX11_run_125 (by decide) (fun c => ?_) (fun c => ?_)
  · replace h := h.1 c
    refine kf_sub [0] rfl ?_
    exact hE120 _ h
  · replace h := h.2 c
    refine kf_aload_n hx dX11_run_128 rfl 0 rfl ?_
    refine kf_getR (n := 91) hx sl_72_39 fl_RX11_78 dX11_run_129 ?_
    refine kf_bipush (v := 12) hx dX11_run_132 (by decide) ?_
    refine kf_aload_n hx dX11_run_134 rfl 0 rfl ?_
    refine kf_getI hx sl_72_38 fl_RX11_293 dX11_run_135 ?_
    refine kf_imul hx dX11_run_138 ?_
    refine kf_iload_n hx dX11_run_139 rfl 2 rfl ?_
    refine kf_iadd hx dX11_run_140 ?_
    refine kf_aload_n hx dX11_run_141 rfl 0 rfl ?_
    refine kf_iload_n hx dX11_run_142 rfl 1 rfl ?_
    refine kf_iload_n hx dX11_run_143 rfl 2 rfl ?_
    refine kf_callVlP (st := [.int ((12 * (I 72 38)) + x2), .ref (g.2.2.2 91)]) hx (m_X11_numberOf g hg x1 x2 I J _ h) lk_RX11_390 km_X11_numberOf ob_72 rfl (by decide) rfl (Nat.le_of_ble_eq_true rfl) dX11_run_144 (fun r_8 h => ?_)
    refine kf_l2i hx dX11_run_147 ?_
    refine kf_iast hx ar_91 h.1 dX11_run_148 ?_
    replace h := h.2
    refine kf_nmI (fun I_9 eI_9 => ?_)
    replace h := h I_9 eI_9
    refine kf_iinc (w := (x2 + 1)) (lv' := [(2, .int (x2 + 1)), (0, .ref (g.2.2.2 72)), (1, .int x1)]) hx dX11_run_149 2 rfl rfl (by decide) rfl ?_
    refine kf_goto hx 120 dX11_run_152 (by decide) ?_
    refine kf_sub [1, 2, 0] rfl ?_
    exact hK120 _ _ h
theorem wl_X11_run_120 (g : kf_G) (hg : kf_g g) {x : kf_X} (hx : kf_ok g x RX11 cX11_run 3 1 25) (J : HJ) (x1 : Int32) (Post : Int32 → HI → Prop) (hret : ∀ (pc : Nat) (lv : List (Nat × Value)) (v : Int32) (Iy : HI), decode cX11_run pc = .ok (.ireturn, 1) → Post v Iy → kf_M g x 3 pc lv [.int v] Iy J) (E120 : HI → Prop) (hE120 : ∀ (Iy : HI), E120 Iy → kf_M g x 3 155 [(0, .ref (g.2.2.2 72))] [] Iy J) : ∀ (n : Nat) (x2 : Int32) (I : HI), lp (wb_X11_run_120 J x1 Post E120) n (x2, I) → kf_M g x 3 120 [(0, .ref (g.2.2.2 72)), (1, .int x1), (2, .int x2)] [] I J := by
  intro n
  induction n with
  | zero => intro x2 I h; exact h.elim
  | succ n ih => intro x2 I h; exact ws_X11_run_120 g hg hx J x1 Post hret E120 hE120 (lp (wb_X11_run_120 J x1 Post E120) n) ih x2 I h
def w_X11_run (x1 : Int32) (I : HI) (J : HJ) (Post : Int32 → HI → Prop) : Prop :=
  ∀ I_1 : HI, I_1 = hI I 72 1 0 → (∀ I_2 : HI, I_2 = hI I_1 72 0 0 → (w_X11_isIn (Int32.toInt64 x1) 0 3 (fun (r_3 : Bool) => ((r_3 = true → (vp_in x1 4 ∧ ((0 ≤ (I_2 74 (Int32.toNatClampNeg x1)) → (vp_in x1 4 ∧ (((I_2 72 20) ≤ (I_2 74 (Int32.toNatClampNeg x1)) → (∃ n, lp (wb_X11_run_64 I_2 J x1 Post ((¬ (I_2 72 38) = 15 → (∃ n, lp (wb_X11_run_120 J x1 Post (fun (I_10 : HI) => ∀ I_11 : HI, I_11 = hI I_10 72 38 ((I_10 72 38) + 1) → (Post ((I_11 72 38) - 1) I_11))) n (0, I_2))) ∧ ((I_2 72 38) = 15 → (w_X11_refusedBy 7 I_2 J (fun (r_12 : Int32) (I_13 : HI) => (Post r_12 I_13)))))) n 0)) ∧ (¬ (I_2 72 20) ≤ (I_2 74 (Int32.toNatClampNeg x1)) → (w_X11_refusedBy 4 I_2 J (fun (r_14 : Int32) (I_15 : HI) => (Post r_14 I_15))))))) ∧ (¬ 0 ≤ (I_2 74 (Int32.toNatClampNeg x1)) → (w_X11_refusedBy 3 I_2 J (fun (r_16 : Int32) (I_17 : HI) => (Post r_16 I_17))))))) ∧ (r_3 = false → (w_X11_refusedBy 1 I_2 J (fun (r_18 : Int32) (I_19 : HI) => (Post r_18 I_19))))))))
set_option maxHeartbeats 4000000 in
set_option maxRecDepth 20000 in
theorem we_X11_run (g : kf_G) (hg : kf_g g) {x : kf_X} (hx : kf_ok g x RX11 cX11_run 3 1 25) (x1 : Int32) (I : HI) (J : HJ) (Post : Int32 → HI → Prop) (hret : ∀ (pc : Nat) (lv : List (Nat × Value)) (v : Int32) (Iy : HI), decode cX11_run pc = .ok (.ireturn, 1) → Post v Iy → kf_M g x 3 pc lv [.int v] Iy J) (h : w_X11_run x1 I J Post) : kf_M g x 3 0 [(0, .ref (g.2.2.2 72)), (1, .int x1)] [] I J := by
  unfold w_X11_run at h
  refine kf_aload_n hx dX11_run_0 rfl 0 rfl ?_
  refine kf_iconst (v := 0) hx dX11_run_1 (by decide) ?_
  refine kf_putI hx sl_72_1 fl_RX11_106 fp_11_1 dX11_run_2 ?_
  refine kf_nmI (fun I_1 eI_1 => ?_)
  replace h := h I_1 eI_1
  refine kf_aload_n hx dX11_run_5 rfl 0 rfl ?_
  refine kf_iconst (v := 0) hx dX11_run_6 (by decide) ?_
  refine kf_putI hx sl_72_0 fl_RX11_109 fp_11_0 dX11_run_7 ?_
  refine kf_nmI (fun I_2 eI_2 => ?_)
  replace h := h I_2 eI_2
  refine kf_iload_n hx dX11_run_10 rfl 1 rfl ?_
  refine kf_i2l hx dX11_run_11 ?_
  refine kf_lconst (v := 0) hx dX11_run_12 (by decide) ?_
  refine kf_ldc2 hx ko_RX11_388 dX11_run_13 ?_
  refine kf_callSbP (st := []) hx (m_X11_isIn g hg (Int32.toInt64 x1) 0 3 I_2 J _ h) lk_RX11_228 km_X11_isIn rfl (by decide) rfl (Nat.le_of_ble_eq_true rfl) dX11_run_16 (fun r_3 h => ?_)
  refine kf_ifB_ne hx 28 dX11_run_19 (by decide) (fun c => ?_) (fun c => ?_)
  · replace h := h.1 c
    refine kf_aload_n hx dX11_run_28 rfl 0 rfl ?_
    refine kf_getR (n := 74) hx sl_72_5 fl_RX11_17 dX11_run_29 ?_
    refine kf_iload_n hx dX11_run_32 rfl 1 rfl ?_
    refine kf_iald hx ar_74 h.1 dX11_run_33 ?_
    replace h := h.2
    refine kf_if_ge hx 43 dX11_run_34 (by decide) (fun c => ?_) (fun c => ?_)
    · replace h := h.1 c
      refine kf_aload_n hx dX11_run_43 rfl 0 rfl ?_
      refine kf_getR (n := 74) hx sl_72_5 fl_RX11_17 dX11_run_44 ?_
      refine kf_iload_n hx dX11_run_47 rfl 1 rfl ?_
      refine kf_iald hx ar_74 h.1 dX11_run_48 ?_
      replace h := h.2
      refine kf_aload_n hx dX11_run_49 rfl 0 rfl ?_
      refine kf_getI hx sl_72_20 fl_RX11_287 dX11_run_50 ?_
      refine kf_icmp_ge hx 62 dX11_run_53 (by decide) (fun c => ?_) (fun c => ?_)
      · replace h := h.1 c
        refine kf_iconst (v := 0) hx dX11_run_62 (by decide) ?_
        refine kf_istore_n (lv' := [(2, .int 0), (0, .ref (g.2.2.2 72)), (1, .int x1)]) hx dX11_run_63 rfl (by decide) rfl ?_
        obtain ⟨n, h⟩ := h
        refine kf_sub [1, 2, 0] rfl ?_
        refine wl_X11_run_64 g hg hx I_2 J x1 _ hret _ (fun h => ?_) n _ h
        refine kf_aload_n hx dX11_run_102 rfl 0 rfl ?_
        refine kf_getI hx sl_72_38 fl_RX11_293 dX11_run_103 ?_
        refine kf_bipush (v := 15) hx dX11_run_106 (by decide) ?_
        refine kf_icmp_ne hx 118 dX11_run_108 (by decide) (fun c => ?_) (fun c => ?_)
        · replace h := h.1 c
          refine kf_iconst (v := 0) hx dX11_run_118 (by decide) ?_
          refine kf_istore_n (lv' := [(2, .int 0), (0, .ref (g.2.2.2 72)), (1, .int x1)]) hx dX11_run_119 rfl (by decide) rfl ?_
          obtain ⟨n, h⟩ := h
          refine kf_sub [1, 2, 0] rfl ?_
          refine wl_X11_run_120 g hg hx J x1 _ hret _ (fun I_10 h => ?_) n _ _ h
          refine kf_aload_n hx dX11_run_155 rfl 0 rfl ?_
          refine kf_dup hx dX11_run_156 rfl ?_
          refine kf_getI hx sl_72_38 fl_RX11_293 dX11_run_157 ?_
          refine kf_iconst (v := 1) hx dX11_run_160 (by decide) ?_
          refine kf_iadd hx dX11_run_161 ?_
          refine kf_putI hx sl_72_38 fl_RX11_293 fp_11_38 dX11_run_162 ?_
          refine kf_nmI (fun I_11 eI_11 => ?_)
          replace h := h I_11 eI_11
          refine kf_aload_n hx dX11_run_165 rfl 0 rfl ?_
          refine kf_getI hx sl_72_38 fl_RX11_293 dX11_run_166 ?_
          refine kf_iconst (v := 1) hx dX11_run_169 (by decide) ?_
          refine kf_isub hx dX11_run_170 ?_
          exact hret _ _ ((I_11 72 38) - 1) _ dX11_run_171 h
        · replace h := h.2 c
          refine kf_aload_n hx dX11_run_111 rfl 0 rfl ?_
          refine kf_bipush (v := 7) hx dX11_run_112 (by decide) ?_
          refine kf_callViI (st := []) hx (m_X11_refusedBy g hg 7 I_2 J _ h) lk_RX11_272 km_X11_refusedBy ob_72 rfl (by decide) rfl (Nat.le_of_ble_eq_true rfl) dX11_run_114 (fun r_12 I_13 h => ?_)
          exact hret _ _ r_12 _ dX11_run_117 h
      · replace h := h.2 c
        refine kf_aload_n hx dX11_run_56 rfl 0 rfl ?_
        refine kf_iconst (v := 4) hx dX11_run_57 (by decide) ?_
        refine kf_callViI (st := []) hx (m_X11_refusedBy g hg 4 I_2 J _ h) lk_RX11_272 km_X11_refusedBy ob_72 rfl (by decide) rfl (Nat.le_of_ble_eq_true rfl) dX11_run_58 (fun r_14 I_15 h => ?_)
        exact hret _ _ r_14 _ dX11_run_61 h
    · replace h := h.2 c
      refine kf_aload_n hx dX11_run_37 rfl 0 rfl ?_
      refine kf_iconst (v := 3) hx dX11_run_38 (by decide) ?_
      refine kf_callViI (st := []) hx (m_X11_refusedBy g hg 3 I_2 J _ h) lk_RX11_272 km_X11_refusedBy ob_72 rfl (by decide) rfl (Nat.le_of_ble_eq_true rfl) dX11_run_39 (fun r_16 I_17 h => ?_)
      exact hret _ _ r_16 _ dX11_run_42 h
  · replace h := h.2 c
    refine kf_aload_n hx dX11_run_22 rfl 0 rfl ?_
    refine kf_iconst (v := 1) hx dX11_run_23 (by decide) ?_
    refine kf_callViI (st := []) hx (m_X11_refusedBy g hg 1 I_2 J _ h) lk_RX11_272 km_X11_refusedBy ob_72 rfl (by decide) rfl (Nat.le_of_ble_eq_true rfl) dX11_run_24 (fun r_18 I_19 h => ?_)
    exact hret _ _ r_18 _ dX11_run_27 h
set_option maxHeartbeats 4000000 in
set_option maxRecDepth 20000 in
theorem m_X11_run (g : kf_G) (hg : kf_g g) (x1 : Int32) (I : HI) (J : HJ) (Post : Int32 → HI → Prop) (h : w_X11_run x1 I J Post) : kf_Mi g yX11_run (kf_W yX11_run cX11_run 3 (Option.some Jvm.ClassFile.FieldType.int)) 1 25 [.ref (g.2.2.2 72), .int x1] I J (fun v I' J' => Post v I' ∧ J' = J) :=
  kf_enti hg (by decide) (Nat.le_of_ble_eq_true rfl) rfl (fun x hx hr => we_X11_run g hg hx x1 I J Post (fun pc lv v I' hd hP => hr pc lv v I' J hd ⟨hP, rfl⟩) h)
theorem dX11_isTried_0 : decode cX11_isTried 0 = .ok (.aload_n 0, 1) := by decide +kernel
theorem dX11_isTried_1 : decode cX11_isTried 1 = .ok (.getfield 78, 3) := by decide +kernel
theorem dX11_isTried_4 : decode cX11_isTried 4 = .ok (.bipush 12, 2) := by decide +kernel
theorem dX11_isTried_6 : decode cX11_isTried 6 = .ok (.iload_n 1, 1) := by decide +kernel
theorem dX11_isTried_7 : decode cX11_isTried 7 = .ok (.imul, 1) := by decide +kernel
theorem dX11_isTried_8 : decode cX11_isTried 8 = .ok (.aload_n 0, 1) := by decide +kernel
theorem dX11_isTried_9 : decode cX11_isTried 9 = .ok (.getfield 41, 3) := by decide +kernel
theorem dX11_isTried_12 : decode cX11_isTried 12 = .ok (.iload_n 2, 1) := by decide +kernel
theorem dX11_isTried_13 : decode cX11_isTried 13 = .ok (.iaload, 1) := by decide +kernel
theorem dX11_isTried_14 : decode cX11_isTried 14 = .ok (.iadd, 1) := by decide +kernel
theorem dX11_isTried_15 : decode cX11_isTried 15 = .ok (.iaload, 1) := by decide +kernel
theorem dX11_isTried_16 : decode cX11_isTried 16 = .ok (.istore_n 3, 1) := by decide +kernel
theorem dX11_isTried_17 : decode cX11_isTried 17 = .ok (.aload_n 0, 1) := by decide +kernel
theorem dX11_isTried_18 : decode cX11_isTried 18 = .ok (.getfield 78, 3) := by decide +kernel
theorem dX11_isTried_21 : decode cX11_isTried 21 = .ok (.bipush 12, 2) := by decide +kernel
theorem dX11_isTried_23 : decode cX11_isTried 23 = .ok (.iload_n 1, 1) := by decide +kernel
theorem dX11_isTried_24 : decode cX11_isTried 24 = .ok (.imul, 1) := by decide +kernel
theorem dX11_isTried_25 : decode cX11_isTried 25 = .ok (.aload_n 0, 1) := by decide +kernel
theorem dX11_isTried_26 : decode cX11_isTried 26 = .ok (.getfield 44, 3) := by decide +kernel
theorem dX11_isTried_29 : decode cX11_isTried 29 = .ok (.iload_n 2, 1) := by decide +kernel
theorem dX11_isTried_30 : decode cX11_isTried 30 = .ok (.iaload, 1) := by decide +kernel
theorem dX11_isTried_31 : decode cX11_isTried 31 = .ok (.iadd, 1) := by decide +kernel
theorem dX11_isTried_32 : decode cX11_isTried 32 = .ok (.iaload, 1) := by decide +kernel
theorem dX11_isTried_33 : decode cX11_isTried 33 = .ok (.istore 4, 2) := by decide +kernel
theorem dX11_isTried_35 : decode cX11_isTried 35 = .ok (.iload_n 3, 1) := by decide +kernel
theorem dX11_isTried_36 : decode cX11_isTried 36 = .ok (.ifCond .lt 25, 3) := by decide +kernel
theorem dX11_isTried_39 : decode cX11_isTried 39 = .ok (.iload 4, 2) := by decide +kernel
theorem dX11_isTried_41 : decode cX11_isTried 41 = .ok (.ifCond .lt 16, 3) := by decide +kernel
theorem dX11_isTried_44 : decode cX11_isTried 44 = .ok (.iload 4, 2) := by decide +kernel
theorem dX11_isTried_46 : decode cX11_isTried 46 = .ok (.iload_n 3, 1) := by decide +kernel
theorem dX11_isTried_47 : decode cX11_isTried 47 = .ok (.aload_n 0, 1) := by decide +kernel
theorem dX11_isTried_48 : decode cX11_isTried 48 = .ok (.getfield 50, 3) := by decide +kernel
theorem dX11_isTried_51 : decode cX11_isTried 51 = .ok (.iload_n 2, 1) := by decide +kernel
theorem dX11_isTried_52 : decode cX11_isTried 52 = .ok (.iaload, 1) := by decide +kernel
theorem dX11_isTried_53 : decode cX11_isTried 53 = .ok (.iadd, 1) := by decide +kernel
theorem dX11_isTried_54 : decode cX11_isTried 54 = .ok (.if_icmp .lt 7, 3) := by decide +kernel
theorem dX11_isTried_57 : decode cX11_isTried 57 = .ok (.iconst 1, 1) := by decide +kernel
theorem dX11_isTried_58 : decode cX11_isTried 58 = .ok (.goto 4, 3) := by decide +kernel
theorem dX11_isTried_61 : decode cX11_isTried 61 = .ok (.iconst 0, 1) := by decide +kernel
theorem dX11_isTried_62 : decode cX11_isTried 62 = .ok (.ireturn, 1) := by decide +kernel
def w_X11_isTried (x1 : Int32) (x2 : Int32) (I : HI) (J : HJ) (Post : Bool → Prop) : Prop :=
  vp_in x2 10 ∧ (vp_in ((12 * x1) + (I 79 (Int32.toNatClampNeg x2))) 180 ∧ (∀ z_1 : Int32, z_1 = (I 91 (Int32.toNatClampNeg ((12 * x1) + (I 79 (Int32.toNatClampNeg x2))))) → (vp_in x2 10 ∧ (vp_in ((12 * x1) + (I 80 (Int32.toNatClampNeg x2))) 180 ∧ (∀ z_2 : Int32, z_2 = (I 91 (Int32.toNatClampNeg ((12 * x1) + (I 80 (Int32.toNatClampNeg x2))))) → ((z_1 < 0 → (Post false)) ∧ (¬ z_1 < 0 → ((z_2 < 0 → (Post true)) ∧ (¬ z_2 < 0 → (vp_in x2 10 ∧ ((z_2 < (z_1 + (I 82 (Int32.toNatClampNeg x2))) → (Post false)) ∧ (¬ z_2 < (z_1 + (I 82 (Int32.toNatClampNeg x2))) → (Post true)))))))))))))
set_option maxHeartbeats 4000000 in
set_option maxRecDepth 20000 in
theorem we_X11_isTried (g : kf_G) (hg : kf_g g) {x : kf_X} (hx : kf_ok g x RX11 cX11_isTried 5 0 0) (x1 : Int32) (x2 : Int32) (I : HI) (J : HJ) (Post : Bool → Prop) (hret : ∀ (pc : Nat) (lv : List (Nat × Value)) (v : Bool), decode cX11_isTried pc = .ok (.ireturn, 1) → Post v → kf_M g x 5 pc lv [.int (kb v)] I J) (h : w_X11_isTried x1 x2 I J Post) : kf_M g x 5 0 [(0, .ref (g.2.2.2 72)), (1, .int x1), (2, .int x2)] [] I J := by
  unfold w_X11_isTried at h
  refine kf_aload_n hx dX11_isTried_0 rfl 0 rfl ?_
  refine kf_getR (n := 91) hx sl_72_39 fl_RX11_78 dX11_isTried_1 ?_
  refine kf_bipush (v := 12) hx dX11_isTried_4 (by decide) ?_
  refine kf_iload_n hx dX11_isTried_6 rfl 1 rfl ?_
  refine kf_imul hx dX11_isTried_7 ?_
  refine kf_aload_n hx dX11_isTried_8 rfl 0 rfl ?_
  refine kf_getR (n := 79) hx sl_72_26 fl_RX11_41 dX11_isTried_9 ?_
  refine kf_iload_n hx dX11_isTried_12 rfl 2 rfl ?_
  refine kf_iald hx ar_79 h.1 dX11_isTried_13 ?_
  replace h := h.2
  refine kf_iadd hx dX11_isTried_14 ?_
  refine kf_iald hx ar_91 h.1 dX11_isTried_15 ?_
  replace h := h.2
  refine kf_topi (fun z_1 ez_1 => ?_)
  replace h := h z_1 ez_1
  refine kf_istore_n (lv' := [(3, .int z_1), (0, .ref (g.2.2.2 72)), (1, .int x1), (2, .int x2)]) hx dX11_isTried_16 rfl (by decide) rfl ?_
  refine kf_aload_n hx dX11_isTried_17 rfl 1 rfl ?_
  refine kf_getR (n := 91) hx sl_72_39 fl_RX11_78 dX11_isTried_18 ?_
  refine kf_bipush (v := 12) hx dX11_isTried_21 (by decide) ?_
  refine kf_iload_n hx dX11_isTried_23 rfl 2 rfl ?_
  refine kf_imul hx dX11_isTried_24 ?_
  refine kf_aload_n hx dX11_isTried_25 rfl 1 rfl ?_
  refine kf_getR (n := 80) hx sl_72_27 fl_RX11_44 dX11_isTried_26 ?_
  refine kf_iload_n hx dX11_isTried_29 rfl 3 rfl ?_
  refine kf_iald hx ar_80 h.1 dX11_isTried_30 ?_
  replace h := h.2
  refine kf_iadd hx dX11_isTried_31 ?_
  refine kf_iald hx ar_91 h.1 dX11_isTried_32 ?_
  replace h := h.2
  refine kf_topi (fun z_2 ez_2 => ?_)
  replace h := h z_2 ez_2
  refine kf_istore (lv' := [(4, .int z_2), (3, .int z_1), (0, .ref (g.2.2.2 72)), (1, .int x1), (2, .int x2)]) hx dX11_isTried_33 (by decide) rfl ?_
  refine kf_iload_n hx dX11_isTried_35 rfl 1 rfl ?_
  refine kf_if_lt hx 61 dX11_isTried_36 (by decide) (fun c => ?_) (fun c => ?_)
  · replace h := h.1 c
    refine kf_iconst (v := 0) hx dX11_isTried_61 (by decide) ?_
    exact hret _ _ false  dX11_isTried_62 h
  · replace h := h.2 c
    refine kf_iload hx dX11_isTried_39 0 rfl ?_
    refine kf_if_lt hx 57 dX11_isTried_41 (by decide) (fun c => ?_) (fun c => ?_)
    · replace h := h.1 c
      refine kf_iconst (v := 1) hx dX11_isTried_57 (by decide) ?_
      refine kf_goto hx 62 dX11_isTried_58 (by decide) ?_
      exact hret _ _ true  dX11_isTried_62 h
    · replace h := h.2 c
      refine kf_iload hx dX11_isTried_44 0 rfl ?_
      refine kf_iload_n hx dX11_isTried_46 rfl 1 rfl ?_
      refine kf_aload_n hx dX11_isTried_47 rfl 2 rfl ?_
      refine kf_getR (n := 82) hx sl_72_29 fl_RX11_50 dX11_isTried_48 ?_
      refine kf_iload_n hx dX11_isTried_51 rfl 4 rfl ?_
      refine kf_iald hx ar_82 h.1 dX11_isTried_52 ?_
      replace h := h.2
      refine kf_iadd hx dX11_isTried_53 ?_
      refine kf_icmp_lt hx 61 dX11_isTried_54 (by decide) (fun c => ?_) (fun c => ?_)
      · replace h := h.1 c
        refine kf_iconst (v := 0) hx dX11_isTried_61 (by decide) ?_
        exact hret _ _ false  dX11_isTried_62 h
      · replace h := h.2 c
        refine kf_iconst (v := 1) hx dX11_isTried_57 (by decide) ?_
        refine kf_goto hx 62 dX11_isTried_58 (by decide) ?_
        exact hret _ _ true  dX11_isTried_62 h
set_option maxHeartbeats 4000000 in
set_option maxRecDepth 20000 in
theorem m_X11_isTried (g : kf_G) (hg : kf_g g) (x1 : Int32) (x2 : Int32) (I : HI) (J : HJ) (Post : Bool → Prop) (h : w_X11_isTried x1 x2 I J Post) : kf_Mb g yX11_isTried (kf_W yX11_isTried cX11_isTried 5 (Option.some Jvm.ClassFile.FieldType.boolean)) 0 0 [.ref (g.2.2.2 72), .int x1, .int x2] I J (fun v I' J' => Post v ∧ I' = I ∧ J' = J) :=
  kf_entb hg (by decide) (Nat.le_of_ble_eq_true rfl) rfl (fun x hx hr => we_X11_isTried g hg hx x1 x2 I J Post (fun pc lv v hd hP => hr pc lv v I J hd ⟨hP, rfl, rfl⟩) h)
theorem dX11_hasTold_0 : decode cX11_hasTold 0 = .ok (.iload_n 2, 1) := by decide +kernel
theorem dX11_hasTold_1 : decode cX11_hasTold 1 = .ok (.ifCond .lt 30, 3) := by decide +kernel
theorem dX11_hasTold_4 : decode cX11_hasTold 4 = .ok (.iload_n 3, 1) := by decide +kernel
theorem dX11_hasTold_5 : decode cX11_hasTold 5 = .ok (.iload_n 2, 1) := by decide +kernel
theorem dX11_hasTold_6 : decode cX11_hasTold 6 = .ok (.aload_n 0, 1) := by decide +kernel
theorem dX11_hasTold_7 : decode cX11_hasTold 7 = .ok (.getfield 50, 3) := by decide +kernel
theorem dX11_hasTold_10 : decode cX11_hasTold 10 = .ok (.iload_n 1, 1) := by decide +kernel
theorem dX11_hasTold_11 : decode cX11_hasTold 11 = .ok (.iaload, 1) := by decide +kernel
theorem dX11_hasTold_12 : decode cX11_hasTold 12 = .ok (.iadd, 1) := by decide +kernel
theorem dX11_hasTold_13 : decode cX11_hasTold 13 = .ok (.aload_n 0, 1) := by decide +kernel
theorem dX11_hasTold_14 : decode cX11_hasTold 14 = .ok (.aload_n 0, 1) := by decide +kernel
theorem dX11_hasTold_15 : decode cX11_hasTold 15 = .ok (.getfield 44, 3) := by decide +kernel
theorem dX11_hasTold_18 : decode cX11_hasTold 18 = .ok (.iload_n 1, 1) := by decide +kernel
theorem dX11_hasTold_19 : decode cX11_hasTold 19 = .ok (.iaload, 1) := by decide +kernel
theorem dX11_hasTold_20 : decode cX11_hasTold 20 = .ok (.invokevirtual 373, 3) := by decide +kernel
theorem dX11_hasTold_23 : decode cX11_hasTold 23 = .ok (.iadd, 1) := by decide +kernel
theorem dX11_hasTold_24 : decode cX11_hasTold 24 = .ok (.if_icmp .ne 7, 3) := by decide +kernel
theorem dX11_hasTold_27 : decode cX11_hasTold 27 = .ok (.iconst 1, 1) := by decide +kernel
theorem dX11_hasTold_28 : decode cX11_hasTold 28 = .ok (.goto 4, 3) := by decide +kernel
theorem dX11_hasTold_31 : decode cX11_hasTold 31 = .ok (.iconst 0, 1) := by decide +kernel
theorem dX11_hasTold_32 : decode cX11_hasTold 32 = .ok (.ireturn, 1) := by decide +kernel
def w_X11_hasTold (x1 : Int32) (x2 : Int32) (x3 : Int32) (I : HI) (J : HJ) (Post : Bool → Prop) : Prop :=
  (x2 < 0 → (Post false)) ∧ (¬ x2 < 0 → (vp_in x1 10 ∧ (vp_in x1 10 ∧ (w_X11_late (I 80 (Int32.toNatClampNeg x1)) I J (fun (r_1 : Int32) => ((¬ x3 = ((x2 + (I 82 (Int32.toNatClampNeg x1))) + r_1) → (Post false)) ∧ (x3 = ((x2 + (I 82 (Int32.toNatClampNeg x1))) + r_1) → (Post true))))))))
set_option maxHeartbeats 4000000 in
set_option maxRecDepth 20000 in
theorem we_X11_hasTold (g : kf_G) (hg : kf_g g) {x : kf_X} (hx : kf_ok g x RX11 cX11_hasTold 4 1 21) (x1 : Int32) (x2 : Int32) (x3 : Int32) (I : HI) (J : HJ) (Post : Bool → Prop) (hret : ∀ (pc : Nat) (lv : List (Nat × Value)) (v : Bool), decode cX11_hasTold pc = .ok (.ireturn, 1) → Post v → kf_M g x 4 pc lv [.int (kb v)] I J) (h : w_X11_hasTold x1 x2 x3 I J Post) : kf_M g x 4 0 [(0, .ref (g.2.2.2 72)), (1, .int x1), (2, .int x2), (3, .int x3)] [] I J := by
  unfold w_X11_hasTold at h
  refine kf_iload_n hx dX11_hasTold_0 rfl 2 rfl ?_
  refine kf_if_lt hx 31 dX11_hasTold_1 (by decide) (fun c => ?_) (fun c => ?_)
  · replace h := h.1 c
    refine kf_iconst (v := 0) hx dX11_hasTold_31 (by decide) ?_
    exact hret _ _ false  dX11_hasTold_32 h
  · replace h := h.2 c
    refine kf_iload_n hx dX11_hasTold_4 rfl 3 rfl ?_
    refine kf_iload_n hx dX11_hasTold_5 rfl 2 rfl ?_
    refine kf_aload_n hx dX11_hasTold_6 rfl 0 rfl ?_
    refine kf_getR (n := 82) hx sl_72_29 fl_RX11_50 dX11_hasTold_7 ?_
    refine kf_iload_n hx dX11_hasTold_10 rfl 1 rfl ?_
    refine kf_iald hx ar_82 h.1 dX11_hasTold_11 ?_
    replace h := h.2
    refine kf_iadd hx dX11_hasTold_12 ?_
    refine kf_aload_n hx dX11_hasTold_13 rfl 0 rfl ?_
    refine kf_aload_n hx dX11_hasTold_14 rfl 0 rfl ?_
    refine kf_getR (n := 80) hx sl_72_27 fl_RX11_44 dX11_hasTold_15 ?_
    refine kf_iload_n hx dX11_hasTold_18 rfl 1 rfl ?_
    refine kf_iald hx ar_80 h.1 dX11_hasTold_19 ?_
    replace h := h.2
    refine kf_callViP (st := [.int (x2 + (I 82 (Int32.toNatClampNeg x1))), .int x3]) hx (m_X11_late g hg (I 80 (Int32.toNatClampNeg x1)) I J _ h) lk_RX11_373 km_X11_late ob_72 rfl (by decide) rfl (Nat.le_of_ble_eq_true rfl) dX11_hasTold_20 (fun r_1 h => ?_)
    refine kf_iadd hx dX11_hasTold_23 ?_
    refine kf_icmp_ne hx 31 dX11_hasTold_24 (by decide) (fun c => ?_) (fun c => ?_)
    · replace h := h.1 c
      refine kf_iconst (v := 0) hx dX11_hasTold_31 (by decide) ?_
      exact hret _ _ false  dX11_hasTold_32 h
    · replace h := h.2 c
      refine kf_iconst (v := 1) hx dX11_hasTold_27 (by decide) ?_
      refine kf_goto hx 32 dX11_hasTold_28 (by decide) ?_
      exact hret _ _ true  dX11_hasTold_32 h
set_option maxHeartbeats 4000000 in
set_option maxRecDepth 20000 in
theorem m_X11_hasTold (g : kf_G) (hg : kf_g g) (x1 : Int32) (x2 : Int32) (x3 : Int32) (I : HI) (J : HJ) (Post : Bool → Prop) (h : w_X11_hasTold x1 x2 x3 I J Post) : kf_Mb g yX11_hasTold (kf_W yX11_hasTold cX11_hasTold 4 (Option.some Jvm.ClassFile.FieldType.boolean)) 1 21 [.ref (g.2.2.2 72), .int x1, .int x2, .int x3] I J (fun v I' J' => Post v ∧ I' = I ∧ J' = J) :=
  kf_entb hg (by decide) (Nat.le_of_ble_eq_true rfl) rfl (fun x hx hr => we_X11_hasTold g hg hx x1 x2 x3 I J Post (fun pc lv v hd hP => hr pc lv v I J hd ⟨hP, rfl, rfl⟩) h)
theorem dX11_power_0 : decode cX11_power 0 = .ok (.lconst 1, 1) := by decide +kernel
theorem dX11_power_1 : decode cX11_power 1 = .ok (.lstore_n 3, 1) := by decide +kernel
theorem dX11_power_2 : decode cX11_power 2 = .ok (.iconst 0, 1) := by decide +kernel
theorem dX11_power_3 : decode cX11_power 3 = .ok (.istore 5, 2) := by decide +kernel
theorem dX11_power_5 : decode cX11_power 5 = .ok (.iload 5, 2) := by decide +kernel
theorem dX11_power_7 : decode cX11_power 7 = .ok (.iload_n 2, 1) := by decide +kernel
theorem dX11_power_8 : decode cX11_power 8 = .ok (.if_icmp .ge 13, 3) := by decide +kernel
theorem dX11_power_11 : decode cX11_power 11 = .ok (.lload_n 3, 1) := by decide +kernel
theorem dX11_power_12 : decode cX11_power 12 = .ok (.lload_n 0, 1) := by decide +kernel
theorem dX11_power_13 : decode cX11_power 13 = .ok (.lmul, 1) := by decide +kernel
theorem dX11_power_14 : decode cX11_power 14 = .ok (.lstore_n 3, 1) := by decide +kernel
theorem dX11_power_15 : decode cX11_power 15 = .ok (.iinc 5 1, 3) := by decide +kernel
theorem dX11_power_18 : decode cX11_power 18 = .ok (.goto (-13), 3) := by decide +kernel
theorem dX11_power_21 : decode cX11_power 21 = .ok (.lload_n 3, 1) := by decide +kernel
theorem dX11_power_22 : decode cX11_power 22 = .ok (.lreturn, 1) := by decide +kernel
def wb_X11_power_5 (x0 : Int64) (x2 : Int32) (Post : Int64 → Prop) (E5 : Int64 → Prop) (K5 : (Int64 × Int32) → Prop) (s : Int64 × Int32) : Prop :=
  match s with
  | (x3, x5) => (x2 ≤ x5 → (E5 x3)) ∧ (¬ x2 ≤ x5 → (K5 ((x3 * x0), (x5 + 1))))
set_option maxHeartbeats 4000000 in
set_option maxRecDepth 20000 in
theorem ws_X11_power_5 (g : kf_G) (hg : kf_g g) {x : kf_X} (hx : kf_ok g x RX11 cX11_power 6 0 0) (I : HI) (J : HJ) (x0 : Int64) (x2 : Int32) (Post : Int64 → Prop) (hret : ∀ (pc : Nat) (lv : List (Nat × Value)) (v : Int64), decode cX11_power pc = .ok (.lreturn, 1) → Post v → kf_M g x 6 pc lv [.long v] I J) (E5 : Int64 → Prop) (hE5 : ∀ (y3 : Int64), E5 y3 → kf_M g x 6 21 [(3, .long y3)] [] I J) (K5 : (Int64 × Int32) → Prop) (hK5 : ∀ (y3 : Int64) (y5 : Int32), K5 (y3, y5) → kf_M g x 6 5 [(0, .long x0), (2, .int x2), (3, .long y3), (5, .int y5)] [] I J) (x3 : Int64) (x5 : Int32) (h : wb_X11_power_5 x0 x2 Post E5 K5 (x3, x5)) : kf_M g x 6 5 [(0, .long x0), (2, .int x2), (3, .long x3), (5, .int x5)] [] I J := by
  unfold wb_X11_power_5 at h
  refine kf_iload hx dX11_power_5 3 rfl ?_
  refine kf_iload_n hx dX11_power_7 rfl 1 rfl ?_
  refine kf_icmp_ge hx 21 dX11_power_8 (by decide) (fun c => ?_) (fun c => ?_)
  · replace h := h.1 c
    refine kf_sub [2] rfl ?_
    exact hE5 _ h
  · replace h := h.2 c
    refine kf_lload_n hx dX11_power_11 rfl 2 rfl ?_
    refine kf_lload_n hx dX11_power_12 rfl 0 rfl ?_
    refine kf_lmul hx dX11_power_13 ?_
    refine kf_lstore_n (lv' := [(3, .long (x3 * x0)), (0, .long x0), (2, .int x2), (5, .int x5)]) hx dX11_power_14 rfl (by decide) rfl ?_
    refine kf_iinc (w := (x5 + 1)) (lv' := [(5, .int (x5 + 1)), (3, .long (x3 * x0)), (0, .long x0), (2, .int x2)]) hx dX11_power_15 3 rfl rfl (by decide) rfl ?_
    refine kf_goto hx 5 dX11_power_18 (by decide) ?_
    refine kf_sub [2, 3, 1, 0] rfl ?_
    exact hK5 _ _ h
theorem wl_X11_power_5 (g : kf_G) (hg : kf_g g) {x : kf_X} (hx : kf_ok g x RX11 cX11_power 6 0 0) (I : HI) (J : HJ) (x0 : Int64) (x2 : Int32) (Post : Int64 → Prop) (hret : ∀ (pc : Nat) (lv : List (Nat × Value)) (v : Int64), decode cX11_power pc = .ok (.lreturn, 1) → Post v → kf_M g x 6 pc lv [.long v] I J) (E5 : Int64 → Prop) (hE5 : ∀ (y3 : Int64), E5 y3 → kf_M g x 6 21 [(3, .long y3)] [] I J) : ∀ (n : Nat) (x3 : Int64) (x5 : Int32), lp (wb_X11_power_5 x0 x2 Post E5) n (x3, x5) → kf_M g x 6 5 [(0, .long x0), (2, .int x2), (3, .long x3), (5, .int x5)] [] I J := by
  intro n
  induction n with
  | zero => intro x3 x5 h; exact h.elim
  | succ n ih => intro x3 x5 h; exact ws_X11_power_5 g hg hx I J x0 x2 Post hret E5 hE5 (lp (wb_X11_power_5 x0 x2 Post E5) n) ih x3 x5 h
def w_X11_power (x0 : Int64) (x2 : Int32) (Post : Int64 → Prop) : Prop :=
  ∃ n, lp (wb_X11_power_5 x0 x2 Post (fun (x3_1 : Int64) => Post x3_1)) n (1, 0)
set_option maxHeartbeats 4000000 in
set_option maxRecDepth 20000 in
theorem we_X11_power (g : kf_G) (hg : kf_g g) {x : kf_X} (hx : kf_ok g x RX11 cX11_power 6 0 0) (x0 : Int64) (x2 : Int32) (I : HI) (J : HJ) (Post : Int64 → Prop) (hret : ∀ (pc : Nat) (lv : List (Nat × Value)) (v : Int64), decode cX11_power pc = .ok (.lreturn, 1) → Post v → kf_M g x 6 pc lv [.long v] I J) (h : w_X11_power x0 x2 Post) : kf_M g x 6 0 [(0, .long x0), (2, .int x2)] [] I J := by
  unfold w_X11_power at h
  refine kf_lconst (v := 1) hx dX11_power_0 (by decide) ?_
  refine kf_lstore_n (lv' := [(3, .long 1), (0, .long x0), (2, .int x2)]) hx dX11_power_1 rfl (by decide) rfl ?_
  refine kf_iconst (v := 0) hx dX11_power_2 (by decide) ?_
  refine kf_istore (lv' := [(5, .int 0), (3, .long 1), (0, .long x0), (2, .int x2)]) hx dX11_power_3 (by decide) rfl ?_
  obtain ⟨n, h⟩ := h
  refine kf_sub [2, 3, 1, 0] rfl ?_
  refine wl_X11_power_5 g hg hx I J x0 x2 _ hret _ (fun x3_1 h => ?_) n _ _ h
  refine kf_lload_n hx dX11_power_21 rfl 0 rfl ?_
  exact hret _ _ x3_1  dX11_power_22 h
set_option maxHeartbeats 4000000 in
set_option maxRecDepth 20000 in
theorem m_X11_power (g : kf_G) (hg : kf_g g) (x0 : Int64) (x2 : Int32) (I : HI) (J : HJ) (Post : Int64 → Prop) (h : w_X11_power x0 x2 Post) : kf_Ml g yX11_power (kf_W yX11_power cX11_power 6 (Option.some Jvm.ClassFile.FieldType.long)) 0 0 [.long x0, .int x2] I J (fun v I' J' => Post v ∧ I' = I ∧ J' = J) :=
  kf_entl hg (by decide) (Nat.le_of_ble_eq_true rfl) rfl (fun x hx hr => we_X11_power g hg hx x0 x2 I J Post (fun pc lv v hd hP => hr pc lv v I J hd ⟨hP, rfl, rfl⟩) h)
