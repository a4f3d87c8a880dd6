theorem dX8_allBetween_0 : decode cX8_allBetween 0 = .ok (.iconst 0, 1) := by decide +kernel
theorem dX8_allBetween_1 : decode cX8_allBetween 1 = .ok (.istore 6, 2) := by decide +kernel
theorem dX8_allBetween_3 : decode cX8_allBetween 3 = .ok (.iload 6, 2) := by decide +kernel
theorem dX8_allBetween_5 : decode cX8_allBetween 5 = .ok (.iload_n 1, 1) := by decide +kernel
theorem dX8_allBetween_6 : decode cX8_allBetween 6 = .ok (.if_icmp .ge 45, 3) := by decide +kernel
theorem dX8_allBetween_9 : decode cX8_allBetween 9 = .ok (.iload 6, 2) := by decide +kernel
theorem dX8_allBetween_11 : decode cX8_allBetween 11 = .ok (.aload_n 0, 1) := by decide +kernel
theorem dX8_allBetween_12 : decode cX8_allBetween 12 = .ok (.getfield 15, 3) := by decide +kernel
theorem dX8_allBetween_15 : decode cX8_allBetween 15 = .ok (.if_icmp .ge 36, 3) := by decide +kernel
theorem dX8_allBetween_18 : decode cX8_allBetween 18 = .ok (.aload_n 0, 1) := by decide +kernel
theorem dX8_allBetween_19 : decode cX8_allBetween 19 = .ok (.getfield 11, 3) := by decide +kernel
theorem dX8_allBetween_22 : decode cX8_allBetween 22 = .ok (.iload 6, 2) := by decide +kernel
theorem dX8_allBetween_24 : decode cX8_allBetween 24 = .ok (.laload, 1) := by decide +kernel
theorem dX8_allBetween_25 : decode cX8_allBetween 25 = .ok (.lload_n 2, 1) := by decide +kernel
theorem dX8_allBetween_26 : decode cX8_allBetween 26 = .ok (.lcmp, 1) := by decide +kernel
theorem dX8_allBetween_27 : decode cX8_allBetween 27 = .ok (.ifCond .lt 16, 3) := by decide +kernel
theorem dX8_allBetween_30 : decode cX8_allBetween 30 = .ok (.aload_n 0, 1) := by decide +kernel
theorem dX8_allBetween_31 : decode cX8_allBetween 31 = .ok (.getfield 11, 3) := by decide +kernel
theorem dX8_allBetween_34 : decode cX8_allBetween 34 = .ok (.iload 6, 2) := by decide +kernel
theorem dX8_allBetween_36 : decode cX8_allBetween 36 = .ok (.laload, 1) := by decide +kernel
theorem dX8_allBetween_37 : decode cX8_allBetween 37 = .ok (.lload 4, 2) := by decide +kernel
theorem dX8_allBetween_39 : decode cX8_allBetween 39 = .ok (.lcmp, 1) := by decide +kernel
theorem dX8_allBetween_40 : decode cX8_allBetween 40 = .ok (.ifCond .le 5, 3) := by decide +kernel
theorem dX8_allBetween_43 : decode cX8_allBetween 43 = .ok (.iconst 0, 1) := by decide +kernel
theorem dX8_allBetween_44 : decode cX8_allBetween 44 = .ok (.ireturn, 1) := by decide +kernel
theorem dX8_allBetween_45 : decode cX8_allBetween 45 = .ok (.iinc 6 1, 3) := by decide +kernel
theorem dX8_allBetween_48 : decode cX8_allBetween 48 = .ok (.goto (-45), 3) := by decide +kernel
theorem dX8_allBetween_51 : decode cX8_allBetween 51 = .ok (.iconst 1, 1) := by decide +kernel
theorem dX8_allBetween_52 : decode cX8_allBetween 52 = .ok (.ireturn, 1) := by decide +kernel
def wb_X8_allBetween_3 (I : HI) (J : HJ) (c0 : Nat) (x1 : Int32) (x2 : Int64) (x4 : Int64) (Post : Bool → Prop) (E3 : Prop) (K3 : Int32 → Prop) (x6 : Int32) : Prop :=
  (x1 ≤ x6 → E3) ∧ (¬ x1 ≤ x6 → (((I c0 2) ≤ x6 → E3) ∧ (¬ (I c0 2) ≤ x6 → (vp_in x6 40 ∧ (((J (c0 + 1) (Int32.toNatClampNeg x6)) < x2 → (Post false)) ∧ (¬ (J (c0 + 1) (Int32.toNatClampNeg x6)) < x2 → (vp_in x6 40 ∧ (((J (c0 + 1) (Int32.toNatClampNeg x6)) ≤ x4 → (K3 (x6 + 1))) ∧ (¬ (J (c0 + 1) (Int32.toNatClampNeg x6)) ≤ x4 → (Post false))))))))))
set_option maxHeartbeats 4000000 in
set_option maxRecDepth 20000 in
theorem ws_X8_allBetween_3 (g : kf_G) (hg : kf_g g) {x : kf_X} (hx : kf_ok g x RX8 cX8_allBetween 7 0 0) (I : HI) (J : HJ) (c0 : Nat) (x1 : Int32) (x2 : Int64) (x4 : Int64) (hc0 : kf_tr c0) (Post : Bool → Prop) (hret : ∀ (pc : Nat) (lv : List (Nat × Value)) (v : Bool), decode cX8_allBetween pc = .ok (.ireturn, 1) → Post v → kf_M g x 7 pc lv [.int (kb v)] I J) (E3 : Prop) (hE3 : E3 → kf_M g x 7 51 [] [] I J) (K3 : Int32 → Prop) (hK3 : ∀ (y6 : Int32), K3 y6 → kf_M g x 7 3 [(0, .ref (g.2.2.2 c0)), (1, .int x1), (2, .long x2), (4, .long x4), (6, .int y6)] [] I J) (x6 : Int32) (h : wb_X8_allBetween_3 I J c0 x1 x2 x4 Post E3 K3 x6) : kf_M g x 7 3 [(0, .ref (g.2.2.2 c0)), (1, .int x1), (2, .long x2), (4, .long x4), (6, .int x6)] [] I J := by
  unfold wb_X8_allBetween_3 at h
  refine kf_iload hx dX8_allBetween_3 4 rfl ?_
  refine kf_iload_n hx dX8_allBetween_5 rfl 1 rfl ?_
  refine kf_icmp_ge hx 51 dX8_allBetween_6 (by decide) (fun c => ?_) (fun c => ?_)
  · replace h := h.1 c
    refine kf_sub [] rfl ?_
    exact hE3  h
  · replace h := h.2 c
    refine kf_iload hx dX8_allBetween_9 4 rfl ?_
    refine kf_aload_n hx dX8_allBetween_11 rfl 0 rfl ?_
    refine kf_getI hx (st_2 hc0) fl_RX8_15 dX8_allBetween_12 ?_
    refine kf_icmp_ge hx 51 dX8_allBetween_15 (by decide) (fun c => ?_) (fun c => ?_)
    · replace h := h.1 c
      refine kf_sub [] rfl ?_
      exact hE3  h
    · replace h := h.2 c
      refine kf_aload_n hx dX8_allBetween_18 rfl 0 rfl ?_
      refine kf_getR (n := (c0 + 1)) hx (st_0 hc0) fl_RX8_11 dX8_allBetween_19 ?_
      refine kf_iload hx dX8_allBetween_22 4 rfl ?_
      refine kf_lald hx (st_r hc0) h.1 dX8_allBetween_24 ?_
      replace h := h.2
      refine kf_lload_n hx dX8_allBetween_25 rfl 2 rfl ?_
      refine kf_l_lt hx 43 dX8_allBetween_26 dX8_allBetween_27 (by decide) (fun c => ?_) (fun c => ?_)
      · replace h := h.1 c
        refine kf_iconst (v := 0) hx dX8_allBetween_43 (by decide) ?_
        exact hret _ _ false  dX8_allBetween_44 h
      · replace h := h.2 c
        refine kf_aload_n hx dX8_allBetween_30 rfl 0 rfl ?_
        refine kf_getR (n := (c0 + 1)) hx (st_0 hc0) fl_RX8_11 dX8_allBetween_31 ?_
        refine kf_iload hx dX8_allBetween_34 4 rfl ?_
        refine kf_lald hx (st_r hc0) h.1 dX8_allBetween_36 ?_
        replace h := h.2
        refine kf_lload hx dX8_allBetween_37 3 rfl ?_
        refine kf_l_le hx 45 dX8_allBetween_39 dX8_allBetween_40 (by decide) (fun c => ?_) (fun c => ?_)
        · replace h := h.1 c
          refine kf_iinc (w := (x6 + 1)) (lv' := [(6, .int (x6 + 1)), (0, .ref (g.2.2.2 c0)), (1, .int x1), (2, .long x2), (4, .long x4)]) hx dX8_allBetween_45 4 rfl rfl (by decide) rfl ?_
          refine kf_goto hx 3 dX8_allBetween_48 (by decide) ?_
          refine kf_sub [1, 2, 3, 4, 0] rfl ?_
          exact hK3 _ h
        · replace h := h.2 c
          refine kf_iconst (v := 0) hx dX8_allBetween_43 (by decide) ?_
          exact hret _ _ false  dX8_allBetween_44 h
theorem wl_X8_allBetween_3 (g : kf_G) (hg : kf_g g) {x : kf_X} (hx : kf_ok g x RX8 cX8_allBetween 7 0 0) (I : HI) (J : HJ) (c0 : Nat) (x1 : Int32) (x2 : Int64) (x4 : Int64) (hc0 : kf_tr c0) (Post : Bool → Prop) (hret : ∀ (pc : Nat) (lv : List (Nat × Value)) (v : Bool), decode cX8_allBetween pc = .ok (.ireturn, 1) → Post v → kf_M g x 7 pc lv [.int (kb v)] I J) (E3 : Prop) (hE3 : E3 → kf_M g x 7 51 [] [] I J) : ∀ (n : Nat) (x6 : Int32), lp (wb_X8_allBetween_3 I J c0 x1 x2 x4 Post E3) n x6 → kf_M g x 7 3 [(0, .ref (g.2.2.2 c0)), (1, .int x1), (2, .long x2), (4, .long x4), (6, .int x6)] [] I J := by
  intro n
  induction n with
  | zero => intro x6 h; exact h.elim
  | succ n ih => intro x6 h; exact ws_X8_allBetween_3 g hg hx I J c0 x1 x2 x4 hc0 Post hret E3 hE3 (lp (wb_X8_allBetween_3 I J c0 x1 x2 x4 Post E3) n) ih x6 h
def w_X8_allBetween (c0 : Nat) (x1 : Int32) (x2 : Int64) (x4 : Int64) (I : HI) (J : HJ) (Post : Bool → Prop) : Prop :=
  ∃ n, lp (wb_X8_allBetween_3 I J c0 x1 x2 x4 Post (Post true)) n 0
set_option maxHeartbeats 4000000 in
set_option maxRecDepth 20000 in
theorem we_X8_allBetween (g : kf_G) (hg : kf_g g) {x : kf_X} (hx : kf_ok g x RX8 cX8_allBetween 7 0 0) (c0 : Nat) (x1 : Int32) (x2 : Int64) (x4 : Int64) (hc0 : kf_tr c0) (I : HI) (J : HJ) (Post : Bool → Prop) (hret : ∀ (pc : Nat) (lv : List (Nat × Value)) (v : Bool), decode cX8_allBetween pc = .ok (.ireturn, 1) → Post v → kf_M g x 7 pc lv [.int (kb v)] I J) (h : w_X8_allBetween c0 x1 x2 x4 I J Post) : kf_M g x 7 0 [(0, .ref (g.2.2.2 c0)), (1, .int x1), (2, .long x2), (4, .long x4)] [] I J := by
  unfold w_X8_allBetween at h
  refine kf_iconst (v := 0) hx dX8_allBetween_0 (by decide) ?_
  refine kf_istore (lv' := [(6, .int 0), (0, .ref (g.2.2.2 c0)), (1, .int x1), (2, .long x2), (4, .long x4)]) hx dX8_allBetween_1 (by decide) rfl ?_
  obtain ⟨n, h⟩ := h
  refine kf_sub [1, 2, 3, 4, 0] rfl ?_
  refine wl_X8_allBetween_3 g hg hx I J c0 x1 x2 x4 hc0 _ hret _ (fun h => ?_) n _ h
  refine kf_iconst (v := 1) hx dX8_allBetween_51 (by decide) ?_
  exact hret _ _ true  dX8_allBetween_52 h
set_option maxHeartbeats 4000000 in
set_option maxRecDepth 20000 in
theorem m_X8_allBetween (g : kf_G) (hg : kf_g g) (c0 : Nat) (x1 : Int32) (x2 : Int64) (x4 : Int64) (hc0 : kf_tr c0) (I : HI) (J : HJ) (Post : Bool → Prop) (h : w_X8_allBetween c0 x1 x2 x4 I J Post) : kf_Mb g yX8_allBetween (kf_W yX8_allBetween cX8_allBetween 7 (Option.some Jvm.ClassFile.FieldType.boolean)) 0 0 [.ref (g.2.2.2 c0), .int x1, .long x2, .long x4] I J (fun v I' J' => Post v ∧ I' = I ∧ J' = J) :=
  kf_entb hg (by decide) (Nat.le_of_ble_eq_true rfl) rfl (fun x hx hr => we_X8_allBetween g hg hx c0 x1 x2 x4 hc0 I J Post (fun pc lv v hd hP => hr pc lv v I J hd ⟨hP, rfl, rfl⟩) h)
theorem dX9_packed_0 : decode cX9_packed 0 = .ok (.iconst 0, 1) := by decide +kernel
theorem dX9_packed_1 : decode cX9_packed 1 = .ok (.istore_n 2, 1) := by decide +kernel
theorem dX9_packed_2 : decode cX9_packed 2 = .ok (.iconst 1, 1) := by decide +kernel
theorem dX9_packed_3 : decode cX9_packed 3 = .ok (.istore_n 3, 1) := by decide +kernel
theorem dX9_packed_4 : decode cX9_packed 4 = .ok (.iconst 0, 1) := by decide +kernel
theorem dX9_packed_5 : decode cX9_packed 5 = .ok (.istore 4, 2) := by decide +kernel
theorem dX9_packed_7 : decode cX9_packed 7 = .ok (.iload 4, 2) := by decide +kernel
theorem dX9_packed_9 : decode cX9_packed 9 = .ok (.aload_n 0, 1) := by decide +kernel
theorem dX9_packed_10 : decode cX9_packed 10 = .ok (.getfield 25, 3) := by decide +kernel
theorem dX9_packed_13 : decode cX9_packed 13 = .ok (.getfield 37, 3) := by decide +kernel
theorem dX9_packed_16 : decode cX9_packed 16 = .ok (.if_icmp .ge 43, 3) := by decide +kernel
theorem dX9_packed_19 : decode cX9_packed 19 = .ok (.aload_n 0, 1) := by decide +kernel
theorem dX9_packed_20 : decode cX9_packed 20 = .ok (.getfield 25, 3) := by decide +kernel
theorem dX9_packed_23 : decode cX9_packed 23 = .ok (.getfield 89, 3) := by decide +kernel
theorem dX9_packed_26 : decode cX9_packed 26 = .ok (.iload 4, 2) := by decide +kernel
theorem dX9_packed_28 : decode cX9_packed 28 = .ok (.iaload, 1) := by decide +kernel
theorem dX9_packed_29 : decode cX9_packed 29 = .ok (.ifCond .eq 24, 3) := by decide +kernel
theorem dX9_packed_32 : decode cX9_packed 32 = .ok (.iload_n 2, 1) := by decide +kernel
theorem dX9_packed_33 : decode cX9_packed 33 = .ok (.iload_n 1, 1) := by decide +kernel
theorem dX9_packed_34 : decode cX9_packed 34 = .ok (.iload 4, 2) := by decide +kernel
theorem dX9_packed_36 : decode cX9_packed 36 = .ok (.invokestatic 80, 3) := by decide +kernel
theorem dX9_packed_39 : decode cX9_packed 39 = .ok (.ifCond .eq 7, 3) := by decide +kernel
theorem dX9_packed_42 : decode cX9_packed 42 = .ok (.iload_n 3, 1) := by decide +kernel
theorem dX9_packed_43 : decode cX9_packed 43 = .ok (.goto 4, 3) := by decide +kernel
theorem dX9_packed_46 : decode cX9_packed 46 = .ok (.iconst 0, 1) := by decide +kernel
theorem dX9_packed_47 : decode cX9_packed 47 = .ok (.ior, 1) := by decide +kernel
theorem dX9_packed_48 : decode cX9_packed 48 = .ok (.istore_n 2, 1) := by decide +kernel
theorem dX9_packed_49 : decode cX9_packed 49 = .ok (.iload_n 3, 1) := by decide +kernel
theorem dX9_packed_50 : decode cX9_packed 50 = .ok (.iconst 1, 1) := by decide +kernel
theorem dX9_packed_51 : decode cX9_packed 51 = .ok (.ishl, 1) := by decide +kernel
theorem dX9_packed_52 : decode cX9_packed 52 = .ok (.istore_n 3, 1) := by decide +kernel
theorem dX9_packed_53 : decode cX9_packed 53 = .ok (.iinc 4 1, 3) := by decide +kernel
theorem dX9_packed_56 : decode cX9_packed 56 = .ok (.goto (-49), 3) := by decide +kernel
theorem dX9_packed_59 : decode cX9_packed 59 = .ok (.iload_n 2, 1) := by decide +kernel
theorem dX9_packed_60 : decode cX9_packed 60 = .ok (.ireturn, 1) := by decide +kernel
def wj_X9_packed_47 (I : HI) (J : HJ) (x1 : Int32) (x3 : Int32) (x4 : Int32) (t0 : Int32) (t1 : Int32) (E7 : Int32 → Prop) (K7 : Int32 × Int32 × Int32 → Prop) (Post : Int32 → Prop) : Prop :=
  K7 ((t1 ||| t0), (x3 <<< (1 &&& 31)), (x4 + 1))
set_option maxHeartbeats 4000000 in
set_option maxRecDepth 20000 in
theorem wk_X9_packed_47 (g : kf_G) (hg : kf_g g) {x : kf_X} (hx : kf_ok g x RX9 cX9_packed 5 1 21) (I : HI) (J : HJ) (x1 : Int32) (x3 : Int32) (x4 : Int32) (t0 : Int32) (t1 : Int32) (E7 : Int32 → Prop) (K7 : Int32 × Int32 × Int32 → Prop) (hE7 : ∀ (y2 : Int32), E7 y2 → kf_M g x 5 59 [(2, .int y2)] [] I J) (hK7 : ∀ (y2 : Int32) (y3 : Int32) (y4 : Int32), K7 (y2, y3, y4) → kf_M g x 5 7 [(0, .ref (g.2.2.2 43)), (1, .int x1), (2, .int y2), (3, .int y3), (4, .int y4)] [] I J) (Post : Int32 → Prop) (hret : ∀ (pc : Nat) (lv : List (Nat × Value)) (v : Int32), decode cX9_packed pc = .ok (.ireturn, 1) → Post v → kf_M g x 5 pc lv [.int v] I J) (h : wj_X9_packed_47 I J x1 x3 x4 t0 t1 E7 K7 Post) : kf_M g x 5 47 [(0, .ref (g.2.2.2 43)), (1, .int x1), (3, .int x3), (4, .int x4)] [.int t0, .int t1] I J := by
  unfold wj_X9_packed_47 at h
  refine kf_ior hx dX9_packed_47 ?_
  refine kf_istore_n (lv' := [(2, .int (t1 ||| t0)), (0, .ref (g.2.2.2 43)), (1, .int x1), (3, .int x3), (4, .int x4)]) hx dX9_packed_48 rfl (by decide) rfl ?_
  refine kf_iload_n hx dX9_packed_49 rfl 3 rfl ?_
  refine kf_iconst (v := 1) hx dX9_packed_50 (by decide) ?_
  refine kf_ishl hx dX9_packed_51 ?_
  refine kf_istore_n (lv' := [(3, .int (x3 <<< (1 &&& 31))), (2, .int (t1 ||| t0)), (0, .ref (g.2.2.2 43)), (1, .int x1), (4, .int x4)]) hx dX9_packed_52 rfl (by decide) rfl ?_
  refine kf_iinc (w := (x4 + 1)) (lv' := [(4, .int (x4 + 1)), (3, .int (x3 <<< (1 &&& 31))), (2, .int (t1 ||| t0)), (0, .ref (g.2.2.2 43)), (1, .int x1)]) hx dX9_packed_53 4 rfl rfl (by decide) rfl ?_
  refine kf_goto hx 7 dX9_packed_56 (by decide) ?_
  refine kf_sub [3, 4, 2, 1, 0] rfl ?_
  exact hK7 _ _ _ h
def wb_X9_packed_7 (I : HI) (J : HJ) (x1 : Int32) (Post : Int32 → Prop) (E7 : Int32 → Prop) (K7 : (Int32 × Int32 × Int32) → Prop) (s : Int32 × Int32 × Int32) : Prop :=
  match s with
  | (x2, x3, x4) => ((I 12 11) ≤ x4 → (E7 x2)) ∧ (¬ (I 12 11) ≤ x4 → (vp_in x4 12 ∧ (((I 17 (Int32.toNatClampNeg x4)) = 0 → (K7 (x2, x3, (x4 + 1)))) ∧ (¬ (I 17 (Int32.toNatClampNeg x4)) = 0 → (w_X10_has x1 x4 (fun (r_1 : Bool) => ((r_1 = false → (wj_X9_packed_47 I J x1 x3 x4 0 x2 E7 K7 Post)) ∧ (r_1 = true → (wj_X9_packed_47 I J x1 x3 x4 x3 x2 E7 K7 Post)))))))))
set_option maxHeartbeats 4000000 in
set_option maxRecDepth 20000 in
theorem ws_X9_packed_7 (g : kf_G) (hg : kf_g g) {x : kf_X} (hx : kf_ok g x RX9 cX9_packed 5 1 21) (I : HI) (J : HJ) (x1 : Int32) (Post : Int32 → Prop) (hret : ∀ (pc : Nat) (lv : List (Nat × Value)) (v : Int32), decode cX9_packed pc = .ok (.ireturn, 1) → Post v → kf_M g x 5 pc lv [.int v] I J) (E7 : Int32 → Prop) (hE7 : ∀ (y2 : Int32), E7 y2 → kf_M g x 5 59 [(2, .int y2)] [] I J) (K7 : (Int32 × Int32 × Int32) → Prop) (hK7 : ∀ (y2 : Int32) (y3 : Int32) (y4 : Int32), K7 (y2, y3, y4) → kf_M g x 5 7 [(0, .ref (g.2.2.2 43)), (1, .int x1), (2, .int y2), (3, .int y3), (4, .int y4)] [] I J) (x2 : Int32) (x3 : Int32) (x4 : Int32) (h : wb_X9_packed_7 I J x1 Post E7 K7 (x2, x3, x4)) : kf_M g x 5 7 [(0, .ref (g.2.2.2 43)), (1, .int x1), (2, .int x2), (3, .int x3), (4, .int x4)] [] I J := by
  unfold wb_X9_packed_7 at h
  refine kf_iload hx dX9_packed_7 4 rfl ?_
  refine kf_aload_n hx dX9_packed_9 rfl 0 rfl ?_
  refine kf_getR (n := 12) hx sl_43_0 fl_RX9_25 dX9_packed_10 ?_
  refine kf_getI hx sl_12_11 fl_RX9_37 dX9_packed_13 ?_
  refine kf_icmp_ge hx 59 dX9_packed_16 (by decide) (fun c => ?_) (fun c => ?_)
  · replace h := h.1 c
    refine kf_sub [2] rfl ?_
    exact hE7 _ h
  · replace h := h.2 c
    refine kf_aload_n hx dX9_packed_19 rfl 0 rfl ?_
    refine kf_getR (n := 12) hx sl_43_0 fl_RX9_25 dX9_packed_20 ?_
    refine kf_getR (n := 17) hx sl_12_4 fl_RX9_89 dX9_packed_23 ?_
    refine kf_iload hx dX9_packed_26 4 rfl ?_
    refine kf_iald hx ar_17 h.1 dX9_packed_28 ?_
    replace h := h.2
    refine kf_if_eq hx 53 dX9_packed_29 (by decide) (fun c => ?_) (fun c => ?_)
    · replace h := h.1 c
      refine kf_iinc (w := (x4 + 1)) (lv' := [(4, .int (x4 + 1)), (0, .ref (g.2.2.2 43)), (1, .int x1), (2, .int x2), (3, .int x3)]) hx dX9_packed_53 4 rfl rfl (by decide) rfl ?_
      refine kf_goto hx 7 dX9_packed_56 (by decide) ?_
      refine kf_sub [1, 2, 3, 4, 0] rfl ?_
      exact hK7 _ _ _ h
    · replace h := h.2 c
      refine kf_iload_n hx dX9_packed_32 rfl 2 rfl ?_
      refine kf_iload_n hx dX9_packed_33 rfl 1 rfl ?_
      refine kf_iload hx dX9_packed_34 4 rfl ?_
      refine kf_callSbP (st := [.int x2]) hx (m_X10_has g hg x1 x4 I J _ h) lk_RX9_80 km_X10_has rfl (by decide) rfl (Nat.le_of_ble_eq_true rfl) dX9_packed_36 (fun r_1 h => ?_)
      refine kf_ifB_eq hx 46 dX9_packed_39 (by decide) (fun c => ?_) (fun c => ?_)
      · replace h := h.1 c
        refine kf_iconst (v := 0) hx dX9_packed_46 (by decide) ?_
        refine kf_sub [0, 1, 3, 4] rfl ?_
        exact wk_X9_packed_47 g hg hx I J x1 x3 x4 0 x2 _ _ hE7 hK7 _ hret h
      · replace h := h.2 c
        refine kf_iload_n hx dX9_packed_42 rfl 3 rfl ?_
        refine kf_goto hx 47 dX9_packed_43 (by decide) ?_
        refine kf_sub [0, 1, 3, 4] rfl ?_
        exact wk_X9_packed_47 g hg hx I J x1 x3 x4 x3 x2 _ _ hE7 hK7 _ hret h
theorem wl_X9_packed_7 (g : kf_G) (hg : kf_g g) {x : kf_X} (hx : kf_ok g x RX9 cX9_packed 5 1 21) (I : HI) (J : HJ) (x1 : Int32) (Post : Int32 → Prop) (hret : ∀ (pc : Nat) (lv : List (Nat × Value)) (v : Int32), decode cX9_packed pc = .ok (.ireturn, 1) → Post v → kf_M g x 5 pc lv [.int v] I J) (E7 : Int32 → Prop) (hE7 : ∀ (y2 : Int32), E7 y2 → kf_M g x 5 59 [(2, .int y2)] [] I J) : ∀ (n : Nat) (x2 : Int32) (x3 : Int32) (x4 : Int32), lp (wb_X9_packed_7 I J x1 Post E7) n (x2, x3, x4) → kf_M g x 5 7 [(0, .ref (g.2.2.2 43)), (1, .int x1), (2, .int x2), (3, .int x3), (4, .int x4)] [] I J := by
  intro n
  induction n with
  | zero => intro x2 x3 x4 h; exact h.elim
  | succ n ih => intro x2 x3 x4 h; exact ws_X9_packed_7 g hg hx I J x1 Post hret E7 hE7 (lp (wb_X9_packed_7 I J x1 Post E7) n) ih x2 x3 x4 h
def w_X9_packed (x1 : Int32) (I : HI) (J : HJ) (Post : Int32 → Prop) : Prop :=
  ∃ n, lp (wb_X9_packed_7 I J x1 Post (fun (x2_2 : Int32) => Post x2_2)) n (0, 1, 0)
set_option maxHeartbeats 4000000 in
set_option maxRecDepth 20000 in
theorem we_X9_packed (g : kf_G) (hg : kf_g g) {x : kf_X} (hx : kf_ok g x RX9 cX9_packed 5 1 21) (x1 : Int32) (I : HI) (J : HJ) (Post : Int32 → Prop) (hret : ∀ (pc : Nat) (lv : List (Nat × Value)) (v : Int32), decode cX9_packed pc = .ok (.ireturn, 1) → Post v → kf_M g x 5 pc lv [.int v] I J) (h : w_X9_packed x1 I J Post) : kf_M g x 5 0 [(0, .ref (g.2.2.2 43)), (1, .int x1)] [] I J := by
  unfold w_X9_packed at h
  refine kf_iconst (v := 0) hx dX9_packed_0 (by decide) ?_
  refine kf_istore_n (lv' := [(2, .int 0), (0, .ref (g.2.2.2 43)), (1, .int x1)]) hx dX9_packed_1 rfl (by decide) rfl ?_
  refine kf_iconst (v := 1) hx dX9_packed_2 (by decide) ?_
  refine kf_istore_n (lv' := [(3, .int 1), (2, .int 0), (0, .ref (g.2.2.2 43)), (1, .int x1)]) hx dX9_packed_3 rfl (by decide) rfl ?_
  refine kf_iconst (v := 0) hx dX9_packed_4 (by decide) ?_
  refine kf_istore (lv' := [(4, .int 0), (3, .int 1), (2, .int 0), (0, .ref (g.2.2.2 43)), (1, .int x1)]) hx dX9_packed_5 (by decide) rfl ?_
  obtain ⟨n, h⟩ := h
  refine kf_sub [3, 4, 2, 1, 0] rfl ?_
  refine wl_X9_packed_7 g hg hx I J x1 _ hret _ (fun x2_2 h => ?_) n _ _ _ h
  refine kf_iload_n hx dX9_packed_59 rfl 0 rfl ?_
  exact hret _ _ x2_2  dX9_packed_60 h
set_option maxHeartbeats 4000000 in
set_option maxRecDepth 20000 in
theorem m_X9_packed (g : kf_G) (hg : kf_g g) (x1 : Int32) (I : HI) (J : HJ) (Post : Int32 → Prop) (h : w_X9_packed x1 I J Post) : kf_Mi g yX9_packed (kf_W yX9_packed cX9_packed 5 (Option.some Jvm.ClassFile.FieldType.int)) 1 21 [.ref (g.2.2.2 43), .int x1] I J (fun v I' J' => Post v ∧ I' = I ∧ J' = J) :=
  kf_enti hg (by decide) (Nat.le_of_ble_eq_true rfl) rfl (fun x hx hr => we_X9_packed g hg hx x1 I J Post (fun pc lv v hd hP => hr pc lv v I J hd ⟨hP, rfl, rfl⟩) h)
theorem dX9_sumByView_0 : decode cX9_sumByView 0 = .ok (.aload_n 0, 1) := by decide +kernel
theorem dX9_sumByView_1 : decode cX9_sumByView 1 = .ok (.getfield 18, 3) := by decide +kernel
theorem dX9_sumByView_4 : decode cX9_sumByView 4 = .ok (.lconst 0, 1) := by decide +kernel
theorem dX9_sumByView_5 : decode cX9_sumByView 5 = .ok (.invokestatic 61, 3) := by decide +kernel
theorem dX9_sumByView_8 : decode cX9_sumByView 8 = .ok (.iconst 0, 1) := by decide +kernel
theorem dX9_sumByView_9 : decode cX9_sumByView 9 = .ok (.istore_n 2, 1) := by decide +kernel
theorem dX9_sumByView_10 : decode cX9_sumByView 10 = .ok (.iload_n 2, 1) := by decide +kernel
theorem dX9_sumByView_11 : decode cX9_sumByView 11 = .ok (.aload_n 0, 1) := by decide +kernel
theorem dX9_sumByView_12 : decode cX9_sumByView 12 = .ok (.getfield 29, 3) := by decide +kernel
theorem dX9_sumByView_15 : decode cX9_sumByView 15 = .ok (.invokevirtual 47, 3) := by decide +kernel
theorem dX9_sumByView_18 : decode cX9_sumByView 18 = .ok (.if_icmp .ge 81, 3) := by decide +kernel
theorem dX9_sumByView_21 : decode cX9_sumByView 21 = .ok (.aload_n 0, 1) := by decide +kernel
theorem dX9_sumByView_22 : decode cX9_sumByView 22 = .ok (.getfield 29, 3) := by decide +kernel
theorem dX9_sumByView_25 : decode cX9_sumByView 25 = .ok (.getfield 77, 3) := by decide +kernel
theorem dX9_sumByView_28 : decode cX9_sumByView 28 = .ok (.iload_n 2, 1) := by decide +kernel
theorem dX9_sumByView_29 : decode cX9_sumByView 29 = .ok (.laload, 1) := by decide +kernel
theorem dX9_sumByView_30 : decode cX9_sumByView 30 = .ok (.lconst 0, 1) := by decide +kernel
theorem dX9_sumByView_31 : decode cX9_sumByView 31 = .ok (.lcmp, 1) := by decide +kernel
theorem dX9_sumByView_32 : decode cX9_sumByView 32 = .ok (.ifCond .eq 61, 3) := by decide +kernel
theorem dX9_sumByView_35 : decode cX9_sumByView 35 = .ok (.aload_n 0, 1) := by decide +kernel
theorem dX9_sumByView_36 : decode cX9_sumByView 36 = .ok (.getfield 9, 3) := by decide +kernel
theorem dX9_sumByView_39 : decode cX9_sumByView 39 = .ok (.iload_n 2, 1) := by decide +kernel
theorem dX9_sumByView_40 : decode cX9_sumByView 40 = .ok (.iaload, 1) := by decide +kernel
theorem dX9_sumByView_41 : decode cX9_sumByView 41 = .ok (.istore_n 3, 1) := by decide +kernel
theorem dX9_sumByView_42 : decode cX9_sumByView 42 = .ok (.iload_n 3, 1) := by decide +kernel
theorem dX9_sumByView_43 : decode cX9_sumByView 43 = .ok (.iload_n 1, 1) := by decide +kernel
theorem dX9_sumByView_44 : decode cX9_sumByView 44 = .ok (.invokestatic 80, 3) := by decide +kernel
theorem dX9_sumByView_47 : decode cX9_sumByView 47 = .ok (.ifCond .ne 17, 3) := by decide +kernel
theorem dX9_sumByView_50 : decode cX9_sumByView 50 = .ok (.aload_n 0, 1) := by decide +kernel
theorem dX9_sumByView_51 : decode cX9_sumByView 51 = .ok (.getfield 29, 3) := by decide +kernel
theorem dX9_sumByView_54 : decode cX9_sumByView 54 = .ok (.iload_n 3, 1) := by decide +kernel
theorem dX9_sumByView_55 : decode cX9_sumByView 55 = .ok (.iconst 1, 1) := by decide +kernel
theorem dX9_sumByView_56 : decode cX9_sumByView 56 = .ok (.iload_n 1, 1) := by decide +kernel
theorem dX9_sumByView_57 : decode cX9_sumByView 57 = .ok (.ishl, 1) := by decide +kernel
theorem dX9_sumByView_58 : decode cX9_sumByView 58 = .ok (.ior, 1) := by decide +kernel
theorem dX9_sumByView_59 : decode cX9_sumByView 59 = .ok (.iload_n 2, 1) := by decide +kernel
theorem dX9_sumByView_60 : decode cX9_sumByView 60 = .ok (.invokevirtual 53, 3) := by decide +kernel
theorem dX9_sumByView_63 : decode cX9_sumByView 63 = .ok (.istore_n 3, 1) := by decide +kernel
theorem dX9_sumByView_64 : decode cX9_sumByView 64 = .ok (.aload_n 0, 1) := by decide +kernel
theorem dX9_sumByView_65 : decode cX9_sumByView 65 = .ok (.getfield 18, 3) := by decide +kernel
theorem dX9_sumByView_68 : decode cX9_sumByView 68 = .ok (.aload_n 0, 1) := by decide +kernel
theorem dX9_sumByView_69 : decode cX9_sumByView 69 = .ok (.getfield 15, 3) := by decide +kernel
theorem dX9_sumByView_72 : decode cX9_sumByView 72 = .ok (.iload_n 2, 1) := by decide +kernel
theorem dX9_sumByView_73 : decode cX9_sumByView 73 = .ok (.iaload, 1) := by decide +kernel
theorem dX9_sumByView_74 : decode cX9_sumByView 74 = .ok (.dup2, 1) := by decide +kernel
theorem dX9_sumByView_75 : decode cX9_sumByView 75 = .ok (.laload, 1) := by decide +kernel
theorem dX9_sumByView_76 : decode cX9_sumByView 76 = .ok (.aload_n 0, 1) := by decide +kernel
theorem dX9_sumByView_77 : decode cX9_sumByView 77 = .ok (.getfield 29, 3) := by decide +kernel
theorem dX9_sumByView_80 : decode cX9_sumByView 80 = .ok (.getfield 77, 3) := by decide +kernel
theorem dX9_sumByView_83 : decode cX9_sumByView 83 = .ok (.iload_n 2, 1) := by decide +kernel
theorem dX9_sumByView_84 : decode cX9_sumByView 84 = .ok (.laload, 1) := by decide +kernel
theorem dX9_sumByView_85 : decode cX9_sumByView 85 = .ok (.iload_n 3, 1) := by decide +kernel
theorem dX9_sumByView_86 : decode cX9_sumByView 86 = .ok (.invokestatic 84, 3) := by decide +kernel
theorem dX9_sumByView_89 : decode cX9_sumByView 89 = .ok (.i2l, 1) := by decide +kernel
theorem dX9_sumByView_90 : decode cX9_sumByView 90 = .ok (.lmul, 1) := by decide +kernel
theorem dX9_sumByView_91 : decode cX9_sumByView 91 = .ok (.ladd, 1) := by decide +kernel
theorem dX9_sumByView_92 : decode cX9_sumByView 92 = .ok (.lastore, 1) := by decide +kernel
theorem dX9_sumByView_93 : decode cX9_sumByView 93 = .ok (.iinc 2 1, 3) := by decide +kernel
theorem dX9_sumByView_96 : decode cX9_sumByView 96 = .ok (.goto (-86), 3) := by decide +kernel
theorem dX9_sumByView_99 : decode cX9_sumByView 99 = .ok (.return_, 1) := by decide +kernel
def wj_X9_sumByView_64 (I : HI) (J : HJ) (x1 : Int32) (x2 : Int32) (x3 : Int32) (E10 : HJ → Prop) (K10 : Int32 × HJ → Prop) (Post : HJ → Prop) : Prop :=
  vp_in x2 1024 ∧ (vp_in (I 45 (Int32.toNatClampNeg x2)) 1024 ∧ (vp_in x2 1024 ∧ (w_J6_bitCount_0f7a4 x3 (fun (r_4 : Int32) => (vp_in (I 45 (Int32.toNatClampNeg x2)) 1024 ∧ (∀ J_5 : HJ, J_5 = hJ J 46 (Int32.toNatClampNeg (I 45 (Int32.toNatClampNeg x2))) ((J 46 (Int32.toNatClampNeg (I 45 (Int32.toNatClampNeg x2)))) + ((J 40 (Int32.toNatClampNeg x2)) * (Int32.toInt64 r_4))) → (K10 ((x2 + 1), J_5))))))))
set_option maxHeartbeats 4000000 in
set_option maxRecDepth 20000 in
theorem wk_X9_sumByView_64 (g : kf_G) (hg : kf_g g) {x : kf_X} (hx : kf_ok g x RX9 cX9_sumByView 4 3 72) (I : HI) (J : HJ) (x1 : Int32) (x2 : Int32) (x3 : Int32) (E10 : HJ → Prop) (K10 : Int32 × HJ → Prop) (hE10 : ∀ (Jy : HJ), E10 Jy → kf_M g x 4 99 [] [] I Jy) (hK10 : ∀ (y2 : Int32) (Jy : HJ), K10 (y2, Jy) → kf_M g x 4 10 [(0, .ref (g.2.2.2 43)), (1, .int x1), (2, .int y2)] [] I Jy) (Post : HJ → Prop) (hret : ∀ (pc : Nat) (lv : List (Nat × Value)) (Jy : HJ), decode cX9_sumByView pc = .ok (.return_, 1) → Post Jy → kf_M g x 4 pc lv [] I Jy) (h : wj_X9_sumByView_64 I J x1 x2 x3 E10 K10 Post) : kf_M g x 4 64 [(0, .ref (g.2.2.2 43)), (1, .int x1), (2, .int x2), (3, .int x3)] [] I J := by
  unfold wj_X9_sumByView_64 at h
  refine kf_aload_n hx dX9_sumByView_64 rfl 0 rfl ?_
  refine kf_getR (n := 46) hx sl_43_4 fl_RX9_18 dX9_sumByView_65 ?_
  refine kf_aload_n hx dX9_sumByView_68 rfl 0 rfl ?_
  refine kf_getR (n := 45) hx sl_43_3 fl_RX9_15 dX9_sumByView_69 ?_
  refine kf_iload_n hx dX9_sumByView_72 rfl 2 rfl ?_
  refine kf_iald hx ar_45 h.1 dX9_sumByView_73 ?_
  replace h := h.2
  refine kf_dup2 hx dX9_sumByView_74 rfl rfl ?_
  refine kf_lald hx ar_46 h.1 dX9_sumByView_75 ?_
  replace h := h.2
  refine kf_aload_n hx dX9_sumByView_76 rfl 0 rfl ?_
  refine kf_getR (n := 39) hx sl_43_1 fl_RX9_29 dX9_sumByView_77 ?_
  refine kf_getR (n := 40) hx sl_39_1 fl_RX9_77 dX9_sumByView_80 ?_
  refine kf_iload_n hx dX9_sumByView_83 rfl 2 rfl ?_
  refine kf_lald hx ar_40 h.1 dX9_sumByView_84 ?_
  replace h := h.2
  refine kf_iload_n hx dX9_sumByView_85 rfl 3 rfl ?_
  refine kf_callSiP (st := [.long (J 40 (Int32.toNatClampNeg x2)), .long (J 46 (Int32.toNatClampNeg (I 45 (Int32.toNatClampNeg x2)))), .int (I 45 (Int32.toNatClampNeg x2)), .ref (g.2.2.2 46)]) hx (m_J6_bitCount_0f7a4 g hg x3 I J _ h) lk_RX9_84 km_J6_bitCount_0f7a4 rfl (by decide) rfl (Nat.le_of_ble_eq_true rfl) dX9_sumByView_86 (fun r_4 h => ?_)
  refine kf_i2l hx dX9_sumByView_89 ?_
  refine kf_lmul hx dX9_sumByView_90 ?_
  refine kf_ladd hx dX9_sumByView_91 ?_
  refine kf_last hx ar_46 h.1 dX9_sumByView_92 ?_
  replace h := h.2
  refine kf_nmJ (fun J_5 eJ_5 => ?_)
  replace h := h J_5 eJ_5
  refine kf_iinc (w := (x2 + 1)) (lv' := [(2, .int (x2 + 1)), (0, .ref (g.2.2.2 43)), (1, .int x1), (3, .int x3)]) hx dX9_sumByView_93 2 rfl rfl (by decide) rfl ?_
  refine kf_goto hx 10 dX9_sumByView_96 (by decide) ?_
  refine kf_sub [1, 2, 0] rfl ?_
  exact hK10 _ _ h
def wb_X9_sumByView_10 (I : HI) (x1 : Int32) (Post : HJ → Prop) (E10 : HJ → Prop) (K10 : (Int32 × HJ) → Prop) (s : Int32 × HJ) : Prop :=
  match s with
  | (x2, J) => w_X2_count  I J (fun (r_2 : Int32) => ((r_2 ≤ x2 → (E10 J)) ∧ (¬ r_2 ≤ x2 → (vp_in x2 1024 ∧ (((J 40 (Int32.toNatClampNeg x2)) = 0 → (K10 ((x2 + 1), J))) ∧ (¬ (J 40 (Int32.toNatClampNeg x2)) = 0 → (vp_in x2 1024 ∧ (w_X10_has (I 44 (Int32.toNatClampNeg x2)) x1 (fun (r_3 : Bool) => ((r_3 = true → (wj_X9_sumByView_64 I J x1 x2 (I 44 (Int32.toNatClampNeg x2)) E10 K10 Post)) ∧ (r_3 = false → (w_X2_takers ((I 44 (Int32.toNatClampNeg x2)) ||| (1 <<< (x1 &&& 31))) x2 I J (fun (r_6 : Int32) => (wj_X9_sumByView_64 I J x1 x2 r_6 E10 K10 Post))))))))))))))
set_option maxHeartbeats 4000000 in
set_option maxRecDepth 20000 in
theorem ws_X9_sumByView_10 (g : kf_G) (hg : kf_g g) {x : kf_X} (hx : kf_ok g x RX9 cX9_sumByView 4 3 72) (I : HI) (x1 : Int32) (Post : HJ → Prop) (hret : ∀ (pc : Nat) (lv : List (Nat × Value)) (Jy : HJ), decode cX9_sumByView pc = .ok (.return_, 1) → Post Jy → kf_M g x 4 pc lv [] I Jy) (E10 : HJ → Prop) (hE10 : ∀ (Jy : HJ), E10 Jy → kf_M g x 4 99 [] [] I Jy) (K10 : (Int32 × HJ) → Prop) (hK10 : ∀ (y2 : Int32) (Jy : HJ), K10 (y2, Jy) → kf_M g x 4 10 [(0, .ref (g.2.2.2 43)), (1, .int x1), (2, .int y2)] [] I Jy) (x2 : Int32) (J : HJ) (h : wb_X9_sumByView_10 I x1 Post E10 K10 (x2, J)) : kf_M g x 4 10 [(0, .ref (g.2.2.2 43)), (1, .int x1), (2, .int x2)] [] I J := by
  unfold wb_X9_sumByView_10 at h
  refine kf_iload_n hx dX9_sumByView_10 rfl 2 rfl ?_
  refine kf_aload_n hx dX9_sumByView_11 rfl 0 rfl ?_
  refine kf_getR (n := 39) hx sl_43_1 fl_RX9_29 dX9_sumByView_12 ?_
  refine kf_callViP (st := [.int x2]) hx (m_X2_count g hg  I J _ h) lk_RX9_47 km_X2_count ob_39 rfl (by decide) rfl (Nat.le_of_ble_eq_true rfl) dX9_sumByView_15 (fun r_2 h => ?_)
  refine kf_icmp_ge hx 99 dX9_sumByView_18 (by decide) (fun c => ?_) (fun c => ?_)
  · replace h := h.1 c
    refine kf_sub [] rfl ?_
    exact hE10 _ h
  · replace h := h.2 c
    refine kf_aload_n hx dX9_sumByView_21 rfl 0 rfl ?_
    refine kf_getR (n := 39) hx sl_43_1 fl_RX9_29 dX9_sumByView_22 ?_
    refine kf_getR (n := 40) hx sl_39_1 fl_RX9_77 dX9_sumByView_25 ?_
    refine kf_iload_n hx dX9_sumByView_28 rfl 2 rfl ?_
    refine kf_lald hx ar_40 h.1 dX9_sumByView_29 ?_
    replace h := h.2
    refine kf_lconst (v := 0) hx dX9_sumByView_30 (by decide) ?_
    refine kf_l_eq hx 93 dX9_sumByView_31 dX9_sumByView_32 (by decide) (fun c => ?_) (fun c => ?_)
    · replace h := h.1 c
      refine kf_iinc (w := (x2 + 1)) (lv' := [(2, .int (x2 + 1)), (0, .ref (g.2.2.2 43)), (1, .int x1)]) hx dX9_sumByView_93 2 rfl rfl (by decide) rfl ?_
      refine kf_goto hx 10 dX9_sumByView_96 (by decide) ?_
      refine kf_sub [1, 2, 0] rfl ?_
      exact hK10 _ _ h
    · replace h := h.2 c
      refine kf_aload_n hx dX9_sumByView_35 rfl 0 rfl ?_
      refine kf_getR (n := 44) hx sl_43_2 fl_RX9_9 dX9_sumByView_36 ?_
      refine kf_iload_n hx dX9_sumByView_39 rfl 2 rfl ?_
      refine kf_iald hx ar_44 h.1 dX9_sumByView_40 ?_
      replace h := h.2
      refine kf_istore_n (lv' := [(3, .int (I 44 (Int32.toNatClampNeg x2))), (0, .ref (g.2.2.2 43)), (1, .int x1), (2, .int x2)]) hx dX9_sumByView_41 rfl (by decide) rfl ?_
      refine kf_iload_n hx dX9_sumByView_42 rfl 0 rfl ?_
      refine kf_iload_n hx dX9_sumByView_43 rfl 2 rfl ?_
      refine kf_callSbP (st := []) hx (m_X10_has g hg (I 44 (Int32.toNatClampNeg x2)) x1 I J _ h) lk_RX9_80 km_X10_has rfl (by decide) rfl (Nat.le_of_ble_eq_true rfl) dX9_sumByView_44 (fun r_3 h => ?_)
      refine kf_ifB_ne hx 64 dX9_sumByView_47 (by decide) (fun c => ?_) (fun c => ?_)
      · replace h := h.1 c
        refine kf_sub [1, 2, 3, 0] rfl ?_
        exact wk_X9_sumByView_64 g hg hx I J x1 x2 (I 44 (Int32.toNatClampNeg x2)) _ _ hE10 hK10 _ hret h
      · replace h := h.2 c
        refine kf_aload_n hx dX9_sumByView_50 rfl 1 rfl ?_
        refine kf_getR (n := 39) hx sl_43_1 fl_RX9_29 dX9_sumByView_51 ?_
        refine kf_iload_n hx dX9_sumByView_54 rfl 0 rfl ?_
        refine kf_iconst (v := 1) hx dX9_sumByView_55 (by decide) ?_
        refine kf_iload_n hx dX9_sumByView_56 rfl 2 rfl ?_
        refine kf_ishl hx dX9_sumByView_57 ?_
        refine kf_ior hx dX9_sumByView_58 ?_
        refine kf_iload_n hx dX9_sumByView_59 rfl 3 rfl ?_
        refine kf_callViP (st := []) hx (m_X2_takers g hg ((I 44 (Int32.toNatClampNeg x2)) ||| (1 <<< (x1 &&& 31))) x2 I J _ h) lk_RX9_53 km_X2_takers ob_39 rfl (by decide) rfl (Nat.le_of_ble_eq_true rfl) dX9_sumByView_60 (fun r_6 h => ?_)
        refine kf_istore_n (lv' := [(3, .int r_6), (0, .ref (g.2.2.2 43)), (1, .int x1), (2, .int x2)]) hx dX9_sumByView_63 rfl (by decide) rfl ?_
        refine kf_sub [1, 2, 3, 0] rfl ?_
        exact wk_X9_sumByView_64 g hg hx I J x1 x2 r_6 _ _ hE10 hK10 _ hret h
theorem wl_X9_sumByView_10 (g : kf_G) (hg : kf_g g) {x : kf_X} (hx : kf_ok g x RX9 cX9_sumByView 4 3 72) (I : HI) (x1 : Int32) (Post : HJ → Prop) (hret : ∀ (pc : Nat) (lv : List (Nat × Value)) (Jy : HJ), decode cX9_sumByView pc = .ok (.return_, 1) → Post Jy → kf_M g x 4 pc lv [] I Jy) (E10 : HJ → Prop) (hE10 : ∀ (Jy : HJ), E10 Jy → kf_M g x 4 99 [] [] I Jy) : ∀ (n : Nat) (x2 : Int32) (J : HJ), lp (wb_X9_sumByView_10 I x1 Post E10) n (x2, J) → kf_M g x 4 10 [(0, .ref (g.2.2.2 43)), (1, .int x1), (2, .int x2)] [] I J := by
  intro n
  induction n with
  | zero => intro x2 J h; exact h.elim
  | succ n ih => intro x2 J h; exact ws_X9_sumByView_10 g hg hx I x1 Post hret E10 hE10 (lp (wb_X9_sumByView_10 I x1 Post E10) n) ih x2 J h
def w_X9_sumByView (x1 : Int32) (I : HI) (J : HJ) (Post : HJ → Prop) : Prop :=
  w_J7_fill_d0a16 46 1024 0 I J (fun (J_1 : HJ) => (∃ n, lp (wb_X9_sumByView_10 I x1 Post (fun (J_7 : HJ) => Post J_7)) n (0, J_1)))
set_option maxHeartbeats 4000000 in
set_option maxRecDepth 20000 in
theorem we_X9_sumByView (g : kf_G) (hg : kf_g g) {x : kf_X} (hx : kf_ok g x RX9 cX9_sumByView 4 3 72) (x1 : Int32) (I : HI) (J : HJ) (Post : HJ → Prop) (hret : ∀ (pc : Nat) (lv : List (Nat × Value)) (Jy : HJ), decode cX9_sumByView pc = .ok (.return_, 1) → Post Jy → kf_M g x 4 pc lv [] I Jy) (h : w_X9_sumByView x1 I J Post) : kf_M g x 4 0 [(0, .ref (g.2.2.2 43)), (1, .int x1)] [] I J := by
  unfold w_X9_sumByView at h
  refine kf_aload_n hx dX9_sumByView_0 rfl 0 rfl ?_
  refine kf_getR (n := 46) hx sl_43_4 fl_RX9_18 dX9_sumByView_1 ?_
  refine kf_lconst (v := 0) hx dX9_sumByView_4 (by decide) ?_
  refine kf_callSvJ (st := []) hx (m_J7_fill_d0a16 g hg 46 1024 0 ar_46 I J _ h) lk_RX9_61 km_J7_fill_d0a16 rfl (by decide) rfl (Nat.le_of_ble_eq_true rfl) dX9_sumByView_5 (fun J_1 h => ?_)
  refine kf_iconst (v := 0) hx dX9_sumByView_8 (by decide) ?_
  refine kf_istore_n (lv' := [(2, .int 0), (0, .ref (g.2.2.2 43)), (1, .int x1)]) hx dX9_sumByView_9 rfl (by decide) rfl ?_
  obtain ⟨n, h⟩ := h
  refine kf_sub [1, 2, 0] rfl ?_
  refine wl_X9_sumByView_10 g hg hx I x1 _ hret _ (fun J_7 h => ?_) n _ _ h
  exact hret _ _ _ dX9_sumByView_99 h
set_option maxHeartbeats 4000000 in
set_option maxRecDepth 20000 in
theorem m_X9_sumByView (g : kf_G) (hg : kf_g g) (x1 : Int32) (I : HI) (J : HJ) (Post : HJ → Prop) (h : w_X9_sumByView x1 I J Post) : kf_Mv g yX9_sumByView (kf_W yX9_sumByView cX9_sumByView 4 (Option.none : Option Jvm.ClassFile.FieldType)) 3 72 [.ref (g.2.2.2 43), .int x1] I J (fun I' J' => Post J' ∧ I' = I) :=
  kf_entv hg (by decide) (Nat.le_of_ble_eq_true rfl) rfl (fun x hx hr => we_X9_sumByView g hg hx x1 I J Post (fun pc lv J' hd hP => hr pc lv I J' hd ⟨hP, rfl⟩) h)
theorem dX9_totalSeeing_0 : decode cX9_totalSeeing 0 = .ok (.iconst 0, 1) := by decide +kernel
theorem dX9_totalSeeing_1 : decode cX9_totalSeeing 1 = .ok (.istore_n 2, 1) := by decide +kernel
theorem dX9_totalSeeing_2 : decode cX9_totalSeeing 2 = .ok (.iload_n 2, 1) := by decide +kernel
theorem dX9_totalSeeing_3 : decode cX9_totalSeeing 3 = .ok (.aload_n 0, 1) := by decide +kernel
theorem dX9_totalSeeing_4 : decode cX9_totalSeeing 4 = .ok (.getfield 29, 3) := by decide +kernel
theorem dX9_totalSeeing_7 : decode cX9_totalSeeing 7 = .ok (.invokevirtual 47, 3) := by decide +kernel
theorem dX9_totalSeeing_10 : decode cX9_totalSeeing 10 = .ok (.if_icmp .ge 42, 3) := by decide +kernel
theorem dX9_totalSeeing_13 : decode cX9_totalSeeing 13 = .ok (.aload_n 0, 1) := by decide +kernel
theorem dX9_totalSeeing_14 : decode cX9_totalSeeing 14 = .ok (.getfield 9, 3) := by decide +kernel
theorem dX9_totalSeeing_17 : decode cX9_totalSeeing 17 = .ok (.iload_n 2, 1) := by decide +kernel
theorem dX9_totalSeeing_18 : decode cX9_totalSeeing 18 = .ok (.aload_n 0, 1) := by decide +kernel
theorem dX9_totalSeeing_19 : decode cX9_totalSeeing 19 = .ok (.getfield 29, 3) := by decide +kernel
theorem dX9_totalSeeing_22 : decode cX9_totalSeeing 22 = .ok (.iconst 1, 1) := by decide +kernel
theorem dX9_totalSeeing_23 : decode cX9_totalSeeing 23 = .ok (.iload_n 1, 1) := by decide +kernel
theorem dX9_totalSeeing_24 : decode cX9_totalSeeing 24 = .ok (.ishl, 1) := by decide +kernel
theorem dX9_totalSeeing_25 : decode cX9_totalSeeing 25 = .ok (.iload_n 2, 1) := by decide +kernel
theorem dX9_totalSeeing_26 : decode cX9_totalSeeing 26 = .ok (.invokevirtual 53, 3) := by decide +kernel
theorem dX9_totalSeeing_29 : decode cX9_totalSeeing 29 = .ok (.iastore, 1) := by decide +kernel
theorem dX9_totalSeeing_30 : decode cX9_totalSeeing 30 = .ok (.aload_n 0, 1) := by decide +kernel
theorem dX9_totalSeeing_31 : decode cX9_totalSeeing 31 = .ok (.getfield 15, 3) := by decide +kernel
theorem dX9_totalSeeing_34 : decode cX9_totalSeeing 34 = .ok (.iload_n 2, 1) := by decide +kernel
theorem dX9_totalSeeing_35 : decode cX9_totalSeeing 35 = .ok (.aload_n 0, 1) := by decide +kernel
theorem dX9_totalSeeing_36 : decode cX9_totalSeeing 36 = .ok (.aload_n 0, 1) := by decide +kernel
theorem dX9_totalSeeing_37 : decode cX9_totalSeeing 37 = .ok (.getfield 9, 3) := by decide +kernel
theorem dX9_totalSeeing_40 : decode cX9_totalSeeing 40 = .ok (.iload_n 2, 1) := by decide +kernel
theorem dX9_totalSeeing_41 : decode cX9_totalSeeing 41 = .ok (.iaload, 1) := by decide +kernel
theorem dX9_totalSeeing_42 : decode cX9_totalSeeing 42 = .ok (.invokevirtual 57, 3) := by decide +kernel
theorem dX9_totalSeeing_45 : decode cX9_totalSeeing 45 = .ok (.iastore, 1) := by decide +kernel
theorem dX9_totalSeeing_46 : decode cX9_totalSeeing 46 = .ok (.iinc 2 1, 3) := by decide +kernel
theorem dX9_totalSeeing_49 : decode cX9_totalSeeing 49 = .ok (.goto (-47), 3) := by decide +kernel
theorem dX9_totalSeeing_52 : decode cX9_totalSeeing 52 = .ok (.aload_n 0, 1) := by decide +kernel
theorem dX9_totalSeeing_53 : decode cX9_totalSeeing 53 = .ok (.getfield 22, 3) := by decide +kernel
theorem dX9_totalSeeing_56 : decode cX9_totalSeeing 56 = .ok (.lconst 0, 1) := by decide +kernel
theorem dX9_totalSeeing_57 : decode cX9_totalSeeing 57 = .ok (.invokestatic 61, 3) := by decide +kernel
theorem dX9_totalSeeing_60 : decode cX9_totalSeeing 60 = .ok (.iconst 0, 1) := by decide +kernel
theorem dX9_totalSeeing_61 : decode cX9_totalSeeing 61 = .ok (.istore_n 2, 1) := by decide +kernel
theorem dX9_totalSeeing_62 : decode cX9_totalSeeing 62 = .ok (.iload_n 2, 1) := by decide +kernel
theorem dX9_totalSeeing_63 : decode cX9_totalSeeing 63 = .ok (.aload_n 0, 1) := by decide +kernel
theorem dX9_totalSeeing_64 : decode cX9_totalSeeing 64 = .ok (.getfield 25, 3) := by decide +kernel
theorem dX9_totalSeeing_67 : decode cX9_totalSeeing 67 = .ok (.getfield 37, 3) := by decide +kernel
theorem dX9_totalSeeing_70 : decode cX9_totalSeeing 70 = .ok (.if_icmp .ge 50, 3) := by decide +kernel
theorem dX9_totalSeeing_73 : decode cX9_totalSeeing 73 = .ok (.aload_n 0, 1) := by decide +kernel
theorem dX9_totalSeeing_74 : decode cX9_totalSeeing 74 = .ok (.iload_n 2, 1) := by decide +kernel
theorem dX9_totalSeeing_75 : decode cX9_totalSeeing 75 = .ok (.invokevirtual 67, 3) := by decide +kernel
theorem dX9_totalSeeing_78 : decode cX9_totalSeeing 78 = .ok (.iconst 0, 1) := by decide +kernel
theorem dX9_totalSeeing_79 : decode cX9_totalSeeing 79 = .ok (.istore_n 3, 1) := by decide +kernel
theorem dX9_totalSeeing_80 : decode cX9_totalSeeing 80 = .ok (.iload_n 3, 1) := by decide +kernel
theorem dX9_totalSeeing_81 : decode cX9_totalSeeing 81 = .ok (.sipush 1024, 3) := by decide +kernel
theorem dX9_totalSeeing_84 : decode cX9_totalSeeing 84 = .ok (.if_icmp .ge 30, 3) := by decide +kernel
theorem dX9_totalSeeing_87 : decode cX9_totalSeeing 87 = .ok (.aload_n 0, 1) := by decide +kernel
theorem dX9_totalSeeing_88 : decode cX9_totalSeeing 88 = .ok (.getfield 22, 3) := by decide +kernel
theorem dX9_totalSeeing_91 : decode cX9_totalSeeing 91 = .ok (.iload_n 3, 1) := by decide +kernel
theorem dX9_totalSeeing_92 : decode cX9_totalSeeing 92 = .ok (.aload_n 0, 1) := by decide +kernel
theorem dX9_totalSeeing_93 : decode cX9_totalSeeing 93 = .ok (.getfield 22, 3) := by decide +kernel
theorem dX9_totalSeeing_96 : decode cX9_totalSeeing 96 = .ok (.iload_n 3, 1) := by decide +kernel
theorem dX9_totalSeeing_97 : decode cX9_totalSeeing 97 = .ok (.laload, 1) := by decide +kernel
theorem dX9_totalSeeing_98 : decode cX9_totalSeeing 98 = .ok (.aload_n 0, 1) := by decide +kernel
theorem dX9_totalSeeing_99 : decode cX9_totalSeeing 99 = .ok (.getfield 18, 3) := by decide +kernel
theorem dX9_totalSeeing_102 : decode cX9_totalSeeing 102 = .ok (.iload_n 3, 1) := by decide +kernel
theorem dX9_totalSeeing_103 : decode cX9_totalSeeing 103 = .ok (.laload, 1) := by decide +kernel
theorem dX9_totalSeeing_104 : decode cX9_totalSeeing 104 = .ok (.invokestatic 71, 3) := by decide +kernel
theorem dX9_totalSeeing_107 : decode cX9_totalSeeing 107 = .ok (.lastore, 1) := by decide +kernel
theorem dX9_totalSeeing_108 : decode cX9_totalSeeing 108 = .ok (.iinc 3 1, 3) := by decide +kernel
theorem dX9_totalSeeing_111 : decode cX9_totalSeeing 111 = .ok (.goto (-31), 3) := by decide +kernel
theorem dX9_totalSeeing_114 : decode cX9_totalSeeing 114 = .ok (.iinc 2 1, 3) := by decide +kernel
theorem dX9_totalSeeing_117 : decode cX9_totalSeeing 117 = .ok (.goto (-55), 3) := by decide +kernel
theorem dX9_totalSeeing_120 : decode cX9_totalSeeing 120 = .ok (.lconst 0, 1) := by decide +kernel
theorem dX9_totalSeeing_121 : decode cX9_totalSeeing 121 = .ok (.lstore_n 2, 1) := by decide +kernel
theorem dX9_totalSeeing_122 : decode cX9_totalSeeing 122 = .ok (.iconst 0, 1) := by decide +kernel
theorem dX9_totalSeeing_123 : decode cX9_totalSeeing 123 = .ok (.istore 4, 2) := by decide +kernel
theorem dX9_totalSeeing_125 : decode cX9_totalSeeing 125 = .ok (.iload 4, 2) := by decide +kernel
theorem dX9_totalSeeing_127 : decode cX9_totalSeeing 127 = .ok (.sipush 1024, 3) := by decide +kernel
theorem dX9_totalSeeing_130 : decode cX9_totalSeeing 130 = .ok (.if_icmp .ge 19, 3) := by decide +kernel
theorem dX9_totalSeeing_133 : decode cX9_totalSeeing 133 = .ok (.lload_n 2, 1) := by decide +kernel
theorem dX9_totalSeeing_134 : decode cX9_totalSeeing 134 = .ok (.aload_n 0, 1) := by decide +kernel
theorem dX9_totalSeeing_135 : decode cX9_totalSeeing 135 = .ok (.getfield 22, 3) := by decide +kernel
theorem dX9_totalSeeing_138 : decode cX9_totalSeeing 138 = .ok (.iload 4, 2) := by decide +kernel
theorem dX9_totalSeeing_140 : decode cX9_totalSeeing 140 = .ok (.laload, 1) := by decide +kernel
theorem dX9_totalSeeing_141 : decode cX9_totalSeeing 141 = .ok (.ladd, 1) := by decide +kernel
theorem dX9_totalSeeing_142 : decode cX9_totalSeeing 142 = .ok (.lstore_n 2, 1) := by decide +kernel
theorem dX9_totalSeeing_143 : decode cX9_totalSeeing 143 = .ok (.iinc 4 1, 3) := by decide +kernel
theorem dX9_totalSeeing_146 : decode cX9_totalSeeing 146 = .ok (.goto (-21), 3) := by decide +kernel
theorem dX9_totalSeeing_149 : decode cX9_totalSeeing 149 = .ok (.lload_n 2, 1) := by decide +kernel
theorem dX9_totalSeeing_150 : decode cX9_totalSeeing 150 = .ok (.lreturn, 1) := by decide +kernel
def wb_X9_totalSeeing_2 (J : HJ) (x1 : Int32) (Post : Int64 → HI → HJ → Prop) (E2 : HI → Prop) (K2 : (Int32 × HI) → Prop) (s : Int32 × HI) : Prop :=
  match s with
  | (x2, I) => w_X2_count  I J (fun (r_1 : Int32) => ((r_1 ≤ x2 → (E2 I)) ∧ (¬ r_1 ≤ x2 → (w_X2_takers (1 <<< (x1 &&& 31)) x2 I J (fun (r_2 : Int32) => (vp_in x2 1024 ∧ (∀ I_3 : HI, I_3 = hI I 44 (Int32.toNatClampNeg x2) r_2 → (vp_in x2 1024 ∧ (w_X9_packed (I_3 44 (Int32.toNatClampNeg x2)) I_3 J (fun (r_4 : Int32) => (vp_in x2 1024 ∧ (∀ I_5 : HI, I_5 = hI I_3 45 (Int32.toNatClampNeg x2) r_4 → (K2 ((x2 + 1), I_5))))))))))))))
set_option maxHeartbeats 4000000 in
set_option maxRecDepth 20000 in
theorem ws_X9_totalSeeing_2 (g : kf_G) (hg : kf_g g) {x : kf_X} (hx : kf_ok g x RX9 cX9_totalSeeing 5 4 95) (J : HJ) (x1 : Int32) (Post : Int64 → HI → HJ → Prop) (hret : ∀ (pc : Nat) (lv : List (Nat × Value)) (v : Int64) (Iy : HI) (Jy : HJ), decode cX9_totalSeeing pc = .ok (.lreturn, 1) → Post v Iy Jy → kf_M g x 5 pc lv [.long v] Iy Jy) (E2 : HI → Prop) (hE2 : ∀ (Iy : HI), E2 Iy → kf_M g x 5 52 [(0, .ref (g.2.2.2 43))] [] Iy J) (K2 : (Int32 × HI) → Prop) (hK2 : ∀ (y2 : Int32) (Iy : HI), K2 (y2, Iy) → kf_M g x 5 2 [(0, .ref (g.2.2.2 43)), (1, .int x1), (2, .int y2)] [] Iy J) (x2 : Int32) (I : HI) (h : wb_X9_totalSeeing_2 J x1 Post E2 K2 (x2, I)) : kf_M g x 5 2 [(0, .ref (g.2.2.2 43)), (1, .int x1), (2, .int x2)] [] I J := by
  unfold wb_X9_totalSeeing_2 at h
  refine kf_iload_n hx dX9_totalSeeing_2 rfl 2 rfl ?_
  refine kf_aload_n hx dX9_totalSeeing_3 rfl 0 rfl ?_
  refine kf_getR (n := 39) hx sl_43_1 fl_RX9_29 dX9_totalSeeing_4 ?_
  refine kf_callViP (st := [.int x2]) hx (m_X2_count g hg  I J _ h) lk_RX9_47 km_X2_count ob_39 rfl (by decide) rfl (Nat.le_of_ble_eq_true rfl) dX9_totalSeeing_7 (fun r_1 h => ?_)
  refine kf_icmp_ge hx 52 dX9_totalSeeing_10 (by decide) (fun c => ?_) (fun c => ?_)
  · replace h := h.1 c
    refine kf_sub [0] rfl ?_
    exact hE2 _ h
  · replace h := h.2 c
    refine kf_aload_n hx dX9_totalSeeing_13 rfl 0 rfl ?_
    refine kf_getR (n := 44) hx sl_43_2 fl_RX9_9 dX9_totalSeeing_14 ?_
    refine kf_iload_n hx dX9_totalSeeing_17 rfl 2 rfl ?_
    refine kf_aload_n hx dX9_totalSeeing_18 rfl 0 rfl ?_
    refine kf_getR (n := 39) hx sl_43_1 fl_RX9_29 dX9_totalSeeing_19 ?_
    refine kf_iconst (v := 1) hx dX9_totalSeeing_22 (by decide) ?_
    refine kf_iload_n hx dX9_totalSeeing_23 rfl 1 rfl ?_
    refine kf_ishl hx dX9_totalSeeing_24 ?_
    refine kf_iload_n hx dX9_totalSeeing_25 rfl 2 rfl ?_
    refine kf_callViP (st := [.int x2, .ref (g.2.2.2 44)]) hx (m_X2_takers g hg (1 <<< (x1 &&& 31)) x2 I J _ h) lk_RX9_53 km_X2_takers ob_39 rfl (by decide) rfl (Nat.le_of_ble_eq_true rfl) dX9_totalSeeing_26 (fun r_2 h => ?_)
    refine kf_iast hx ar_44 h.1 dX9_totalSeeing_29 ?_
    replace h := h.2
    refine kf_nmI (fun I_3 eI_3 => ?_)
    replace h := h I_3 eI_3
    refine kf_aload_n hx dX9_totalSeeing_30 rfl 0 rfl ?_
    refine kf_getR (n := 45) hx sl_43_3 fl_RX9_15 dX9_totalSeeing_31 ?_
    refine kf_iload_n hx dX9_totalSeeing_34 rfl 2 rfl ?_
    refine kf_aload_n hx dX9_totalSeeing_35 rfl 0 rfl ?_
    refine kf_aload_n hx dX9_totalSeeing_36 rfl 0 rfl ?_
    refine kf_getR (n := 44) hx sl_43_2 fl_RX9_9 dX9_totalSeeing_37 ?_
    refine kf_iload_n hx dX9_totalSeeing_40 rfl 2 rfl ?_
    refine kf_iald hx ar_44 h.1 dX9_totalSeeing_41 ?_
    replace h := h.2
    refine kf_callViP (st := [.int x2, .ref (g.2.2.2 45)]) hx (m_X9_packed g hg (I_3 44 (Int32.toNatClampNeg x2)) I_3 J _ h) lk_RX9_57 km_X9_packed ob_43 rfl (by decide) rfl (Nat.le_of_ble_eq_true rfl) dX9_totalSeeing_42 (fun r_4 h => ?_)
    refine kf_iast hx ar_45 h.1 dX9_totalSeeing_45 ?_
    replace h := h.2
    refine kf_nmI (fun I_5 eI_5 => ?_)
    replace h := h I_5 eI_5
    refine kf_iinc (w := (x2 + 1)) (lv' := [(2, .int (x2 + 1)), (0, .ref (g.2.2.2 43)), (1, .int x1)]) hx dX9_totalSeeing_46 2 rfl rfl (by decide) rfl ?_
    refine kf_goto hx 2 dX9_totalSeeing_49 (by decide) ?_
    refine kf_sub [1, 2, 0] rfl ?_
    exact hK2 _ _ h
theorem wl_X9_totalSeeing_2 (g : kf_G) (hg : kf_g g) {x : kf_X} (hx : kf_ok g x RX9 cX9_totalSeeing 5 4 95) (J : HJ) (x1 : Int32) (Post : Int64 → HI → HJ → Prop) (hret : ∀ (pc : Nat) (lv : List (Nat × Value)) (v : Int64) (Iy : HI) (Jy : HJ), decode cX9_totalSeeing pc = .ok (.lreturn, 1) → Post v Iy Jy → kf_M g x 5 pc lv [.long v] Iy Jy) (E2 : HI → Prop) (hE2 : ∀ (Iy : HI), E2 Iy → kf_M g x 5 52 [(0, .ref (g.2.2.2 43))] [] Iy J) : ∀ (n : Nat) (x2 : Int32) (I : HI), lp (wb_X9_totalSeeing_2 J x1 Post E2) n (x2, I) → kf_M g x 5 2 [(0, .ref (g.2.2.2 43)), (1, .int x1), (2, .int x2)] [] I J := by
  intro n
  induction n with
  | zero => intro x2 I h; exact h.elim
  | succ n ih => intro x2 I h; exact ws_X9_totalSeeing_2 g hg hx J x1 Post hret E2 hE2 (lp (wb_X9_totalSeeing_2 J x1 Post E2) n) ih x2 I h
def wb_X9_totalSeeing_80 (I : HI) (x2 : Int32) (E62 : HJ → Prop) (K62 : Int32 × HJ → Prop) (Post : Int64 → HI → HJ → Prop) (E80 : HJ → Prop) (K80 : (Int32 × HJ) → Prop) (s : Int32 × HJ) : Prop :=
  match s with
  | (x3, J) => (1024 ≤ x3 → (E80 J)) ∧ (¬ 1024 ≤ x3 → (vp_in x3 1024 ∧ (vp_in x3 1024 ∧ (vp_in x3 1024 ∧ (∀ J_9 : HJ, J_9 = hJ J 47 (Int32.toNatClampNeg x3) (if (J 46 (Int32.toNatClampNeg x3)) < (J 47 (Int32.toNatClampNeg x3)) then (J 47 (Int32.toNatClampNeg x3)) else (J 46 (Int32.toNatClampNeg x3))) → (K80 ((x3 + 1), J_9)))))))
set_option maxHeartbeats 4000000 in
set_option maxRecDepth 20000 in
theorem ws_X9_totalSeeing_80 (g : kf_G) (hg : kf_g g) {x : kf_X} (hx : kf_ok g x RX9 cX9_totalSeeing 5 4 95) (I : HI) (x2 : Int32) (E62 : HJ → Prop) (K62 : Int32 × HJ → Prop) (hE62 : ∀ (Jy : HJ), E62 Jy → kf_M g x 5 120 [(0, .ref (g.2.2.2 43))] [] I Jy) (hK62 : ∀ (y2 : Int32) (Jy : HJ), K62 (y2, Jy) → kf_M g x 5 62 [(0, .ref (g.2.2.2 43)), (2, .int y2)] [] I Jy) (Post : Int64 → HI → HJ → Prop) (hret : ∀ (pc : Nat) (lv : List (Nat × Value)) (v : Int64) (Iy : HI) (Jy : HJ), decode cX9_totalSeeing pc = .ok (.lreturn, 1) → Post v Iy Jy → kf_M g x 5 pc lv [.long v] Iy Jy) (E80 : HJ → Prop) (hE80 : ∀ (Jy : HJ), E80 Jy → kf_M g x 5 114 [(0, .ref (g.2.2.2 43)), (2, .int x2)] [] I Jy) (K80 : (Int32 × HJ) → Prop) (hK80 : ∀ (y3 : Int32) (Jy : HJ), K80 (y3, Jy) → kf_M g x 5 80 [(0, .ref (g.2.2.2 43)), (2, .int x2), (3, .int y3)] [] I Jy) (x3 : Int32) (J : HJ) (h : wb_X9_totalSeeing_80 I x2 E62 K62 Post E80 K80 (x3, J)) : kf_M g x 5 80 [(0, .ref (g.2.2.2 43)), (2, .int x2), (3, .int x3)] [] I J := by
  unfold wb_X9_totalSeeing_80 at h
  refine kf_iload_n hx dX9_totalSeeing_80 rfl 2 rfl ?_
  refine kf_sipush (v := 1024) hx dX9_totalSeeing_81 (by decide) ?_
  refine kf_icmp_ge hx 114 dX9_totalSeeing_84 (by decide) (fun c => ?_) (fun c => ?_)
  · replace h := h.1 c
    refine kf_sub [0, 1] rfl ?_
    exact hE80 _ h
  · replace h := h.2 c
    refine kf_aload_n hx dX9_totalSeeing_87 rfl 0 rfl ?_
    refine kf_getR (n := 47) hx sl_43_5 fl_RX9_22 dX9_totalSeeing_88 ?_
    refine kf_iload_n hx dX9_totalSeeing_91 rfl 2 rfl ?_
    refine kf_aload_n hx dX9_totalSeeing_92 rfl 0 rfl ?_
    refine kf_getR (n := 47) hx sl_43_5 fl_RX9_22 dX9_totalSeeing_93 ?_
    refine kf_iload_n hx dX9_totalSeeing_96 rfl 2 rfl ?_
    refine kf_lald hx ar_47 h.1 dX9_totalSeeing_97 ?_
    replace h := h.2
    refine kf_aload_n hx dX9_totalSeeing_98 rfl 0 rfl ?_
    refine kf_getR (n := 46) hx sl_43_4 fl_RX9_18 dX9_totalSeeing_99 ?_
    refine kf_iload_n hx dX9_totalSeeing_102 rfl 2 rfl ?_
    refine kf_lald hx ar_46 h.1 dX9_totalSeeing_103 ?_
    replace h := h.2
    refine kf_mmaxJ (st := [.int x3, .ref (g.2.2.2 47)]) hx lm_RX9_71 lm_mmaxJ (by decide) (Nat.le_of_ble_eq_true rfl) dX9_totalSeeing_104 ?_
    refine kf_last hx ar_47 h.1 dX9_totalSeeing_107 ?_
    replace h := h.2
    refine kf_nmJ (fun J_9 eJ_9 => ?_)
    replace h := h J_9 eJ_9
    refine kf_iinc (w := (x3 + 1)) (lv' := [(3, .int (x3 + 1)), (0, .ref (g.2.2.2 43)), (2, .int x2)]) hx dX9_totalSeeing_108 2 rfl rfl (by decide) rfl ?_
    refine kf_goto hx 80 dX9_totalSeeing_111 (by decide) ?_
    refine kf_sub [1, 2, 0] rfl ?_
    exact hK80 _ _ h
theorem wl_X9_totalSeeing_80 (g : kf_G) (hg : kf_g g) {x : kf_X} (hx : kf_ok g x RX9 cX9_totalSeeing 5 4 95) (I : HI) (x2 : Int32) (E62 : HJ → Prop) (K62 : Int32 × HJ → Prop) (hE62 : ∀ (Jy : HJ), E62 Jy → kf_M g x 5 120 [(0, .ref (g.2.2.2 43))] [] I Jy) (hK62 : ∀ (y2 : Int32) (Jy : HJ), K62 (y2, Jy) → kf_M g x 5 62 [(0, .ref (g.2.2.2 43)), (2, .int y2)] [] I Jy) (Post : Int64 → HI → HJ → Prop) (hret : ∀ (pc : Nat) (lv : List (Nat × Value)) (v : Int64) (Iy : HI) (Jy : HJ), decode cX9_totalSeeing pc = .ok (.lreturn, 1) → Post v Iy Jy → kf_M g x 5 pc lv [.long v] Iy Jy) (E80 : HJ → Prop) (hE80 : ∀ (Jy : HJ), E80 Jy → kf_M g x 5 114 [(0, .ref (g.2.2.2 43)), (2, .int x2)] [] I Jy) : ∀ (n : Nat) (x3 : Int32) (J : HJ), lp (wb_X9_totalSeeing_80 I x2 E62 K62 Post E80) n (x3, J) → kf_M g x 5 80 [(0, .ref (g.2.2.2 43)), (2, .int x2), (3, .int x3)] [] I J := by
  intro n
  induction n with
  | zero => intro x3 J h; exact h.elim
  | succ n ih => intro x3 J h; exact ws_X9_totalSeeing_80 g hg hx I x2 E62 K62 hE62 hK62 Post hret E80 hE80 (lp (wb_X9_totalSeeing_80 I x2 E62 K62 Post E80) n) ih x3 J h
def wb_X9_totalSeeing_62 (I : HI) (Post : Int64 → HI → HJ → Prop) (E62 : HJ → Prop) (K62 : (Int32 × HJ) → Prop) (s : Int32 × HJ) : Prop :=
  match s with
  | (x2, J) => ((I 12 11) ≤ x2 → (E62 J)) ∧ (¬ (I 12 11) ≤ x2 → (w_X9_sumByView x2 I J (fun (J_8 : HJ) => (∃ n, lp (wb_X9_totalSeeing_80 I x2 E62 K62 Post (fun (J_10 : HJ) => K62 ((x2 + 1), J_10))) n (0, J_8)))))
set_option maxHeartbeats 4000000 in
set_option maxRecDepth 20000 in
theorem ws_X9_totalSeeing_62 (g : kf_G) (hg : kf_g g) {x : kf_X} (hx : kf_ok g x RX9 cX9_totalSeeing 5 4 95) (I : HI) (Post : Int64 → HI → HJ → Prop) (hret : ∀ (pc : Nat) (lv : List (Nat × Value)) (v : Int64) (Iy : HI) (Jy : HJ), decode cX9_totalSeeing pc = .ok (.lreturn, 1) → Post v Iy Jy → kf_M g x 5 pc lv [.long v] Iy Jy) (E62 : HJ → Prop) (hE62 : ∀ (Jy : HJ), E62 Jy → kf_M g x 5 120 [(0, .ref (g.2.2.2 43))] [] I Jy) (K62 : (Int32 × HJ) → Prop) (hK62 : ∀ (y2 : Int32) (Jy : HJ), K62 (y2, Jy) → kf_M g x 5 62 [(0, .ref (g.2.2.2 43)), (2, .int y2)] [] I Jy) (x2 : Int32) (J : HJ) (h : wb_X9_totalSeeing_62 I Post E62 K62 (x2, J)) : kf_M g x 5 62 [(0, .ref (g.2.2.2 43)), (2, .int x2)] [] I J := by
  unfold wb_X9_totalSeeing_62 at h
  refine kf_iload_n hx dX9_totalSeeing_62 rfl 1 rfl ?_
  refine kf_aload_n hx dX9_totalSeeing_63 rfl 0 rfl ?_
  refine kf_getR (n := 12) hx sl_43_0 fl_RX9_25 dX9_totalSeeing_64 ?_
  refine kf_getI hx sl_12_11 fl_RX9_37 dX9_totalSeeing_67 ?_
  refine kf_icmp_ge hx 120 dX9_totalSeeing_70 (by decide) (fun c => ?_) (fun c => ?_)
  · replace h := h.1 c
    refine kf_sub [0] rfl ?_
    exact hE62 _ h
  · replace h := h.2 c
    refine kf_aload_n hx dX9_totalSeeing_73 rfl 0 rfl ?_
    refine kf_iload_n hx dX9_totalSeeing_74 rfl 1 rfl ?_
    refine kf_callVvJ (st := []) hx (m_X9_sumByView g hg x2 I J _ h) lk_RX9_67 km_X9_sumByView ob_43 rfl (by decide) rfl (Nat.le_of_ble_eq_true rfl) dX9_totalSeeing_75 (fun J_8 h => ?_)
    refine kf_iconst (v := 0) hx dX9_totalSeeing_78 (by decide) ?_
    refine kf_istore_n (lv' := [(3, .int 0), (0, .ref (g.2.2.2 43)), (2, .int x2)]) hx dX9_totalSeeing_79 rfl (by decide) rfl ?_
    obtain ⟨n, h⟩ := h
    refine kf_sub [1, 2, 0] rfl ?_
    refine wl_X9_totalSeeing_80 g hg hx I x2 _ _ hE62 hK62 _ hret _ (fun J_10 h => ?_) n _ _ h
    refine kf_iinc (w := (x2 + 1)) (lv' := [(2, .int (x2 + 1)), (0, .ref (g.2.2.2 43))]) hx dX9_totalSeeing_114 1 rfl rfl (by decide) rfl ?_
    refine kf_goto hx 62 dX9_totalSeeing_117 (by decide) ?_
    refine kf_sub [1, 0] rfl ?_
    exact hK62 _ _ h
theorem wl_X9_totalSeeing_62 (g : kf_G) (hg : kf_g g) {x : kf_X} (hx : kf_ok g x RX9 cX9_totalSeeing 5 4 95) (I : HI) (Post : Int64 → HI → HJ → Prop) (hret : ∀ (pc : Nat) (lv : List (Nat × Value)) (v : Int64) (Iy : HI) (Jy : HJ), decode cX9_totalSeeing pc = .ok (.lreturn, 1) → Post v Iy Jy → kf_M g x 5 pc lv [.long v] Iy Jy) (E62 : HJ → Prop) (hE62 : ∀ (Jy : HJ), E62 Jy → kf_M g x 5 120 [(0, .ref (g.2.2.2 43))] [] I Jy) : ∀ (n : Nat) (x2 : Int32) (J : HJ), lp (wb_X9_totalSeeing_62 I Post E62) n (x2, J) → kf_M g x 5 62 [(0, .ref (g.2.2.2 43)), (2, .int x2)] [] I J := by
  intro n
  induction n with
  | zero => intro x2 J h; exact h.elim
  | succ n ih => intro x2 J h; exact ws_X9_totalSeeing_62 g hg hx I Post hret E62 hE62 (lp (wb_X9_totalSeeing_62 I Post E62) n) ih x2 J h
def wb_X9_totalSeeing_125 (I : HI) (J : HJ) (Post : Int64 → HI → HJ → Prop) (E125 : Int64 → Prop) (K125 : (Int64 × Int32) → Prop) (s : Int64 × Int32) : Prop :=
  match s with
  | (x2, x4) => (1024 ≤ x4 → (E125 x2)) ∧ (¬ 1024 ≤ x4 → (vp_in x4 1024 ∧ (K125 ((x2 + (J 47 (Int32.toNatClampNeg x4))), (x4 + 1)))))
set_option maxHeartbeats 4000000 in
set_option maxRecDepth 20000 in
theorem ws_X9_totalSeeing_125 (g : kf_G) (hg : kf_g g) {x : kf_X} (hx : kf_ok g x RX9 cX9_totalSeeing 5 4 95) (I : HI) (J : HJ) (Post : Int64 → HI → HJ → Prop) (hret : ∀ (pc : Nat) (lv : List (Nat × Value)) (v : Int64) (Iy : HI) (Jy : HJ), decode cX9_totalSeeing pc = .ok (.lreturn, 1) → Post v Iy Jy → kf_M g x 5 pc lv [.long v] Iy Jy) (E125 : Int64 → Prop) (hE125 : ∀ (y2 : Int64), E125 y2 → kf_M g x 5 149 [(2, .long y2)] [] I J) (K125 : (Int64 × Int32) → Prop) (hK125 : ∀ (y2 : Int64) (y4 : Int32), K125 (y2, y4) → kf_M g x 5 125 [(0, .ref (g.2.2.2 43)), (2, .long y2), (4, .int y4)] [] I J) (x2 : Int64) (x4 : Int32) (h : wb_X9_totalSeeing_125 I J Post E125 K125 (x2, x4)) : kf_M g x 5 125 [(0, .ref (g.2.2.2 43)), (2, .long x2), (4, .int x4)] [] I J := by
  unfold wb_X9_totalSeeing_125 at h
  refine kf_iload hx dX9_totalSeeing_125 2 rfl ?_
  refine kf_sipush (v := 1024) hx dX9_totalSeeing_127 (by decide) ?_
  refine kf_icmp_ge hx 149 dX9_totalSeeing_130 (by decide) (fun c => ?_) (fun c => ?_)
  · replace h := h.1 c
    refine kf_sub [1] rfl ?_
    exact hE125 _ h
  · replace h := h.2 c
    refine kf_lload_n hx dX9_totalSeeing_133 rfl 1 rfl ?_
    refine kf_aload_n hx dX9_totalSeeing_134 rfl 0 rfl ?_
    refine kf_getR (n := 47) hx sl_43_5 fl_RX9_22 dX9_totalSeeing_135 ?_
    refine kf_iload hx dX9_totalSeeing_138 2 rfl ?_
    refine kf_lald hx ar_47 h.1 dX9_totalSeeing_140 ?_
    replace h := h.2
    refine kf_ladd hx dX9_totalSeeing_141 ?_
    refine kf_lstore_n (lv' := [(2, .long (x2 + (J 47 (Int32.toNatClampNeg x4)))), (0, .ref (g.2.2.2 43)), (4, .int x4)]) hx dX9_totalSeeing_142 rfl (by decide) rfl ?_
    refine kf_iinc (w := (x4 + 1)) (lv' := [(4, .int (x4 + 1)), (2, .long (x2 + (J 47 (Int32.toNatClampNeg x4)))), (0, .ref (g.2.2.2 43))]) hx dX9_totalSeeing_143 2 rfl rfl (by decide) rfl ?_
    refine kf_goto hx 125 dX9_totalSeeing_146 (by decide) ?_
    refine kf_sub [2, 1, 0] rfl ?_
    exact hK125 _ _ h
theorem wl_X9_totalSeeing_125 (g : kf_G) (hg : kf_g g) {x : kf_X} (hx : kf_ok g x RX9 cX9_totalSeeing 5 4 95) (I : HI) (J : HJ) (Post : Int64 → HI → HJ → Prop) (hret : ∀ (pc : Nat) (lv : List (Nat × Value)) (v : Int64) (Iy : HI) (Jy : HJ), decode cX9_totalSeeing pc = .ok (.lreturn, 1) → Post v Iy Jy → kf_M g x 5 pc lv [.long v] Iy Jy) (E125 : Int64 → Prop) (hE125 : ∀ (y2 : Int64), E125 y2 → kf_M g x 5 149 [(2, .long y2)] [] I J) : ∀ (n : Nat) (x2 : Int64) (x4 : Int32), lp (wb_X9_totalSeeing_125 I J Post E125) n (x2, x4) → kf_M g x 5 125 [(0, .ref (g.2.2.2 43)), (2, .long x2), (4, .int x4)] [] I J := by
  intro n
  induction n with
  | zero => intro x2 x4 h; exact h.elim
  | succ n ih => intro x2 x4 h; exact ws_X9_totalSeeing_125 g hg hx I J Post hret E125 hE125 (lp (wb_X9_totalSeeing_125 I J Post E125) n) ih x2 x4 h
def w_X9_totalSeeing (x1 : Int32) (I : HI) (J : HJ) (Post : Int64 → HI → HJ → Prop) : Prop :=
  ∃ n, lp (wb_X9_totalSeeing_2 J x1 Post (fun (I_6 : HI) => w_J7_fill_d0a16 47 1024 0 I_6 J (fun (J_7 : HJ) => (∃ n, lp (wb_X9_totalSeeing_62 I_6 Post (fun (J_11 : HJ) => ∃ n, lp (wb_X9_totalSeeing_125 I_6 J_11 Post (fun (x2_12 : Int64) => Post x2_12 I_6 J_11)) n (0, 0))) n (0, J_7))))) n (0, I)
set_option maxHeartbeats 4000000 in
set_option maxRecDepth 20000 in
theorem we_X9_totalSeeing (g : kf_G) (hg : kf_g g) {x : kf_X} (hx : kf_ok g x RX9 cX9_totalSeeing 5 4 95) (x1 : Int32) (I : HI) (J : HJ) (Post : Int64 → HI → HJ → Prop) (hret : ∀ (pc : Nat) (lv : List (Nat × Value)) (v : Int64) (Iy : HI) (Jy : HJ), decode cX9_totalSeeing pc = .ok (.lreturn, 1) → Post v Iy Jy → kf_M g x 5 pc lv [.long v] Iy Jy) (h : w_X9_totalSeeing x1 I J Post) : kf_M g x 5 0 [(0, .ref (g.2.2.2 43)), (1, .int x1)] [] I J := by
  unfold w_X9_totalSeeing at h
  refine kf_iconst (v := 0) hx dX9_totalSeeing_0 (by decide) ?_
  refine kf_istore_n (lv' := [(2, .int 0), (0, .ref (g.2.2.2 43)), (1, .int x1)]) hx dX9_totalSeeing_1 rfl (by decide) rfl ?_
  obtain ⟨n, h⟩ := h
  refine kf_sub [1, 2, 0] rfl ?_
  refine wl_X9_totalSeeing_2 g hg hx J x1 _ hret _ (fun I_6 h => ?_) n _ _ h
  refine kf_aload_n hx dX9_totalSeeing_52 rfl 0 rfl ?_
  refine kf_getR (n := 47) hx sl_43_5 fl_RX9_22 dX9_totalSeeing_53 ?_
  refine kf_lconst (v := 0) hx dX9_totalSeeing_56 (by decide) ?_
  refine kf_callSvJ (st := []) hx (m_J7_fill_d0a16 g hg 47 1024 0 ar_47 I_6 J _ h) lk_RX9_61 km_J7_fill_d0a16 rfl (by decide) rfl (Nat.le_of_ble_eq_true rfl) dX9_totalSeeing_57 (fun J_7 h => ?_)
  refine kf_iconst (v := 0) hx dX9_totalSeeing_60 (by decide) ?_
  refine kf_istore_n (lv' := [(2, .int 0), (0, .ref (g.2.2.2 43))]) hx dX9_totalSeeing_61 rfl (by decide) rfl ?_
  obtain ⟨n, h⟩ := h
  refine kf_sub [1, 0] rfl ?_
  refine wl_X9_totalSeeing_62 g hg hx I_6  _ hret _ (fun J_11 h => ?_) n _ _ h
  refine kf_lconst (v := 0) hx dX9_totalSeeing_120 (by decide) ?_
  refine kf_lstore_n (lv' := [(2, .long 0), (0, .ref (g.2.2.2 43))]) hx dX9_totalSeeing_121 rfl (by decide) rfl ?_
  refine kf_iconst (v := 0) hx dX9_totalSeeing_122 (by decide) ?_
  refine kf_istore (lv' := [(4, .int 0), (2, .long 0), (0, .ref (g.2.2.2 43))]) hx dX9_totalSeeing_123 (by decide) rfl ?_
  obtain ⟨n, h⟩ := h
  refine kf_sub [2, 1, 0] rfl ?_
  refine wl_X9_totalSeeing_125 g hg hx I_6 J_11  _ hret _ (fun x2_12 h => ?_) n _ _ h
  refine kf_lload_n hx dX9_totalSeeing_149 rfl 0 rfl ?_
  exact hret _ _ x2_12 _ _ dX9_totalSeeing_150 h
set_option maxHeartbeats 4000000 in
set_option maxRecDepth 20000 in
theorem m_X9_totalSeeing (g : kf_G) (hg : kf_g g) (x1 : Int32) (I : HI) (J : HJ) (Post : Int64 → HI → HJ → Prop) (h : w_X9_totalSeeing x1 I J Post) : kf_Ml g yX9_totalSeeing (kf_W yX9_totalSeeing cX9_totalSeeing 5 (Option.some Jvm.ClassFile.FieldType.long)) 4 95 [.ref (g.2.2.2 43), .int x1] I J Post :=
  kf_entl hg (by decide) (Nat.le_of_ble_eq_true rfl) rfl (fun x hx hr => we_X9_totalSeeing g hg hx x1 I J Post (fun pc lv v I' J' hd hP => hr pc lv v I' J' hd hP) h)
theorem dX9_seeing_0 : decode cX9_seeing 0 = .ok (.iconst (-1), 1) := by decide +kernel
theorem dX9_seeing_1 : decode cX9_seeing 1 = .ok (.istore_n 1, 1) := by decide +kernel
theorem dX9_seeing_2 : decode cX9_seeing 2 = .ok (.aload_n 0, 1) := by decide +kernel
theorem dX9_seeing_3 : decode cX9_seeing 3 = .ok (.lconst 0, 1) := by decide +kernel
theorem dX9_seeing_4 : decode cX9_seeing 4 = .ok (.putfield 33, 3) := by decide +kernel
theorem dX9_seeing_7 : decode cX9_seeing 7 = .ok (.iconst 0, 1) := by decide +kernel
theorem dX9_seeing_8 : decode cX9_seeing 8 = .ok (.istore_n 2, 1) := by decide +kernel
theorem dX9_seeing_9 : decode cX9_seeing 9 = .ok (.iload_n 2, 1) := by decide +kernel
theorem dX9_seeing_10 : decode cX9_seeing 10 = .ok (.aload_n 0, 1) := by decide +kernel
theorem dX9_seeing_11 : decode cX9_seeing 11 = .ok (.getfield 25, 3) := by decide +kernel
theorem dX9_seeing_14 : decode cX9_seeing 14 = .ok (.getfield 37, 3) := by decide +kernel
theorem dX9_seeing_17 : decode cX9_seeing 17 = .ok (.if_icmp .ge 31, 3) := by decide +kernel
theorem dX9_seeing_20 : decode cX9_seeing 20 = .ok (.aload_n 0, 1) := by decide +kernel
theorem dX9_seeing_21 : decode cX9_seeing 21 = .ok (.iload_n 2, 1) := by decide +kernel
theorem dX9_seeing_22 : decode cX9_seeing 22 = .ok (.invokevirtual 43, 3) := by decide +kernel
theorem dX9_seeing_25 : decode cX9_seeing 25 = .ok (.lstore_n 3, 1) := by decide +kernel
theorem dX9_seeing_26 : decode cX9_seeing 26 = .ok (.lload_n 3, 1) := by decide +kernel
theorem dX9_seeing_27 : decode cX9_seeing 27 = .ok (.aload_n 0, 1) := by decide +kernel
theorem dX9_seeing_28 : decode cX9_seeing 28 = .ok (.getfield 33, 3) := by decide +kernel
theorem dX9_seeing_31 : decode cX9_seeing 31 = .ok (.lcmp, 1) := by decide +kernel
theorem dX9_seeing_32 : decode cX9_seeing 32 = .ok (.ifCond .le 10, 3) := by decide +kernel
theorem dX9_seeing_35 : decode cX9_seeing 35 = .ok (.aload_n 0, 1) := by decide +kernel
theorem dX9_seeing_36 : decode cX9_seeing 36 = .ok (.lload_n 3, 1) := by decide +kernel
theorem dX9_seeing_37 : decode cX9_seeing 37 = .ok (.putfield 33, 3) := by decide +kernel
theorem dX9_seeing_40 : decode cX9_seeing 40 = .ok (.iload_n 2, 1) := by decide +kernel
theorem dX9_seeing_41 : decode cX9_seeing 41 = .ok (.istore_n 1, 1) := by decide +kernel
theorem dX9_seeing_42 : decode cX9_seeing 42 = .ok (.iinc 2 1, 3) := by decide +kernel
theorem dX9_seeing_45 : decode cX9_seeing 45 = .ok (.goto (-36), 3) := by decide +kernel
theorem dX9_seeing_48 : decode cX9_seeing 48 = .ok (.iload_n 1, 1) := by decide +kernel
theorem dX9_seeing_49 : decode cX9_seeing 49 = .ok (.ireturn, 1) := by decide +kernel
def wb_X9_seeing_9  (Post : Int32 → HI → HJ → Prop) (E9 : Int32 → HI → HJ → Prop) (K9 : (Int32 × Int32 × HI × HJ) → Prop) (s : Int32 × Int32 × HI × HJ) : Prop :=
  match s with
  | (x1, x2, I, J) => ((I 12 11) ≤ x2 → (E9 x1 I J)) ∧ (¬ (I 12 11) ≤ x2 → (w_X9_totalSeeing x2 I J (fun (r_2 : Int64) (I_3 : HI) (J_4 : HJ) => ((r_2 ≤ (J_4 43 6) → (K9 (x1, (x2 + 1), I_3, J_4))) ∧ (¬ r_2 ≤ (J_4 43 6) → (∀ J_5 : HJ, J_5 = hJ J_4 43 6 r_2 → (K9 (x2, (x2 + 1), I_3, J_5))))))))
set_option maxHeartbeats 4000000 in
set_option maxRecDepth 20000 in
theorem ws_X9_seeing_9 (g : kf_G) (hg : kf_g g) {x : kf_X} (hx : kf_ok g x RX9 cX9_seeing 5 5 119)  (Post : Int32 → HI → HJ → Prop) (hret : ∀ (pc : Nat) (lv : List (Nat × Value)) (v : Int32) (Iy : HI) (Jy : HJ), decode cX9_seeing pc = .ok (.ireturn, 1) → Post v Iy Jy → kf_M g x 5 pc lv [.int v] Iy Jy) (E9 : Int32 → HI → HJ → Prop) (hE9 : ∀ (y1 : Int32) (Iy : HI) (Jy : HJ), E9 y1 Iy Jy → kf_M g x 5 48 [(1, .int y1)] [] Iy Jy) (K9 : (Int32 × Int32 × HI × HJ) → Prop) (hK9 : ∀ (y1 : Int32) (y2 : Int32) (Iy : HI) (Jy : HJ), K9 (y1, y2, Iy, Jy) → kf_M g x 5 9 [(0, .ref (g.2.2.2 43)), (1, .int y1), (2, .int y2)] [] Iy Jy) (x1 : Int32) (x2 : Int32) (I : HI) (J : HJ) (h : wb_X9_seeing_9  Post E9 K9 (x1, x2, I, J)) : kf_M g x 5 9 [(0, .ref (g.2.2.2 43)), (1, .int x1), (2, .int x2)] [] I J := by
  unfold wb_X9_seeing_9 at h
  refine kf_iload_n hx dX9_seeing_9 rfl 2 rfl ?_
  refine kf_aload_n hx dX9_seeing_10 rfl 0 rfl ?_
  refine kf_getR (n := 12) hx sl_43_0 fl_RX9_25 dX9_seeing_11 ?_
  refine kf_getI hx sl_12_11 fl_RX9_37 dX9_seeing_14 ?_
  refine kf_icmp_ge hx 48 dX9_seeing_17 (by decide) (fun c => ?_) (fun c => ?_)
  · replace h := h.1 c
    refine kf_sub [1] rfl ?_
    exact hE9 _ _ _ h
  · replace h := h.2 c
    refine kf_aload_n hx dX9_seeing_20 rfl 0 rfl ?_
    refine kf_iload_n hx dX9_seeing_21 rfl 2 rfl ?_
    refine kf_callVl (st := []) hx (m_X9_totalSeeing g hg x2 I J _ h) lk_RX9_43 km_X9_totalSeeing ob_43 rfl (by decide) rfl (Nat.le_of_ble_eq_true rfl) dX9_seeing_22 (fun r_2 I_3 J_4 h => ?_)
    refine kf_lstore_n (lv' := [(3, .long r_2), (0, .ref (g.2.2.2 43)), (1, .int x1), (2, .int x2)]) hx dX9_seeing_25 rfl (by decide) rfl ?_
    refine kf_lload_n hx dX9_seeing_26 rfl 0 rfl ?_
    refine kf_aload_n hx dX9_seeing_27 rfl 1 rfl ?_
    refine kf_getJ hx sl_43_6 fl_RX9_33 dX9_seeing_28 ?_
    refine kf_l_le hx 42 dX9_seeing_31 dX9_seeing_32 (by decide) (fun c => ?_) (fun c => ?_)
    · replace h := h.1 c
      refine kf_iinc (w := (x2 + 1)) (lv' := [(2, .int (x2 + 1)), (3, .long r_2), (0, .ref (g.2.2.2 43)), (1, .int x1)]) hx dX9_seeing_42 3 rfl rfl (by decide) rfl ?_
      refine kf_goto hx 9 dX9_seeing_45 (by decide) ?_
      refine kf_sub [2, 3, 0] rfl ?_
      exact hK9 _ _ _ _ h
    · replace h := h.2 c
      refine kf_aload_n hx dX9_seeing_35 rfl 1 rfl ?_
      refine kf_lload_n hx dX9_seeing_36 rfl 0 rfl ?_
      refine kf_putJ hx sl_43_6 fl_RX9_33 fp_9_6 dX9_seeing_37 ?_
      refine kf_nmJ (fun J_5 eJ_5 => ?_)
      replace h := h J_5 eJ_5
      refine kf_iload_n hx dX9_seeing_40 rfl 3 rfl ?_
      refine kf_istore_n (lv' := [(1, .int x2), (3, .long r_2), (0, .ref (g.2.2.2 43)), (2, .int x2)]) hx dX9_seeing_41 rfl (by decide) rfl ?_
      refine kf_iinc (w := (x2 + 1)) (lv' := [(2, .int (x2 + 1)), (1, .int x2), (3, .long r_2), (0, .ref (g.2.2.2 43))]) hx dX9_seeing_42 3 rfl rfl (by decide) rfl ?_
      refine kf_goto hx 9 dX9_seeing_45 (by decide) ?_
      refine kf_sub [3, 1, 0] rfl ?_
      exact hK9 _ _ _ _ h
theorem wl_X9_seeing_9 (g : kf_G) (hg : kf_g g) {x : kf_X} (hx : kf_ok g x RX9 cX9_seeing 5 5 119)  (Post : Int32 → HI → HJ → Prop) (hret : ∀ (pc : Nat) (lv : List (Nat × Value)) (v : Int32) (Iy : HI) (Jy : HJ), decode cX9_seeing pc = .ok (.ireturn, 1) → Post v Iy Jy → kf_M g x 5 pc lv [.int v] Iy Jy) (E9 : Int32 → HI → HJ → Prop) (hE9 : ∀ (y1 : Int32) (Iy : HI) (Jy : HJ), E9 y1 Iy Jy → kf_M g x 5 48 [(1, .int y1)] [] Iy Jy) : ∀ (n : Nat) (x1 : Int32) (x2 : Int32) (I : HI) (J : HJ), lp (wb_X9_seeing_9  Post E9) n (x1, x2, I, J) → kf_M g x 5 9 [(0, .ref (g.2.2.2 43)), (1, .int x1), (2, .int x2)] [] I J := by
  intro n
  induction n with
  | zero => intro x1 x2 I J h; exact h.elim
  | succ n ih => intro x1 x2 I J h; exact ws_X9_seeing_9 g hg hx Post hret E9 hE9 (lp (wb_X9_seeing_9  Post E9) n) ih x1 x2 I J h
def w_X9_seeing  (I : HI) (J : HJ) (Post : Int32 → HI → HJ → Prop) : Prop :=
  ∀ J_1 : HJ, J_1 = hJ J 43 6 0 → (∃ n, lp (wb_X9_seeing_9 Post (fun (x1_6 : Int32) (I_7 : HI) (J_8 : HJ) => Post x1_6 I_7 J_8)) n ((-1), 0, I, J_1))
set_option maxHeartbeats 4000000 in
set_option maxRecDepth 20000 in
theorem we_X9_seeing (g : kf_G) (hg : kf_g g) {x : kf_X} (hx : kf_ok g x RX9 cX9_seeing 5 5 119)  (I : HI) (J : HJ) (Post : Int32 → HI → HJ → Prop) (hret : ∀ (pc : Nat) (lv : List (Nat × Value)) (v : Int32) (Iy : HI) (Jy : HJ), decode cX9_seeing pc = .ok (.ireturn, 1) → Post v Iy Jy → kf_M g x 5 pc lv [.int v] Iy Jy) (h : w_X9_seeing  I J Post) : kf_M g x 5 0 [(0, .ref (g.2.2.2 43))] [] I J := by
  unfold w_X9_seeing at h
  refine kf_iconst (v := (-1)) hx dX9_seeing_0 (by decide) ?_
  refine kf_istore_n (lv' := [(1, .int (-1)), (0, .ref (g.2.2.2 43))]) hx dX9_seeing_1 rfl (by decide) rfl ?_
  refine kf_aload_n hx dX9_seeing_2 rfl 1 rfl ?_
  refine kf_lconst (v := 0) hx dX9_seeing_3 (by decide) ?_
  refine kf_putJ hx sl_43_6 fl_RX9_33 fp_9_6 dX9_seeing_4 ?_
  refine kf_nmJ (fun J_1 eJ_1 => ?_)
  replace h := h J_1 eJ_1
  refine kf_iconst (v := 0) hx dX9_seeing_7 (by decide) ?_
  refine kf_istore_n (lv' := [(2, .int 0), (1, .int (-1)), (0, .ref (g.2.2.2 43))]) hx dX9_seeing_8 rfl (by decide) rfl ?_
  obtain ⟨n, h⟩ := h
  refine kf_sub [2, 1, 0] rfl ?_
  refine wl_X9_seeing_9 g hg hx   _ hret _ (fun x1_6 I_7 J_8 h => ?_) n _ _ _ _ h
  refine kf_iload_n hx dX9_seeing_48 rfl 0 rfl ?_
  exact hret _ _ x1_6 _ _ dX9_seeing_49 h
set_option maxHeartbeats 4000000 in
set_option maxRecDepth 20000 in
theorem m_X9_seeing (g : kf_G) (hg : kf_g g)  (I : HI) (J : HJ) (Post : Int32 → HI → HJ → Prop) (h : w_X9_seeing  I J Post) : kf_Mi g yX9_seeing (kf_W yX9_seeing cX9_seeing 5 (Option.some Jvm.ClassFile.FieldType.int)) 5 119 [.ref (g.2.2.2 43)] I J Post :=
  kf_enti hg (by decide) (Nat.le_of_ble_eq_true rfl) rfl (fun x hx hr => we_X9_seeing g hg hx  I J Post (fun pc lv v I' J' hd hP => hr pc lv v I' J' hd hP) h)
theorem dX9_blindly_0 : decode cX9_blindly 0 = .ok (.iconst 0, 1) := by decide +kernel
theorem dX9_blindly_1 : decode cX9_blindly 1 = .ok (.istore_n 1, 1) := by decide +kernel
theorem dX9_blindly_2 : decode cX9_blindly 2 = .ok (.aload_n 0, 1) := by decide +kernel
theorem dX9_blindly_3 : decode cX9_blindly 3 = .ok (.lconst 0, 1) := by decide +kernel
theorem dX9_blindly_4 : decode cX9_blindly 4 = .ok (.putfield 92, 3) := by decide +kernel
theorem dX9_blindly_7 : decode cX9_blindly 7 = .ok (.iconst 1, 1) := by decide +kernel
theorem dX9_blindly_8 : decode cX9_blindly 8 = .ok (.istore_n 2, 1) := by decide +kernel
theorem dX9_blindly_9 : decode cX9_blindly 9 = .ok (.iload_n 2, 1) := by decide +kernel
theorem dX9_blindly_10 : decode cX9_blindly 10 = .ok (.iconst 1, 1) := by decide +kernel
theorem dX9_blindly_11 : decode cX9_blindly 11 = .ok (.aload_n 0, 1) := by decide +kernel
theorem dX9_blindly_12 : decode cX9_blindly 12 = .ok (.getfield 25, 3) := by decide +kernel
theorem dX9_blindly_15 : decode cX9_blindly 15 = .ok (.getfield 37, 3) := by decide +kernel
theorem dX9_blindly_18 : decode cX9_blindly 18 = .ok (.ishl, 1) := by decide +kernel
theorem dX9_blindly_19 : decode cX9_blindly 19 = .ok (.if_icmp .ge 66, 3) := by decide +kernel
theorem dX9_blindly_22 : decode cX9_blindly 22 = .ok (.iload_n 2, 1) := by decide +kernel
theorem dX9_blindly_23 : decode cX9_blindly 23 = .ok (.invokestatic 84, 3) := by decide +kernel
theorem dX9_blindly_26 : decode cX9_blindly 26 = .ok (.istore_n 3, 1) := by decide +kernel
theorem dX9_blindly_27 : decode cX9_blindly 27 = .ok (.iload_n 3, 1) := by decide +kernel
theorem dX9_blindly_28 : decode cX9_blindly 28 = .ok (.iconst 2, 1) := by decide +kernel
theorem dX9_blindly_29 : decode cX9_blindly 29 = .ok (.if_icmp .gt 50, 3) := by decide +kernel
theorem dX9_blindly_32 : decode cX9_blindly 32 = .ok (.aload_n 0, 1) := by decide +kernel
theorem dX9_blindly_33 : decode cX9_blindly 33 = .ok (.getfield 29, 3) := by decide +kernel
theorem dX9_blindly_36 : decode cX9_blindly 36 = .ok (.iload_n 2, 1) := by decide +kernel
theorem dX9_blindly_37 : decode cX9_blindly 37 = .ok (.iconst 0, 1) := by decide +kernel
theorem dX9_blindly_38 : decode cX9_blindly 38 = .ok (.invokevirtual 95, 3) := by decide +kernel
theorem dX9_blindly_41 : decode cX9_blindly 41 = .ok (.lstore 4, 2) := by decide +kernel
theorem dX9_blindly_43 : decode cX9_blindly 43 = .ok (.lload 4, 2) := by decide +kernel
theorem dX9_blindly_45 : decode cX9_blindly 45 = .ok (.aload_n 0, 1) := by decide +kernel
theorem dX9_blindly_46 : decode cX9_blindly 46 = .ok (.getfield 92, 3) := by decide +kernel
theorem dX9_blindly_49 : decode cX9_blindly 49 = .ok (.lcmp, 1) := by decide +kernel
theorem dX9_blindly_50 : decode cX9_blindly 50 = .ok (.ifCond .gt 21, 3) := by decide +kernel
theorem dX9_blindly_53 : decode cX9_blindly 53 = .ok (.lload 4, 2) := by decide +kernel
theorem dX9_blindly_55 : decode cX9_blindly 55 = .ok (.aload_n 0, 1) := by decide +kernel
theorem dX9_blindly_56 : decode cX9_blindly 56 = .ok (.getfield 92, 3) := by decide +kernel
theorem dX9_blindly_59 : decode cX9_blindly 59 = .ok (.lcmp, 1) := by decide +kernel
theorem dX9_blindly_60 : decode cX9_blindly 60 = .ok (.ifCond .ne 19, 3) := by decide +kernel
theorem dX9_blindly_63 : decode cX9_blindly 63 = .ok (.iload_n 3, 1) := by decide +kernel
theorem dX9_blindly_64 : decode cX9_blindly 64 = .ok (.iload_n 1, 1) := by decide +kernel
theorem dX9_blindly_65 : decode cX9_blindly 65 = .ok (.invokestatic 84, 3) := by decide +kernel
theorem dX9_blindly_68 : decode cX9_blindly 68 = .ok (.if_icmp .ge 11, 3) := by decide +kernel
theorem dX9_blindly_71 : decode cX9_blindly 71 = .ok (.aload_n 0, 1) := by decide +kernel
theorem dX9_blindly_72 : decode cX9_blindly 72 = .ok (.lload 4, 2) := by decide +kernel
theorem dX9_blindly_74 : decode cX9_blindly 74 = .ok (.putfield 92, 3) := by decide +kernel
theorem dX9_blindly_77 : decode cX9_blindly 77 = .ok (.iload_n 2, 1) := by decide +kernel
theorem dX9_blindly_78 : decode cX9_blindly 78 = .ok (.istore_n 1, 1) := by decide +kernel
theorem dX9_blindly_79 : decode cX9_blindly 79 = .ok (.iinc 2 1, 3) := by decide +kernel
theorem dX9_blindly_82 : decode cX9_blindly 82 = .ok (.goto (-73), 3) := by decide +kernel
theorem dX9_blindly_85 : decode cX9_blindly 85 = .ok (.iload_n 1, 1) := by decide +kernel
theorem dX9_blindly_86 : decode cX9_blindly 86 = .ok (.ireturn, 1) := by decide +kernel
def wb_X9_blindly_9 (I : HI) (Post : Int32 → HJ → Prop) (E9 : Int32 → HJ → Prop) (K9 : (Int32 × Int32 × HJ) → Prop) (s : Int32 × Int32 × HJ) : Prop :=
  match s with
  | (x1, x2, J) => ((1 <<< ((I 12 11) &&& 31)) ≤ x2 → (E9 x1 J)) ∧ (¬ (1 <<< ((I 12 11) &&& 31)) ≤ x2 → (w_J6_bitCount_0f7a4 x2 (fun (r_2 : Int32) => ((2 < r_2 → (K9 (x1, (x2 + 1), J))) ∧ (¬ 2 < r_2 → (w_X2_total x2 0 I J (fun (r_3 : Int64) => (((J 43 7) < r_3 → (∀ J_4 : HJ, J_4 = hJ J 43 7 r_3 → (K9 (x2, (x2 + 1), J_4)))) ∧ (¬ (J 43 7) < r_3 → ((¬ r_3 = (J 43 7) → (K9 (x1, (x2 + 1), J))) ∧ (r_3 = (J 43 7) → (w_J6_bitCount_0f7a4 x1 (fun (r_5 : Int32) => ((r_5 ≤ r_2 → (K9 (x1, (x2 + 1), J))) ∧ (¬ r_5 ≤ r_2 → (∀ J_6 : HJ, J_6 = hJ J 43 7 r_3 → (K9 (x2, (x2 + 1), J_6))))))))))))))))))
set_option maxHeartbeats 4000000 in
set_option maxRecDepth 20000 in
theorem ws_X9_blindly_9 (g : kf_G) (hg : kf_g g) {x : kf_X} (hx : kf_ok g x RX9 cX9_blindly 6 18 680) (I : HI) (Post : Int32 → HJ → Prop) (hret : ∀ (pc : Nat) (lv : List (Nat × Value)) (v : Int32) (Jy : HJ), decode cX9_blindly pc = .ok (.ireturn, 1) → Post v Jy → kf_M g x 6 pc lv [.int v] I Jy) (E9 : Int32 → HJ → Prop) (hE9 : ∀ (y1 : Int32) (Jy : HJ), E9 y1 Jy → kf_M g x 6 85 [(1, .int y1)] [] I Jy) (K9 : (Int32 × Int32 × HJ) → Prop) (hK9 : ∀ (y1 : Int32) (y2 : Int32) (Jy : HJ), K9 (y1, y2, Jy) → kf_M g x 6 9 [(0, .ref (g.2.2.2 43)), (1, .int y1), (2, .int y2)] [] I Jy) (x1 : Int32) (x2 : Int32) (J : HJ) (h : wb_X9_blindly_9 I Post E9 K9 (x1, x2, J)) : kf_M g x 6 9 [(0, .ref (g.2.2.2 43)), (1, .int x1), (2, .int x2)] [] I J := by
  unfold wb_X9_blindly_9 at h
  refine kf_iload_n hx dX9_blindly_9 rfl 2 rfl ?_
  refine kf_iconst (v := 1) hx dX9_blindly_10 (by decide) ?_
  refine kf_aload_n hx dX9_blindly_11 rfl 0 rfl ?_
  refine kf_getR (n := 12) hx sl_43_0 fl_RX9_25 dX9_blindly_12 ?_
  refine kf_getI hx sl_12_11 fl_RX9_37 dX9_blindly_15 ?_
  refine kf_ishl hx dX9_blindly_18 ?_
  refine kf_icmp_ge hx 85 dX9_blindly_19 (by decide) (fun c => ?_) (fun c => ?_)
  · replace h := h.1 c
    refine kf_sub [1] rfl ?_
    exact hE9 _ _ h
  · replace h := h.2 c
    refine kf_iload_n hx dX9_blindly_22 rfl 2 rfl ?_
    refine kf_callSiP (st := []) hx (m_J6_bitCount_0f7a4 g hg x2 I J _ h) lk_RX9_84 km_J6_bitCount_0f7a4 rfl (by decide) rfl (Nat.le_of_ble_eq_true rfl) dX9_blindly_23 (fun r_2 h => ?_)
    refine kf_istore_n (lv' := [(3, .int r_2), (0, .ref (g.2.2.2 43)), (1, .int x1), (2, .int x2)]) hx dX9_blindly_26 rfl (by decide) rfl ?_
    refine kf_iload_n hx dX9_blindly_27 rfl 0 rfl ?_
    refine kf_iconst (v := 2) hx dX9_blindly_28 (by decide) ?_
    refine kf_icmp_gt hx 79 dX9_blindly_29 (by decide) (fun c => ?_) (fun c => ?_)
    · replace h := h.1 c
      refine kf_iinc (w := (x2 + 1)) (lv' := [(2, .int (x2 + 1)), (3, .int r_2), (0, .ref (g.2.2.2 43)), (1, .int x1)]) hx dX9_blindly_79 3 rfl rfl (by decide) rfl ?_
      refine kf_goto hx 9 dX9_blindly_82 (by decide) ?_
      refine kf_sub [2, 3, 0] rfl ?_
      exact hK9 _ _ _ h
    · replace h := h.2 c
      refine kf_aload_n hx dX9_blindly_32 rfl 1 rfl ?_
      refine kf_getR (n := 39) hx sl_43_1 fl_RX9_29 dX9_blindly_33 ?_
      refine kf_iload_n hx dX9_blindly_36 rfl 3 rfl ?_
      refine kf_iconst (v := 0) hx dX9_blindly_37 (by decide) ?_
      refine kf_callVlP (st := []) hx (m_X2_total g hg x2 0 I J _ h) lk_RX9_95 km_X2_total ob_39 rfl (by decide) rfl (Nat.le_of_ble_eq_true rfl) dX9_blindly_38 (fun r_3 h => ?_)
      refine kf_lstore (lv' := [(4, .long r_3), (3, .int r_2), (0, .ref (g.2.2.2 43)), (1, .int x1), (2, .int x2)]) hx dX9_blindly_41 (by decide) rfl ?_
      refine kf_lload hx dX9_blindly_43 0 rfl ?_
      refine kf_aload_n hx dX9_blindly_45 rfl 2 rfl ?_
      refine kf_getJ hx sl_43_7 fl_RX9_92 dX9_blindly_46 ?_
      refine kf_l_gt hx 71 dX9_blindly_49 dX9_blindly_50 (by decide) (fun c => ?_) (fun c => ?_)
      · replace h := h.1 c
        refine kf_aload_n hx dX9_blindly_71 rfl 2 rfl ?_
        refine kf_lload hx dX9_blindly_72 0 rfl ?_
        refine kf_putJ hx sl_43_7 fl_RX9_92 fp_9_7 dX9_blindly_74 ?_
        refine kf_nmJ (fun J_4 eJ_4 => ?_)
        replace h := h J_4 eJ_4
        refine kf_iload_n hx dX9_blindly_77 rfl 4 rfl ?_
        refine kf_istore_n (lv' := [(1, .int x2), (4, .long r_3), (3, .int r_2), (0, .ref (g.2.2.2 43)), (2, .int x2)]) hx dX9_blindly_78 rfl (by decide) rfl ?_
        refine kf_iinc (w := (x2 + 1)) (lv' := [(2, .int (x2 + 1)), (1, .int x2), (4, .long r_3), (3, .int r_2), (0, .ref (g.2.2.2 43))]) hx dX9_blindly_79 4 rfl rfl (by decide) rfl ?_
        refine kf_goto hx 9 dX9_blindly_82 (by decide) ?_
        refine kf_sub [4, 1, 0] rfl ?_
        exact hK9 _ _ _ h
      · replace h := h.2 c
        refine kf_lload hx dX9_blindly_53 0 rfl ?_
        refine kf_aload_n hx dX9_blindly_55 rfl 2 rfl ?_
        refine kf_getJ hx sl_43_7 fl_RX9_92 dX9_blindly_56 ?_
        refine kf_l_ne hx 79 dX9_blindly_59 dX9_blindly_60 (by decide) (fun c => ?_) (fun c => ?_)
        · replace h := h.1 c
          refine kf_iinc (w := (x2 + 1)) (lv' := [(2, .int (x2 + 1)), (4, .long r_3), (3, .int r_2), (0, .ref (g.2.2.2 43)), (1, .int x1)]) hx dX9_blindly_79 4 rfl rfl (by decide) rfl ?_
          refine kf_goto hx 9 dX9_blindly_82 (by decide) ?_
          refine kf_sub [3, 4, 0] rfl ?_
          exact hK9 _ _ _ h
        · replace h := h.2 c
          refine kf_iload_n hx dX9_blindly_63 rfl 1 rfl ?_
          refine kf_iload_n hx dX9_blindly_64 rfl 3 rfl ?_
          refine kf_callSiP (st := [.int r_2]) hx (m_J6_bitCount_0f7a4 g hg x1 I J _ h) lk_RX9_84 km_J6_bitCount_0f7a4 rfl (by decide) rfl (Nat.le_of_ble_eq_true rfl) dX9_blindly_65 (fun r_5 h => ?_)
          refine kf_icmp_ge hx 79 dX9_blindly_68 (by decide) (fun c => ?_) (fun c => ?_)
          · replace h := h.1 c
            refine kf_iinc (w := (x2 + 1)) (lv' := [(2, .int (x2 + 1)), (4, .long r_3), (3, .int r_2), (0, .ref (g.2.2.2 43)), (1, .int x1)]) hx dX9_blindly_79 4 rfl rfl (by decide) rfl ?_
            refine kf_goto hx 9 dX9_blindly_82 (by decide) ?_
            refine kf_sub [3, 4, 0] rfl ?_
            exact hK9 _ _ _ h
          · replace h := h.2 c
            refine kf_aload_n hx dX9_blindly_71 rfl 2 rfl ?_
            refine kf_lload hx dX9_blindly_72 0 rfl ?_
            refine kf_putJ hx sl_43_7 fl_RX9_92 fp_9_7 dX9_blindly_74 ?_
            refine kf_nmJ (fun J_6 eJ_6 => ?_)
            replace h := h J_6 eJ_6
            refine kf_iload_n hx dX9_blindly_77 rfl 4 rfl ?_
            refine kf_istore_n (lv' := [(1, .int x2), (4, .long r_3), (3, .int r_2), (0, .ref (g.2.2.2 43)), (2, .int x2)]) hx dX9_blindly_78 rfl (by decide) rfl ?_
            refine kf_iinc (w := (x2 + 1)) (lv' := [(2, .int (x2 + 1)), (1, .int x2), (4, .long r_3), (3, .int r_2), (0, .ref (g.2.2.2 43))]) hx dX9_blindly_79 4 rfl rfl (by decide) rfl ?_
            refine kf_goto hx 9 dX9_blindly_82 (by decide) ?_
            refine kf_sub [4, 1, 0] rfl ?_
            exact hK9 _ _ _ h
theorem wl_X9_blindly_9 (g : kf_G) (hg : kf_g g) {x : kf_X} (hx : kf_ok g x RX9 cX9_blindly 6 18 680) (I : HI) (Post : Int32 → HJ → Prop) (hret : ∀ (pc : Nat) (lv : List (Nat × Value)) (v : Int32) (Jy : HJ), decode cX9_blindly pc = .ok (.ireturn, 1) → Post v Jy → kf_M g x 6 pc lv [.int v] I Jy) (E9 : Int32 → HJ → Prop) (hE9 : ∀ (y1 : Int32) (Jy : HJ), E9 y1 Jy → kf_M g x 6 85 [(1, .int y1)] [] I Jy) : ∀ (n : Nat) (x1 : Int32) (x2 : Int32) (J : HJ), lp (wb_X9_blindly_9 I Post E9) n (x1, x2, J) → kf_M g x 6 9 [(0, .ref (g.2.2.2 43)), (1, .int x1), (2, .int x2)] [] I J := by
  intro n
  induction n with
  | zero => intro x1 x2 J h; exact h.elim
  | succ n ih => intro x1 x2 J h; exact ws_X9_blindly_9 g hg hx I Post hret E9 hE9 (lp (wb_X9_blindly_9 I Post E9) n) ih x1 x2 J h
def w_X9_blindly  (I : HI) (J : HJ) (Post : Int32 → HJ → Prop) : Prop :=
  ∀ J_1 : HJ, J_1 = hJ J 43 7 0 → (∃ n, lp (wb_X9_blindly_9 I Post (fun (x1_7 : Int32) (J_8 : HJ) => Post x1_7 J_8)) n (0, 1, J_1))
set_option maxHeartbeats 4000000 in
set_option maxRecDepth 20000 in
theorem we_X9_blindly (g : kf_G) (hg : kf_g g) {x : kf_X} (hx : kf_ok g x RX9 cX9_blindly 6 18 680)  (I : HI) (J : HJ) (Post : Int32 → HJ → Prop) (hret : ∀ (pc : Nat) (lv : List (Nat × Value)) (v : Int32) (Jy : HJ), decode cX9_blindly pc = .ok (.ireturn, 1) → Post v Jy → kf_M g x 6 pc lv [.int v] I Jy) (h : w_X9_blindly  I J Post) : kf_M g x 6 0 [(0, .ref (g.2.2.2 43))] [] I J := by
  unfold w_X9_blindly at h
  refine kf_iconst (v := 0) hx dX9_blindly_0 (by decide) ?_
  refine kf_istore_n (lv' := [(1, .int 0), (0, .ref (g.2.2.2 43))]) hx dX9_blindly_1 rfl (by decide) rfl ?_
  refine kf_aload_n hx dX9_blindly_2 rfl 1 rfl ?_
  refine kf_lconst (v := 0) hx dX9_blindly_3 (by decide) ?_
  refine kf_putJ hx sl_43_7 fl_RX9_92 fp_9_7 dX9_blindly_4 ?_
  refine kf_nmJ (fun J_1 eJ_1 => ?_)
  replace h := h J_1 eJ_1
  refine kf_iconst (v := 1) hx dX9_blindly_7 (by decide) ?_
  refine kf_istore_n (lv' := [(2, .int 1), (1, .int 0), (0, .ref (g.2.2.2 43))]) hx dX9_blindly_8 rfl (by decide) rfl ?_
  obtain ⟨n, h⟩ := h
  refine kf_sub [2, 1, 0] rfl ?_
  refine wl_X9_blindly_9 g hg hx I  _ hret _ (fun x1_7 J_8 h => ?_) n _ _ _ h
  refine kf_iload_n hx dX9_blindly_85 rfl 0 rfl ?_
  exact hret _ _ x1_7 _ dX9_blindly_86 h
set_option maxHeartbeats 4000000 in
set_option maxRecDepth 20000 in
theorem m_X9_blindly (g : kf_G) (hg : kf_g g)  (I : HI) (J : HJ) (Post : Int32 → HJ → Prop) (h : w_X9_blindly  I J Post) : kf_Mi g yX9_blindly (kf_W yX9_blindly cX9_blindly 6 (Option.some Jvm.ClassFile.FieldType.int)) 18 680 [.ref (g.2.2.2 43)] I J (fun v I' J' => Post v J' ∧ I' = I) :=
  kf_enti hg (by decide) (Nat.le_of_ble_eq_true rfl) rfl (fun x hx hr => we_X9_blindly g hg hx  I J Post (fun pc lv v J' hd hP => hr pc lv v I J' hd ⟨hP, rfl⟩) h)
theorem dX10_status_0 : decode cX10_status 0 = .ok (.aload_n 0, 1) := by decide +kernel
theorem dX10_status_1 : decode cX10_status 1 = .ok (.getfield 101, 3) := by decide +kernel
theorem dX10_status_4 : decode cX10_status 4 = .ok (.ireturn, 1) := by decide +kernel
def w_X10_status  (I : HI) (J : HJ) (Post : Int32 → Prop) : Prop :=
  Post (I 0 12)
set_option maxHeartbeats 4000000 in
set_option maxRecDepth 20000 in
theorem we_X10_status (g : kf_G) (hg : kf_g g) {x : kf_X} (hx : kf_ok g x RX10 cX10_status 1 0 0)  (I : HI) (J : HJ) (Post : Int32 → Prop) (hret : ∀ (pc : Nat) (lv : List (Nat × Value)) (v : Int32), decode cX10_status pc = .ok (.ireturn, 1) → Post v → kf_M g x 1 pc lv [.int v] I J) (h : w_X10_status  I J Post) : kf_M g x 1 0 [(0, .ref (g.2.2.2 0))] [] I J := by
  unfold w_X10_status at h
  refine kf_aload_n hx dX10_status_0 rfl 0 rfl ?_
  refine kf_getI hx sl_0_12 fl_RX10_101 dX10_status_1 ?_
  exact hret _ _ (I 0 12)  dX10_status_4 h
set_option maxHeartbeats 4000000 in
set_option maxRecDepth 20000 in
theorem m_X10_status (g : kf_G) (hg : kf_g g)  (I : HI) (J : HJ) (Post : Int32 → Prop) (h : w_X10_status  I J Post) : kf_Mi g yX10_status (kf_W yX10_status cX10_status 1 (Option.some Jvm.ClassFile.FieldType.int)) 0 0 [.ref (g.2.2.2 0)] I J (fun v I' J' => Post v ∧ I' = I ∧ J' = J) :=
  kf_enti hg (by decide) (Nat.le_of_ble_eq_true rfl) rfl (fun x hx hr => we_X10_status g hg hx  I J Post (fun pc lv v hd hP => hr pc lv v I J hd ⟨hP, rfl, rfl⟩) h)
theorem dX10_top_0 : decode cX10_top 0 = .ok (.aload_n 0, 1) := by decide +kernel
theorem dX10_top_1 : decode cX10_top 1 = .ok (.getfield 22, 3) := by decide +kernel
theorem dX10_top_4 : decode cX10_top 4 = .ok (.getfield 104, 3) := by decide +kernel
theorem dX10_top_7 : decode cX10_top 7 = .ok (.lreturn, 1) := by decide +kernel
def w_X10_top  (I : HI) (J : HJ) (Post : Int64 → Prop) : Prop :=
  Post (J 11 0)
set_option maxHeartbeats 4000000 in
set_option maxRecDepth 20000 in
theorem we_X10_top (g : kf_G) (hg : kf_g g) {x : kf_X} (hx : kf_ok g x RX10 cX10_top 1 0 0)  (I : HI) (J : HJ) (Post : Int64 → Prop) (hret : ∀ (pc : Nat) (lv : List (Nat × Value)) (v : Int64), decode cX10_top pc = .ok (.lreturn, 1) → Post v → kf_M g x 1 pc lv [.long v] I J) (h : w_X10_top  I J Post) : kf_M g x 1 0 [(0, .ref (g.2.2.2 0))] [] I J := by
  unfold w_X10_top at h
  refine kf_aload_n hx dX10_top_0 rfl 0 rfl ?_
  refine kf_getR (n := 11) hx sl_0_2 fl_RX10_22 dX10_top_1 ?_
  refine kf_getJ hx sl_11_0 fl_RX10_104 dX10_top_4 ?_
  exact hret _ _ (J 11 0)  dX10_top_7 h
set_option maxHeartbeats 4000000 in
set_option maxRecDepth 20000 in
theorem m_X10_top (g : kf_G) (hg : kf_g g)  (I : HI) (J : HJ) (Post : Int64 → Prop) (h : w_X10_top  I J Post) : kf_Ml g yX10_top (kf_W yX10_top cX10_top 1 (Option.some Jvm.ClassFile.FieldType.long)) 0 0 [.ref (g.2.2.2 0)] I J (fun v I' J' => Post v ∧ I' = I ∧ J' = J) :=
  kf_entl hg (by decide) (Nat.le_of_ble_eq_true rfl) rfl (fun x hx hr => we_X10_top g hg hx  I J Post (fun pc lv v hd hP => hr pc lv v I J hd ⟨hP, rfl, rfl⟩) h)
theorem dX10_bottom_0 : decode cX10_bottom 0 = .ok (.aload_n 0, 1) := by decide +kernel
theorem dX10_bottom_1 : decode cX10_bottom 1 = .ok (.getfield 22, 3) := by decide +kernel
theorem dX10_bottom_4 : decode cX10_bottom 4 = .ok (.getfield 108, 3) := by decide +kernel
theorem dX10_bottom_7 : decode cX10_bottom 7 = .ok (.lreturn, 1) := by decide +kernel
def w_X10_bottom  (I : HI) (J : HJ) (Post : Int64 → Prop) : Prop :=
  Post (J 11 1)
set_option maxHeartbeats 4000000 in
set_option maxRecDepth 20000 in
theorem we_X10_bottom (g : kf_G) (hg : kf_g g) {x : kf_X} (hx : kf_ok g x RX10 cX10_bottom 1 0 0)  (I : HI) (J : HJ) (Post : Int64 → Prop) (hret : ∀ (pc : Nat) (lv : List (Nat × Value)) (v : Int64), decode cX10_bottom pc = .ok (.lreturn, 1) → Post v → kf_M g x 1 pc lv [.long v] I J) (h : w_X10_bottom  I J Post) : kf_M g x 1 0 [(0, .ref (g.2.2.2 0))] [] I J := by
  unfold w_X10_bottom at h
  refine kf_aload_n hx dX10_bottom_0 rfl 0 rfl ?_
  refine kf_getR (n := 11) hx sl_0_2 fl_RX10_22 dX10_bottom_1 ?_
  refine kf_getJ hx sl_11_1 fl_RX10_108 dX10_bottom_4 ?_
  exact hret _ _ (J 11 1)  dX10_bottom_7 h
set_option maxHeartbeats 4000000 in
set_option maxRecDepth 20000 in
theorem m_X10_bottom (g : kf_G) (hg : kf_g g)  (I : HI) (J : HJ) (Post : Int64 → Prop) (h : w_X10_bottom  I J Post) : kf_Ml g yX10_bottom (kf_W yX10_bottom cX10_bottom 1 (Option.some Jvm.ClassFile.FieldType.long)) 0 0 [.ref (g.2.2.2 0)] I J (fun v I' J' => Post v ∧ I' = I ∧ J' = J) :=
  kf_entl hg (by decide) (Nat.le_of_ble_eq_true rfl) rfl (fun x hx hr => we_X10_bottom g hg hx  I J Post (fun pc lv v hd hP => hr pc lv v I J hd ⟨hP, rfl, rfl⟩) h)
theorem dX10_isTray_0 : decode cX10_isTray 0 = .ok (.iload_n 0, 1) := by decide +kernel
theorem dX10_isTray_1 : decode cX10_isTray 1 = .ok (.ifCond .lt 12, 3) := by decide +kernel
theorem dX10_isTray_4 : decode cX10_isTray 4 = .ok (.iload_n 0, 1) := by decide +kernel
theorem dX10_isTray_5 : decode cX10_isTray 5 = .ok (.iconst 4, 1) := by decide +kernel
theorem dX10_isTray_6 : decode cX10_isTray 6 = .ok (.if_icmp .ge 7, 3) := by decide +kernel
theorem dX10_isTray_9 : decode cX10_isTray 9 = .ok (.iconst 1, 1) := by decide +kernel
theorem dX10_isTray_10 : decode cX10_isTray 10 = .ok (.goto 4, 3) := by decide +kernel
theorem dX10_isTray_13 : decode cX10_isTray 13 = .ok (.iconst 0, 1) := by decide +kernel
theorem dX10_isTray_14 : decode cX10_isTray 14 = .ok (.ireturn, 1) := by decide +kernel
def w_X10_isTray (x0 : Int32) (Post : Bool → Prop) : Prop :=
  (x0 < 0 → (Post false)) ∧ (¬ x0 < 0 → ((4 ≤ x0 → (Post false)) ∧ (¬ 4 ≤ x0 → (Post true))))
set_option maxHeartbeats 4000000 in
set_option maxRecDepth 20000 in
theorem we_X10_isTray (g : kf_G) (hg : kf_g g) {x : kf_X} (hx : kf_ok g x RX10 cX10_isTray 1 0 0) (x0 : Int32) (I : HI) (J : HJ) (Post : Bool → Prop) (hret : ∀ (pc : Nat) (lv : List (Nat × Value)) (v : Bool), decode cX10_isTray pc = .ok (.ireturn, 1) → Post v → kf_M g x 1 pc lv [.int (kb v)] I J) (h : w_X10_isTray x0 Post) : kf_M g x 1 0 [(0, .int x0)] [] I J := by
  unfold w_X10_isTray at h
  refine kf_iload_n hx dX10_isTray_0 rfl 0 rfl ?_
  refine kf_if_lt hx 13 dX10_isTray_1 (by decide) (fun c => ?_) (fun c => ?_)
  · replace h := h.1 c
    refine kf_iconst (v := 0) hx dX10_isTray_13 (by decide) ?_
    exact hret _ _ false  dX10_isTray_14 h
  · replace h := h.2 c
    refine kf_iload_n hx dX10_isTray_4 rfl 0 rfl ?_
    refine kf_iconst (v := 4) hx dX10_isTray_5 (by decide) ?_
    refine kf_icmp_ge hx 13 dX10_isTray_6 (by decide) (fun c => ?_) (fun c => ?_)
    · replace h := h.1 c
      refine kf_iconst (v := 0) hx dX10_isTray_13 (by decide) ?_
      exact hret _ _ false  dX10_isTray_14 h
    · replace h := h.2 c
      refine kf_iconst (v := 1) hx dX10_isTray_9 (by decide) ?_
      refine kf_goto hx 14 dX10_isTray_10 (by decide) ?_
      exact hret _ _ true  dX10_isTray_14 h
set_option maxHeartbeats 4000000 in
set_option maxRecDepth 20000 in
theorem m_X10_isTray (g : kf_G) (hg : kf_g g) (x0 : Int32) (I : HI) (J : HJ) (Post : Bool → Prop) (h : w_X10_isTray x0 Post) : kf_Mb g yX10_isTray (kf_W yX10_isTray cX10_isTray 1 (Option.some Jvm.ClassFile.FieldType.boolean)) 0 0 [.int x0] I J (fun v I' J' => Post v ∧ I' = I ∧ J' = J) :=
  kf_entb hg (by decide) (Nat.le_of_ble_eq_true rfl) rfl (fun x hx hr => we_X10_isTray g hg hx x0 I J Post (fun pc lv v hd hP => hr pc lv v I J hd ⟨hP, rfl, rfl⟩) h)
theorem dX10_fails_0 : decode cX10_fails 0 = .ok (.aload_n 0, 1) := by decide +kernel
theorem dX10_fails_1 : decode cX10_fails 1 = .ok (.iload_n 1, 1) := by decide +kernel
theorem dX10_fails_2 : decode cX10_fails 2 = .ok (.putfield 101, 3) := by decide +kernel
theorem dX10_fails_5 : decode cX10_fails 5 = .ok (.iload_n 1, 1) := by decide +kernel
theorem dX10_fails_6 : decode cX10_fails 6 = .ok (.ifCond .eq 7, 3) := by decide +kernel
theorem dX10_fails_9 : decode cX10_fails 9 = .ok (.iconst 1, 1) := by decide +kernel
theorem dX10_fails_10 : decode cX10_fails 10 = .ok (.goto 4, 3) := by decide +kernel
theorem dX10_fails_13 : decode cX10_fails 13 = .ok (.iconst 0, 1) := by decide +kernel
theorem dX10_fails_14 : decode cX10_fails 14 = .ok (.ireturn, 1) := by decide +kernel
def w_X10_fails (x1 : Int32) (I : HI) (J : HJ) (Post : Bool → HI → Prop) : Prop :=
  ∀ I_1 : HI, I_1 = hI I 0 12 x1 → ((x1 = 0 → (Post false I_1)) ∧ (¬ x1 = 0 → (Post true I_1)))
set_option maxHeartbeats 4000000 in
set_option maxRecDepth 20000 in
theorem we_X10_fails (g : kf_G) (hg : kf_g g) {x : kf_X} (hx : kf_ok g x RX10 cX10_fails 2 0 0) (x1 : Int32) (I : HI) (J : HJ) (Post : Bool → HI → Prop) (hret : ∀ (pc : Nat) (lv : List (Nat × Value)) (v : Bool) (Iy : HI), decode cX10_fails pc = .ok (.ireturn, 1) → Post v Iy → kf_M g x 2 pc lv [.int (kb v)] Iy J) (h : w_X10_fails x1 I J Post) : kf_M g x 2 0 [(0, .ref (g.2.2.2 0)), (1, .int x1)] [] I J := by
  unfold w_X10_fails at h
  refine kf_aload_n hx dX10_fails_0 rfl 0 rfl ?_
  refine kf_iload_n hx dX10_fails_1 rfl 1 rfl ?_
  refine kf_putI hx sl_0_12 fl_RX10_101 fp_10_12 dX10_fails_2 ?_
  refine kf_nmI (fun I_1 eI_1 => ?_)
  replace h := h I_1 eI_1
  refine kf_iload_n hx dX10_fails_5 rfl 1 rfl ?_
  refine kf_if_eq hx 13 dX10_fails_6 (by decide) (fun c => ?_) (fun c => ?_)
  · replace h := h.1 c
    refine kf_iconst (v := 0) hx dX10_fails_13 (by decide) ?_
    exact hret _ _ false _ dX10_fails_14 h
  · replace h := h.2 c
    refine kf_iconst (v := 1) hx dX10_fails_9 (by decide) ?_
    refine kf_goto hx 14 dX10_fails_10 (by decide) ?_
    exact hret _ _ true _ dX10_fails_14 h
set_option maxHeartbeats 4000000 in
set_option maxRecDepth 20000 in
theorem m_X10_fails (g : kf_G) (hg : kf_g g) (x1 : Int32) (I : HI) (J : HJ) (Post : Bool → HI → Prop) (h : w_X10_fails x1 I J Post) : kf_Mb g yX10_fails (kf_W yX10_fails cX10_fails 2 (Option.some Jvm.ClassFile.FieldType.boolean)) 0 0 [.ref (g.2.2.2 0), .int x1] I J (fun v I' J' => Post v I' ∧ J' = J) :=
  kf_entb hg (by decide) (Nat.le_of_ble_eq_true rfl) rfl (fun x hx hr => we_X10_fails g hg hx x1 I J Post (fun pc lv v I' hd hP => hr pc lv v I' J hd ⟨hP, rfl⟩) h)
theorem dX10_tray_0 : decode cX10_tray 0 = .ok (.iconst 0, 1) := by decide +kernel
theorem dX10_tray_1 : decode cX10_tray 1 = .ok (.istore 4, 2) := by decide +kernel
theorem dX10_tray_3 : decode cX10_tray 3 = .ok (.iload_n 1, 1) := by decide +kernel
theorem dX10_tray_4 : decode cX10_tray 4 = .ok (.invokestatic 111, 3) := by decide +kernel
theorem dX10_tray_7 : decode cX10_tray 7 = .ok (.ifCond .eq 12, 3) := by decide +kernel
theorem dX10_tray_10 : decode cX10_tray 10 = .ok (.iload_n 2, 1) := by decide +kernel
theorem dX10_tray_11 : decode cX10_tray 11 = .ok (.ifCond .lt 8, 3) := by decide +kernel
theorem dX10_tray_14 : decode cX10_tray 14 = .ok (.iload_n 2, 1) := by decide +kernel
theorem dX10_tray_15 : decode cX10_tray 15 = .ok (.iconst 4, 1) := by decide +kernel
theorem dX10_tray_16 : decode cX10_tray 16 = .ok (.if_icmp .lt 9, 3) := by decide +kernel
theorem dX10_tray_19 : decode cX10_tray 19 = .ok (.iconst 1, 1) := by decide +kernel
theorem dX10_tray_20 : decode cX10_tray 20 = .ok (.istore 4, 2) := by decide +kernel
theorem dX10_tray_22 : decode cX10_tray 22 = .ok (.goto 23, 3) := by decide +kernel
theorem dX10_tray_25 : decode cX10_tray 25 = .ok (.iload_n 3, 1) := by decide +kernel
theorem dX10_tray_26 : decode cX10_tray 26 = .ok (.bipush 40, 2) := by decide +kernel
theorem dX10_tray_28 : decode cX10_tray 28 = .ok (.if_icmp .le 9, 3) := by decide +kernel
theorem dX10_tray_31 : decode cX10_tray 31 = .ok (.iconst 5, 1) := by decide +kernel
theorem dX10_tray_32 : decode cX10_tray 32 = .ok (.istore 4, 2) := by decide +kernel
theorem dX10_tray_34 : decode cX10_tray 34 = .ok (.goto 11, 3) := by decide +kernel
theorem dX10_tray_37 : decode cX10_tray 37 = .ok (.iload_n 3, 1) := by decide +kernel
theorem dX10_tray_38 : decode cX10_tray 38 = .ok (.ifCond .ge 7, 3) := by decide +kernel
theorem dX10_tray_41 : decode cX10_tray 41 = .ok (.bipush 6, 2) := by decide +kernel
theorem dX10_tray_43 : decode cX10_tray 43 = .ok (.istore 4, 2) := by decide +kernel
theorem dX10_tray_45 : decode cX10_tray 45 = .ok (.aload_n 0, 1) := by decide +kernel
theorem dX10_tray_46 : decode cX10_tray 46 = .ok (.iload 4, 2) := by decide +kernel
theorem dX10_tray_48 : decode cX10_tray 48 = .ok (.invokevirtual 115, 3) := by decide +kernel
theorem dX10_tray_51 : decode cX10_tray 51 = .ok (.ifCond .eq 5, 3) := by decide +kernel
theorem dX10_tray_54 : decode cX10_tray 54 = .ok (.iconst 0, 1) := by decide +kernel
theorem dX10_tray_55 : decode cX10_tray 55 = .ok (.ireturn, 1) := by decide +kernel
theorem dX10_tray_56 : decode cX10_tray 56 = .ok (.aload_n 0, 1) := by decide +kernel
theorem dX10_tray_57 : decode cX10_tray 57 = .ok (.getfield 11, 3) := by decide +kernel
theorem dX10_tray_60 : decode cX10_tray 60 = .ok (.iload_n 1, 1) := by decide +kernel
theorem dX10_tray_61 : decode cX10_tray 61 = .ok (.aaload, 1) := by decide +kernel
theorem dX10_tray_62 : decode cX10_tray 62 = .ok (.iload_n 2, 1) := by decide +kernel
theorem dX10_tray_63 : decode cX10_tray 63 = .ok (.iload_n 3, 1) := by decide +kernel
theorem dX10_tray_64 : decode cX10_tray 64 = .ok (.invokevirtual 118, 3) := by decide +kernel
theorem dX10_tray_67 : decode cX10_tray 67 = .ok (.iconst 1, 1) := by decide +kernel
theorem dX10_tray_68 : decode cX10_tray 68 = .ok (.ireturn, 1) := by decide +kernel
def wj_X10_tray_45 (I : HI) (J : HJ) (x1 : Int32) (x2 : Int32) (x3 : Int32) (x4 : Int32) (Post : Bool → HI → HJ → Prop) : Prop :=
  w_X10_fails x4 I J (fun (r_2 : Bool) (I_3 : HI) => ((r_2 = false → (vp_in x1 4 ∧ (w_X8_makeNew (2 + 2 * Int32.toNatClampNeg x1) x2 x3 I_3 J (fun (I_5 : HI) (J_6 : HJ) => (Post true I_5 J_6))))) ∧ (r_2 = true → (Post false I_3 J))))
set_option maxHeartbeats 4000000 in
set_option maxRecDepth 20000 in
theorem wk_X10_tray_45 (g : kf_G) (hg : kf_g g) {x : kf_X} (hx : kf_ok g x RX10 cX10_tray 5 2 46) (I : HI) (J : HJ) (x1 : Int32) (x2 : Int32) (x3 : Int32) (x4 : Int32) (Post : Bool → HI → HJ → Prop) (hret : ∀ (pc : Nat) (lv : List (Nat × Value)) (v : Bool) (Iy : HI) (Jy : HJ), decode cX10_tray pc = .ok (.ireturn, 1) → Post v Iy Jy → kf_M g x 5 pc lv [.int (kb v)] Iy Jy) (h : wj_X10_tray_45 I J x1 x2 x3 x4 Post) : kf_M g x 5 45 [(0, .ref (g.2.2.2 0)), (1, .int x1), (2, .int x2), (3, .int x3), (4, .int x4)] [] I J := by
  unfold wj_X10_tray_45 at h
  refine kf_aload_n hx dX10_tray_45 rfl 0 rfl ?_
  refine kf_iload hx dX10_tray_46 4 rfl ?_
  refine kf_callVbI (st := []) hx (m_X10_fails g hg x4 I J _ h) lk_RX10_115 km_X10_fails ob_0 rfl (by decide) rfl (Nat.le_of_ble_eq_true rfl) dX10_tray_48 (fun r_2 I_3 h => ?_)
  refine kf_ifB_eq hx 56 dX10_tray_51 (by decide) (fun c => ?_) (fun c => ?_)
  · replace h := h.1 c
    refine kf_aload_n hx dX10_tray_56 rfl 0 rfl ?_
    refine kf_getR (n := 1) hx sl_0_0 fl_RX10_11 dX10_tray_57 ?_
    refine kf_iload_n hx dX10_tray_60 rfl 1 rfl ?_
    have hb_4 := h.1
    refine kf_aald hx ar_1 rfl rfl h.1 dX10_tray_61 ?_
    replace h := h.2
    refine kf_iload_n hx dX10_tray_62 rfl 2 rfl ?_
    refine kf_iload_n hx dX10_tray_63 rfl 3 rfl ?_
    refine kf_callVv (st := []) hx (m_X8_makeNew g hg (2 + 2 * Int32.toNatClampNeg x1) x2 x3 (tr_of hb_4) I_3 J _ h) lk_RX10_118 km_X8_makeNew (st_ob (tr_of hb_4)) rfl (by decide) rfl (Nat.le_of_ble_eq_true rfl) dX10_tray_64 (fun I_5 J_6 h => ?_)
    refine kf_iconst (v := 1) hx dX10_tray_67 (by decide) ?_
    exact hret _ _ true _ _ dX10_tray_68 h
  · replace h := h.2 c
    refine kf_iconst (v := 0) hx dX10_tray_54 (by decide) ?_
    exact hret _ _ false _ _ dX10_tray_55 h
def wj_X10_tray_19 (I : HI) (J : HJ) (x1 : Int32) (x2 : Int32) (x3 : Int32) (Post : Bool → HI → HJ → Prop) : Prop :=
  wj_X10_tray_45 I J x1 x2 x3 1 Post
set_option maxHeartbeats 4000000 in
set_option maxRecDepth 20000 in
theorem wk_X10_tray_19 (g : kf_G) (hg : kf_g g) {x : kf_X} (hx : kf_ok g x RX10 cX10_tray 5 2 46) (I : HI) (J : HJ) (x1 : Int32) (x2 : Int32) (x3 : Int32) (Post : Bool → HI → HJ → Prop) (hret : ∀ (pc : Nat) (lv : List (Nat × Value)) (v : Bool) (Iy : HI) (Jy : HJ), decode cX10_tray pc = .ok (.ireturn, 1) → Post v Iy Jy → kf_M g x 5 pc lv [.int (kb v)] Iy Jy) (h : wj_X10_tray_19 I J x1 x2 x3 Post) : kf_M g x 5 19 [(0, .ref (g.2.2.2 0)), (1, .int x1), (2, .int x2), (3, .int x3)] [] I J := by
  unfold wj_X10_tray_19 at h
  refine kf_iconst (v := 1) hx dX10_tray_19 (by decide) ?_
  refine kf_istore (lv' := [(4, .int 1), (0, .ref (g.2.2.2 0)), (1, .int x1), (2, .int x2), (3, .int x3)]) hx dX10_tray_20 (by decide) rfl ?_
  refine kf_goto hx 45 dX10_tray_22 (by decide) ?_
  refine kf_sub [1, 2, 3, 4, 0] rfl ?_
  exact wk_X10_tray_45 g hg hx I J x1 x2 x3 1 _ hret h
def w_X10_tray (x1 : Int32) (x2 : Int32) (x3 : Int32) (I : HI) (J : HJ) (Post : Bool → HI → HJ → Prop) : Prop :=
  w_X10_isTray x1 (fun (r_1 : Bool) => ((r_1 = false → (wj_X10_tray_19 I J x1 x2 x3 Post)) ∧ (r_1 = true → ((x2 < 0 → (wj_X10_tray_19 I J x1 x2 x3 Post)) ∧ (¬ x2 < 0 → ((x2 < 4 → ((x3 ≤ 40 → ((0 ≤ x3 → (wj_X10_tray_45 I J x1 x2 x3 0 Post)) ∧ (¬ 0 ≤ x3 → (wj_X10_tray_45 I J x1 x2 x3 6 Post)))) ∧ (¬ x3 ≤ 40 → (wj_X10_tray_45 I J x1 x2 x3 5 Post)))) ∧ (¬ x2 < 4 → (wj_X10_tray_19 I J x1 x2 x3 Post))))))))
set_option maxHeartbeats 4000000 in
set_option maxRecDepth 20000 in
theorem we_X10_tray (g : kf_G) (hg : kf_g g) {x : kf_X} (hx : kf_ok g x RX10 cX10_tray 5 2 46) (x1 : Int32) (x2 : Int32) (x3 : Int32) (I : HI) (J : HJ) (Post : Bool → HI → HJ → Prop) (hret : ∀ (pc : Nat) (lv : List (Nat × Value)) (v : Bool) (Iy : HI) (Jy : HJ), decode cX10_tray pc = .ok (.ireturn, 1) → Post v Iy Jy → kf_M g x 5 pc lv [.int (kb v)] Iy Jy) (h : w_X10_tray x1 x2 x3 I J Post) : kf_M g x 5 0 [(0, .ref (g.2.2.2 0)), (1, .int x1), (2, .int x2), (3, .int x3)] [] I J := by
  unfold w_X10_tray at h
  refine kf_iconst (v := 0) hx dX10_tray_0 (by decide) ?_
  refine kf_istore (lv' := [(4, .int 0), (0, .ref (g.2.2.2 0)), (1, .int x1), (2, .int x2), (3, .int x3)]) hx dX10_tray_1 (by decide) rfl ?_
  refine kf_iload_n hx dX10_tray_3 rfl 2 rfl ?_
  refine kf_callSbP (st := []) hx (m_X10_isTray g hg x1 I J _ h) lk_RX10_111 km_X10_isTray rfl (by decide) rfl (Nat.le_of_ble_eq_true rfl) dX10_tray_4 (fun r_1 h => ?_)
  refine kf_ifB_eq hx 19 dX10_tray_7 (by decide) (fun c => ?_) (fun c => ?_)
  · replace h := h.1 c
    refine kf_sub [1, 2, 3, 4] rfl ?_
    exact wk_X10_tray_19 g hg hx I J x1 x2 x3 _ hret h
  · replace h := h.2 c
    refine kf_iload_n hx dX10_tray_10 rfl 3 rfl ?_
    refine kf_if_lt hx 19 dX10_tray_11 (by decide) (fun c => ?_) (fun c => ?_)
    · replace h := h.1 c
      refine kf_sub [1, 2, 3, 4] rfl ?_
      exact wk_X10_tray_19 g hg hx I J x1 x2 x3 _ hret h
    · replace h := h.2 c
      refine kf_iload_n hx dX10_tray_14 rfl 3 rfl ?_
      refine kf_iconst (v := 4) hx dX10_tray_15 (by decide) ?_
      refine kf_icmp_lt hx 25 dX10_tray_16 (by decide) (fun c => ?_) (fun c => ?_)
      · replace h := h.1 c
        refine kf_iload_n hx dX10_tray_25 rfl 4 rfl ?_
        refine kf_bipush (v := 40) hx dX10_tray_26 (by decide) ?_
        refine kf_icmp_le hx 37 dX10_tray_28 (by decide) (fun c => ?_) (fun c => ?_)
        · replace h := h.1 c
          refine kf_iload_n hx dX10_tray_37 rfl 4 rfl ?_
          refine kf_if_ge hx 45 dX10_tray_38 (by decide) (fun c => ?_) (fun c => ?_)
          · replace h := h.1 c
            refine kf_sub [1, 2, 3, 4, 0] rfl ?_
            exact wk_X10_tray_45 g hg hx I J x1 x2 x3 0 _ hret h
          · replace h := h.2 c
            refine kf_bipush (v := 6) hx dX10_tray_41 (by decide) ?_
            refine kf_istore (lv' := [(4, .int 6), (0, .ref (g.2.2.2 0)), (1, .int x1), (2, .int x2), (3, .int x3)]) hx dX10_tray_43 (by decide) rfl ?_
            refine kf_sub [1, 2, 3, 4, 0] rfl ?_
            exact wk_X10_tray_45 g hg hx I J x1 x2 x3 6 _ hret h
        · replace h := h.2 c
          refine kf_iconst (v := 5) hx dX10_tray_31 (by decide) ?_
          refine kf_istore (lv' := [(4, .int 5), (0, .ref (g.2.2.2 0)), (1, .int x1), (2, .int x2), (3, .int x3)]) hx dX10_tray_32 (by decide) rfl ?_
          refine kf_goto hx 45 dX10_tray_34 (by decide) ?_
          refine kf_sub [1, 2, 3, 4, 0] rfl ?_
          exact wk_X10_tray_45 g hg hx I J x1 x2 x3 5 _ hret h
      · replace h := h.2 c
        refine kf_sub [1, 2, 3, 4] rfl ?_
        exact wk_X10_tray_19 g hg hx I J x1 x2 x3 _ hret h
set_option maxHeartbeats 4000000 in
set_option maxRecDepth 20000 in
theorem m_X10_tray (g : kf_G) (hg : kf_g g) (x1 : Int32) (x2 : Int32) (x3 : Int32) (I : HI) (J : HJ) (Post : Bool → HI → HJ → Prop) (h : w_X10_tray x1 x2 x3 I J Post) : kf_Mb g yX10_tray (kf_W yX10_tray cX10_tray 5 (Option.some Jvm.ClassFile.FieldType.boolean)) 2 46 [.ref (g.2.2.2 0), .int x1, .int x2, .int x3] I J Post :=
  kf_entb hg (by decide) (Nat.le_of_ble_eq_true rfl) rfl (fun x hx hr => we_X10_tray g hg hx x1 x2 x3 I J Post (fun pc lv v I' J' hd hP => hr pc lv v I' J' hd hP) h)
theorem dX10_trayStatus_0 : decode cX10_trayStatus 0 = .ok (.iload_n 1, 1) := by decide +kernel
theorem dX10_trayStatus_1 : decode cX10_trayStatus 1 = .ok (.invokestatic 111, 3) := by decide +kernel
theorem dX10_trayStatus_4 : decode cX10_trayStatus 4 = .ok (.ifCond .ne 5, 3) := by decide +kernel
theorem dX10_trayStatus_7 : decode cX10_trayStatus 7 = .ok (.iconst 1, 1) := by decide +kernel
theorem dX10_trayStatus_8 : decode cX10_trayStatus 8 = .ok (.ireturn, 1) := by decide +kernel
theorem dX10_trayStatus_9 : decode cX10_trayStatus 9 = .ok (.aload_n 0, 1) := by decide +kernel
theorem dX10_trayStatus_10 : decode cX10_trayStatus 10 = .ok (.getfield 11, 3) := by decide +kernel
theorem dX10_trayStatus_13 : decode cX10_trayStatus 13 = .ok (.iload_n 1, 1) := by decide +kernel
theorem dX10_trayStatus_14 : decode cX10_trayStatus 14 = .ok (.aaload, 1) := by decide +kernel
theorem dX10_trayStatus_15 : decode cX10_trayStatus 15 = .ok (.invokevirtual 146, 3) := by decide +kernel
theorem dX10_trayStatus_18 : decode cX10_trayStatus 18 = .ok (.ifCond .eq 7, 3) := by decide +kernel
theorem dX10_trayStatus_21 : decode cX10_trayStatus 21 = .ok (.iconst 3, 1) := by decide +kernel
theorem dX10_trayStatus_22 : decode cX10_trayStatus 22 = .ok (.goto 4, 3) := by decide +kernel
theorem dX10_trayStatus_25 : decode cX10_trayStatus 25 = .ok (.iconst 0, 1) := by decide +kernel
theorem dX10_trayStatus_26 : decode cX10_trayStatus 26 = .ok (.ireturn, 1) := by decide +kernel
def w_X10_trayStatus (x1 : Int32) (I : HI) (J : HJ) (Post : Int32 → Prop) : Prop :=
  w_X10_isTray x1 (fun (r_1 : Bool) => ((r_1 = true → (vp_in x1 4 ∧ (w_X8_isMissing (2 + 2 * Int32.toNatClampNeg x1) I J (fun (r_3 : Bool) => ((r_3 = false → (Post 0)) ∧ (r_3 = true → (Post 3))))))) ∧ (r_1 = false → (Post 1))))
set_option maxHeartbeats 4000000 in
set_option maxRecDepth 20000 in
theorem we_X10_trayStatus (g : kf_G) (hg : kf_g g) {x : kf_X} (hx : kf_ok g x RX10 cX10_trayStatus 2 1 20) (x1 : Int32) (I : HI) (J : HJ) (Post : Int32 → Prop) (hret : ∀ (pc : Nat) (lv : List (Nat × Value)) (v : Int32), decode cX10_trayStatus pc = .ok (.ireturn, 1) → Post v → kf_M g x 2 pc lv [.int v] I J) (h : w_X10_trayStatus x1 I J Post) : kf_M g x 2 0 [(0, .ref (g.2.2.2 0)), (1, .int x1)] [] I J := by
  unfold w_X10_trayStatus at h
  refine kf_iload_n hx dX10_trayStatus_0 rfl 1 rfl ?_
  refine kf_callSbP (st := []) hx (m_X10_isTray g hg x1 I J _ h) lk_RX10_111 km_X10_isTray rfl (by decide) rfl (Nat.le_of_ble_eq_true rfl) dX10_trayStatus_1 (fun r_1 h => ?_)
  refine kf_ifB_ne hx 9 dX10_trayStatus_4 (by decide) (fun c => ?_) (fun c => ?_)
  · replace h := h.1 c
    refine kf_aload_n hx dX10_trayStatus_9 rfl 0 rfl ?_
    refine kf_getR (n := 1) hx sl_0_0 fl_RX10_11 dX10_trayStatus_10 ?_
    refine kf_iload_n hx dX10_trayStatus_13 rfl 1 rfl ?_
    have hb_2 := h.1
    refine kf_aald hx ar_1 rfl rfl h.1 dX10_trayStatus_14 ?_
    replace h := h.2
    refine kf_callVbP (st := []) hx (m_X8_isMissing g hg (2 + 2 * Int32.toNatClampNeg x1) (tr_of hb_2) I J _ h) lk_RX10_146 km_X8_isMissing (st_ob (tr_of hb_2)) rfl (by decide) rfl (Nat.le_of_ble_eq_true rfl) dX10_trayStatus_15 (fun r_3 h => ?_)
    refine kf_ifB_eq hx 25 dX10_trayStatus_18 (by decide) (fun c => ?_) (fun c => ?_)
    · replace h := h.1 c
      refine kf_iconst (v := 0) hx dX10_trayStatus_25 (by decide) ?_
      exact hret _ _ 0  dX10_trayStatus_26 h
    · replace h := h.2 c
      refine kf_iconst (v := 3) hx dX10_trayStatus_21 (by decide) ?_
      refine kf_goto hx 26 dX10_trayStatus_22 (by decide) ?_
      exact hret _ _ 3  dX10_trayStatus_26 h
  · replace h := h.2 c
    refine kf_iconst (v := 1) hx dX10_trayStatus_7 (by decide) ?_
    exact hret _ _ 1  dX10_trayStatus_8 h
set_option maxHeartbeats 4000000 in
set_option maxRecDepth 20000 in
theorem m_X10_trayStatus (g : kf_G) (hg : kf_g g) (x1 : Int32) (I : HI) (J : HJ) (Post : Int32 → Prop) (h : w_X10_trayStatus x1 I J Post) : kf_Mi g yX10_trayStatus (kf_W yX10_trayStatus cX10_trayStatus 2 (Option.some Jvm.ClassFile.FieldType.int)) 1 20 [.ref (g.2.2.2 0), .int x1] I J (fun v I' J' => Post v ∧ I' = I ∧ J' = J) :=
  kf_enti hg (by decide) (Nat.le_of_ble_eq_true rfl) rfl (fun x hx hr => we_X10_trayStatus g hg hx x1 I J Post (fun pc lv v hd hP => hr pc lv v I J hd ⟨hP, rfl, rfl⟩) h)
theorem dX10_placeStatus_0 : decode cX10_placeStatus 0 = .ok (.aload_n 0, 1) := by decide +kernel
theorem dX10_placeStatus_1 : decode cX10_placeStatus 1 = .ok (.iload_n 1, 1) := by decide +kernel
theorem dX10_placeStatus_2 : decode cX10_placeStatus 2 = .ok (.invokevirtual 157, 3) := by decide +kernel
theorem dX10_placeStatus_5 : decode cX10_placeStatus 5 = .ok (.istore_n 3, 1) := by decide +kernel
theorem dX10_placeStatus_6 : decode cX10_placeStatus 6 = .ok (.iload_n 3, 1) := by decide +kernel
theorem dX10_placeStatus_7 : decode cX10_placeStatus 7 = .ok (.ifCond .eq 5, 3) := by decide +kernel
theorem dX10_placeStatus_10 : decode cX10_placeStatus 10 = .ok (.iload_n 3, 1) := by decide +kernel
theorem dX10_placeStatus_11 : decode cX10_placeStatus 11 = .ok (.ireturn, 1) := by decide +kernel
theorem dX10_placeStatus_12 : decode cX10_placeStatus 12 = .ok (.iload_n 2, 1) := by decide +kernel
theorem dX10_placeStatus_13 : decode cX10_placeStatus 13 = .ok (.ifCond .lt 20, 3) := by decide +kernel
theorem dX10_placeStatus_16 : decode cX10_placeStatus 16 = .ok (.iload_n 2, 1) := by decide +kernel
theorem dX10_placeStatus_17 : decode cX10_placeStatus 17 = .ok (.aload_n 0, 1) := by decide +kernel
theorem dX10_placeStatus_18 : decode cX10_placeStatus 18 = .ok (.getfield 11, 3) := by decide +kernel
theorem dX10_placeStatus_21 : decode cX10_placeStatus 21 = .ok (.iload_n 1, 1) := by decide +kernel
theorem dX10_placeStatus_22 : decode cX10_placeStatus 22 = .ok (.aaload, 1) := by decide +kernel
theorem dX10_placeStatus_23 : decode cX10_placeStatus 23 = .ok (.getfield 161, 3) := by decide +kernel
theorem dX10_placeStatus_26 : decode cX10_placeStatus 26 = .ok (.if_icmp .ge 7, 3) := by decide +kernel
theorem dX10_placeStatus_29 : decode cX10_placeStatus 29 = .ok (.iconst 0, 1) := by decide +kernel
theorem dX10_placeStatus_30 : decode cX10_placeStatus 30 = .ok (.goto 4, 3) := by decide +kernel
theorem dX10_placeStatus_33 : decode cX10_placeStatus 33 = .ok (.iconst 4, 1) := by decide +kernel
theorem dX10_placeStatus_34 : decode cX10_placeStatus 34 = .ok (.ireturn, 1) := by decide +kernel
def w_X10_placeStatus (x1 : Int32) (x2 : Int32) (I : HI) (J : HJ) (Post : Int32 → Prop) : Prop :=
  w_X10_trayStatus x1 I J (fun (r_1 : Int32) => ((r_1 = 0 → ((x2 < 0 → (Post 4)) ∧ (¬ x2 < 0 → (vp_in x1 4 ∧ (((I (2 + 2 * Int32.toNatClampNeg x1) 2) ≤ x2 → (Post 4)) ∧ (¬ (I (2 + 2 * Int32.toNatClampNeg x1) 2) ≤ x2 → (Post 0))))))) ∧ (¬ r_1 = 0 → (Post r_1))))
set_option maxHeartbeats 4000000 in
set_option maxRecDepth 20000 in
theorem we_X10_placeStatus (g : kf_G) (hg : kf_g g) {x : kf_X} (hx : kf_ok g x RX10 cX10_placeStatus 4 2 41) (x1 : Int32) (x2 : Int32) (I : HI) (J : HJ) (Post : Int32 → Prop) (hret : ∀ (pc : Nat) (lv : List (Nat × Value)) (v : Int32), decode cX10_placeStatus pc = .ok (.ireturn, 1) → Post v → kf_M g x 4 pc lv [.int v] I J) (h : w_X10_placeStatus x1 x2 I J Post) : kf_M g x 4 0 [(0, .ref (g.2.2.2 0)), (1, .int x1), (2, .int x2)] [] I J := by
  unfold w_X10_placeStatus at h
  refine kf_aload_n hx dX10_placeStatus_0 rfl 0 rfl ?_
  refine kf_iload_n hx dX10_placeStatus_1 rfl 1 rfl ?_
  refine kf_callViP (st := []) hx (m_X10_trayStatus g hg x1 I J _ h) lk_RX10_157 km_X10_trayStatus ob_0 rfl (by decide) rfl (Nat.le_of_ble_eq_true rfl) dX10_placeStatus_2 (fun r_1 h => ?_)
  refine kf_istore_n (lv' := [(3, .int r_1), (0, .ref (g.2.2.2 0)), (1, .int x1), (2, .int x2)]) hx dX10_placeStatus_5 rfl (by decide) rfl ?_
  refine kf_iload_n hx dX10_placeStatus_6 rfl 0 rfl ?_
  refine kf_if_eq hx 12 dX10_placeStatus_7 (by decide) (fun c => ?_) (fun c => ?_)
  · replace h := h.1 c
    refine kf_iload_n hx dX10_placeStatus_12 rfl 3 rfl ?_
    refine kf_if_lt hx 33 dX10_placeStatus_13 (by decide) (fun c => ?_) (fun c => ?_)
    · replace h := h.1 c
      refine kf_iconst (v := 4) hx dX10_placeStatus_33 (by decide) ?_
      exact hret _ _ 4  dX10_placeStatus_34 h
    · replace h := h.2 c
      refine kf_iload_n hx dX10_placeStatus_16 rfl 3 rfl ?_
      refine kf_aload_n hx dX10_placeStatus_17 rfl 1 rfl ?_
      refine kf_getR (n := 1) hx sl_0_0 fl_RX10_11 dX10_placeStatus_18 ?_
      refine kf_iload_n hx dX10_placeStatus_21 rfl 2 rfl ?_
      have hb_2 := h.1
      refine kf_aald hx ar_1 rfl rfl h.1 dX10_placeStatus_22 ?_
      replace h := h.2
      refine kf_getI hx (st_2 (tr_of hb_2)) fl_RX10_161 dX10_placeStatus_23 ?_
      refine kf_icmp_ge hx 33 dX10_placeStatus_26 (by decide) (fun c => ?_) (fun c => ?_)
      · replace h := h.1 c
        refine kf_iconst (v := 4) hx dX10_placeStatus_33 (by decide) ?_
        exact hret _ _ 4  dX10_placeStatus_34 h
      · replace h := h.2 c
        refine kf_iconst (v := 0) hx dX10_placeStatus_29 (by decide) ?_
        refine kf_goto hx 34 dX10_placeStatus_30 (by decide) ?_
        exact hret _ _ 0  dX10_placeStatus_34 h
  · replace h := h.2 c
    refine kf_iload_n hx dX10_placeStatus_10 rfl 0 rfl ?_
    exact hret _ _ r_1  dX10_placeStatus_11 h
set_option maxHeartbeats 4000000 in
set_option maxRecDepth 20000 in
theorem m_X10_placeStatus (g : kf_G) (hg : kf_g g) (x1 : Int32) (x2 : Int32) (I : HI) (J : HJ) (Post : Int32 → Prop) (h : w_X10_placeStatus x1 x2 I J Post) : kf_Mi g yX10_placeStatus (kf_W yX10_placeStatus cX10_placeStatus 4 (Option.some Jvm.ClassFile.FieldType.int)) 2 41 [.ref (g.2.2.2 0), .int x1, .int x2] I J (fun v I' J' => Post v ∧ I' = I ∧ J' = J) :=
  kf_enti hg (by decide) (Nat.le_of_ble_eq_true rfl) rfl (fun x hx hr => we_X10_placeStatus g hg hx x1 x2 I J Post (fun pc lv v hd hP => hr pc lv v I J hd ⟨hP, rfl, rfl⟩) h)
theorem dX10_write_0 : decode cX10_write 0 = .ok (.aload_n 0, 1) := by decide +kernel
theorem dX10_write_1 : decode cX10_write 1 = .ok (.aload_n 0, 1) := by decide +kernel
theorem dX10_write_2 : decode cX10_write 2 = .ok (.iload_n 1, 1) := by decide +kernel
theorem dX10_write_3 : decode cX10_write 3 = .ok (.iload_n 2, 1) := by decide +kernel
theorem dX10_write_4 : decode cX10_write 4 = .ok (.invokevirtual 122, 3) := by decide +kernel
theorem dX10_write_7 : decode cX10_write 7 = .ok (.invokevirtual 115, 3) := by decide +kernel
theorem dX10_write_10 : decode cX10_write 10 = .ok (.ifCond .eq 5, 3) := by decide +kernel
theorem dX10_write_13 : decode cX10_write 13 = .ok (.iconst 0, 1) := by decide +kernel
theorem dX10_write_14 : decode cX10_write 14 = .ok (.ireturn, 1) := by decide +kernel
theorem dX10_write_15 : decode cX10_write 15 = .ok (.aload_n 0, 1) := by decide +kernel
theorem dX10_write_16 : decode cX10_write 16 = .ok (.getfield 11, 3) := by decide +kernel
theorem dX10_write_19 : decode cX10_write 19 = .ok (.iload_n 1, 1) := by decide +kernel
theorem dX10_write_20 : decode cX10_write 20 = .ok (.aaload, 1) := by decide +kernel
theorem dX10_write_21 : decode cX10_write 21 = .ok (.iload_n 2, 1) := by decide +kernel
theorem dX10_write_22 : decode cX10_write 22 = .ok (.lload_n 3, 1) := by decide +kernel
theorem dX10_write_23 : decode cX10_write 23 = .ok (.invokevirtual 126, 3) := by decide +kernel
theorem dX10_write_26 : decode cX10_write 26 = .ok (.iconst 1, 1) := by decide +kernel
theorem dX10_write_27 : decode cX10_write 27 = .ok (.ireturn, 1) := by decide +kernel
def w_X10_write (x1 : Int32) (x2 : Int32) (x3 : Int64) (I : HI) (J : HJ) (Post : Bool → HI → HJ → Prop) : Prop :=
  w_X10_placeStatus x1 x2 I J (fun (r_1 : Int32) => (w_X10_fails r_1 I J (fun (r_2 : Bool) (I_3 : HI) => ((r_2 = false → (vp_in x1 4 ∧ (w_X8_put (2 + 2 * Int32.toNatClampNeg x1) x2 x3 I_3 J (fun (J_5 : HJ) => (Post true I_3 J_5))))) ∧ (r_2 = true → (Post false I_3 J))))))
set_option maxHeartbeats 4000000 in
set_option maxRecDepth 20000 in
theorem we_X10_write (g : kf_G) (hg : kf_g g) {x : kf_X} (hx : kf_ok g x RX10 cX10_write 5 3 64) (x1 : Int32) (x2 : Int32) (x3 : Int64) (I : HI) (J : HJ) (Post : Bool → HI → HJ → Prop) (hret : ∀ (pc : Nat) (lv : List (Nat × Value)) (v : Bool) (Iy : HI) (Jy : HJ), decode cX10_write pc = .ok (.ireturn, 1) → Post v Iy Jy → kf_M g x 5 pc lv [.int (kb v)] Iy Jy) (h : w_X10_write x1 x2 x3 I J Post) : kf_M g x 5 0 [(0, .ref (g.2.2.2 0)), (1, .int x1), (2, .int x2), (3, .long x3)] [] I J := by
  unfold w_X10_write at h
  refine kf_aload_n hx dX10_write_0 rfl 0 rfl ?_
  refine kf_aload_n hx dX10_write_1 rfl 0 rfl ?_
  refine kf_iload_n hx dX10_write_2 rfl 1 rfl ?_
  refine kf_iload_n hx dX10_write_3 rfl 2 rfl ?_
  refine kf_callViP (st := [.ref (g.2.2.2 0)]) hx (m_X10_placeStatus g hg x1 x2 I J _ h) lk_RX10_122 km_X10_placeStatus ob_0 rfl (by decide) rfl (Nat.le_of_ble_eq_true rfl) dX10_write_4 (fun r_1 h => ?_)
  refine kf_callVbI (st := []) hx (m_X10_fails g hg r_1 I J _ h) lk_RX10_115 km_X10_fails ob_0 rfl (by decide) rfl (Nat.le_of_ble_eq_true rfl) dX10_write_7 (fun r_2 I_3 h => ?_)
  refine kf_ifB_eq hx 15 dX10_write_10 (by decide) (fun c => ?_) (fun c => ?_)
  · replace h := h.1 c
    refine kf_aload_n hx dX10_write_15 rfl 0 rfl ?_
    refine kf_getR (n := 1) hx sl_0_0 fl_RX10_11 dX10_write_16 ?_
    refine kf_iload_n hx dX10_write_19 rfl 1 rfl ?_
    have hb_4 := h.1
    refine kf_aald hx ar_1 rfl rfl h.1 dX10_write_20 ?_
    replace h := h.2
    refine kf_iload_n hx dX10_write_21 rfl 2 rfl ?_
    refine kf_lload_n hx dX10_write_22 rfl 3 rfl ?_
    refine kf_callVvJ (st := []) hx (m_X8_put g hg (2 + 2 * Int32.toNatClampNeg x1) x2 x3 (tr_of hb_4) I_3 J _ h) lk_RX10_126 km_X8_put (st_ob (tr_of hb_4)) rfl (by decide) rfl (Nat.le_of_ble_eq_true rfl) dX10_write_23 (fun J_5 h => ?_)
    refine kf_iconst (v := 1) hx dX10_write_26 (by decide) ?_
    exact hret _ _ true _ _ dX10_write_27 h
  · replace h := h.2 c
    refine kf_iconst (v := 0) hx dX10_write_13 (by decide) ?_
    exact hret _ _ false _ _ dX10_write_14 h
set_option maxHeartbeats 4000000 in
set_option maxRecDepth 20000 in
theorem m_X10_write (g : kf_G) (hg : kf_g g) (x1 : Int32) (x2 : Int32) (x3 : Int64) (I : HI) (J : HJ) (Post : Bool → HI → HJ → Prop) (h : w_X10_write x1 x2 x3 I J Post) : kf_Mb g yX10_write (kf_W yX10_write cX10_write 5 (Option.some Jvm.ClassFile.FieldType.boolean)) 3 64 [.ref (g.2.2.2 0), .int x1, .int x2, .long x3] I J Post :=
  kf_entb hg (by decide) (Nat.le_of_ble_eq_true rfl) rfl (fun x hx hr => we_X10_write g hg hx x1 x2 x3 I J Post (fun pc lv v I' J' hd hP => hr pc lv v I' J' hd hP) h)
theorem dX10_read_0 : decode cX10_read 0 = .ok (.aload_n 0, 1) := by decide +kernel
theorem dX10_read_1 : decode cX10_read 1 = .ok (.aload_n 0, 1) := by decide +kernel
theorem dX10_read_2 : decode cX10_read 2 = .ok (.iload_n 1, 1) := by decide +kernel
theorem dX10_read_3 : decode cX10_read 3 = .ok (.iload_n 2, 1) := by decide +kernel
theorem dX10_read_4 : decode cX10_read 4 = .ok (.invokevirtual 122, 3) := by decide +kernel
theorem dX10_read_7 : decode cX10_read 7 = .ok (.invokevirtual 115, 3) := by decide +kernel
theorem dX10_read_10 : decode cX10_read 10 = .ok (.ifCond .eq 7, 3) := by decide +kernel
theorem dX10_read_13 : decode cX10_read 13 = .ok (.ldc2_w 130, 3) := by decide +kernel
theorem dX10_read_16 : decode cX10_read 16 = .ok (.lreturn, 1) := by decide +kernel
theorem dX10_read_17 : decode cX10_read 17 = .ok (.aload_n 0, 1) := by decide +kernel
theorem dX10_read_18 : decode cX10_read 18 = .ok (.getfield 11, 3) := by decide +kernel
theorem dX10_read_21 : decode cX10_read 21 = .ok (.iload_n 1, 1) := by decide +kernel
theorem dX10_read_22 : decode cX10_read 22 = .ok (.aaload, 1) := by decide +kernel
theorem dX10_read_23 : decode cX10_read 23 = .ok (.getfield 132, 3) := by decide +kernel
theorem dX10_read_26 : decode cX10_read 26 = .ok (.iload_n 2, 1) := by decide +kernel
theorem dX10_read_27 : decode cX10_read 27 = .ok (.laload, 1) := by decide +kernel
theorem dX10_read_28 : decode cX10_read 28 = .ok (.lreturn, 1) := by decide +kernel
def w_X10_read (x1 : Int32) (x2 : Int32) (I : HI) (J : HJ) (Post : Int64 → HI → Prop) : Prop :=
  w_X10_placeStatus x1 x2 I J (fun (r_1 : Int32) => (w_X10_fails r_1 I J (fun (r_2 : Bool) (I_3 : HI) => ((r_2 = false → (vp_in x1 4 ∧ (vp_in x2 40 ∧ (Post (J (2 + 2 * Int32.toNatClampNeg x1 + 1) (Int32.toNatClampNeg x2)) I_3)))) ∧ (r_2 = true → (Post (-1) I_3))))))
set_option maxHeartbeats 4000000 in
set_option maxRecDepth 20000 in
theorem we_X10_read (g : kf_G) (hg : kf_g g) {x : kf_X} (hx : kf_ok g x RX10 cX10_read 3 3 64) (x1 : Int32) (x2 : Int32) (I : HI) (J : HJ) (Post : Int64 → HI → Prop) (hret : ∀ (pc : Nat) (lv : List (Nat × Value)) (v : Int64) (Iy : HI), decode cX10_read pc = .ok (.lreturn, 1) → Post v Iy → kf_M g x 3 pc lv [.long v] Iy J) (h : w_X10_read x1 x2 I J Post) : kf_M g x 3 0 [(0, .ref (g.2.2.2 0)), (1, .int x1), (2, .int x2)] [] I J := by
  unfold w_X10_read at h
  refine kf_aload_n hx dX10_read_0 rfl 0 rfl ?_
  refine kf_aload_n hx dX10_read_1 rfl 0 rfl ?_
  refine kf_iload_n hx dX10_read_2 rfl 1 rfl ?_
  refine kf_iload_n hx dX10_read_3 rfl 2 rfl ?_
  refine kf_callViP (st := [.ref (g.2.2.2 0)]) hx (m_X10_placeStatus g hg x1 x2 I J _ h) lk_RX10_122 km_X10_placeStatus ob_0 rfl (by decide) rfl (Nat.le_of_ble_eq_true rfl) dX10_read_4 (fun r_1 h => ?_)
  refine kf_callVbI (st := []) hx (m_X10_fails g hg r_1 I J _ h) lk_RX10_115 km_X10_fails ob_0 rfl (by decide) rfl (Nat.le_of_ble_eq_true rfl) dX10_read_7 (fun r_2 I_3 h => ?_)
  refine kf_ifB_eq hx 17 dX10_read_10 (by decide) (fun c => ?_) (fun c => ?_)
  · replace h := h.1 c
    refine kf_aload_n hx dX10_read_17 rfl 0 rfl ?_
    refine kf_getR (n := 1) hx sl_0_0 fl_RX10_11 dX10_read_18 ?_
    refine kf_iload_n hx dX10_read_21 rfl 1 rfl ?_
    have hb_4 := h.1
    refine kf_aald hx ar_1 rfl rfl h.1 dX10_read_22 ?_
    replace h := h.2
    refine kf_getR (n := (2 + 2 * Int32.toNatClampNeg x1 + 1)) hx (st_0 (tr_of hb_4)) fl_RX10_132 dX10_read_23 ?_
    refine kf_iload_n hx dX10_read_26 rfl 2 rfl ?_
    refine kf_lald hx (st_r (tr_of hb_4)) h.1 dX10_read_27 ?_
    replace h := h.2
    exact hret _ _ (J (2 + 2 * Int32.toNatClampNeg x1 + 1) (Int32.toNatClampNeg x2)) _ dX10_read_28 h
  · replace h := h.2 c
    refine kf_ldc2 hx ko_RX10_130 dX10_read_13 ?_
    exact hret _ _ (-1) _ dX10_read_16 h
set_option maxHeartbeats 4000000 in
set_option maxRecDepth 20000 in
theorem m_X10_read (g : kf_G) (hg : kf_g g) (x1 : Int32) (x2 : Int32) (I : HI) (J : HJ) (Post : Int64 → HI → Prop) (h : w_X10_read x1 x2 I J Post) : kf_Ml g yX10_read (kf_W yX10_read cX10_read 3 (Option.some Jvm.ClassFile.FieldType.long)) 3 64 [.ref (g.2.2.2 0), .int x1, .int x2] I J (fun v I' J' => Post v I' ∧ J' = J) :=
  kf_entl hg (by decide) (Nat.le_of_ble_eq_true rfl) rfl (fun x hx hr => we_X10_read g hg hx x1 x2 I J Post (fun pc lv v I' hd hP => hr pc lv v I' J hd ⟨hP, rfl⟩) h)
theorem dX10_pourStatus_0 : decode cX10_pourStatus 0 = .ok (.iload_n 1, 1) := by decide +kernel
theorem dX10_pourStatus_1 : decode cX10_pourStatus 1 = .ok (.invokestatic 111, 3) := by decide +kernel
theorem dX10_pourStatus_4 : decode cX10_pourStatus 4 = .ok (.ifCond .eq 10, 3) := by decide +kernel
theorem dX10_pourStatus_7 : decode cX10_pourStatus 7 = .ok (.iload_n 3, 1) := by decide +kernel
theorem dX10_pourStatus_8 : decode cX10_pourStatus 8 = .ok (.invokestatic 111, 3) := by decide +kernel
theorem dX10_pourStatus_11 : decode cX10_pourStatus 11 = .ok (.ifCond .ne 5, 3) := by decide +kernel
theorem dX10_pourStatus_14 : decode cX10_pourStatus 14 = .ok (.iconst 1, 1) := by decide +kernel
theorem dX10_pourStatus_15 : decode cX10_pourStatus 15 = .ok (.ireturn, 1) := by decide +kernel
theorem dX10_pourStatus_16 : decode cX10_pourStatus 16 = .ok (.aload_n 0, 1) := by decide +kernel
theorem dX10_pourStatus_17 : decode cX10_pourStatus 17 = .ok (.getfield 11, 3) := by decide +kernel
theorem dX10_pourStatus_20 : decode cX10_pourStatus 20 = .ok (.iload_n 1, 1) := by decide +kernel
theorem dX10_pourStatus_21 : decode cX10_pourStatus 21 = .ok (.aaload, 1) := by decide +kernel
theorem dX10_pourStatus_22 : decode cX10_pourStatus 22 = .ok (.invokevirtual 146, 3) := by decide +kernel
theorem dX10_pourStatus_25 : decode cX10_pourStatus 25 = .ok (.ifCond .ne 15, 3) := by decide +kernel
theorem dX10_pourStatus_28 : decode cX10_pourStatus 28 = .ok (.aload_n 0, 1) := by decide +kernel
theorem dX10_pourStatus_29 : decode cX10_pourStatus 29 = .ok (.getfield 11, 3) := by decide +kernel
theorem dX10_pourStatus_32 : decode cX10_pourStatus 32 = .ok (.iload_n 3, 1) := by decide +kernel
theorem dX10_pourStatus_33 : decode cX10_pourStatus 33 = .ok (.aaload, 1) := by decide +kernel
theorem dX10_pourStatus_34 : decode cX10_pourStatus 34 = .ok (.invokevirtual 146, 3) := by decide +kernel
theorem dX10_pourStatus_37 : decode cX10_pourStatus 37 = .ok (.ifCond .eq 5, 3) := by decide +kernel
theorem dX10_pourStatus_40 : decode cX10_pourStatus 40 = .ok (.iconst 3, 1) := by decide +kernel
theorem dX10_pourStatus_41 : decode cX10_pourStatus 41 = .ok (.ireturn, 1) := by decide +kernel
theorem dX10_pourStatus_42 : decode cX10_pourStatus 42 = .ok (.aload_n 0, 1) := by decide +kernel
theorem dX10_pourStatus_43 : decode cX10_pourStatus 43 = .ok (.getfield 11, 3) := by decide +kernel
theorem dX10_pourStatus_46 : decode cX10_pourStatus 46 = .ok (.iload_n 1, 1) := by decide +kernel
theorem dX10_pourStatus_47 : decode cX10_pourStatus 47 = .ok (.aaload, 1) := by decide +kernel
theorem dX10_pourStatus_48 : decode cX10_pourStatus 48 = .ok (.getfield 150, 3) := by decide +kernel
theorem dX10_pourStatus_51 : decode cX10_pourStatus 51 = .ok (.aload_n 0, 1) := by decide +kernel
theorem dX10_pourStatus_52 : decode cX10_pourStatus 52 = .ok (.getfield 11, 3) := by decide +kernel
theorem dX10_pourStatus_55 : decode cX10_pourStatus 55 = .ok (.iload_n 3, 1) := by decide +kernel
theorem dX10_pourStatus_56 : decode cX10_pourStatus 56 = .ok (.aaload, 1) := by decide +kernel
theorem dX10_pourStatus_57 : decode cX10_pourStatus 57 = .ok (.getfield 150, 3) := by decide +kernel
theorem dX10_pourStatus_60 : decode cX10_pourStatus 60 = .ok (.if_icmp .eq 6, 3) := by decide +kernel
theorem dX10_pourStatus_63 : decode cX10_pourStatus 63 = .ok (.bipush 11, 2) := by decide +kernel
theorem dX10_pourStatus_65 : decode cX10_pourStatus 65 = .ok (.ireturn, 1) := by decide +kernel
theorem dX10_pourStatus_66 : decode cX10_pourStatus 66 = .ok (.iload 5, 2) := by decide +kernel
theorem dX10_pourStatus_68 : decode cX10_pourStatus 68 = .ok (.ifCond .ge 6, 3) := by decide +kernel
theorem dX10_pourStatus_71 : decode cX10_pourStatus 71 = .ok (.bipush 6, 2) := by decide +kernel
theorem dX10_pourStatus_73 : decode cX10_pourStatus 73 = .ok (.ireturn, 1) := by decide +kernel
theorem dX10_pourStatus_74 : decode cX10_pourStatus 74 = .ok (.aload_n 0, 1) := by decide +kernel
theorem dX10_pourStatus_75 : decode cX10_pourStatus 75 = .ok (.getfield 11, 3) := by decide +kernel
theorem dX10_pourStatus_78 : decode cX10_pourStatus 78 = .ok (.iload_n 1, 1) := by decide +kernel
theorem dX10_pourStatus_79 : decode cX10_pourStatus 79 = .ok (.aaload, 1) := by decide +kernel
theorem dX10_pourStatus_80 : decode cX10_pourStatus 80 = .ok (.iload_n 2, 1) := by decide +kernel
theorem dX10_pourStatus_81 : decode cX10_pourStatus 81 = .ok (.iload 5, 2) := by decide +kernel
theorem dX10_pourStatus_83 : decode cX10_pourStatus 83 = .ok (.invokevirtual 153, 3) := by decide +kernel
theorem dX10_pourStatus_86 : decode cX10_pourStatus 86 = .ok (.ifCond .eq 23, 3) := by decide +kernel
theorem dX10_pourStatus_89 : decode cX10_pourStatus 89 = .ok (.aload_n 0, 1) := by decide +kernel
theorem dX10_pourStatus_90 : decode cX10_pourStatus 90 = .ok (.getfield 11, 3) := by decide +kernel
theorem dX10_pourStatus_93 : decode cX10_pourStatus 93 = .ok (.iload_n 3, 1) := by decide +kernel
theorem dX10_pourStatus_94 : decode cX10_pourStatus 94 = .ok (.aaload, 1) := by decide +kernel
theorem dX10_pourStatus_95 : decode cX10_pourStatus 95 = .ok (.iload 4, 2) := by decide +kernel
theorem dX10_pourStatus_97 : decode cX10_pourStatus 97 = .ok (.iload 5, 2) := by decide +kernel
theorem dX10_pourStatus_99 : decode cX10_pourStatus 99 = .ok (.invokevirtual 153, 3) := by decide +kernel
theorem dX10_pourStatus_102 : decode cX10_pourStatus 102 = .ok (.ifCond .eq 7, 3) := by decide +kernel
theorem dX10_pourStatus_105 : decode cX10_pourStatus 105 = .ok (.iconst 0, 1) := by decide +kernel
theorem dX10_pourStatus_106 : decode cX10_pourStatus 106 = .ok (.goto 4, 3) := by decide +kernel
theorem dX10_pourStatus_109 : decode cX10_pourStatus 109 = .ok (.iconst 4, 1) := by decide +kernel
theorem dX10_pourStatus_110 : decode cX10_pourStatus 110 = .ok (.ireturn, 1) := by decide +kernel
def w_X10_pourStatus (x1 : Int32) (x2 : Int32) (x3 : Int32) (x4 : Int32) (x5 : Int32) (I : HI) (J : HJ) (Post : Int32 → Prop) : Prop :=
  w_X10_isTray x1 (fun (r_1 : Bool) => ((r_1 = false → (Post 1)) ∧ (r_1 = true → (w_X10_isTray x3 (fun (r_2 : Bool) => ((r_2 = true → (vp_in x1 4 ∧ (w_X8_isMissing (2 + 2 * Int32.toNatClampNeg x1) I J (fun (r_4 : Bool) => ((r_4 = true → (Post 3)) ∧ (r_4 = false → (vp_in x3 4 ∧ (w_X8_isMissing (2 + 2 * Int32.toNatClampNeg x3) I J (fun (r_6 : Bool) => ((r_6 = false → (vp_in x1 4 ∧ (vp_in x3 4 ∧ (((I (2 + 2 * Int32.toNatClampNeg x1) 1) = (I (2 + 2 * Int32.toNatClampNeg x3) 1) → ((0 ≤ x5 → (vp_in x1 4 ∧ (w_X8_hasStretch (2 + 2 * Int32.toNatClampNeg x1) x2 x5 I J (fun (r_10 : Bool) => ((r_10 = false → (Post 4)) ∧ (r_10 = true → (vp_in x3 4 ∧ (w_X8_hasStretch (2 + 2 * Int32.toNatClampNeg x3) x4 x5 I J (fun (r_12 : Bool) => ((r_12 = false → (Post 4)) ∧ (r_12 = true → (Post 0)))))))))))) ∧ (¬ 0 ≤ x5 → (Post 6)))) ∧ (¬ (I (2 + 2 * Int32.toNatClampNeg x1) 1) = (I (2 + 2 * Int32.toNatClampNeg x3) 1) → (Post 11)))))) ∧ (r_6 = true → (Post 3)))))))))))) ∧ (r_2 = false → (Post 1))))))))
set_option maxHeartbeats 4000000 in
set_option maxRecDepth 20000 in
theorem we_X10_pourStatus (g : kf_G) (hg : kf_g g) {x : kf_X} (hx : kf_ok g x RX10 cX10_pourStatus 6 1 22) (x1 : Int32) (x2 : Int32) (x3 : Int32) (x4 : Int32) (x5 : Int32) (I : HI) (J : HJ) (Post : Int32 → Prop) (hret : ∀ (pc : Nat) (lv : List (Nat × Value)) (v : Int32), decode cX10_pourStatus pc = .ok (.ireturn, 1) → Post v → kf_M g x 6 pc lv [.int v] I J) (h : w_X10_pourStatus x1 x2 x3 x4 x5 I J Post) : kf_M g x 6 0 [(0, .ref (g.2.2.2 0)), (1, .int x1), (2, .int x2), (3, .int x3), (4, .int x4), (5, .int x5)] [] I J := by
  unfold w_X10_pourStatus at h
  refine kf_iload_n hx dX10_pourStatus_0 rfl 1 rfl ?_
  refine kf_callSbP (st := []) hx (m_X10_isTray g hg x1 I J _ h) lk_RX10_111 km_X10_isTray rfl (by decide) rfl (Nat.le_of_ble_eq_true rfl) dX10_pourStatus_1 (fun r_1 h => ?_)
  refine kf_ifB_eq hx 14 dX10_pourStatus_4 (by decide) (fun c => ?_) (fun c => ?_)
  · replace h := h.1 c
    refine kf_iconst (v := 1) hx dX10_pourStatus_14 (by decide) ?_
    exact hret _ _ 1  dX10_pourStatus_15 h
  · replace h := h.2 c
    refine kf_iload_n hx dX10_pourStatus_7 rfl 3 rfl ?_
    refine kf_callSbP (st := []) hx (m_X10_isTray g hg x3 I J _ h) lk_RX10_111 km_X10_isTray rfl (by decide) rfl (Nat.le_of_ble_eq_true rfl) dX10_pourStatus_8 (fun r_2 h => ?_)
    refine kf_ifB_ne hx 16 dX10_pourStatus_11 (by decide) (fun c => ?_) (fun c => ?_)
    · replace h := h.1 c
      refine kf_aload_n hx dX10_pourStatus_16 rfl 0 rfl ?_
      refine kf_getR (n := 1) hx sl_0_0 fl_RX10_11 dX10_pourStatus_17 ?_
      refine kf_iload_n hx dX10_pourStatus_20 rfl 1 rfl ?_
      have hb_3 := h.1
      refine kf_aald hx ar_1 rfl rfl h.1 dX10_pourStatus_21 ?_
      replace h := h.2
      refine kf_callVbP (st := []) hx (m_X8_isMissing g hg (2 + 2 * Int32.toNatClampNeg x1) (tr_of hb_3) I J _ h) lk_RX10_146 km_X8_isMissing (st_ob (tr_of hb_3)) rfl (by decide) rfl (Nat.le_of_ble_eq_true rfl) dX10_pourStatus_22 (fun r_4 h => ?_)
      refine kf_ifB_ne hx 40 dX10_pourStatus_25 (by decide) (fun c => ?_) (fun c => ?_)
      · replace h := h.1 c
        refine kf_iconst (v := 3) hx dX10_pourStatus_40 (by decide) ?_
        exact hret _ _ 3  dX10_pourStatus_41 h
      · replace h := h.2 c
        refine kf_aload_n hx dX10_pourStatus_28 rfl 0 rfl ?_
        refine kf_getR (n := 1) hx sl_0_0 fl_RX10_11 dX10_pourStatus_29 ?_
        refine kf_iload_n hx dX10_pourStatus_32 rfl 3 rfl ?_
        have hb_5 := h.1
        refine kf_aald hx ar_1 rfl rfl h.1 dX10_pourStatus_33 ?_
        replace h := h.2
        refine kf_callVbP (st := []) hx (m_X8_isMissing g hg (2 + 2 * Int32.toNatClampNeg x3) (tr_of hb_5) I J _ h) lk_RX10_146 km_X8_isMissing (st_ob (tr_of hb_5)) rfl (by decide) rfl (Nat.le_of_ble_eq_true rfl) dX10_pourStatus_34 (fun r_6 h => ?_)
        refine kf_ifB_eq hx 42 dX10_pourStatus_37 (by decide) (fun c => ?_) (fun c => ?_)
        · replace h := h.1 c
          refine kf_aload_n hx dX10_pourStatus_42 rfl 0 rfl ?_
          refine kf_getR (n := 1) hx sl_0_0 fl_RX10_11 dX10_pourStatus_43 ?_
          refine kf_iload_n hx dX10_pourStatus_46 rfl 1 rfl ?_
          have hb_7 := h.1
          refine kf_aald hx ar_1 rfl rfl h.1 dX10_pourStatus_47 ?_
          replace h := h.2
          refine kf_getI hx (st_1 (tr_of hb_7)) fl_RX10_150 dX10_pourStatus_48 ?_
          refine kf_aload_n hx dX10_pourStatus_51 rfl 0 rfl ?_
          refine kf_getR (n := 1) hx sl_0_0 fl_RX10_11 dX10_pourStatus_52 ?_
          refine kf_iload_n hx dX10_pourStatus_55 rfl 3 rfl ?_
          have hb_8 := h.1
          refine kf_aald hx ar_1 rfl rfl h.1 dX10_pourStatus_56 ?_
          replace h := h.2
          refine kf_getI hx (st_1 (tr_of hb_8)) fl_RX10_150 dX10_pourStatus_57 ?_
          refine kf_icmp_eq hx 66 dX10_pourStatus_60 (by decide) (fun c => ?_) (fun c => ?_)
          · replace h := h.1 c
            refine kf_iload hx dX10_pourStatus_66 5 rfl ?_
            refine kf_if_ge hx 74 dX10_pourStatus_68 (by decide) (fun c => ?_) (fun c => ?_)
            · replace h := h.1 c
              refine kf_aload_n hx dX10_pourStatus_74 rfl 0 rfl ?_
              refine kf_getR (n := 1) hx sl_0_0 fl_RX10_11 dX10_pourStatus_75 ?_
              refine kf_iload_n hx dX10_pourStatus_78 rfl 1 rfl ?_
              have hb_9 := h.1
              refine kf_aald hx ar_1 rfl rfl h.1 dX10_pourStatus_79 ?_
              replace h := h.2
              refine kf_iload_n hx dX10_pourStatus_80 rfl 2 rfl ?_
              refine kf_iload hx dX10_pourStatus_81 5 rfl ?_
              refine kf_callVbP (st := []) hx (m_X8_hasStretch g hg (2 + 2 * Int32.toNatClampNeg x1) x2 x5 (tr_of hb_9) I J _ h) lk_RX10_153 km_X8_hasStretch (st_ob (tr_of hb_9)) rfl (by decide) rfl (Nat.le_of_ble_eq_true rfl) dX10_pourStatus_83 (fun r_10 h => ?_)
              refine kf_ifB_eq hx 109 dX10_pourStatus_86 (by decide) (fun c => ?_) (fun c => ?_)
              · replace h := h.1 c
                refine kf_iconst (v := 4) hx dX10_pourStatus_109 (by decide) ?_
                exact hret _ _ 4  dX10_pourStatus_110 h
              · replace h := h.2 c
                refine kf_aload_n hx dX10_pourStatus_89 rfl 0 rfl ?_
                refine kf_getR (n := 1) hx sl_0_0 fl_RX10_11 dX10_pourStatus_90 ?_
                refine kf_iload_n hx dX10_pourStatus_93 rfl 3 rfl ?_
                have hb_11 := h.1
                refine kf_aald hx ar_1 rfl rfl h.1 dX10_pourStatus_94 ?_
                replace h := h.2
                refine kf_iload hx dX10_pourStatus_95 4 rfl ?_
                refine kf_iload hx dX10_pourStatus_97 5 rfl ?_
                refine kf_callVbP (st := []) hx (m_X8_hasStretch g hg (2 + 2 * Int32.toNatClampNeg x3) x4 x5 (tr_of hb_11) I J _ h) lk_RX10_153 km_X8_hasStretch (st_ob (tr_of hb_11)) rfl (by decide) rfl (Nat.le_of_ble_eq_true rfl) dX10_pourStatus_99 (fun r_12 h => ?_)
                refine kf_ifB_eq hx 109 dX10_pourStatus_102 (by decide) (fun c => ?_) (fun c => ?_)
                · replace h := h.1 c
                  refine kf_iconst (v := 4) hx dX10_pourStatus_109 (by decide) ?_
                  exact hret _ _ 4  dX10_pourStatus_110 h
                · replace h := h.2 c
                  refine kf_iconst (v := 0) hx dX10_pourStatus_105 (by decide) ?_
                  refine kf_goto hx 110 dX10_pourStatus_106 (by decide) ?_
                  exact hret _ _ 0  dX10_pourStatus_110 h
            · replace h := h.2 c
              refine kf_bipush (v := 6) hx dX10_pourStatus_71 (by decide) ?_
              exact hret _ _ 6  dX10_pourStatus_73 h
          · replace h := h.2 c
            refine kf_bipush (v := 11) hx dX10_pourStatus_63 (by decide) ?_
            exact hret _ _ 11  dX10_pourStatus_65 h
        · replace h := h.2 c
          refine kf_iconst (v := 3) hx dX10_pourStatus_40 (by decide) ?_
          exact hret _ _ 3  dX10_pourStatus_41 h
    · replace h := h.2 c
      refine kf_iconst (v := 1) hx dX10_pourStatus_14 (by decide) ?_
      exact hret _ _ 1  dX10_pourStatus_15 h
set_option maxHeartbeats 4000000 in
set_option maxRecDepth 20000 in
theorem m_X10_pourStatus (g : kf_G) (hg : kf_g g) (x1 : Int32) (x2 : Int32) (x3 : Int32) (x4 : Int32) (x5 : Int32) (I : HI) (J : HJ) (Post : Int32 → Prop) (h : w_X10_pourStatus x1 x2 x3 x4 x5 I J Post) : kf_Mi g yX10_pourStatus (kf_W yX10_pourStatus cX10_pourStatus 6 (Option.some Jvm.ClassFile.FieldType.int)) 1 22 [.ref (g.2.2.2 0), .int x1, .int x2, .int x3, .int x4, .int x5] I J (fun v I' J' => Post v ∧ I' = I ∧ J' = J) :=
  kf_enti hg (by decide) (Nat.le_of_ble_eq_true rfl) rfl (fun x hx hr => we_X10_pourStatus g hg hx x1 x2 x3 x4 x5 I J Post (fun pc lv v hd hP => hr pc lv v I J hd ⟨hP, rfl, rfl⟩) h)
theorem dX10_pour_0 : decode cX10_pour 0 = .ok (.aload_n 0, 1) := by decide +kernel
theorem dX10_pour_1 : decode cX10_pour 1 = .ok (.aload_n 0, 1) := by decide +kernel
theorem dX10_pour_2 : decode cX10_pour 2 = .ok (.iload_n 1, 1) := by decide +kernel
theorem dX10_pour_3 : decode cX10_pour 3 = .ok (.iload_n 2, 1) := by decide +kernel
theorem dX10_pour_4 : decode cX10_pour 4 = .ok (.iload_n 3, 1) := by decide +kernel
theorem dX10_pour_5 : decode cX10_pour 5 = .ok (.iload 4, 2) := by decide +kernel
theorem dX10_pour_7 : decode cX10_pour 7 = .ok (.iload 5, 2) := by decide +kernel
theorem dX10_pour_9 : decode cX10_pour 9 = .ok (.invokevirtual 136, 3) := by decide +kernel
theorem dX10_pour_12 : decode cX10_pour 12 = .ok (.invokevirtual 115, 3) := by decide +kernel
theorem dX10_pour_15 : decode cX10_pour 15 = .ok (.ifCond .eq 5, 3) := by decide +kernel
theorem dX10_pour_18 : decode cX10_pour 18 = .ok (.iconst 0, 1) := by decide +kernel
theorem dX10_pour_19 : decode cX10_pour 19 = .ok (.ireturn, 1) := by decide +kernel
theorem dX10_pour_20 : decode cX10_pour 20 = .ok (.aload_n 0, 1) := by decide +kernel
theorem dX10_pour_21 : decode cX10_pour 21 = .ok (.getfield 11, 3) := by decide +kernel
theorem dX10_pour_24 : decode cX10_pour 24 = .ok (.iload_n 1, 1) := by decide +kernel
theorem dX10_pour_25 : decode cX10_pour 25 = .ok (.aaload, 1) := by decide +kernel
theorem dX10_pour_26 : decode cX10_pour 26 = .ok (.getfield 132, 3) := by decide +kernel
theorem dX10_pour_29 : decode cX10_pour 29 = .ok (.iload_n 2, 1) := by decide +kernel
theorem dX10_pour_30 : decode cX10_pour 30 = .ok (.aload_n 0, 1) := by decide +kernel
theorem dX10_pour_31 : decode cX10_pour 31 = .ok (.getfield 11, 3) := by decide +kernel
theorem dX10_pour_34 : decode cX10_pour 34 = .ok (.iload_n 3, 1) := by decide +kernel
theorem dX10_pour_35 : decode cX10_pour 35 = .ok (.aaload, 1) := by decide +kernel
theorem dX10_pour_36 : decode cX10_pour 36 = .ok (.getfield 132, 3) := by decide +kernel
theorem dX10_pour_39 : decode cX10_pour 39 = .ok (.iload 4, 2) := by decide +kernel
theorem dX10_pour_41 : decode cX10_pour 41 = .ok (.iload 5, 2) := by decide +kernel
theorem dX10_pour_43 : decode cX10_pour 43 = .ok (.invokestatic 140, 3) := by decide +kernel
theorem dX10_pour_46 : decode cX10_pour 46 = .ok (.iconst 1, 1) := by decide +kernel
theorem dX10_pour_47 : decode cX10_pour 47 = .ok (.ireturn, 1) := by decide +kernel
def w_X10_pour (x1 : Int32) (x2 : Int32) (x3 : Int32) (x4 : Int32) (x5 : Int32) (I : HI) (J : HJ) (Post : Bool → HI → HJ → Prop) : Prop :=
  w_X10_pourStatus x1 x2 x3 x4 x5 I J (fun (r_1 : Int32) => (w_X10_fails r_1 I J (fun (r_2 : Bool) (I_3 : HI) => ((r_2 = false → (vp_in x1 4 ∧ (vp_in x3 4 ∧ ((¬ x2 < 0 ∧ ¬ x4 < 0 ∧ ¬ x5 < 0 ∧ (Int32.toNatClampNeg x2) + (Int32.toNatClampNeg x5) ≤ 40 ∧ (Int32.toNatClampNeg x4) + (Int32.toNatClampNeg x5) ≤ 40) ∧ (∀ J_6 : HJ, J_6 = sJ J (2 + 2 * Int32.toNatClampNeg x3 + 1) (va_cpy (J (2 + 2 * Int32.toNatClampNeg x1 + 1)) (J (2 + 2 * Int32.toNatClampNeg x3 + 1)) (Int32.toNatClampNeg x2) (Int32.toNatClampNeg x4) (Int32.toNatClampNeg x5)) → (Post true I_3 J_6)))))) ∧ (r_2 = true → (Post false I_3 J))))))
set_option maxHeartbeats 4000000 in
set_option maxRecDepth 20000 in
theorem we_X10_pour (g : kf_G) (hg : kf_g g) {x : kf_X} (hx : kf_ok g x RX10 cX10_pour 6 2 120) (x1 : Int32) (x2 : Int32) (x3 : Int32) (x4 : Int32) (x5 : Int32) (I : HI) (J : HJ) (Post : Bool → HI → HJ → Prop) (hret : ∀ (pc : Nat) (lv : List (Nat × Value)) (v : Bool) (Iy : HI) (Jy : HJ), decode cX10_pour pc = .ok (.ireturn, 1) → Post v Iy Jy → kf_M g x 6 pc lv [.int (kb v)] Iy Jy) (h : w_X10_pour x1 x2 x3 x4 x5 I J Post) : kf_M g x 6 0 [(0, .ref (g.2.2.2 0)), (1, .int x1), (2, .int x2), (3, .int x3), (4, .int x4), (5, .int x5)] [] I J := by
  unfold w_X10_pour at h
  refine kf_aload_n hx dX10_pour_0 rfl 0 rfl ?_
  refine kf_aload_n hx dX10_pour_1 rfl 0 rfl ?_
  refine kf_iload_n hx dX10_pour_2 rfl 1 rfl ?_
  refine kf_iload_n hx dX10_pour_3 rfl 2 rfl ?_
  refine kf_iload_n hx dX10_pour_4 rfl 3 rfl ?_
  refine kf_iload hx dX10_pour_5 4 rfl ?_
  refine kf_iload hx dX10_pour_7 5 rfl ?_
  refine kf_callViP (st := [.ref (g.2.2.2 0)]) hx (m_X10_pourStatus g hg x1 x2 x3 x4 x5 I J _ h) lk_RX10_136 km_X10_pourStatus ob_0 rfl (by decide) rfl (Nat.le_of_ble_eq_true rfl) dX10_pour_9 (fun r_1 h => ?_)
  refine kf_callVbI (st := []) hx (m_X10_fails g hg r_1 I J _ h) lk_RX10_115 km_X10_fails ob_0 rfl (by decide) rfl (Nat.le_of_ble_eq_true rfl) dX10_pour_12 (fun r_2 I_3 h => ?_)
  refine kf_ifB_eq hx 20 dX10_pour_15 (by decide) (fun c => ?_) (fun c => ?_)
  · replace h := h.1 c
    refine kf_aload_n hx dX10_pour_20 rfl 0 rfl ?_
    refine kf_getR (n := 1) hx sl_0_0 fl_RX10_11 dX10_pour_21 ?_
    refine kf_iload_n hx dX10_pour_24 rfl 1 rfl ?_
    have hb_4 := h.1
    refine kf_aald hx ar_1 rfl rfl h.1 dX10_pour_25 ?_
    replace h := h.2
    refine kf_getR (n := (2 + 2 * Int32.toNatClampNeg x1 + 1)) hx (st_0 (tr_of hb_4)) fl_RX10_132 dX10_pour_26 ?_
    refine kf_iload_n hx dX10_pour_29 rfl 2 rfl ?_
    refine kf_aload_n hx dX10_pour_30 rfl 0 rfl ?_
    refine kf_getR (n := 1) hx sl_0_0 fl_RX10_11 dX10_pour_31 ?_
    refine kf_iload_n hx dX10_pour_34 rfl 3 rfl ?_
    have hb_5 := h.1
    refine kf_aald hx ar_1 rfl rfl h.1 dX10_pour_35 ?_
    replace h := h.2
    refine kf_getR (n := (2 + 2 * Int32.toNatClampNeg x3 + 1)) hx (st_0 (tr_of hb_5)) fl_RX10_132 dX10_pour_36 ?_
    refine kf_iload hx dX10_pour_39 4 rfl ?_
    refine kf_iload hx dX10_pour_41 5 rfl ?_
    refine kf_cpyJ (st := []) hx la_RX10_140 la_w (st_r (tr_of hb_4)) (st_r (tr_of hb_5)) h.1.1 h.1.2.1 h.1.2.2.1 h.1.2.2.2.1 h.1.2.2.2.2 (by decide) (by decide) dX10_pour_43 ?_
    replace h := h.2
    refine kf_nmJ (fun J_6 eJ_6 => ?_)
    replace h := h J_6 eJ_6
    refine kf_iconst (v := 1) hx dX10_pour_46 (by decide) ?_
    exact hret _ _ true _ _ dX10_pour_47 h
  · replace h := h.2 c
    refine kf_iconst (v := 0) hx dX10_pour_18 (by decide) ?_
    exact hret _ _ false _ _ dX10_pour_19 h
set_option maxHeartbeats 4000000 in
set_option maxRecDepth 20000 in
theorem m_X10_pour (g : kf_G) (hg : kf_g g) (x1 : Int32) (x2 : Int32) (x3 : Int32) (x4 : Int32) (x5 : Int32) (I : HI) (J : HJ) (Post : Bool → HI → HJ → Prop) (h : w_X10_pour x1 x2 x3 x4 x5 I J Post) : kf_Mb g yX10_pour (kf_W yX10_pour cX10_pour 6 (Option.some Jvm.ClassFile.FieldType.boolean)) 2 120 [.ref (g.2.2.2 0), .int x1, .int x2, .int x3, .int x4, .int x5] I J Post :=
  kf_entb hg (by decide) (Nat.le_of_ble_eq_true rfl) rfl (fun x hx hr => we_X10_pour g hg hx x1 x2 x3 x4 x5 I J Post (fun pc lv v I' J' hd hP => hr pc lv v I' J' hd hP) h)
theorem dX10_layOnTape_0 : decode cX10_layOnTape 0 = .ok (.bipush 24, 2) := by decide +kernel
theorem dX10_layOnTape_2 : decode cX10_layOnTape 2 = .ok (.istore_n 2, 1) := by decide +kernel
theorem dX10_layOnTape_3 : decode cX10_layOnTape 3 = .ok (.iload_n 2, 1) := by decide +kernel
theorem dX10_layOnTape_4 : decode cX10_layOnTape 4 = .ok (.ifCond .lt 42, 3) := by decide +kernel
theorem dX10_layOnTape_7 : decode cX10_layOnTape 7 = .ok (.aload_n 0, 1) := by decide +kernel
theorem dX10_layOnTape_8 : decode cX10_layOnTape 8 = .ok (.getfield 164, 3) := by decide +kernel
theorem dX10_layOnTape_11 : decode cX10_layOnTape 11 = .ok (.sipush 600, 3) := by decide +kernel
theorem dX10_layOnTape_14 : decode cX10_layOnTape 14 = .ok (.if_icmp .ge 32, 3) := by decide +kernel
theorem dX10_layOnTape_17 : decode cX10_layOnTape 17 = .ok (.aload_n 0, 1) := by decide +kernel
theorem dX10_layOnTape_18 : decode cX10_layOnTape 18 = .ok (.getfield 15, 3) := by decide +kernel
theorem dX10_layOnTape_21 : decode cX10_layOnTape 21 = .ok (.aload_n 0, 1) := by decide +kernel
theorem dX10_layOnTape_22 : decode cX10_layOnTape 22 = .ok (.getfield 164, 3) := by decide +kernel
theorem dX10_layOnTape_25 : decode cX10_layOnTape 25 = .ok (.iload_n 1, 1) := by decide +kernel
theorem dX10_layOnTape_26 : decode cX10_layOnTape 26 = .ok (.iload_n 2, 1) := by decide +kernel
theorem dX10_layOnTape_27 : decode cX10_layOnTape 27 = .ok (.ishr, 1) := by decide +kernel
theorem dX10_layOnTape_28 : decode cX10_layOnTape 28 = .ok (.i2b, 1) := by decide +kernel
theorem dX10_layOnTape_29 : decode cX10_layOnTape 29 = .ok (.bastore, 1) := by decide +kernel
theorem dX10_layOnTape_30 : decode cX10_layOnTape 30 = .ok (.aload_n 0, 1) := by decide +kernel
theorem dX10_layOnTape_31 : decode cX10_layOnTape 31 = .ok (.dup, 1) := by decide +kernel
theorem dX10_layOnTape_32 : decode cX10_layOnTape 32 = .ok (.getfield 164, 3) := by decide +kernel
theorem dX10_layOnTape_35 : decode cX10_layOnTape 35 = .ok (.iconst 1, 1) := by decide +kernel
theorem dX10_layOnTape_36 : decode cX10_layOnTape 36 = .ok (.iadd, 1) := by decide +kernel
theorem dX10_layOnTape_37 : decode cX10_layOnTape 37 = .ok (.putfield 164, 3) := by decide +kernel
theorem dX10_layOnTape_40 : decode cX10_layOnTape 40 = .ok (.iinc 2 (-8), 3) := by decide +kernel
theorem dX10_layOnTape_43 : decode cX10_layOnTape 43 = .ok (.goto (-40), 3) := by decide +kernel
theorem dX10_layOnTape_46 : decode cX10_layOnTape 46 = .ok (.return_, 1) := by decide +kernel
def wb_X10_layOnTape_3 (J : HJ) (x1 : Int32) (Post : HI → Prop) (E3 : HI → Prop) (K3 : (Int32 × HI) → Prop) (s : Int32 × HI) : Prop :=
  match s with
  | (x2, I) => (x2 < 0 → (E3 I)) ∧ (¬ x2 < 0 → ((600 ≤ (I 0 13) → (E3 I)) ∧ (¬ 600 ≤ (I 0 13) → (vp_in (I 0 13) 600 ∧ (∀ I_1 : HI, I_1 = hI I 10 (Int32.toNatClampNeg (I 0 13)) (vp_nar .byte (Int8.toInt32 (Int32.toInt8 (x1 >>> (x2 &&& 31))))) → (∀ I_2 : HI, I_2 = hI I_1 0 13 ((I_1 0 13) + 1) → (K3 ((x2 + (-8)), I_2))))))))
set_option maxHeartbeats 4000000 in
set_option maxRecDepth 20000 in
theorem ws_X10_layOnTape_3 (g : kf_G) (hg : kf_g g) {x : kf_X} (hx : kf_ok g x RX10 cX10_layOnTape 3 0 0) (J : HJ) (x1 : Int32) (Post : HI → Prop) (hret : ∀ (pc : Nat) (lv : List (Nat × Value)) (Iy : HI), decode cX10_layOnTape pc = .ok (.return_, 1) → Post Iy → kf_M g x 3 pc lv [] Iy J) (E3 : HI → Prop) (hE3 : ∀ (Iy : HI), E3 Iy → kf_M g x 3 46 [] [] Iy J) (K3 : (Int32 × HI) → Prop) (hK3 : ∀ (y2 : Int32) (Iy : HI), K3 (y2, Iy) → kf_M g x 3 3 [(0, .ref (g.2.2.2 0)), (1, .int x1), (2, .int y2)] [] Iy J) (x2 : Int32) (I : HI) (h : wb_X10_layOnTape_3 J x1 Post E3 K3 (x2, I)) : kf_M g x 3 3 [(0, .ref (g.2.2.2 0)), (1, .int x1), (2, .int x2)] [] I J := by
  unfold wb_X10_layOnTape_3 at h
  refine kf_iload_n hx dX10_layOnTape_3 rfl 2 rfl ?_
  refine kf_if_lt hx 46 dX10_layOnTape_4 (by decide) (fun c => ?_) (fun c => ?_)
  · replace h := h.1 c
    refine kf_sub [] rfl ?_
    exact hE3 _ h
  · replace h := h.2 c
    refine kf_aload_n hx dX10_layOnTape_7 rfl 0 rfl ?_
    refine kf_getI hx sl_0_13 fl_RX10_164 dX10_layOnTape_8 ?_
    refine kf_sipush (v := 600) hx dX10_layOnTape_11 (by decide) ?_
    refine kf_icmp_ge hx 46 dX10_layOnTape_14 (by decide) (fun c => ?_) (fun c => ?_)
    · replace h := h.1 c
      refine kf_sub [] rfl ?_
      exact hE3 _ h
    · replace h := h.2 c
      refine kf_aload_n hx dX10_layOnTape_17 rfl 0 rfl ?_
      refine kf_getR (n := 10) hx sl_0_1 fl_RX10_15 dX10_layOnTape_18 ?_
      refine kf_aload_n hx dX10_layOnTape_21 rfl 0 rfl ?_
      refine kf_getI hx sl_0_13 fl_RX10_164 dX10_layOnTape_22 ?_
      refine kf_iload_n hx dX10_layOnTape_25 rfl 1 rfl ?_
      refine kf_iload_n hx dX10_layOnTape_26 rfl 2 rfl ?_
      refine kf_ishr hx dX10_layOnTape_27 ?_
      refine kf_i2b hx dX10_layOnTape_28 ?_
      refine kf_bast hx ar_10 h.1 dX10_layOnTape_29 ?_
      replace h := h.2
      refine kf_nmI (fun I_1 eI_1 => ?_)
      replace h := h I_1 eI_1
      refine kf_aload_n hx dX10_layOnTape_30 rfl 0 rfl ?_
      refine kf_dup hx dX10_layOnTape_31 rfl ?_
      refine kf_getI hx sl_0_13 fl_RX10_164 dX10_layOnTape_32 ?_
      refine kf_iconst (v := 1) hx dX10_layOnTape_35 (by decide) ?_
      refine kf_iadd hx dX10_layOnTape_36 ?_
      refine kf_putI hx sl_0_13 fl_RX10_164 fp_10_13 dX10_layOnTape_37 ?_
      refine kf_nmI (fun I_2 eI_2 => ?_)
      replace h := h I_2 eI_2
      refine kf_iinc (w := (x2 + (-8))) (lv' := [(2, .int (x2 + (-8))), (0, .ref (g.2.2.2 0)), (1, .int x1)]) hx dX10_layOnTape_40 2 rfl rfl (by decide) rfl ?_
      refine kf_goto hx 3 dX10_layOnTape_43 (by decide) ?_
      refine kf_sub [1, 2, 0] rfl ?_
      exact hK3 _ _ h
theorem wl_X10_layOnTape_3 (g : kf_G) (hg : kf_g g) {x : kf_X} (hx : kf_ok g x RX10 cX10_layOnTape 3 0 0) (J : HJ) (x1 : Int32) (Post : HI → Prop) (hret : ∀ (pc : Nat) (lv : List (Nat × Value)) (Iy : HI), decode cX10_layOnTape pc = .ok (.return_, 1) → Post Iy → kf_M g x 3 pc lv [] Iy J) (E3 : HI → Prop) (hE3 : ∀ (Iy : HI), E3 Iy → kf_M g x 3 46 [] [] Iy J) : ∀ (n : Nat) (x2 : Int32) (I : HI), lp (wb_X10_layOnTape_3 J x1 Post E3) n (x2, I) → kf_M g x 3 3 [(0, .ref (g.2.2.2 0)), (1, .int x1), (2, .int x2)] [] I J := by
  intro n
  induction n with
  | zero => intro x2 I h; exact h.elim
  | succ n ih => intro x2 I h; exact ws_X10_layOnTape_3 g hg hx J x1 Post hret E3 hE3 (lp (wb_X10_layOnTape_3 J x1 Post E3) n) ih x2 I h
def w_X10_layOnTape (x1 : Int32) (I : HI) (J : HJ) (Post : HI → Prop) : Prop :=
  ∃ n, lp (wb_X10_layOnTape_3 J x1 Post (fun (I_3 : HI) => Post I_3)) n (24, I)
set_option maxHeartbeats 4000000 in
set_option maxRecDepth 20000 in
theorem we_X10_layOnTape (g : kf_G) (hg : kf_g g) {x : kf_X} (hx : kf_ok g x RX10 cX10_layOnTape 3 0 0) (x1 : Int32) (I : HI) (J : HJ) (Post : HI → Prop) (hret : ∀ (pc : Nat) (lv : List (Nat × Value)) (Iy : HI), decode cX10_layOnTape pc = .ok (.return_, 1) → Post Iy → kf_M g x 3 pc lv [] Iy J) (h : w_X10_layOnTape x1 I J Post) : kf_M g x 3 0 [(0, .ref (g.2.2.2 0)), (1, .int x1)] [] I J := by
  unfold w_X10_layOnTape at h
  refine kf_bipush (v := 24) hx dX10_layOnTape_0 (by decide) ?_
  refine kf_istore_n (lv' := [(2, .int 24), (0, .ref (g.2.2.2 0)), (1, .int x1)]) hx dX10_layOnTape_2 rfl (by decide) rfl ?_
  obtain ⟨n, h⟩ := h
  refine kf_sub [1, 2, 0] rfl ?_
  refine wl_X10_layOnTape_3 g hg hx J x1 _ hret _ (fun I_3 h => ?_) n _ _ h
  exact hret _ _ _ dX10_layOnTape_46 h
set_option maxHeartbeats 4000000 in
set_option maxRecDepth 20000 in
theorem m_X10_layOnTape (g : kf_G) (hg : kf_g g) (x1 : Int32) (I : HI) (J : HJ) (Post : HI → Prop) (h : w_X10_layOnTape x1 I J Post) : kf_Mv g yX10_layOnTape (kf_W yX10_layOnTape cX10_layOnTape 3 (Option.none : Option Jvm.ClassFile.FieldType)) 0 0 [.ref (g.2.2.2 0), .int x1] I J (fun I' J' => Post I' ∧ J' = J) :=
  kf_entv hg (by decide) (Nat.le_of_ble_eq_true rfl) rfl (fun x hx hr => we_X10_layOnTape g hg hx x1 I J Post (fun pc lv I' hd hP => hr pc lv I' J hd ⟨hP, rfl⟩) h)
theorem dX10_feed_0 : decode cX10_feed 0 = .ok (.aload_n 0, 1) := by decide +kernel
theorem dX10_feed_1 : decode cX10_feed 1 = .ok (.getfield 164, 3) := by decide +kernel
theorem dX10_feed_4 : decode cX10_feed 4 = .ok (.bipush 20, 2) := by decide +kernel
theorem dX10_feed_6 : decode cX10_feed 6 = .ok (.iadd, 1) := by decide +kernel
theorem dX10_feed_7 : decode cX10_feed 7 = .ok (.sipush 600, 3) := by decide +kernel
theorem dX10_feed_10 : decode cX10_feed 10 = .ok (.if_icmp .le 5, 3) := by decide +kernel
theorem dX10_feed_13 : decode cX10_feed 13 = .ok (.iconst (-1), 1) := by decide +kernel
theorem dX10_feed_14 : decode cX10_feed 14 = .ok (.ireturn, 1) := by decide +kernel
theorem dX10_feed_15 : decode cX10_feed 15 = .ok (.aload_n 0, 1) := by decide +kernel
theorem dX10_feed_16 : decode cX10_feed 16 = .ok (.iload_n 1, 1) := by decide +kernel
theorem dX10_feed_17 : decode cX10_feed 17 = .ok (.invokevirtual 167, 3) := by decide +kernel
theorem dX10_feed_20 : decode cX10_feed 20 = .ok (.aload_n 0, 1) := by decide +kernel
theorem dX10_feed_21 : decode cX10_feed 21 = .ok (.iload_n 2, 1) := by decide +kernel
theorem dX10_feed_22 : decode cX10_feed 22 = .ok (.invokevirtual 167, 3) := by decide +kernel
theorem dX10_feed_25 : decode cX10_feed 25 = .ok (.aload_n 0, 1) := by decide +kernel
theorem dX10_feed_26 : decode cX10_feed 26 = .ok (.iload_n 3, 1) := by decide +kernel
theorem dX10_feed_27 : decode cX10_feed 27 = .ok (.invokevirtual 167, 3) := by decide +kernel
theorem dX10_feed_30 : decode cX10_feed 30 = .ok (.aload_n 0, 1) := by decide +kernel
theorem dX10_feed_31 : decode cX10_feed 31 = .ok (.iload 4, 2) := by decide +kernel
theorem dX10_feed_33 : decode cX10_feed 33 = .ok (.invokevirtual 167, 3) := by decide +kernel
theorem dX10_feed_36 : decode cX10_feed 36 = .ok (.aload_n 0, 1) := by decide +kernel
theorem dX10_feed_37 : decode cX10_feed 37 = .ok (.iload 5, 2) := by decide +kernel
theorem dX10_feed_39 : decode cX10_feed 39 = .ok (.invokevirtual 167, 3) := by decide +kernel
theorem dX10_feed_42 : decode cX10_feed 42 = .ok (.aload_n 0, 1) := by decide +kernel
theorem dX10_feed_43 : decode cX10_feed 43 = .ok (.getfield 164, 3) := by decide +kernel
theorem dX10_feed_46 : decode cX10_feed 46 = .ok (.ireturn, 1) := by decide +kernel
def w_X10_feed (x1 : Int32) (x2 : Int32) (x3 : Int32) (x4 : Int32) (x5 : Int32) (I : HI) (J : HJ) (Post : Int32 → HI → Prop) : Prop :=
  (((I 0 13) + 20) ≤ 600 → (w_X10_layOnTape x1 I J (fun (I_1 : HI) => (w_X10_layOnTape x2 I_1 J (fun (I_2 : HI) => (w_X10_layOnTape x3 I_2 J (fun (I_3 : HI) => (w_X10_layOnTape x4 I_3 J (fun (I_4 : HI) => (w_X10_layOnTape x5 I_4 J (fun (I_5 : HI) => (Post (I_5 0 13) I_5)))))))))))) ∧ (¬ ((I 0 13) + 20) ≤ 600 → (Post (-1) I))
set_option maxHeartbeats 4000000 in
set_option maxRecDepth 20000 in
theorem we_X10_feed (g : kf_G) (hg : kf_g g) {x : kf_X} (hx : kf_ok g x RX10 cX10_feed 6 1 22) (x1 : Int32) (x2 : Int32) (x3 : Int32) (x4 : Int32) (x5 : Int32) (I : HI) (J : HJ) (Post : Int32 → HI → Prop) (hret : ∀ (pc : Nat) (lv : List (Nat × Value)) (v : Int32) (Iy : HI), decode cX10_feed pc = .ok (.ireturn, 1) → Post v Iy → kf_M g x 6 pc lv [.int v] Iy J) (h : w_X10_feed x1 x2 x3 x4 x5 I J Post) : kf_M g x 6 0 [(0, .ref (g.2.2.2 0)), (1, .int x1), (2, .int x2), (3, .int x3), (4, .int x4), (5, .int x5)] [] I J := by
  unfold w_X10_feed at h
  refine kf_aload_n hx dX10_feed_0 rfl 0 rfl ?_
  refine kf_getI hx sl_0_13 fl_RX10_164 dX10_feed_1 ?_
  refine kf_bipush (v := 20) hx dX10_feed_4 (by decide) ?_
  refine kf_iadd hx dX10_feed_6 ?_
  refine kf_sipush (v := 600) hx dX10_feed_7 (by decide) ?_
  refine kf_icmp_le hx 15 dX10_feed_10 (by decide) (fun c => ?_) (fun c => ?_)
  · replace h := h.1 c
    refine kf_aload_n hx dX10_feed_15 rfl 0 rfl ?_
    refine kf_iload_n hx dX10_feed_16 rfl 1 rfl ?_
    refine kf_callVvI (st := []) hx (m_X10_layOnTape g hg x1 I J _ h) lk_RX10_167 km_X10_layOnTape ob_0 rfl (by decide) rfl (Nat.le_of_ble_eq_true rfl) dX10_feed_17 (fun I_1 h => ?_)
    refine kf_aload_n hx dX10_feed_20 rfl 0 rfl ?_
    refine kf_iload_n hx dX10_feed_21 rfl 2 rfl ?_
    refine kf_callVvI (st := []) hx (m_X10_layOnTape g hg x2 I_1 J _ h) lk_RX10_167 km_X10_layOnTape ob_0 rfl (by decide) rfl (Nat.le_of_ble_eq_true rfl) dX10_feed_22 (fun I_2 h => ?_)
    refine kf_aload_n hx dX10_feed_25 rfl 0 rfl ?_
    refine kf_iload_n hx dX10_feed_26 rfl 3 rfl ?_
    refine kf_callVvI (st := []) hx (m_X10_layOnTape g hg x3 I_2 J _ h) lk_RX10_167 km_X10_layOnTape ob_0 rfl (by decide) rfl (Nat.le_of_ble_eq_true rfl) dX10_feed_27 (fun I_3 h => ?_)
    refine kf_aload_n hx dX10_feed_30 rfl 0 rfl ?_
    refine kf_iload hx dX10_feed_31 4 rfl ?_
    refine kf_callVvI (st := []) hx (m_X10_layOnTape g hg x4 I_3 J _ h) lk_RX10_167 km_X10_layOnTape ob_0 rfl (by decide) rfl (Nat.le_of_ble_eq_true rfl) dX10_feed_33 (fun I_4 h => ?_)
    refine kf_aload_n hx dX10_feed_36 rfl 0 rfl ?_
    refine kf_iload hx dX10_feed_37 5 rfl ?_
    refine kf_callVvI (st := []) hx (m_X10_layOnTape g hg x5 I_4 J _ h) lk_RX10_167 km_X10_layOnTape ob_0 rfl (by decide) rfl (Nat.le_of_ble_eq_true rfl) dX10_feed_39 (fun I_5 h => ?_)
    refine kf_aload_n hx dX10_feed_42 rfl 0 rfl ?_
    refine kf_getI hx sl_0_13 fl_RX10_164 dX10_feed_43 ?_
    exact hret _ _ (I_5 0 13) _ dX10_feed_46 h
  · replace h := h.2 c
    refine kf_iconst (v := (-1)) hx dX10_feed_13 (by decide) ?_
    exact hret _ _ (-1) _ dX10_feed_14 h
set_option maxHeartbeats 4000000 in
set_option maxRecDepth 20000 in
theorem m_X10_feed (g : kf_G) (hg : kf_g g) (x1 : Int32) (x2 : Int32) (x3 : Int32) (x4 : Int32) (x5 : Int32) (I : HI) (J : HJ) (Post : Int32 → HI → Prop) (h : w_X10_feed x1 x2 x3 x4 x5 I J Post) : kf_Mi g yX10_feed (kf_W yX10_feed cX10_feed 6 (Option.some Jvm.ClassFile.FieldType.int)) 1 22 [.ref (g.2.2.2 0), .int x1, .int x2, .int x3, .int x4, .int x5] I J (fun v I' J' => Post v I' ∧ J' = J) :=
  kf_enti hg (by decide) (Nat.le_of_ble_eq_true rfl) rfl (fun x hx hr => we_X10_feed g hg hx x1 x2 x3 x4 x5 I J Post (fun pc lv v I' hd hP => hr pc lv v I' J hd ⟨hP, rfl⟩) h)
theorem dX10_net_0 : decode cX10_net 0 = .ok (.aload_n 0, 1) := by decide +kernel
theorem dX10_net_1 : decode cX10_net 1 = .ok (.iload_n 1, 1) := by decide +kernel
theorem dX10_net_2 : decode cX10_net 2 = .ok (.ifCond .lt 11, 3) := by decide +kernel
theorem dX10_net_5 : decode cX10_net 5 = .ok (.iload_n 1, 1) := by decide +kernel
theorem dX10_net_6 : decode cX10_net 6 = .ok (.aload_n 0, 1) := by decide +kernel
theorem dX10_net_7 : decode cX10_net 7 = .ok (.getfield 164, 3) := by decide +kernel
theorem dX10_net_10 : decode cX10_net 10 = .ok (.if_icmp .le 7, 3) := by decide +kernel
theorem dX10_net_13 : decode cX10_net 13 = .ok (.iconst 5, 1) := by decide +kernel
theorem dX10_net_14 : decode cX10_net 14 = .ok (.goto 4, 3) := by decide +kernel
theorem dX10_net_17 : decode cX10_net 17 = .ok (.iconst 0, 1) := by decide +kernel
theorem dX10_net_18 : decode cX10_net 18 = .ok (.invokevirtual 115, 3) := by decide +kernel
theorem dX10_net_21 : decode cX10_net 21 = .ok (.ifCond .eq 5, 3) := by decide +kernel
theorem dX10_net_24 : decode cX10_net 24 = .ok (.iconst (-1), 1) := by decide +kernel
theorem dX10_net_25 : decode cX10_net 25 = .ok (.ireturn, 1) := by decide +kernel
theorem dX10_net_26 : decode cX10_net 26 = .ok (.aload_n 0, 1) := by decide +kernel
theorem dX10_net_27 : decode cX10_net 27 = .ok (.iconst 0, 1) := by decide +kernel
theorem dX10_net_28 : decode cX10_net 28 = .ok (.putfield 164, 3) := by decide +kernel
theorem dX10_net_31 : decode cX10_net 31 = .ok (.aload_n 0, 1) := by decide +kernel
theorem dX10_net_32 : decode cX10_net 32 = .ok (.getfield 41, 3) := by decide +kernel
theorem dX10_net_35 : decode cX10_net 35 = .ok (.iload_n 1, 1) := by decide +kernel
theorem dX10_net_36 : decode cX10_net 36 = .ok (.invokevirtual 171, 3) := by decide +kernel
theorem dX10_net_39 : decode cX10_net 39 = .ok (.aload_n 0, 1) := by decide +kernel
theorem dX10_net_40 : decode cX10_net 40 = .ok (.aload_n 0, 1) := by decide +kernel
theorem dX10_net_41 : decode cX10_net 41 = .ok (.getfield 41, 3) := by decide +kernel
theorem dX10_net_44 : decode cX10_net 44 = .ok (.getfield 174, 3) := by decide +kernel
theorem dX10_net_47 : decode cX10_net 47 = .ok (.putfield 93, 3) := by decide +kernel
theorem dX10_net_50 : decode cX10_net 50 = .ok (.aload_n 0, 1) := by decide +kernel
theorem dX10_net_51 : decode cX10_net 51 = .ok (.aload_n 0, 1) := by decide +kernel
theorem dX10_net_52 : decode cX10_net 52 = .ok (.getfield 41, 3) := by decide +kernel
theorem dX10_net_55 : decode cX10_net 55 = .ok (.getfield 175, 3) := by decide +kernel
theorem dX10_net_58 : decode cX10_net 58 = .ok (.putfield 97, 3) := by decide +kernel
theorem dX10_net_61 : decode cX10_net 61 = .ok (.aload_n 0, 1) := by decide +kernel
theorem dX10_net_62 : decode cX10_net 62 = .ok (.aload_n 0, 1) := by decide +kernel
theorem dX10_net_63 : decode cX10_net 63 = .ok (.getfield 93, 3) := by decide +kernel
theorem dX10_net_66 : decode cX10_net 66 = .ok (.ifCond .eq 8, 3) := by decide +kernel
theorem dX10_net_69 : decode cX10_net 69 = .ok (.bipush 10, 2) := by decide +kernel
theorem dX10_net_71 : decode cX10_net 71 = .ok (.goto 4, 3) := by decide +kernel
theorem dX10_net_74 : decode cX10_net 74 = .ok (.iconst 0, 1) := by decide +kernel
theorem dX10_net_75 : decode cX10_net 75 = .ok (.invokevirtual 115, 3) := by decide +kernel
theorem dX10_net_78 : decode cX10_net 78 = .ok (.ifCond .eq 5, 3) := by decide +kernel
theorem dX10_net_81 : decode cX10_net 81 = .ok (.iconst (-1), 1) := by decide +kernel
theorem dX10_net_82 : decode cX10_net 82 = .ok (.ireturn, 1) := by decide +kernel
theorem dX10_net_83 : decode cX10_net 83 = .ok (.aload_n 0, 1) := by decide +kernel
theorem dX10_net_84 : decode cX10_net 84 = .ok (.getfield 29, 3) := by decide +kernel
theorem dX10_net_87 : decode cX10_net 87 = .ok (.aload_n 0, 1) := by decide +kernel
theorem dX10_net_88 : decode cX10_net 88 = .ok (.getfield 33, 3) := by decide +kernel
theorem dX10_net_91 : decode cX10_net 91 = .ok (.invokevirtual 176, 3) := by decide +kernel
theorem dX10_net_94 : decode cX10_net 94 = .ok (.aload_n 0, 1) := by decide +kernel
theorem dX10_net_95 : decode cX10_net 95 = .ok (.getfield 50, 3) := by decide +kernel
theorem dX10_net_98 : decode cX10_net 98 = .ok (.invokevirtual 179, 3) := by decide +kernel
theorem dX10_net_101 : decode cX10_net 101 = .ok (.aload_n 0, 1) := by decide +kernel
theorem dX10_net_102 : decode cX10_net 102 = .ok (.getfield 89, 3) := by decide +kernel
theorem dX10_net_105 : decode cX10_net 105 = .ok (.invokevirtual 182, 3) := by decide +kernel
theorem dX10_net_108 : decode cX10_net 108 = .ok (.aload_n 0, 1) := by decide +kernel
theorem dX10_net_109 : decode cX10_net 109 = .ok (.getfield 29, 3) := by decide +kernel
theorem dX10_net_112 : decode cX10_net 112 = .ok (.getfield 185, 3) := by decide +kernel
theorem dX10_net_115 : decode cX10_net 115 = .ok (.ireturn, 1) := by decide +kernel
def wj_X10_net_75 (I : HI) (J : HJ) (t0 : Int32) (Post : Int32 → HI → HJ → Prop) : Prop :=
  w_X10_fails t0 I J (fun (r_8 : Bool) (I_9 : HI) => ((r_8 = false → (w_X4_copyFrom  I_9 J (fun (I_10 : HI) => (w_X2_weighAll  I_10 J (fun (J_11 : HJ) => (w_X6_forgetAll  I_10 J_11 (fun (I_12 : HI) => (Post (I_12 12 11) I_12 J_11)))))))) ∧ (r_8 = true → (Post (-1) I_9 J))))
set_option maxHeartbeats 4000000 in
set_option maxRecDepth 20000 in
theorem wk_X10_net_75 (g : kf_G) (hg : kf_g g) {x : kf_X} (hx : kf_ok g x RX10 cX10_net 2 6 141) (I : HI) (J : HJ) (t0 : Int32) (Post : Int32 → HI → HJ → Prop) (hret : ∀ (pc : Nat) (lv : List (Nat × Value)) (v : Int32) (Iy : HI) (Jy : HJ), decode cX10_net pc = .ok (.ireturn, 1) → Post v Iy Jy → kf_M g x 2 pc lv [.int v] Iy Jy) (h : wj_X10_net_75 I J t0 Post) : kf_M g x 2 75 [(0, .ref (g.2.2.2 0))] [.int t0, .ref (g.2.2.2 0)] I J := by
  unfold wj_X10_net_75 at h
  refine kf_callVbI (st := []) hx (m_X10_fails g hg t0 I J _ h) lk_RX10_115 km_X10_fails ob_0 rfl (by decide) rfl (Nat.le_of_ble_eq_true rfl) dX10_net_75 (fun r_8 I_9 h => ?_)
  refine kf_ifB_eq hx 83 dX10_net_78 (by decide) (fun c => ?_) (fun c => ?_)
  · replace h := h.1 c
    refine kf_aload_n hx dX10_net_83 rfl 0 rfl ?_
    refine kf_getR (n := 12) hx sl_0_3 fl_RX10_29 dX10_net_84 ?_
    refine kf_aload_n hx dX10_net_87 rfl 0 rfl ?_
    refine kf_getR (n := 24) hx sl_0_4 fl_RX10_33 dX10_net_88 ?_
    refine kf_callVvI (st := []) hx (m_X4_copyFrom g hg  I_9 J _ h) lk_RX10_176 km_X4_copyFrom ob_12 rfl (by decide) rfl (Nat.le_of_ble_eq_true rfl) dX10_net_91 (fun I_10 h => ?_)
    refine kf_aload_n hx dX10_net_94 rfl 0 rfl ?_
    refine kf_getR (n := 39) hx sl_0_6 fl_RX10_50 dX10_net_95 ?_
    refine kf_callVvJ (st := []) hx (m_X2_weighAll g hg  I_10 J _ h) lk_RX10_179 km_X2_weighAll ob_39 rfl (by decide) rfl (Nat.le_of_ble_eq_true rfl) dX10_net_98 (fun J_11 h => ?_)
    refine kf_aload_n hx dX10_net_101 rfl 0 rfl ?_
    refine kf_getR (n := 54) hx sl_0_11 fl_RX10_89 dX10_net_102 ?_
    refine kf_callVvI (st := []) hx (m_X6_forgetAll g hg  I_10 J_11 _ h) lk_RX10_182 km_X6_forgetAll ob_54 rfl (by decide) rfl (Nat.le_of_ble_eq_true rfl) dX10_net_105 (fun I_12 h => ?_)
    refine kf_aload_n hx dX10_net_108 rfl 0 rfl ?_
    refine kf_getR (n := 12) hx sl_0_3 fl_RX10_29 dX10_net_109 ?_
    refine kf_getI hx sl_12_11 fl_RX10_185 dX10_net_112 ?_
    exact hret _ _ (I_12 12 11) _ _ dX10_net_115 h
  · replace h := h.2 c
    refine kf_iconst (v := (-1)) hx dX10_net_81 (by decide) ?_
    exact hret _ _ (-1) _ _ dX10_net_82 h
def wj_X10_net_18 (I : HI) (J : HJ) (x1 : Int32) (t0 : Int32) (Post : Int32 → HI → HJ → Prop) : Prop :=
  w_X10_fails t0 I J (fun (r_1 : Bool) (I_2 : HI) => ((r_1 = false → (∀ I_3 : HI, I_3 = hI I_2 0 13 0 → (w_X5_readAll x1 I_3 J (fun (I_4 : HI) (J_5 : HJ) => (∀ I_6 : HI, I_6 = hI I_4 0 14 (I_4 36 11) → (∀ I_7 : HI, I_7 = hI I_6 0 15 (I_6 36 12) → (((I_7 0 14) = 0 → (wj_X10_net_75 I_7 J_5 0 Post)) ∧ (¬ (I_7 0 14) = 0 → (wj_X10_net_75 I_7 J_5 10 Post))))))))) ∧ (r_1 = true → (Post (-1) I_2 J))))
set_option maxHeartbeats 4000000 in
set_option maxRecDepth 20000 in
theorem wk_X10_net_18 (g : kf_G) (hg : kf_g g) {x : kf_X} (hx : kf_ok g x RX10 cX10_net 2 6 141) (I : HI) (J : HJ) (x1 : Int32) (t0 : Int32) (Post : Int32 → HI → HJ → Prop) (hret : ∀ (pc : Nat) (lv : List (Nat × Value)) (v : Int32) (Iy : HI) (Jy : HJ), decode cX10_net pc = .ok (.ireturn, 1) → Post v Iy Jy → kf_M g x 2 pc lv [.int v] Iy Jy) (h : wj_X10_net_18 I J x1 t0 Post) : kf_M g x 2 18 [(0, .ref (g.2.2.2 0)), (1, .int x1)] [.int t0, .ref (g.2.2.2 0)] I J := by
  unfold wj_X10_net_18 at h
  refine kf_callVbI (st := []) hx (m_X10_fails g hg t0 I J _ h) lk_RX10_115 km_X10_fails ob_0 rfl (by decide) rfl (Nat.le_of_ble_eq_true rfl) dX10_net_18 (fun r_1 I_2 h => ?_)
  refine kf_ifB_eq hx 26 dX10_net_21 (by decide) (fun c => ?_) (fun c => ?_)
  · replace h := h.1 c
    refine kf_aload_n hx dX10_net_26 rfl 0 rfl ?_
    refine kf_iconst (v := 0) hx dX10_net_27 (by decide) ?_
    refine kf_putI hx sl_0_13 fl_RX10_164 fp_10_13 dX10_net_28 ?_
    refine kf_nmI (fun I_3 eI_3 => ?_)
    replace h := h I_3 eI_3
    refine kf_aload_n hx dX10_net_31 rfl 0 rfl ?_
    refine kf_getR (n := 36) hx sl_0_5 fl_RX10_41 dX10_net_32 ?_
    refine kf_iload_n hx dX10_net_35 rfl 1 rfl ?_
    refine kf_callVv (st := []) hx (m_X5_readAll g hg x1 I_3 J _ h) lk_RX10_171 km_X5_readAll ob_36 rfl (by decide) rfl (Nat.le_of_ble_eq_true rfl) dX10_net_36 (fun I_4 J_5 h => ?_)
    refine kf_aload_n hx dX10_net_39 rfl 0 rfl ?_
    refine kf_aload_n hx dX10_net_40 rfl 0 rfl ?_
    refine kf_getR (n := 36) hx sl_0_5 fl_RX10_41 dX10_net_41 ?_
    refine kf_getI hx sl_36_11 fl_RX10_174 dX10_net_44 ?_
    refine kf_putI hx sl_0_14 fl_RX10_93 fp_10_14 dX10_net_47 ?_
    refine kf_nmI (fun I_6 eI_6 => ?_)
    replace h := h I_6 eI_6
    refine kf_aload_n hx dX10_net_50 rfl 0 rfl ?_
    refine kf_aload_n hx dX10_net_51 rfl 0 rfl ?_
    refine kf_getR (n := 36) hx sl_0_5 fl_RX10_41 dX10_net_52 ?_
    refine kf_getI hx sl_36_12 fl_RX10_175 dX10_net_55 ?_
    refine kf_putI hx sl_0_15 fl_RX10_97 fp_10_15 dX10_net_58 ?_
    refine kf_nmI (fun I_7 eI_7 => ?_)
    replace h := h I_7 eI_7
    refine kf_aload_n hx dX10_net_61 rfl 0 rfl ?_
    refine kf_aload_n hx dX10_net_62 rfl 0 rfl ?_
    refine kf_getI hx sl_0_14 fl_RX10_93 dX10_net_63 ?_
    refine kf_if_eq hx 74 dX10_net_66 (by decide) (fun c => ?_) (fun c => ?_)
    · replace h := h.1 c
      refine kf_iconst (v := 0) hx dX10_net_74 (by decide) ?_
      refine kf_sub [0] rfl ?_
      exact wk_X10_net_75 g hg hx I_7 J_5 0 _ hret h
    · replace h := h.2 c
      refine kf_bipush (v := 10) hx dX10_net_69 (by decide) ?_
      refine kf_goto hx 75 dX10_net_71 (by decide) ?_
      refine kf_sub [0] rfl ?_
      exact wk_X10_net_75 g hg hx I_7 J_5 10 _ hret h
  · replace h := h.2 c
    refine kf_iconst (v := (-1)) hx dX10_net_24 (by decide) ?_
    exact hret _ _ (-1) _ _ dX10_net_25 h
def wj_X10_net_13 (I : HI) (J : HJ) (x1 : Int32) (Post : Int32 → HI → HJ → Prop) : Prop :=
  wj_X10_net_18 I J x1 5 Post
set_option maxHeartbeats 4000000 in
set_option maxRecDepth 20000 in
theorem wk_X10_net_13 (g : kf_G) (hg : kf_g g) {x : kf_X} (hx : kf_ok g x RX10 cX10_net 2 6 141) (I : HI) (J : HJ) (x1 : Int32) (Post : Int32 → HI → HJ → Prop) (hret : ∀ (pc : Nat) (lv : List (Nat × Value)) (v : Int32) (Iy : HI) (Jy : HJ), decode cX10_net pc = .ok (.ireturn, 1) → Post v Iy Jy → kf_M g x 2 pc lv [.int v] Iy Jy) (h : wj_X10_net_13 I J x1 Post) : kf_M g x 2 13 [(0, .ref (g.2.2.2 0)), (1, .int x1)] [.ref (g.2.2.2 0)] I J := by
  unfold wj_X10_net_13 at h
  refine kf_iconst (v := 5) hx dX10_net_13 (by decide) ?_
  refine kf_goto hx 18 dX10_net_14 (by decide) ?_
  exact wk_X10_net_18 g hg hx I J x1 5 _ hret h
def w_X10_net (x1 : Int32) (I : HI) (J : HJ) (Post : Int32 → HI → HJ → Prop) : Prop :=
  (x1 < 0 → (wj_X10_net_13 I J x1 Post)) ∧ (¬ x1 < 0 → ((x1 ≤ (I 0 13) → (wj_X10_net_18 I J x1 0 Post)) ∧ (¬ x1 ≤ (I 0 13) → (wj_X10_net_13 I J x1 Post))))
set_option maxHeartbeats 4000000 in
set_option maxRecDepth 20000 in
theorem we_X10_net (g : kf_G) (hg : kf_g g) {x : kf_X} (hx : kf_ok g x RX10 cX10_net 2 6 141) (x1 : Int32) (I : HI) (J : HJ) (Post : Int32 → HI → HJ → Prop) (hret : ∀ (pc : Nat) (lv : List (Nat × Value)) (v : Int32) (Iy : HI) (Jy : HJ), decode cX10_net pc = .ok (.ireturn, 1) → Post v Iy Jy → kf_M g x 2 pc lv [.int v] Iy Jy) (h : w_X10_net x1 I J Post) : kf_M g x 2 0 [(0, .ref (g.2.2.2 0)), (1, .int x1)] [] I J := by
  unfold w_X10_net at h
  refine kf_aload_n hx dX10_net_0 rfl 0 rfl ?_
  refine kf_iload_n hx dX10_net_1 rfl 1 rfl ?_
  refine kf_if_lt hx 13 dX10_net_2 (by decide) (fun c => ?_) (fun c => ?_)
  · replace h := h.1 c
    exact wk_X10_net_13 g hg hx I J x1 _ hret h
  · replace h := h.2 c
    refine kf_iload_n hx dX10_net_5 rfl 1 rfl ?_
    refine kf_aload_n hx dX10_net_6 rfl 0 rfl ?_
    refine kf_getI hx sl_0_13 fl_RX10_164 dX10_net_7 ?_
    refine kf_icmp_le hx 17 dX10_net_10 (by decide) (fun c => ?_) (fun c => ?_)
    · replace h := h.1 c
      refine kf_iconst (v := 0) hx dX10_net_17 (by decide) ?_
      exact wk_X10_net_18 g hg hx I J x1 0 _ hret h
    · replace h := h.2 c
      exact wk_X10_net_13 g hg hx I J x1 _ hret h
set_option maxHeartbeats 4000000 in
set_option maxRecDepth 20000 in
theorem m_X10_net (g : kf_G) (hg : kf_g g) (x1 : Int32) (I : HI) (J : HJ) (Post : Int32 → HI → HJ → Prop) (h : w_X10_net x1 I J Post) : kf_Mi g yX10_net (kf_W yX10_net cX10_net 2 (Option.some Jvm.ClassFile.FieldType.int)) 6 141 [.ref (g.2.2.2 0), .int x1] I J Post :=
  kf_enti hg (by decide) (Nat.le_of_ble_eq_true rfl) rfl (fun x hx hr => we_X10_net g hg hx x1 I J Post (fun pc lv v I' J' hd hP => hr pc lv v I' J' hd hP) h)
theorem dX10_fault_0 : decode cX10_fault 0 = .ok (.iload_n 1, 1) := by decide +kernel
theorem dX10_fault_1 : decode cX10_fault 1 = .ok (.ifCond .ne 8, 3) := by decide +kernel
theorem dX10_fault_4 : decode cX10_fault 4 = .ok (.aload_n 0, 1) := by decide +kernel
theorem dX10_fault_5 : decode cX10_fault 5 = .ok (.getfield 93, 3) := by decide +kernel
theorem dX10_fault_8 : decode cX10_fault 8 = .ok (.ireturn, 1) := by decide +kernel
theorem dX10_fault_9 : decode cX10_fault 9 = .ok (.iload_n 1, 1) := by decide +kernel
theorem dX10_fault_10 : decode cX10_fault 10 = .ok (.iconst 1, 1) := by decide +kernel
theorem dX10_fault_11 : decode cX10_fault 11 = .ok (.if_icmp .ne 10, 3) := by decide +kernel
theorem dX10_fault_14 : decode cX10_fault 14 = .ok (.aload_n 0, 1) := by decide +kernel
theorem dX10_fault_15 : decode cX10_fault 15 = .ok (.getfield 97, 3) := by decide +kernel
theorem dX10_fault_18 : decode cX10_fault 18 = .ok (.goto 4, 3) := by decide +kernel
theorem dX10_fault_21 : decode cX10_fault 21 = .ok (.iconst (-1), 1) := by decide +kernel
theorem dX10_fault_22 : decode cX10_fault 22 = .ok (.ireturn, 1) := by decide +kernel
def w_X10_fault (x1 : Int32) (I : HI) (J : HJ) (Post : Int32 → Prop) : Prop :=
  (¬ x1 = 0 → ((¬ x1 = 1 → (Post (-1))) ∧ (x1 = 1 → (Post (I 0 15))))) ∧ (x1 = 0 → (Post (I 0 14)))
set_option maxHeartbeats 4000000 in
set_option maxRecDepth 20000 in
theorem we_X10_fault (g : kf_G) (hg : kf_g g) {x : kf_X} (hx : kf_ok g x RX10 cX10_fault 2 0 0) (x1 : Int32) (I : HI) (J : HJ) (Post : Int32 → Prop) (hret : ∀ (pc : Nat) (lv : List (Nat × Value)) (v : Int32), decode cX10_fault pc = .ok (.ireturn, 1) → Post v → kf_M g x 2 pc lv [.int v] I J) (h : w_X10_fault x1 I J Post) : kf_M g x 2 0 [(0, .ref (g.2.2.2 0)), (1, .int x1)] [] I J := by
  unfold w_X10_fault at h
  refine kf_iload_n hx dX10_fault_0 rfl 1 rfl ?_
  refine kf_if_ne hx 9 dX10_fault_1 (by decide) (fun c => ?_) (fun c => ?_)
  · replace h := h.1 c
    refine kf_iload_n hx dX10_fault_9 rfl 1 rfl ?_
    refine kf_iconst (v := 1) hx dX10_fault_10 (by decide) ?_
    refine kf_icmp_ne hx 21 dX10_fault_11 (by decide) (fun c => ?_) (fun c => ?_)
    · replace h := h.1 c
      refine kf_iconst (v := (-1)) hx dX10_fault_21 (by decide) ?_
      exact hret _ _ (-1)  dX10_fault_22 h
    · replace h := h.2 c
      refine kf_aload_n hx dX10_fault_14 rfl 0 rfl ?_
      refine kf_getI hx sl_0_15 fl_RX10_97 dX10_fault_15 ?_
      refine kf_goto hx 22 dX10_fault_18 (by decide) ?_
      exact hret _ _ (I 0 15)  dX10_fault_22 h
  · replace h := h.2 c
    refine kf_aload_n hx dX10_fault_4 rfl 0 rfl ?_
    refine kf_getI hx sl_0_14 fl_RX10_93 dX10_fault_5 ?_
    exact hret _ _ (I 0 14)  dX10_fault_8 h
set_option maxHeartbeats 4000000 in
set_option maxRecDepth 20000 in
theorem m_X10_fault (g : kf_G) (hg : kf_g g) (x1 : Int32) (I : HI) (J : HJ) (Post : Int32 → Prop) (h : w_X10_fault x1 I J Post) : kf_Mi g yX10_fault (kf_W yX10_fault cX10_fault 2 (Option.some Jvm.ClassFile.FieldType.int)) 0 0 [.ref (g.2.2.2 0), .int x1] I J (fun v I' J' => Post v ∧ I' = I ∧ J' = J) :=
  kf_enti hg (by decide) (Nat.le_of_ble_eq_true rfl) rfl (fun x hx hr => we_X10_fault g hg hx x1 I J Post (fun pc lv v hd hP => hr pc lv v I J hd ⟨hP, rfl, rfl⟩) h)
theorem dX10_many_0 : decode cX10_many 0 = .ok (.aload_n 0, 1) := by decide +kernel
theorem dX10_many_1 : decode cX10_many 1 = .ok (.iload_n 1, 1) := by decide +kernel
theorem dX10_many_2 : decode cX10_many 2 = .ok (.iconst 0, 1) := by decide +kernel
theorem dX10_many_3 : decode cX10_many 3 = .ok (.iconst 1, 1) := by decide +kernel
theorem dX10_many_4 : decode cX10_many 4 = .ok (.invokestatic 188, 3) := by decide +kernel
theorem dX10_many_7 : decode cX10_many 7 = .ok (.ifCond .eq 7, 3) := by decide +kernel
theorem dX10_many_10 : decode cX10_many 10 = .ok (.iconst 0, 1) := by decide +kernel
theorem dX10_many_11 : decode cX10_many 11 = .ok (.goto 4, 3) := by decide +kernel
theorem dX10_many_14 : decode cX10_many 14 = .ok (.iconst 5, 1) := by decide +kernel
theorem dX10_many_15 : decode cX10_many 15 = .ok (.invokevirtual 115, 3) := by decide +kernel
theorem dX10_many_18 : decode cX10_many 18 = .ok (.ifCond .eq 5, 3) := by decide +kernel
theorem dX10_many_21 : decode cX10_many 21 = .ok (.iconst (-1), 1) := by decide +kernel
theorem dX10_many_22 : decode cX10_many 22 = .ok (.ireturn, 1) := by decide +kernel
theorem dX10_many_23 : decode cX10_many 23 = .ok (.iload_n 1, 1) := by decide +kernel
theorem dX10_many_24 : decode cX10_many 24 = .ok (.ifCond .ne 13, 3) := by decide +kernel
theorem dX10_many_27 : decode cX10_many 27 = .ok (.aload_n 0, 1) := by decide +kernel
theorem dX10_many_28 : decode cX10_many 28 = .ok (.getfield 29, 3) := by decide +kernel
theorem dX10_many_31 : decode cX10_many 31 = .ok (.getfield 185, 3) := by decide +kernel
theorem dX10_many_34 : decode cX10_many 34 = .ok (.goto 10, 3) := by decide +kernel
theorem dX10_many_37 : decode cX10_many 37 = .ok (.aload_n 0, 1) := by decide +kernel
theorem dX10_many_38 : decode cX10_many 38 = .ok (.getfield 29, 3) := by decide +kernel
theorem dX10_many_41 : decode cX10_many 41 = .ok (.getfield 192, 3) := by decide +kernel
theorem dX10_many_44 : decode cX10_many 44 = .ok (.ireturn, 1) := by decide +kernel
def wj_X10_many_15 (I : HI) (J : HJ) (x1 : Int32) (t0 : Int32) (Post : Int32 → HI → Prop) : Prop :=
  w_X10_fails t0 I J (fun (r_2 : Bool) (I_3 : HI) => ((r_2 = false → ((¬ x1 = 0 → (Post (I_3 12 12) I_3)) ∧ (x1 = 0 → (Post (I_3 12 11) I_3)))) ∧ (r_2 = true → (Post (-1) I_3))))
set_option maxHeartbeats 4000000 in
set_option maxRecDepth 20000 in
theorem wk_X10_many_15 (g : kf_G) (hg : kf_g g) {x : kf_X} (hx : kf_ok g x RX10 cX10_many 2 1 22) (I : HI) (J : HJ) (x1 : Int32) (t0 : Int32) (Post : Int32 → HI → Prop) (hret : ∀ (pc : Nat) (lv : List (Nat × Value)) (v : Int32) (Iy : HI), decode cX10_many pc = .ok (.ireturn, 1) → Post v Iy → kf_M g x 2 pc lv [.int v] Iy J) (h : wj_X10_many_15 I J x1 t0 Post) : kf_M g x 2 15 [(0, .ref (g.2.2.2 0)), (1, .int x1)] [.int t0, .ref (g.2.2.2 0)] I J := by
  unfold wj_X10_many_15 at h
  refine kf_callVbI (st := []) hx (m_X10_fails g hg t0 I J _ h) lk_RX10_115 km_X10_fails ob_0 rfl (by decide) rfl (Nat.le_of_ble_eq_true rfl) dX10_many_15 (fun r_2 I_3 h => ?_)
  refine kf_ifB_eq hx 23 dX10_many_18 (by decide) (fun c => ?_) (fun c => ?_)
  · replace h := h.1 c
    refine kf_iload_n hx dX10_many_23 rfl 1 rfl ?_
    refine kf_if_ne hx 37 dX10_many_24 (by decide) (fun c => ?_) (fun c => ?_)
    · replace h := h.1 c
      refine kf_aload_n hx dX10_many_37 rfl 0 rfl ?_
      refine kf_getR (n := 12) hx sl_0_3 fl_RX10_29 dX10_many_38 ?_
      refine kf_getI hx sl_12_12 fl_RX10_192 dX10_many_41 ?_
      exact hret _ _ (I_3 12 12) _ dX10_many_44 h
    · replace h := h.2 c
      refine kf_aload_n hx dX10_many_27 rfl 0 rfl ?_
      refine kf_getR (n := 12) hx sl_0_3 fl_RX10_29 dX10_many_28 ?_
      refine kf_getI hx sl_12_11 fl_RX10_185 dX10_many_31 ?_
      refine kf_goto hx 44 dX10_many_34 (by decide) ?_
      exact hret _ _ (I_3 12 11) _ dX10_many_44 h
  · replace h := h.2 c
    refine kf_iconst (v := (-1)) hx dX10_many_21 (by decide) ?_
    exact hret _ _ (-1) _ dX10_many_22 h
def w_X10_many (x1 : Int32) (I : HI) (J : HJ) (Post : Int32 → HI → Prop) : Prop :=
  w_X10_isBetween x1 0 1 (fun (r_1 : Bool) => ((r_1 = false → (wj_X10_many_15 I J x1 5 Post)) ∧ (r_1 = true → (wj_X10_many_15 I J x1 0 Post))))
set_option maxHeartbeats 4000000 in
set_option maxRecDepth 20000 in
theorem we_X10_many (g : kf_G) (hg : kf_g g) {x : kf_X} (hx : kf_ok g x RX10 cX10_many 2 1 22) (x1 : Int32) (I : HI) (J : HJ) (Post : Int32 → HI → Prop) (hret : ∀ (pc : Nat) (lv : List (Nat × Value)) (v : Int32) (Iy : HI), decode cX10_many pc = .ok (.ireturn, 1) → Post v Iy → kf_M g x 2 pc lv [.int v] Iy J) (h : w_X10_many x1 I J Post) : kf_M g x 2 0 [(0, .ref (g.2.2.2 0)), (1, .int x1)] [] I J := by
  unfold w_X10_many at h
  refine kf_aload_n hx dX10_many_0 rfl 0 rfl ?_
  refine kf_iload_n hx dX10_many_1 rfl 1 rfl ?_
  refine kf_iconst (v := 0) hx dX10_many_2 (by decide) ?_
  refine kf_iconst (v := 1) hx dX10_many_3 (by decide) ?_
  refine kf_callSbP (st := [.ref (g.2.2.2 0)]) hx (m_X10_isBetween g hg x1 0 1 I J _ h) lk_RX10_188 km_X10_isBetween rfl (by decide) rfl (Nat.le_of_ble_eq_true rfl) dX10_many_4 (fun r_1 h => ?_)
  refine kf_ifB_eq hx 14 dX10_many_7 (by decide) (fun c => ?_) (fun c => ?_)
  · replace h := h.1 c
    refine kf_iconst (v := 5) hx dX10_many_14 (by decide) ?_
    exact wk_X10_many_15 g hg hx I J x1 5 _ hret h
  · replace h := h.2 c
    refine kf_iconst (v := 0) hx dX10_many_10 (by decide) ?_
    refine kf_goto hx 15 dX10_many_11 (by decide) ?_
    exact wk_X10_many_15 g hg hx I J x1 0 _ hret h
set_option maxHeartbeats 4000000 in
set_option maxRecDepth 20000 in
theorem m_X10_many (g : kf_G) (hg : kf_g g) (x1 : Int32) (I : HI) (J : HJ) (Post : Int32 → HI → Prop) (h : w_X10_many x1 I J Post) : kf_Mi g yX10_many (kf_W yX10_many cX10_many 2 (Option.some Jvm.ClassFile.FieldType.int)) 1 22 [.ref (g.2.2.2 0), .int x1] I J (fun v I' J' => Post v I' ∧ J' = J) :=
  kf_enti hg (by decide) (Nat.le_of_ble_eq_true rfl) rfl (fun x hx hr => we_X10_many g hg hx x1 I J Post (fun pc lv v I' hd hP => hr pc lv v I' J hd ⟨hP, rfl⟩) h)
theorem dX10_oneOf_0 : decode cX10_oneOf 0 = .ok (.iload_n 0, 1) := by decide +kernel
theorem dX10_oneOf_1 : decode cX10_oneOf 1 = .ok (.ifCond .ne 5, 3) := by decide +kernel
theorem dX10_oneOf_4 : decode cX10_oneOf 4 = .ok (.iconst 2, 1) := by decide +kernel
theorem dX10_oneOf_5 : decode cX10_oneOf 5 = .ok (.ireturn, 1) := by decide +kernel
theorem dX10_oneOf_6 : decode cX10_oneOf 6 = .ok (.iload_n 1, 1) := by decide +kernel
theorem dX10_oneOf_7 : decode cX10_oneOf 7 = .ok (.ifCond .eq 7, 3) := by decide +kernel
theorem dX10_oneOf_10 : decode cX10_oneOf 10 = .ok (.iconst 0, 1) := by decide +kernel
theorem dX10_oneOf_11 : decode cX10_oneOf 11 = .ok (.goto 4, 3) := by decide +kernel
theorem dX10_oneOf_14 : decode cX10_oneOf 14 = .ok (.iconst 5, 1) := by decide +kernel
theorem dX10_oneOf_15 : decode cX10_oneOf 15 = .ok (.ireturn, 1) := by decide +kernel
def w_X10_oneOf (x0 : Int32) (x1 : Int32) (Post : Int32 → Prop) : Prop :=
  (¬ x0 = 0 → ((x1 = 0 → (Post 5)) ∧ (¬ x1 = 0 → (Post 0)))) ∧ (x0 = 0 → (Post 2))
set_option maxHeartbeats 4000000 in
set_option maxRecDepth 20000 in
theorem we_X10_oneOf (g : kf_G) (hg : kf_g g) {x : kf_X} (hx : kf_ok g x RX10 cX10_oneOf 2 0 0) (x0 : Int32) (x1 : Int32) (I : HI) (J : HJ) (Post : Int32 → Prop) (hret : ∀ (pc : Nat) (lv : List (Nat × Value)) (v : Int32), decode cX10_oneOf pc = .ok (.ireturn, 1) → Post v → kf_M g x 2 pc lv [.int v] I J) (h : w_X10_oneOf x0 x1 Post) : kf_M g x 2 0 [(0, .int x0), (1, .int x1)] [] I J := by
  unfold w_X10_oneOf at h
  refine kf_iload_n hx dX10_oneOf_0 rfl 0 rfl ?_
  refine kf_if_ne hx 6 dX10_oneOf_1 (by decide) (fun c => ?_) (fun c => ?_)
  · replace h := h.1 c
    refine kf_iload_n hx dX10_oneOf_6 rfl 1 rfl ?_
    refine kf_if_eq hx 14 dX10_oneOf_7 (by decide) (fun c => ?_) (fun c => ?_)
    · replace h := h.1 c
      refine kf_iconst (v := 5) hx dX10_oneOf_14 (by decide) ?_
      exact hret _ _ 5  dX10_oneOf_15 h
    · replace h := h.2 c
      refine kf_iconst (v := 0) hx dX10_oneOf_10 (by decide) ?_
      refine kf_goto hx 15 dX10_oneOf_11 (by decide) ?_
      exact hret _ _ 0  dX10_oneOf_15 h
  · replace h := h.2 c
    refine kf_iconst (v := 2) hx dX10_oneOf_4 (by decide) ?_
    exact hret _ _ 2  dX10_oneOf_5 h
set_option maxHeartbeats 4000000 in
set_option maxRecDepth 20000 in
theorem m_X10_oneOf (g : kf_G) (hg : kf_g g) (x0 : Int32) (x1 : Int32) (I : HI) (J : HJ) (Post : Int32 → Prop) (h : w_X10_oneOf x0 x1 Post) : kf_Mi g yX10_oneOf (kf_W yX10_oneOf cX10_oneOf 2 (Option.some Jvm.ClassFile.FieldType.int)) 0 0 [.int x0, .int x1] I J (fun v I' J' => Post v ∧ I' = I ∧ J' = J) :=
  kf_enti hg (by decide) (Nat.le_of_ble_eq_true rfl) rfl (fun x hx hr => we_X10_oneOf g hg hx x0 x1 I J Post (fun pc lv v hd hP => hr pc lv v I J hd ⟨hP, rfl, rfl⟩) h)
theorem dX10_person_0 : decode cX10_person 0 = .ok (.aload_n 0, 1) := by decide +kernel
theorem dX10_person_1 : decode cX10_person 1 = .ok (.aload_n 0, 1) := by decide +kernel
theorem dX10_person_2 : decode cX10_person 2 = .ok (.getfield 29, 3) := by decide +kernel
theorem dX10_person_5 : decode cX10_person 5 = .ok (.iload_n 1, 1) := by decide +kernel
theorem dX10_person_6 : decode cX10_person 6 = .ok (.invokevirtual 195, 3) := by decide +kernel
theorem dX10_person_9 : decode cX10_person 9 = .ok (.iload_n 2, 1) := by decide +kernel
theorem dX10_person_10 : decode cX10_person 10 = .ok (.iconst 0, 1) := by decide +kernel
theorem dX10_person_11 : decode cX10_person 11 = .ok (.iconst 4, 1) := by decide +kernel
theorem dX10_person_12 : decode cX10_person 12 = .ok (.invokestatic 188, 3) := by decide +kernel
theorem dX10_person_15 : decode cX10_person 15 = .ok (.invokestatic 198, 3) := by decide +kernel
theorem dX10_person_18 : decode cX10_person 18 = .ok (.invokevirtual 115, 3) := by decide +kernel
theorem dX10_person_21 : decode cX10_person 21 = .ok (.ifCond .eq 5, 3) := by decide +kernel
theorem dX10_person_24 : decode cX10_person 24 = .ok (.iconst (-1), 1) := by decide +kernel
theorem dX10_person_25 : decode cX10_person 25 = .ok (.ireturn, 1) := by decide +kernel
theorem dX10_person_26 : decode cX10_person 26 = .ok (.iload_n 2, 1) := by decide +kernel
theorem dX10_person_27 : decode cX10_person 27 = .ok (.tableswitch 79 0 3 #[29, 39, 49, 59], 29) := by decide +kernel
theorem dX10_person_56 : decode cX10_person 56 = .ok (.aload_n 0, 1) := by decide +kernel
theorem dX10_person_57 : decode cX10_person 57 = .ok (.getfield 29, 3) := by decide +kernel
theorem dX10_person_60 : decode cX10_person 60 = .ok (.getfield 202, 3) := by decide +kernel
theorem dX10_person_63 : decode cX10_person 63 = .ok (.iload_n 1, 1) := by decide +kernel
theorem dX10_person_64 : decode cX10_person 64 = .ok (.iaload, 1) := by decide +kernel
theorem dX10_person_65 : decode cX10_person 65 = .ok (.ireturn, 1) := by decide +kernel
theorem dX10_person_66 : decode cX10_person 66 = .ok (.aload_n 0, 1) := by decide +kernel
theorem dX10_person_67 : decode cX10_person 67 = .ok (.getfield 29, 3) := by decide +kernel
theorem dX10_person_70 : decode cX10_person 70 = .ok (.getfield 206, 3) := by decide +kernel
theorem dX10_person_73 : decode cX10_person 73 = .ok (.iload_n 1, 1) := by decide +kernel
theorem dX10_person_74 : decode cX10_person 74 = .ok (.iaload, 1) := by decide +kernel
theorem dX10_person_75 : decode cX10_person 75 = .ok (.ireturn, 1) := by decide +kernel
theorem dX10_person_76 : decode cX10_person 76 = .ok (.aload_n 0, 1) := by decide +kernel
theorem dX10_person_77 : decode cX10_person 77 = .ok (.getfield 29, 3) := by decide +kernel
theorem dX10_person_80 : decode cX10_person 80 = .ok (.getfield 209, 3) := by decide +kernel
theorem dX10_person_83 : decode cX10_person 83 = .ok (.iload_n 1, 1) := by decide +kernel
theorem dX10_person_84 : decode cX10_person 84 = .ok (.iaload, 1) := by decide +kernel
theorem dX10_person_85 : decode cX10_person 85 = .ok (.ireturn, 1) := by decide +kernel
theorem dX10_person_86 : decode cX10_person 86 = .ok (.aload_n 0, 1) := by decide +kernel
theorem dX10_person_87 : decode cX10_person 87 = .ok (.getfield 29, 3) := by decide +kernel
theorem dX10_person_90 : decode cX10_person 90 = .ok (.getfield 212, 3) := by decide +kernel
theorem dX10_person_93 : decode cX10_person 93 = .ok (.iload_n 1, 1) := by decide +kernel
theorem dX10_person_94 : decode cX10_person 94 = .ok (.invokestatic 215, 3) := by decide +kernel
theorem dX10_person_97 : decode cX10_person 97 = .ok (.ifCond .eq 7, 3) := by decide +kernel
theorem dX10_person_100 : decode cX10_person 100 = .ok (.iconst 1, 1) := by decide +kernel
theorem dX10_person_101 : decode cX10_person 101 = .ok (.goto 4, 3) := by decide +kernel
theorem dX10_person_104 : decode cX10_person 104 = .ok (.iconst 0, 1) := by decide +kernel
theorem dX10_person_105 : decode cX10_person 105 = .ok (.ireturn, 1) := by decide +kernel
theorem dX10_person_106 : decode cX10_person 106 = .ok (.aload_n 0, 1) := by decide +kernel
theorem dX10_person_107 : decode cX10_person 107 = .ok (.getfield 29, 3) := by decide +kernel
theorem dX10_person_110 : decode cX10_person 110 = .ok (.getfield 218, 3) := by decide +kernel
theorem dX10_person_113 : decode cX10_person 113 = .ok (.iload_n 1, 1) := by decide +kernel
theorem dX10_person_114 : decode cX10_person 114 = .ok (.iaload, 1) := by decide +kernel
theorem dX10_person_115 : decode cX10_person 115 = .ok (.ireturn, 1) := by decide +kernel
def w_X10_person (x1 : Int32) (x2 : Int32) (I : HI) (J : HJ) (Post : Int32 → HI → Prop) : Prop :=
  w_X4_isPerson_12 x1 I J (fun (r_1 : Bool) => (w_X10_isBetween x2 0 4 (fun (r_2 : Bool) => (w_X10_oneOf (kb r_1) (kb r_2) (fun (r_3 : Int32) => (w_X10_fails r_3 I J (fun (r_4 : Bool) (I_5 : HI) => ((r_4 = false → ((x2 = 0 → (vp_in x1 12 ∧ (Post (I_5 13 (Int32.toNatClampNeg x1)) I_5))) ∧ (x2 = 1 → (vp_in x1 12 ∧ (Post (I_5 14 (Int32.toNatClampNeg x1)) I_5))) ∧ (x2 = 2 → (vp_in x1 12 ∧ (Post (I_5 15 (Int32.toNatClampNeg x1)) I_5))) ∧ (x2 = 3 → (w_X10_has (I_5 12 13) x1 (fun (r_6 : Bool) => ((r_6 = false → (Post 0 I_5)) ∧ (r_6 = true → (Post 1 I_5)))))) ∧ (¬ x2 = 0 → ¬ x2 = 1 → ¬ x2 = 2 → ¬ x2 = 3 → (vp_in x1 12 ∧ (Post (I_5 16 (Int32.toNatClampNeg x1)) I_5))))) ∧ (r_4 = true → (Post (-1) I_5))))))))))
set_option maxHeartbeats 4000000 in
set_option maxRecDepth 20000 in
theorem we_X10_person (g : kf_G) (hg : kf_g g) {x : kf_X} (hx : kf_ok g x RX10 cX10_person 3 1 22) (x1 : Int32) (x2 : Int32) (I : HI) (J : HJ) (Post : Int32 → HI → Prop) (hret : ∀ (pc : Nat) (lv : List (Nat × Value)) (v : Int32) (Iy : HI), decode cX10_person pc = .ok (.ireturn, 1) → Post v Iy → kf_M g x 3 pc lv [.int v] Iy J) (h : w_X10_person x1 x2 I J Post) : kf_M g x 3 0 [(0, .ref (g.2.2.2 0)), (1, .int x1), (2, .int x2)] [] I J := by
  unfold w_X10_person at h
  refine kf_aload_n hx dX10_person_0 rfl 0 rfl ?_
  refine kf_aload_n hx dX10_person_1 rfl 0 rfl ?_
  refine kf_getR (n := 12) hx sl_0_3 fl_RX10_29 dX10_person_2 ?_
  refine kf_iload_n hx dX10_person_5 rfl 1 rfl ?_
  refine kf_callVbP (st := [.ref (g.2.2.2 0)]) hx (m_X4_isPerson_12 g hg x1 I J _ h) lk_RX10_195 km_X4_isPerson ob_12 rfl (by decide) rfl (Nat.le_of_ble_eq_true rfl) dX10_person_6 (fun r_1 h => ?_)
  refine kf_iload_n hx dX10_person_9 rfl 2 rfl ?_
  refine kf_iconst (v := 0) hx dX10_person_10 (by decide) ?_
  refine kf_iconst (v := 4) hx dX10_person_11 (by decide) ?_
  refine kf_callSbP (st := [.int (kb r_1), .ref (g.2.2.2 0)]) hx (m_X10_isBetween g hg x2 0 4 I J _ h) lk_RX10_188 km_X10_isBetween rfl (by decide) rfl (Nat.le_of_ble_eq_true rfl) dX10_person_12 (fun r_2 h => ?_)
  refine kf_callSiP (st := [.ref (g.2.2.2 0)]) hx (m_X10_oneOf g hg (kb r_1) (kb r_2) I J _ h) lk_RX10_198 km_X10_oneOf rfl (by decide) rfl (Nat.le_of_ble_eq_true rfl) dX10_person_15 (fun r_3 h => ?_)
  refine kf_callVbI (st := []) hx (m_X10_fails g hg r_3 I J _ h) lk_RX10_115 km_X10_fails ob_0 rfl (by decide) rfl (Nat.le_of_ble_eq_true rfl) dX10_person_18 (fun r_4 I_5 h => ?_)
  refine kf_ifB_eq hx 26 dX10_person_21 (by decide) (fun c => ?_) (fun c => ?_)
  · replace h := h.1 c
    refine kf_iload_n hx dX10_person_26 rfl 2 rfl ?_
    by_cases e0 : x2 = 0
    · refine kf_tabIn (off := 29) hx 56 dX10_person_27 (by rw [e0]; decide) (by rw [e0]; decide) (by rw [e0]; rfl) (by decide) ?_
      replace h := h.1 e0
      refine kf_aload_n hx dX10_person_56 rfl 0 rfl ?_
      refine kf_getR (n := 12) hx sl_0_3 fl_RX10_29 dX10_person_57 ?_
      refine kf_getR (n := 13) hx sl_12_0 fl_RX10_202 dX10_person_60 ?_
      refine kf_iload_n hx dX10_person_63 rfl 1 rfl ?_
      refine kf_iald hx ar_13 h.1 dX10_person_64 ?_
      replace h := h.2
      exact hret _ _ (I_5 13 (Int32.toNatClampNeg x1)) _ dX10_person_65 h
    by_cases e1 : x2 = 1
    · refine kf_tabIn (off := 39) hx 66 dX10_person_27 (by rw [e1]; decide) (by rw [e1]; decide) (by rw [e1]; rfl) (by decide) ?_
      replace h := h.2.1 e1
      refine kf_aload_n hx dX10_person_66 rfl 0 rfl ?_
      refine kf_getR (n := 12) hx sl_0_3 fl_RX10_29 dX10_person_67 ?_
      refine kf_getR (n := 14) hx sl_12_1 fl_RX10_206 dX10_person_70 ?_
      refine kf_iload_n hx dX10_person_73 rfl 1 rfl ?_
      refine kf_iald hx ar_14 h.1 dX10_person_74 ?_
      replace h := h.2
      exact hret _ _ (I_5 14 (Int32.toNatClampNeg x1)) _ dX10_person_75 h
    by_cases e2 : x2 = 2
    · refine kf_tabIn (off := 49) hx 76 dX10_person_27 (by rw [e2]; decide) (by rw [e2]; decide) (by rw [e2]; rfl) (by decide) ?_
      replace h := h.2.2.1 e2
      refine kf_aload_n hx dX10_person_76 rfl 0 rfl ?_
      refine kf_getR (n := 12) hx sl_0_3 fl_RX10_29 dX10_person_77 ?_
      refine kf_getR (n := 15) hx sl_12_2 fl_RX10_209 dX10_person_80 ?_
      refine kf_iload_n hx dX10_person_83 rfl 1 rfl ?_
      refine kf_iald hx ar_15 h.1 dX10_person_84 ?_
      replace h := h.2
      exact hret _ _ (I_5 15 (Int32.toNatClampNeg x1)) _ dX10_person_85 h
    by_cases e3 : x2 = 3
    · refine kf_tabIn (off := 59) hx 86 dX10_person_27 (by rw [e3]; decide) (by rw [e3]; decide) (by rw [e3]; rfl) (by decide) ?_
      replace h := h.2.2.2.1 e3
      refine kf_aload_n hx dX10_person_86 rfl 0 rfl ?_
      refine kf_getR (n := 12) hx sl_0_3 fl_RX10_29 dX10_person_87 ?_
      refine kf_getI hx sl_12_13 fl_RX10_212 dX10_person_90 ?_
      refine kf_iload_n hx dX10_person_93 rfl 1 rfl ?_
      refine kf_callSbP (st := []) hx (m_X10_has g hg (I_5 12 13) x1 I_5 J _ h) lk_RX10_215 km_X10_has rfl (by decide) rfl (Nat.le_of_ble_eq_true rfl) dX10_person_94 (fun r_6 h => ?_)
      refine kf_ifB_eq hx 104 dX10_person_97 (by decide) (fun c => ?_) (fun c => ?_)
      · replace h := h.1 c
        refine kf_iconst (v := 0) hx dX10_person_104 (by decide) ?_
        exact hret _ _ 0 _ dX10_person_105 h
      · replace h := h.2 c
        refine kf_iconst (v := 1) hx dX10_person_100 (by decide) ?_
        refine kf_goto hx 105 dX10_person_101 (by decide) ?_
        exact hret _ _ 1 _ dX10_person_105 h
    refine kf_tabOut hx 106 dX10_person_27 (tw_out (fun v h1 h2 => ?_)) (by decide) ?_
    · rcases (show v = 0 ∨ v = 1 ∨ v = 2 ∨ v = 3 by omega) with rfl | rfl | rfl | rfl
      · exact tw_ne e0 (by decide)
      · exact tw_ne e1 (by decide)
      · exact tw_ne e2 (by decide)
      · exact tw_ne e3 (by decide)
    · replace h := h.2.2.2.2 e0 e1 e2 e3
      refine kf_aload_n hx dX10_person_106 rfl 0 rfl ?_
      refine kf_getR (n := 12) hx sl_0_3 fl_RX10_29 dX10_person_107 ?_
      refine kf_getR (n := 16) hx sl_12_3 fl_RX10_218 dX10_person_110 ?_
      refine kf_iload_n hx dX10_person_113 rfl 1 rfl ?_
      refine kf_iald hx ar_16 h.1 dX10_person_114 ?_
      replace h := h.2
      exact hret _ _ (I_5 16 (Int32.toNatClampNeg x1)) _ dX10_person_115 h
  · replace h := h.2 c
    refine kf_iconst (v := (-1)) hx dX10_person_24 (by decide) ?_
    exact hret _ _ (-1) _ dX10_person_25 h
set_option maxHeartbeats 4000000 in
set_option maxRecDepth 20000 in
theorem m_X10_person (g : kf_G) (hg : kf_g g) (x1 : Int32) (x2 : Int32) (I : HI) (J : HJ) (Post : Int32 → HI → Prop) (h : w_X10_person x1 x2 I J Post) : kf_Mi g yX10_person (kf_W yX10_person cX10_person 3 (Option.some Jvm.ClassFile.FieldType.int)) 1 22 [.ref (g.2.2.2 0), .int x1, .int x2] I J (fun v I' J' => Post v I' ∧ J' = J) :=
  kf_enti hg (by decide) (Nat.le_of_ble_eq_true rfl) rfl (fun x hx hr => we_X10_person g hg hx x1 x2 I J Post (fun pc lv v I' hd hP => hr pc lv v I' J hd ⟨hP, rfl⟩) h)
theorem dX10_tie_0 : decode cX10_tie 0 = .ok (.aload_n 0, 1) := by decide +kernel
theorem dX10_tie_1 : decode cX10_tie 1 = .ok (.aload_n 0, 1) := by decide +kernel
theorem dX10_tie_2 : decode cX10_tie 2 = .ok (.getfield 29, 3) := by decide +kernel
theorem dX10_tie_5 : decode cX10_tie 5 = .ok (.iload_n 1, 1) := by decide +kernel
theorem dX10_tie_6 : decode cX10_tie 6 = .ok (.invokevirtual 221, 3) := by decide +kernel
theorem dX10_tie_9 : decode cX10_tie 9 = .ok (.iload_n 2, 1) := by decide +kernel
theorem dX10_tie_10 : decode cX10_tie 10 = .ok (.iconst 0, 1) := by decide +kernel
theorem dX10_tie_11 : decode cX10_tie 11 = .ok (.iconst 3, 1) := by decide +kernel
theorem dX10_tie_12 : decode cX10_tie 12 = .ok (.invokestatic 188, 3) := by decide +kernel
theorem dX10_tie_15 : decode cX10_tie 15 = .ok (.invokestatic 198, 3) := by decide +kernel
theorem dX10_tie_18 : decode cX10_tie 18 = .ok (.invokevirtual 115, 3) := by decide +kernel
theorem dX10_tie_21 : decode cX10_tie 21 = .ok (.ifCond .eq 5, 3) := by decide +kernel
theorem dX10_tie_24 : decode cX10_tie 24 = .ok (.iconst (-1), 1) := by decide +kernel
theorem dX10_tie_25 : decode cX10_tie 25 = .ok (.ireturn, 1) := by decide +kernel
theorem dX10_tie_26 : decode cX10_tie 26 = .ok (.iload_n 2, 1) := by decide +kernel
theorem dX10_tie_27 : decode cX10_tie 27 = .ok (.tableswitch 55 0 2 #[25, 35, 45], 25) := by decide +kernel
theorem dX10_tie_52 : decode cX10_tie 52 = .ok (.aload_n 0, 1) := by decide +kernel
theorem dX10_tie_53 : decode cX10_tie 53 = .ok (.getfield 29, 3) := by decide +kernel
theorem dX10_tie_56 : decode cX10_tie 56 = .ok (.getfield 224, 3) := by decide +kernel
theorem dX10_tie_59 : decode cX10_tie 59 = .ok (.iload_n 1, 1) := by decide +kernel
theorem dX10_tie_60 : decode cX10_tie 60 = .ok (.iaload, 1) := by decide +kernel
theorem dX10_tie_61 : decode cX10_tie 61 = .ok (.ireturn, 1) := by decide +kernel
theorem dX10_tie_62 : decode cX10_tie 62 = .ok (.aload_n 0, 1) := by decide +kernel
theorem dX10_tie_63 : decode cX10_tie 63 = .ok (.getfield 29, 3) := by decide +kernel
theorem dX10_tie_66 : decode cX10_tie 66 = .ok (.getfield 227, 3) := by decide +kernel
theorem dX10_tie_69 : decode cX10_tie 69 = .ok (.iload_n 1, 1) := by decide +kernel
theorem dX10_tie_70 : decode cX10_tie 70 = .ok (.iaload, 1) := by decide +kernel
theorem dX10_tie_71 : decode cX10_tie 71 = .ok (.ireturn, 1) := by decide +kernel
theorem dX10_tie_72 : decode cX10_tie 72 = .ok (.aload_n 0, 1) := by decide +kernel
theorem dX10_tie_73 : decode cX10_tie 73 = .ok (.getfield 29, 3) := by decide +kernel
theorem dX10_tie_76 : decode cX10_tie 76 = .ok (.getfield 230, 3) := by decide +kernel
theorem dX10_tie_79 : decode cX10_tie 79 = .ok (.iload_n 1, 1) := by decide +kernel
theorem dX10_tie_80 : decode cX10_tie 80 = .ok (.iaload, 1) := by decide +kernel
theorem dX10_tie_81 : decode cX10_tie 81 = .ok (.ireturn, 1) := by decide +kernel
theorem dX10_tie_82 : decode cX10_tie 82 = .ok (.aload_n 0, 1) := by decide +kernel
theorem dX10_tie_83 : decode cX10_tie 83 = .ok (.getfield 29, 3) := by decide +kernel
theorem dX10_tie_86 : decode cX10_tie 86 = .ok (.getfield 233, 3) := by decide +kernel
theorem dX10_tie_89 : decode cX10_tie 89 = .ok (.iload_n 1, 1) := by decide +kernel
theorem dX10_tie_90 : decode cX10_tie 90 = .ok (.iaload, 1) := by decide +kernel
theorem dX10_tie_91 : decode cX10_tie 91 = .ok (.ireturn, 1) := by decide +kernel
def w_X10_tie (x1 : Int32) (x2 : Int32) (I : HI) (J : HJ) (Post : Int32 → HI → Prop) : Prop :=
  w_X4_isTie x1 I J (fun (r_1 : Bool) => (w_X10_isBetween x2 0 3 (fun (r_2 : Bool) => (w_X10_oneOf (kb r_1) (kb r_2) (fun (r_3 : Int32) => (w_X10_fails r_3 I J (fun (r_4 : Bool) (I_5 : HI) => ((r_4 = false → ((x2 = 0 → (vp_in x1 10 ∧ (Post (I_5 19 (Int32.toNatClampNeg x1)) I_5))) ∧ (x2 = 1 → (vp_in x1 10 ∧ (Post (I_5 20 (Int32.toNatClampNeg x1)) I_5))) ∧ (x2 = 2 → (vp_in x1 10 ∧ (Post (I_5 21 (Int32.toNatClampNeg x1)) I_5))) ∧ (¬ x2 = 0 → ¬ x2 = 1 → ¬ x2 = 2 → (vp_in x1 10 ∧ (Post (I_5 22 (Int32.toNatClampNeg x1)) I_5))))) ∧ (r_4 = true → (Post (-1) I_5))))))))))
set_option maxHeartbeats 4000000 in
set_option maxRecDepth 20000 in
theorem we_X10_tie (g : kf_G) (hg : kf_g g) {x : kf_X} (hx : kf_ok g x RX10 cX10_tie 3 1 22) (x1 : Int32) (x2 : Int32) (I : HI) (J : HJ) (Post : Int32 → HI → Prop) (hret : ∀ (pc : Nat) (lv : List (Nat × Value)) (v : Int32) (Iy : HI), decode cX10_tie pc = .ok (.ireturn, 1) → Post v Iy → kf_M g x 3 pc lv [.int v] Iy J) (h : w_X10_tie x1 x2 I J Post) : kf_M g x 3 0 [(0, .ref (g.2.2.2 0)), (1, .int x1), (2, .int x2)] [] I J := by
  unfold w_X10_tie at h
  refine kf_aload_n hx dX10_tie_0 rfl 0 rfl ?_
  refine kf_aload_n hx dX10_tie_1 rfl 0 rfl ?_
  refine kf_getR (n := 12) hx sl_0_3 fl_RX10_29 dX10_tie_2 ?_
  refine kf_iload_n hx dX10_tie_5 rfl 1 rfl ?_
  refine kf_callVbP (st := [.ref (g.2.2.2 0)]) hx (m_X4_isTie g hg x1 I J _ h) lk_RX10_221 km_X4_isTie ob_12 rfl (by decide) rfl (Nat.le_of_ble_eq_true rfl) dX10_tie_6 (fun r_1 h => ?_)
  refine kf_iload_n hx dX10_tie_9 rfl 2 rfl ?_
  refine kf_iconst (v := 0) hx dX10_tie_10 (by decide) ?_
  refine kf_iconst (v := 3) hx dX10_tie_11 (by decide) ?_
  refine kf_callSbP (st := [.int (kb r_1), .ref (g.2.2.2 0)]) hx (m_X10_isBetween g hg x2 0 3 I J _ h) lk_RX10_188 km_X10_isBetween rfl (by decide) rfl (Nat.le_of_ble_eq_true rfl) dX10_tie_12 (fun r_2 h => ?_)
  refine kf_callSiP (st := [.ref (g.2.2.2 0)]) hx (m_X10_oneOf g hg (kb r_1) (kb r_2) I J _ h) lk_RX10_198 km_X10_oneOf rfl (by decide) rfl (Nat.le_of_ble_eq_true rfl) dX10_tie_15 (fun r_3 h => ?_)
  refine kf_callVbI (st := []) hx (m_X10_fails g hg r_3 I J _ h) lk_RX10_115 km_X10_fails ob_0 rfl (by decide) rfl (Nat.le_of_ble_eq_true rfl) dX10_tie_18 (fun r_4 I_5 h => ?_)
  refine kf_ifB_eq hx 26 dX10_tie_21 (by decide) (fun c => ?_) (fun c => ?_)
  · replace h := h.1 c
    refine kf_iload_n hx dX10_tie_26 rfl 2 rfl ?_
    by_cases e0 : x2 = 0
    · refine kf_tabIn (off := 25) hx 52 dX10_tie_27 (by rw [e0]; decide) (by rw [e0]; decide) (by rw [e0]; rfl) (by decide) ?_
      replace h := h.1 e0
      refine kf_aload_n hx dX10_tie_52 rfl 0 rfl ?_
      refine kf_getR (n := 12) hx sl_0_3 fl_RX10_29 dX10_tie_53 ?_
      refine kf_getR (n := 19) hx sl_12_6 fl_RX10_224 dX10_tie_56 ?_
      refine kf_iload_n hx dX10_tie_59 rfl 1 rfl ?_
      refine kf_iald hx ar_19 h.1 dX10_tie_60 ?_
      replace h := h.2
      exact hret _ _ (I_5 19 (Int32.toNatClampNeg x1)) _ dX10_tie_61 h
    by_cases e1 : x2 = 1
    · refine kf_tabIn (off := 35) hx 62 dX10_tie_27 (by rw [e1]; decide) (by rw [e1]; decide) (by rw [e1]; rfl) (by decide) ?_
      replace h := h.2.1 e1
      refine kf_aload_n hx dX10_tie_62 rfl 0 rfl ?_
      refine kf_getR (n := 12) hx sl_0_3 fl_RX10_29 dX10_tie_63 ?_
      refine kf_getR (n := 20) hx sl_12_7 fl_RX10_227 dX10_tie_66 ?_
      refine kf_iload_n hx dX10_tie_69 rfl 1 rfl ?_
      refine kf_iald hx ar_20 h.1 dX10_tie_70 ?_
      replace h := h.2
      exact hret _ _ (I_5 20 (Int32.toNatClampNeg x1)) _ dX10_tie_71 h
    by_cases e2 : x2 = 2
    · refine kf_tabIn (off := 45) hx 72 dX10_tie_27 (by rw [e2]; decide) (by rw [e2]; decide) (by rw [e2]; rfl) (by decide) ?_
      replace h := h.2.2.1 e2
      refine kf_aload_n hx dX10_tie_72 rfl 0 rfl ?_
      refine kf_getR (n := 12) hx sl_0_3 fl_RX10_29 dX10_tie_73 ?_
      refine kf_getR (n := 21) hx sl_12_8 fl_RX10_230 dX10_tie_76 ?_
      refine kf_iload_n hx dX10_tie_79 rfl 1 rfl ?_
      refine kf_iald hx ar_21 h.1 dX10_tie_80 ?_
      replace h := h.2
      exact hret _ _ (I_5 21 (Int32.toNatClampNeg x1)) _ dX10_tie_81 h
    refine kf_tabOut hx 82 dX10_tie_27 (tw_out (fun v h1 h2 => ?_)) (by decide) ?_
    · rcases (show v = 0 ∨ v = 1 ∨ v = 2 by omega) with rfl | rfl | rfl
      · exact tw_ne e0 (by decide)
      · exact tw_ne e1 (by decide)
      · exact tw_ne e2 (by decide)
    · replace h := h.2.2.2 e0 e1 e2
      refine kf_aload_n hx dX10_tie_82 rfl 0 rfl ?_
      refine kf_getR (n := 12) hx sl_0_3 fl_RX10_29 dX10_tie_83 ?_
      refine kf_getR (n := 22) hx sl_12_9 fl_RX10_233 dX10_tie_86 ?_
      refine kf_iload_n hx dX10_tie_89 rfl 1 rfl ?_
      refine kf_iald hx ar_22 h.1 dX10_tie_90 ?_
      replace h := h.2
      exact hret _ _ (I_5 22 (Int32.toNatClampNeg x1)) _ dX10_tie_91 h
  · replace h := h.2 c
    refine kf_iconst (v := (-1)) hx dX10_tie_24 (by decide) ?_
    exact hret _ _ (-1) _ dX10_tie_25 h
set_option maxHeartbeats 4000000 in
set_option maxRecDepth 20000 in
theorem m_X10_tie (g : kf_G) (hg : kf_g g) (x1 : Int32) (x2 : Int32) (I : HI) (J : HJ) (Post : Int32 → HI → Prop) (h : w_X10_tie x1 x2 I J Post) : kf_Mi g yX10_tie (kf_W yX10_tie cX10_tie 3 (Option.some Jvm.ClassFile.FieldType.int)) 1 22 [.ref (g.2.2.2 0), .int x1, .int x2] I J (fun v I' J' => Post v I' ∧ J' = J) :=
  kf_enti hg (by decide) (Nat.le_of_ble_eq_true rfl) rfl (fun x hx hr => we_X10_tie g hg hx x1 x2 I J Post (fun pc lv v I' hd hP => hr pc lv v I' J hd ⟨hP, rfl⟩) h)
theorem dX10_refuse_0 : decode cX10_refuse 0 = .ok (.aload_n 0, 1) := by decide +kernel
theorem dX10_refuse_1 : decode cX10_refuse 1 = .ok (.aload_n 0, 1) := by decide +kernel
theorem dX10_refuse_2 : decode cX10_refuse 2 = .ok (.getfield 29, 3) := by decide +kernel
theorem dX10_refuse_5 : decode cX10_refuse 5 = .ok (.iload_n 1, 1) := by decide +kernel
theorem dX10_refuse_6 : decode cX10_refuse 6 = .ok (.invokevirtual 195, 3) := by decide +kernel
theorem dX10_refuse_9 : decode cX10_refuse 9 = .ok (.iconst 1, 1) := by decide +kernel
theorem dX10_refuse_10 : decode cX10_refuse 10 = .ok (.invokestatic 198, 3) := by decide +kernel
theorem dX10_refuse_13 : decode cX10_refuse 13 = .ok (.invokevirtual 115, 3) := by decide +kernel
theorem dX10_refuse_16 : decode cX10_refuse 16 = .ok (.ifCond .eq 5, 3) := by decide +kernel
theorem dX10_refuse_19 : decode cX10_refuse 19 = .ok (.iconst 0, 1) := by decide +kernel
theorem dX10_refuse_20 : decode cX10_refuse 20 = .ok (.ireturn, 1) := by decide +kernel
theorem dX10_refuse_21 : decode cX10_refuse 21 = .ok (.aload_n 0, 1) := by decide +kernel
theorem dX10_refuse_22 : decode cX10_refuse 22 = .ok (.getfield 29, 3) := by decide +kernel
theorem dX10_refuse_25 : decode cX10_refuse 25 = .ok (.iload_n 2, 1) := by decide +kernel
theorem dX10_refuse_26 : decode cX10_refuse 26 = .ok (.ifCond .eq 17, 3) := by decide +kernel
theorem dX10_refuse_29 : decode cX10_refuse 29 = .ok (.aload_n 0, 1) := by decide +kernel
theorem dX10_refuse_30 : decode cX10_refuse 30 = .ok (.getfield 29, 3) := by decide +kernel
theorem dX10_refuse_33 : decode cX10_refuse 33 = .ok (.getfield 212, 3) := by decide +kernel
theorem dX10_refuse_36 : decode cX10_refuse 36 = .ok (.iconst 1, 1) := by decide +kernel
theorem dX10_refuse_37 : decode cX10_refuse 37 = .ok (.iload_n 1, 1) := by decide +kernel
theorem dX10_refuse_38 : decode cX10_refuse 38 = .ok (.ishl, 1) := by decide +kernel
theorem dX10_refuse_39 : decode cX10_refuse 39 = .ok (.ior, 1) := by decide +kernel
theorem dX10_refuse_40 : decode cX10_refuse 40 = .ok (.goto 16, 3) := by decide +kernel
theorem dX10_refuse_43 : decode cX10_refuse 43 = .ok (.aload_n 0, 1) := by decide +kernel
theorem dX10_refuse_44 : decode cX10_refuse 44 = .ok (.getfield 29, 3) := by decide +kernel
theorem dX10_refuse_47 : decode cX10_refuse 47 = .ok (.getfield 212, 3) := by decide +kernel
theorem dX10_refuse_50 : decode cX10_refuse 50 = .ok (.iconst 1, 1) := by decide +kernel
theorem dX10_refuse_51 : decode cX10_refuse 51 = .ok (.iload_n 1, 1) := by decide +kernel
theorem dX10_refuse_52 : decode cX10_refuse 52 = .ok (.ishl, 1) := by decide +kernel
theorem dX10_refuse_53 : decode cX10_refuse 53 = .ok (.iconst (-1), 1) := by decide +kernel
theorem dX10_refuse_54 : decode cX10_refuse 54 = .ok (.ixor, 1) := by decide +kernel
theorem dX10_refuse_55 : decode cX10_refuse 55 = .ok (.iand, 1) := by decide +kernel
theorem dX10_refuse_56 : decode cX10_refuse 56 = .ok (.putfield 212, 3) := by decide +kernel
theorem dX10_refuse_59 : decode cX10_refuse 59 = .ok (.iconst 1, 1) := by decide +kernel
theorem dX10_refuse_60 : decode cX10_refuse 60 = .ok (.ireturn, 1) := by decide +kernel
def w_X10_refuse (x1 : Int32) (x2 : Int32) (I : HI) (J : HJ) (Post : Bool → HI → Prop) : Prop :=
  w_X4_isPerson_12 x1 I J (fun (r_1 : Bool) => (w_X10_oneOf (kb r_1) 1 (fun (r_2 : Int32) => (w_X10_fails r_2 I J (fun (r_3 : Bool) (I_4 : HI) => ((r_3 = false → ((x2 = 0 → (∀ I_5 : HI, I_5 = hI I_4 12 13 ((I_4 12 13) &&& ((1 <<< (x1 &&& 31)) ^^^ (-1))) → (Post true I_5))) ∧ (¬ x2 = 0 → (∀ I_6 : HI, I_6 = hI I_4 12 13 ((I_4 12 13) ||| (1 <<< (x1 &&& 31))) → (Post true I_6))))) ∧ (r_3 = true → (Post false I_4))))))))
set_option maxHeartbeats 4000000 in
set_option maxRecDepth 20000 in
theorem we_X10_refuse (g : kf_G) (hg : kf_g g) {x : kf_X} (hx : kf_ok g x RX10 cX10_refuse 3 1 21) (x1 : Int32) (x2 : Int32) (I : HI) (J : HJ) (Post : Bool → HI → Prop) (hret : ∀ (pc : Nat) (lv : List (Nat × Value)) (v : Bool) (Iy : HI), decode cX10_refuse pc = .ok (.ireturn, 1) → Post v Iy → kf_M g x 3 pc lv [.int (kb v)] Iy J) (h : w_X10_refuse x1 x2 I J Post) : kf_M g x 3 0 [(0, .ref (g.2.2.2 0)), (1, .int x1), (2, .int x2)] [] I J := by
  unfold w_X10_refuse at h
  refine kf_aload_n hx dX10_refuse_0 rfl 0 rfl ?_
  refine kf_aload_n hx dX10_refuse_1 rfl 0 rfl ?_
  refine kf_getR (n := 12) hx sl_0_3 fl_RX10_29 dX10_refuse_2 ?_
  refine kf_iload_n hx dX10_refuse_5 rfl 1 rfl ?_
  refine kf_callVbP (st := [.ref (g.2.2.2 0)]) hx (m_X4_isPerson_12 g hg x1 I J _ h) lk_RX10_195 km_X4_isPerson ob_12 rfl (by decide) rfl (Nat.le_of_ble_eq_true rfl) dX10_refuse_6 (fun r_1 h => ?_)
  refine kf_iconst (v := 1) hx dX10_refuse_9 (by decide) ?_
  refine kf_callSiP (st := [.ref (g.2.2.2 0)]) hx (m_X10_oneOf g hg (kb r_1) 1 I J _ h) lk_RX10_198 km_X10_oneOf rfl (by decide) rfl (Nat.le_of_ble_eq_true rfl) dX10_refuse_10 (fun r_2 h => ?_)
  refine kf_callVbI (st := []) hx (m_X10_fails g hg r_2 I J _ h) lk_RX10_115 km_X10_fails ob_0 rfl (by decide) rfl (Nat.le_of_ble_eq_true rfl) dX10_refuse_13 (fun r_3 I_4 h => ?_)
  refine kf_ifB_eq hx 21 dX10_refuse_16 (by decide) (fun c => ?_) (fun c => ?_)
  · replace h := h.1 c
    refine kf_aload_n hx dX10_refuse_21 rfl 0 rfl ?_
    refine kf_getR (n := 12) hx sl_0_3 fl_RX10_29 dX10_refuse_22 ?_
    refine kf_iload_n hx dX10_refuse_25 rfl 2 rfl ?_
    refine kf_if_eq hx 43 dX10_refuse_26 (by decide) (fun c => ?_) (fun c => ?_)
    · replace h := h.1 c
      refine kf_aload_n hx dX10_refuse_43 rfl 0 rfl ?_
      refine kf_getR (n := 12) hx sl_0_3 fl_RX10_29 dX10_refuse_44 ?_
      refine kf_getI hx sl_12_13 fl_RX10_212 dX10_refuse_47 ?_
      refine kf_iconst (v := 1) hx dX10_refuse_50 (by decide) ?_
      refine kf_iload_n hx dX10_refuse_51 rfl 1 rfl ?_
      refine kf_ishl hx dX10_refuse_52 ?_
      refine kf_iconst (v := (-1)) hx dX10_refuse_53 (by decide) ?_
      refine kf_ixor hx dX10_refuse_54 ?_
      refine kf_iand hx dX10_refuse_55 ?_
      refine kf_putI hx sl_12_13 fl_RX10_212 fp_4_13 dX10_refuse_56 ?_
      refine kf_nmI (fun I_5 eI_5 => ?_)
      replace h := h I_5 eI_5
      refine kf_iconst (v := 1) hx dX10_refuse_59 (by decide) ?_
      exact hret _ _ true _ dX10_refuse_60 h
    · replace h := h.2 c
      refine kf_aload_n hx dX10_refuse_29 rfl 0 rfl ?_
      refine kf_getR (n := 12) hx sl_0_3 fl_RX10_29 dX10_refuse_30 ?_
      refine kf_getI hx sl_12_13 fl_RX10_212 dX10_refuse_33 ?_
      refine kf_iconst (v := 1) hx dX10_refuse_36 (by decide) ?_
      refine kf_iload_n hx dX10_refuse_37 rfl 1 rfl ?_
      refine kf_ishl hx dX10_refuse_38 ?_
      refine kf_ior hx dX10_refuse_39 ?_
      refine kf_goto hx 56 dX10_refuse_40 (by decide) ?_
      refine kf_putI hx sl_12_13 fl_RX10_212 fp_4_13 dX10_refuse_56 ?_
      refine kf_nmI (fun I_6 eI_6 => ?_)
      replace h := h I_6 eI_6
      refine kf_iconst (v := 1) hx dX10_refuse_59 (by decide) ?_
      exact hret _ _ true _ dX10_refuse_60 h
  · replace h := h.2 c
    refine kf_iconst (v := 0) hx dX10_refuse_19 (by decide) ?_
    exact hret _ _ false _ dX10_refuse_20 h
set_option maxHeartbeats 4000000 in
set_option maxRecDepth 20000 in
theorem m_X10_refuse (g : kf_G) (hg : kf_g g) (x1 : Int32) (x2 : Int32) (I : HI) (J : HJ) (Post : Bool → HI → Prop) (h : w_X10_refuse x1 x2 I J Post) : kf_Mb g yX10_refuse (kf_W yX10_refuse cX10_refuse 3 (Option.some Jvm.ClassFile.FieldType.boolean)) 1 21 [.ref (g.2.2.2 0), .int x1, .int x2] I J (fun v I' J' => Post v I' ∧ J' = J) :=
  kf_entb hg (by decide) (Nat.le_of_ble_eq_true rfl) rfl (fun x hx hr => we_X10_refuse g hg hx x1 x2 I J Post (fun pc lv v I' hd hP => hr pc lv v I' J hd ⟨hP, rfl⟩) h)
theorem dX10_weight_0 : decode cX10_weight 0 = .ok (.aload_n 0, 1) := by decide +kernel
theorem dX10_weight_1 : decode cX10_weight 1 = .ok (.aload_n 0, 1) := by decide +kernel
theorem dX10_weight_2 : decode cX10_weight 2 = .ok (.getfield 29, 3) := by decide +kernel
theorem dX10_weight_5 : decode cX10_weight 5 = .ok (.iload_n 1, 1) := by decide +kernel
theorem dX10_weight_6 : decode cX10_weight 6 = .ok (.invokevirtual 236, 3) := by decide +kernel
theorem dX10_weight_9 : decode cX10_weight 9 = .ok (.iconst 1, 1) := by decide +kernel
theorem dX10_weight_10 : decode cX10_weight 10 = .ok (.invokestatic 198, 3) := by decide +kernel
theorem dX10_weight_13 : decode cX10_weight 13 = .ok (.invokevirtual 115, 3) := by decide +kernel
theorem dX10_weight_16 : decode cX10_weight 16 = .ok (.ifCond .eq 7, 3) := by decide +kernel
theorem dX10_weight_19 : decode cX10_weight 19 = .ok (.ldc2_w 130, 3) := by decide +kernel
theorem dX10_weight_22 : decode cX10_weight 22 = .ok (.lreturn, 1) := by decide +kernel
theorem dX10_weight_23 : decode cX10_weight 23 = .ok (.aload_n 0, 1) := by decide +kernel
theorem dX10_weight_24 : decode cX10_weight 24 = .ok (.getfield 50, 3) := by decide +kernel
theorem dX10_weight_27 : decode cX10_weight 27 = .ok (.getfield 239, 3) := by decide +kernel
theorem dX10_weight_30 : decode cX10_weight 30 = .ok (.iload_n 1, 1) := by decide +kernel
theorem dX10_weight_31 : decode cX10_weight 31 = .ok (.laload, 1) := by decide +kernel
theorem dX10_weight_32 : decode cX10_weight 32 = .ok (.lreturn, 1) := by decide +kernel
def w_X10_weight (x1 : Int32) (I : HI) (J : HJ) (Post : Int64 → HI → Prop) : Prop :=
  w_X4_areTies x1 I J (fun (r_1 : Bool) => (w_X10_oneOf (kb r_1) 1 (fun (r_2 : Int32) => (w_X10_fails r_2 I J (fun (r_3 : Bool) (I_4 : HI) => ((r_3 = false → (vp_in x1 1024 ∧ (Post (J 40 (Int32.toNatClampNeg x1)) I_4))) ∧ (r_3 = true → (Post (-1) I_4))))))))
set_option maxHeartbeats 4000000 in
set_option maxRecDepth 20000 in
theorem we_X10_weight (g : kf_G) (hg : kf_g g) {x : kf_X} (hx : kf_ok g x RX10 cX10_weight 2 1 21) (x1 : Int32) (I : HI) (J : HJ) (Post : Int64 → HI → Prop) (hret : ∀ (pc : Nat) (lv : List (Nat × Value)) (v : Int64) (Iy : HI), decode cX10_weight pc = .ok (.lreturn, 1) → Post v Iy → kf_M g x 2 pc lv [.long v] Iy J) (h : w_X10_weight x1 I J Post) : kf_M g x 2 0 [(0, .ref (g.2.2.2 0)), (1, .int x1)] [] I J := by
  unfold w_X10_weight at h
  refine kf_aload_n hx dX10_weight_0 rfl 0 rfl ?_
  refine kf_aload_n hx dX10_weight_1 rfl 0 rfl ?_
  refine kf_getR (n := 12) hx sl_0_3 fl_RX10_29 dX10_weight_2 ?_
  refine kf_iload_n hx dX10_weight_5 rfl 1 rfl ?_
  refine kf_callVbP (st := [.ref (g.2.2.2 0)]) hx (m_X4_areTies g hg x1 I J _ h) lk_RX10_236 km_X4_areTies ob_12 rfl (by decide) rfl (Nat.le_of_ble_eq_true rfl) dX10_weight_6 (fun r_1 h => ?_)
  refine kf_iconst (v := 1) hx dX10_weight_9 (by decide) ?_
  refine kf_callSiP (st := [.ref (g.2.2.2 0)]) hx (m_X10_oneOf g hg (kb r_1) 1 I J _ h) lk_RX10_198 km_X10_oneOf rfl (by decide) rfl (Nat.le_of_ble_eq_true rfl) dX10_weight_10 (fun r_2 h => ?_)
  refine kf_callVbI (st := []) hx (m_X10_fails g hg r_2 I J _ h) lk_RX10_115 km_X10_fails ob_0 rfl (by decide) rfl (Nat.le_of_ble_eq_true rfl) dX10_weight_13 (fun r_3 I_4 h => ?_)
  refine kf_ifB_eq hx 23 dX10_weight_16 (by decide) (fun c => ?_) (fun c => ?_)
  · replace h := h.1 c
    refine kf_aload_n hx dX10_weight_23 rfl 0 rfl ?_
    refine kf_getR (n := 39) hx sl_0_6 fl_RX10_50 dX10_weight_24 ?_
    refine kf_getR (n := 40) hx sl_39_1 fl_RX10_239 dX10_weight_27 ?_
    refine kf_iload_n hx dX10_weight_30 rfl 1 rfl ?_
    refine kf_lald hx ar_40 h.1 dX10_weight_31 ?_
    replace h := h.2
    exact hret _ _ (J 40 (Int32.toNatClampNeg x1)) _ dX10_weight_32 h
  · replace h := h.2 c
    refine kf_ldc2 hx ko_RX10_130 dX10_weight_19 ?_
    exact hret _ _ (-1) _ dX10_weight_22 h
set_option maxHeartbeats 4000000 in
set_option maxRecDepth 20000 in
theorem m_X10_weight (g : kf_G) (hg : kf_g g) (x1 : Int32) (I : HI) (J : HJ) (Post : Int64 → HI → Prop) (h : w_X10_weight x1 I J Post) : kf_Ml g yX10_weight (kf_W yX10_weight cX10_weight 2 (Option.some Jvm.ClassFile.FieldType.long)) 1 21 [.ref (g.2.2.2 0), .int x1] I J (fun v I' J' => Post v I' ∧ J' = J) :=
  kf_entl hg (by decide) (Nat.le_of_ble_eq_true rfl) rfl (fun x hx hr => we_X10_weight g hg hx x1 I J Post (fun pc lv v I' hd hP => hr pc lv v I' J hd ⟨hP, rfl⟩) h)
theorem dX10_reached_0 : decode cX10_reached 0 = .ok (.aload_n 0, 1) := by decide +kernel
theorem dX10_reached_1 : decode cX10_reached 1 = .ok (.aload_n 0, 1) := by decide +kernel
theorem dX10_reached_2 : decode cX10_reached 2 = .ok (.getfield 29, 3) := by decide +kernel
theorem dX10_reached_5 : decode cX10_reached 5 = .ok (.iload_n 1, 1) := by decide +kernel
theorem dX10_reached_6 : decode cX10_reached 6 = .ok (.invokevirtual 242, 3) := by decide +kernel
theorem dX10_reached_9 : decode cX10_reached 9 = .ok (.ifCond .eq 18, 3) := by decide +kernel
theorem dX10_reached_12 : decode cX10_reached 12 = .ok (.aload_n 0, 1) := by decide +kernel
theorem dX10_reached_13 : decode cX10_reached 13 = .ok (.getfield 29, 3) := by decide +kernel
theorem dX10_reached_16 : decode cX10_reached 16 = .ok (.iload_n 2, 1) := by decide +kernel
theorem dX10_reached_17 : decode cX10_reached 17 = .ok (.invokevirtual 236, 3) := by decide +kernel
theorem dX10_reached_20 : decode cX10_reached 20 = .ok (.ifCond .eq 7, 3) := by decide +kernel
theorem dX10_reached_23 : decode cX10_reached 23 = .ok (.iconst 1, 1) := by decide +kernel
theorem dX10_reached_24 : decode cX10_reached 24 = .ok (.goto 4, 3) := by decide +kernel
theorem dX10_reached_27 : decode cX10_reached 27 = .ok (.iconst 0, 1) := by decide +kernel
theorem dX10_reached_28 : decode cX10_reached 28 = .ok (.iconst 1, 1) := by decide +kernel
theorem dX10_reached_29 : decode cX10_reached 29 = .ok (.invokestatic 198, 3) := by decide +kernel
theorem dX10_reached_32 : decode cX10_reached 32 = .ok (.invokevirtual 115, 3) := by decide +kernel
theorem dX10_reached_35 : decode cX10_reached 35 = .ok (.ifCond .eq 5, 3) := by decide +kernel
theorem dX10_reached_38 : decode cX10_reached 38 = .ok (.iconst (-1), 1) := by decide +kernel
theorem dX10_reached_39 : decode cX10_reached 39 = .ok (.ireturn, 1) := by decide +kernel
theorem dX10_reached_40 : decode cX10_reached 40 = .ok (.aload_n 0, 1) := by decide +kernel
theorem dX10_reached_41 : decode cX10_reached 41 = .ok (.getfield 50, 3) := by decide +kernel
theorem dX10_reached_44 : decode cX10_reached 44 = .ok (.iload_n 1, 1) := by decide +kernel
theorem dX10_reached_45 : decode cX10_reached 45 = .ok (.iload_n 2, 1) := by decide +kernel
theorem dX10_reached_46 : decode cX10_reached 46 = .ok (.invokevirtual 245, 3) := by decide +kernel
theorem dX10_reached_49 : decode cX10_reached 49 = .ok (.ireturn, 1) := by decide +kernel
def wj_X10_reached_28 (I : HI) (J : HJ) (x1 : Int32) (x2 : Int32) (t0 : Int32) (Post : Int32 → HI → Prop) : Prop :=
  w_X10_oneOf t0 1 (fun (r_2 : Int32) => (w_X10_fails r_2 I J (fun (r_3 : Bool) (I_4 : HI) => ((r_3 = false → (w_X2_takers x1 x2 I_4 J (fun (r_5 : Int32) => (Post r_5 I_4)))) ∧ (r_3 = true → (Post (-1) I_4))))))
set_option maxHeartbeats 4000000 in
set_option maxRecDepth 20000 in
theorem wk_X10_reached_28 (g : kf_G) (hg : kf_g g) {x : kf_X} (hx : kf_ok g x RX10 cX10_reached 3 3 72) (I : HI) (J : HJ) (x1 : Int32) (x2 : Int32) (t0 : Int32) (Post : Int32 → HI → Prop) (hret : ∀ (pc : Nat) (lv : List (Nat × Value)) (v : Int32) (Iy : HI), decode cX10_reached pc = .ok (.ireturn, 1) → Post v Iy → kf_M g x 3 pc lv [.int v] Iy J) (h : wj_X10_reached_28 I J x1 x2 t0 Post) : kf_M g x 3 28 [(0, .ref (g.2.2.2 0)), (1, .int x1), (2, .int x2)] [.int t0, .ref (g.2.2.2 0)] I J := by
  unfold wj_X10_reached_28 at h
  refine kf_iconst (v := 1) hx dX10_reached_28 (by decide) ?_
  refine kf_callSiP (st := [.ref (g.2.2.2 0)]) hx (m_X10_oneOf g hg t0 1 I J _ h) lk_RX10_198 km_X10_oneOf rfl (by decide) rfl (Nat.le_of_ble_eq_true rfl) dX10_reached_29 (fun r_2 h => ?_)
  refine kf_callVbI (st := []) hx (m_X10_fails g hg r_2 I J _ h) lk_RX10_115 km_X10_fails ob_0 rfl (by decide) rfl (Nat.le_of_ble_eq_true rfl) dX10_reached_32 (fun r_3 I_4 h => ?_)
  refine kf_ifB_eq hx 40 dX10_reached_35 (by decide) (fun c => ?_) (fun c => ?_)
  · replace h := h.1 c
    refine kf_aload_n hx dX10_reached_40 rfl 0 rfl ?_
    refine kf_getR (n := 39) hx sl_0_6 fl_RX10_50 dX10_reached_41 ?_
    refine kf_iload_n hx dX10_reached_44 rfl 1 rfl ?_
    refine kf_iload_n hx dX10_reached_45 rfl 2 rfl ?_
    refine kf_callViP (st := []) hx (m_X2_takers g hg x1 x2 I_4 J _ h) lk_RX10_245 km_X2_takers ob_39 rfl (by decide) rfl (Nat.le_of_ble_eq_true rfl) dX10_reached_46 (fun r_5 h => ?_)
    exact hret _ _ r_5 _ dX10_reached_49 h
  · replace h := h.2 c
    refine kf_iconst (v := (-1)) hx dX10_reached_38 (by decide) ?_
    exact hret _ _ (-1) _ dX10_reached_39 h
def wj_X10_reached_27 (I : HI) (J : HJ) (x1 : Int32) (x2 : Int32) (Post : Int32 → HI → Prop) : Prop :=
  wj_X10_reached_28 I J x1 x2 0 Post
set_option maxHeartbeats 4000000 in
set_option maxRecDepth 20000 in
theorem wk_X10_reached_27 (g : kf_G) (hg : kf_g g) {x : kf_X} (hx : kf_ok g x RX10 cX10_reached 3 3 72) (I : HI) (J : HJ) (x1 : Int32) (x2 : Int32) (Post : Int32 → HI → Prop) (hret : ∀ (pc : Nat) (lv : List (Nat × Value)) (v : Int32) (Iy : HI), decode cX10_reached pc = .ok (.ireturn, 1) → Post v Iy → kf_M g x 3 pc lv [.int v] Iy J) (h : wj_X10_reached_27 I J x1 x2 Post) : kf_M g x 3 27 [(0, .ref (g.2.2.2 0)), (1, .int x1), (2, .int x2)] [.ref (g.2.2.2 0)] I J := by
  unfold wj_X10_reached_27 at h
  refine kf_iconst (v := 0) hx dX10_reached_27 (by decide) ?_
  exact wk_X10_reached_28 g hg hx I J x1 x2 0 _ hret h
def w_X10_reached (x1 : Int32) (x2 : Int32) (I : HI) (J : HJ) (Post : Int32 → HI → Prop) : Prop :=
  w_X4_arePeople x1 I J (fun (r_1 : Bool) => ((r_1 = false → (wj_X10_reached_27 I J x1 x2 Post)) ∧ (r_1 = true → (w_X4_areTies x2 I J (fun (r_6 : Bool) => ((r_6 = false → (wj_X10_reached_27 I J x1 x2 Post)) ∧ (r_6 = true → (wj_X10_reached_28 I J x1 x2 1 Post))))))))
set_option maxHeartbeats 4000000 in
set_option maxRecDepth 20000 in
theorem we_X10_reached (g : kf_G) (hg : kf_g g) {x : kf_X} (hx : kf_ok g x RX10 cX10_reached 3 3 72) (x1 : Int32) (x2 : Int32) (I : HI) (J : HJ) (Post : Int32 → HI → Prop) (hret : ∀ (pc : Nat) (lv : List (Nat × Value)) (v : Int32) (Iy : HI), decode cX10_reached pc = .ok (.ireturn, 1) → Post v Iy → kf_M g x 3 pc lv [.int v] Iy J) (h : w_X10_reached x1 x2 I J Post) : kf_M g x 3 0 [(0, .ref (g.2.2.2 0)), (1, .int x1), (2, .int x2)] [] I J := by
  unfold w_X10_reached at h
  refine kf_aload_n hx dX10_reached_0 rfl 0 rfl ?_
  refine kf_aload_n hx dX10_reached_1 rfl 0 rfl ?_
  refine kf_getR (n := 12) hx sl_0_3 fl_RX10_29 dX10_reached_2 ?_
  refine kf_iload_n hx dX10_reached_5 rfl 1 rfl ?_
  refine kf_callVbP (st := [.ref (g.2.2.2 0)]) hx (m_X4_arePeople g hg x1 I J _ h) lk_RX10_242 km_X4_arePeople ob_12 rfl (by decide) rfl (Nat.le_of_ble_eq_true rfl) dX10_reached_6 (fun r_1 h => ?_)
  refine kf_ifB_eq hx 27 dX10_reached_9 (by decide) (fun c => ?_) (fun c => ?_)
  · replace h := h.1 c
    exact wk_X10_reached_27 g hg hx I J x1 x2 _ hret h
  · replace h := h.2 c
    refine kf_aload_n hx dX10_reached_12 rfl 0 rfl ?_
    refine kf_getR (n := 12) hx sl_0_3 fl_RX10_29 dX10_reached_13 ?_
    refine kf_iload_n hx dX10_reached_16 rfl 2 rfl ?_
    refine kf_callVbP (st := [.ref (g.2.2.2 0)]) hx (m_X4_areTies g hg x2 I J _ h) lk_RX10_236 km_X4_areTies ob_12 rfl (by decide) rfl (Nat.le_of_ble_eq_true rfl) dX10_reached_17 (fun r_6 h => ?_)
    refine kf_ifB_eq hx 27 dX10_reached_20 (by decide) (fun c => ?_) (fun c => ?_)
    · replace h := h.1 c
      exact wk_X10_reached_27 g hg hx I J x1 x2 _ hret h
    · replace h := h.2 c
      refine kf_iconst (v := 1) hx dX10_reached_23 (by decide) ?_
      refine kf_goto hx 28 dX10_reached_24 (by decide) ?_
      exact wk_X10_reached_28 g hg hx I J x1 x2 1 _ hret h
set_option maxHeartbeats 4000000 in
set_option maxRecDepth 20000 in
theorem m_X10_reached (g : kf_G) (hg : kf_g g) (x1 : Int32) (x2 : Int32) (I : HI) (J : HJ) (Post : Int32 → HI → Prop) (h : w_X10_reached x1 x2 I J Post) : kf_Mi g yX10_reached (kf_W yX10_reached cX10_reached 3 (Option.some Jvm.ClassFile.FieldType.int)) 3 72 [.ref (g.2.2.2 0), .int x1, .int x2] I J (fun v I' J' => Post v I' ∧ J' = J) :=
  kf_enti hg (by decide) (Nat.le_of_ble_eq_true rfl) rfl (fun x hx hr => we_X10_reached g hg hx x1 x2 I J Post (fun pc lv v I' hd hP => hr pc lv v I' J hd ⟨hP, rfl⟩) h)
theorem dX10_backWalk_0 : decode cX10_backWalk 0 = .ok (.aload_n 0, 1) := by decide +kernel
theorem dX10_backWalk_1 : decode cX10_backWalk 1 = .ok (.aload_n 0, 1) := by decide +kernel
theorem dX10_backWalk_2 : decode cX10_backWalk 2 = .ok (.getfield 29, 3) := by decide +kernel
theorem dX10_backWalk_5 : decode cX10_backWalk 5 = .ok (.iload_n 1, 1) := by decide +kernel
theorem dX10_backWalk_6 : decode cX10_backWalk 6 = .ok (.invokevirtual 195, 3) := by decide +kernel
theorem dX10_backWalk_9 : decode cX10_backWalk 9 = .ok (.ifCond .eq 18, 3) := by decide +kernel
theorem dX10_backWalk_12 : decode cX10_backWalk 12 = .ok (.aload_n 0, 1) := by decide +kernel
theorem dX10_backWalk_13 : decode cX10_backWalk 13 = .ok (.getfield 29, 3) := by decide +kernel
theorem dX10_backWalk_16 : decode cX10_backWalk 16 = .ok (.iload_n 2, 1) := by decide +kernel
theorem dX10_backWalk_17 : decode cX10_backWalk 17 = .ok (.invokevirtual 236, 3) := by decide +kernel
theorem dX10_backWalk_20 : decode cX10_backWalk 20 = .ok (.ifCond .eq 7, 3) := by decide +kernel
theorem dX10_backWalk_23 : decode cX10_backWalk 23 = .ok (.iconst 1, 1) := by decide +kernel
theorem dX10_backWalk_24 : decode cX10_backWalk 24 = .ok (.goto 4, 3) := by decide +kernel
theorem dX10_backWalk_27 : decode cX10_backWalk 27 = .ok (.iconst 0, 1) := by decide +kernel
theorem dX10_backWalk_28 : decode cX10_backWalk 28 = .ok (.iconst 1, 1) := by decide +kernel
theorem dX10_backWalk_29 : decode cX10_backWalk 29 = .ok (.invokestatic 198, 3) := by decide +kernel
theorem dX10_backWalk_32 : decode cX10_backWalk 32 = .ok (.invokevirtual 115, 3) := by decide +kernel
theorem dX10_backWalk_35 : decode cX10_backWalk 35 = .ok (.ifCond .eq 5, 3) := by decide +kernel
theorem dX10_backWalk_38 : decode cX10_backWalk 38 = .ok (.iconst (-1), 1) := by decide +kernel
theorem dX10_backWalk_39 : decode cX10_backWalk 39 = .ok (.ireturn, 1) := by decide +kernel
theorem dX10_backWalk_40 : decode cX10_backWalk 40 = .ok (.aload_n 0, 1) := by decide +kernel
theorem dX10_backWalk_41 : decode cX10_backWalk 41 = .ok (.getfield 50, 3) := by decide +kernel
theorem dX10_backWalk_44 : decode cX10_backWalk 44 = .ok (.iload_n 1, 1) := by decide +kernel
theorem dX10_backWalk_45 : decode cX10_backWalk 45 = .ok (.iload_n 2, 1) := by decide +kernel
theorem dX10_backWalk_46 : decode cX10_backWalk 46 = .ok (.invokevirtual 248, 3) := by decide +kernel
theorem dX10_backWalk_49 : decode cX10_backWalk 49 = .ok (.ireturn, 1) := by decide +kernel
def wj_X10_backWalk_28 (I : HI) (J : HJ) (x1 : Int32) (x2 : Int32) (t0 : Int32) (Post : Int32 → HI → Prop) : Prop :=
  w_X10_oneOf t0 1 (fun (r_2 : Int32) => (w_X10_fails r_2 I J (fun (r_3 : Bool) (I_4 : HI) => ((r_3 = false → (w_X2_walkedBack x1 x2 I_4 J (fun (r_5 : Int32) => (Post r_5 I_4)))) ∧ (r_3 = true → (Post (-1) I_4))))))
set_option maxHeartbeats 4000000 in
set_option maxRecDepth 20000 in
theorem wk_X10_backWalk_28 (g : kf_G) (hg : kf_g g) {x : kf_X} (hx : kf_ok g x RX10 cX10_backWalk 3 3 69) (I : HI) (J : HJ) (x1 : Int32) (x2 : Int32) (t0 : Int32) (Post : Int32 → HI → Prop) (hret : ∀ (pc : Nat) (lv : List (Nat × Value)) (v : Int32) (Iy : HI), decode cX10_backWalk pc = .ok (.ireturn, 1) → Post v Iy → kf_M g x 3 pc lv [.int v] Iy J) (h : wj_X10_backWalk_28 I J x1 x2 t0 Post) : kf_M g x 3 28 [(0, .ref (g.2.2.2 0)), (1, .int x1), (2, .int x2)] [.int t0, .ref (g.2.2.2 0)] I J := by
  unfold wj_X10_backWalk_28 at h
  refine kf_iconst (v := 1) hx dX10_backWalk_28 (by decide) ?_
  refine kf_callSiP (st := [.ref (g.2.2.2 0)]) hx (m_X10_oneOf g hg t0 1 I J _ h) lk_RX10_198 km_X10_oneOf rfl (by decide) rfl (Nat.le_of_ble_eq_true rfl) dX10_backWalk_29 (fun r_2 h => ?_)
  refine kf_callVbI (st := []) hx (m_X10_fails g hg r_2 I J _ h) lk_RX10_115 km_X10_fails ob_0 rfl (by decide) rfl (Nat.le_of_ble_eq_true rfl) dX10_backWalk_32 (fun r_3 I_4 h => ?_)
  refine kf_ifB_eq hx 40 dX10_backWalk_35 (by decide) (fun c => ?_) (fun c => ?_)
  · replace h := h.1 c
    refine kf_aload_n hx dX10_backWalk_40 rfl 0 rfl ?_
    refine kf_getR (n := 39) hx sl_0_6 fl_RX10_50 dX10_backWalk_41 ?_
    refine kf_iload_n hx dX10_backWalk_44 rfl 1 rfl ?_
    refine kf_iload_n hx dX10_backWalk_45 rfl 2 rfl ?_
    refine kf_callViP (st := []) hx (m_X2_walkedBack g hg x1 x2 I_4 J _ h) lk_RX10_248 km_X2_walkedBack ob_39 rfl (by decide) rfl (Nat.le_of_ble_eq_true rfl) dX10_backWalk_46 (fun r_5 h => ?_)
    exact hret _ _ r_5 _ dX10_backWalk_49 h
  · replace h := h.2 c
    refine kf_iconst (v := (-1)) hx dX10_backWalk_38 (by decide) ?_
    exact hret _ _ (-1) _ dX10_backWalk_39 h
def wj_X10_backWalk_27 (I : HI) (J : HJ) (x1 : Int32) (x2 : Int32) (Post : Int32 → HI → Prop) : Prop :=
  wj_X10_backWalk_28 I J x1 x2 0 Post
set_option maxHeartbeats 4000000 in
set_option maxRecDepth 20000 in
theorem wk_X10_backWalk_27 (g : kf_G) (hg : kf_g g) {x : kf_X} (hx : kf_ok g x RX10 cX10_backWalk 3 3 69) (I : HI) (J : HJ) (x1 : Int32) (x2 : Int32) (Post : Int32 → HI → Prop) (hret : ∀ (pc : Nat) (lv : List (Nat × Value)) (v : Int32) (Iy : HI), decode cX10_backWalk pc = .ok (.ireturn, 1) → Post v Iy → kf_M g x 3 pc lv [.int v] Iy J) (h : wj_X10_backWalk_27 I J x1 x2 Post) : kf_M g x 3 27 [(0, .ref (g.2.2.2 0)), (1, .int x1), (2, .int x2)] [.ref (g.2.2.2 0)] I J := by
  unfold wj_X10_backWalk_27 at h
  refine kf_iconst (v := 0) hx dX10_backWalk_27 (by decide) ?_
  exact wk_X10_backWalk_28 g hg hx I J x1 x2 0 _ hret h
def w_X10_backWalk (x1 : Int32) (x2 : Int32) (I : HI) (J : HJ) (Post : Int32 → HI → Prop) : Prop :=
  w_X4_isPerson_12 x1 I J (fun (r_1 : Bool) => ((r_1 = false → (wj_X10_backWalk_27 I J x1 x2 Post)) ∧ (r_1 = true → (w_X4_areTies x2 I J (fun (r_6 : Bool) => ((r_6 = false → (wj_X10_backWalk_27 I J x1 x2 Post)) ∧ (r_6 = true → (wj_X10_backWalk_28 I J x1 x2 1 Post))))))))
set_option maxHeartbeats 4000000 in
set_option maxRecDepth 20000 in
theorem we_X10_backWalk (g : kf_G) (hg : kf_g g) {x : kf_X} (hx : kf_ok g x RX10 cX10_backWalk 3 3 69) (x1 : Int32) (x2 : Int32) (I : HI) (J : HJ) (Post : Int32 → HI → Prop) (hret : ∀ (pc : Nat) (lv : List (Nat × Value)) (v : Int32) (Iy : HI), decode cX10_backWalk pc = .ok (.ireturn, 1) → Post v Iy → kf_M g x 3 pc lv [.int v] Iy J) (h : w_X10_backWalk x1 x2 I J Post) : kf_M g x 3 0 [(0, .ref (g.2.2.2 0)), (1, .int x1), (2, .int x2)] [] I J := by
  unfold w_X10_backWalk at h
  refine kf_aload_n hx dX10_backWalk_0 rfl 0 rfl ?_
  refine kf_aload_n hx dX10_backWalk_1 rfl 0 rfl ?_
  refine kf_getR (n := 12) hx sl_0_3 fl_RX10_29 dX10_backWalk_2 ?_
  refine kf_iload_n hx dX10_backWalk_5 rfl 1 rfl ?_
  refine kf_callVbP (st := [.ref (g.2.2.2 0)]) hx (m_X4_isPerson_12 g hg x1 I J _ h) lk_RX10_195 km_X4_isPerson ob_12 rfl (by decide) rfl (Nat.le_of_ble_eq_true rfl) dX10_backWalk_6 (fun r_1 h => ?_)
  refine kf_ifB_eq hx 27 dX10_backWalk_9 (by decide) (fun c => ?_) (fun c => ?_)
  · replace h := h.1 c
    exact wk_X10_backWalk_27 g hg hx I J x1 x2 _ hret h
  · replace h := h.2 c
    refine kf_aload_n hx dX10_backWalk_12 rfl 0 rfl ?_
    refine kf_getR (n := 12) hx sl_0_3 fl_RX10_29 dX10_backWalk_13 ?_
    refine kf_iload_n hx dX10_backWalk_16 rfl 2 rfl ?_
    refine kf_callVbP (st := [.ref (g.2.2.2 0)]) hx (m_X4_areTies g hg x2 I J _ h) lk_RX10_236 km_X4_areTies ob_12 rfl (by decide) rfl (Nat.le_of_ble_eq_true rfl) dX10_backWalk_17 (fun r_6 h => ?_)
    refine kf_ifB_eq hx 27 dX10_backWalk_20 (by decide) (fun c => ?_) (fun c => ?_)
    · replace h := h.1 c
      exact wk_X10_backWalk_27 g hg hx I J x1 x2 _ hret h
    · replace h := h.2 c
      refine kf_iconst (v := 1) hx dX10_backWalk_23 (by decide) ?_
      refine kf_goto hx 28 dX10_backWalk_24 (by decide) ?_
      exact wk_X10_backWalk_28 g hg hx I J x1 x2 1 _ hret h
set_option maxHeartbeats 4000000 in
set_option maxRecDepth 20000 in
theorem m_X10_backWalk (g : kf_G) (hg : kf_g g) (x1 : Int32) (x2 : Int32) (I : HI) (J : HJ) (Post : Int32 → HI → Prop) (h : w_X10_backWalk x1 x2 I J Post) : kf_Mi g yX10_backWalk (kf_W yX10_backWalk cX10_backWalk 3 (Option.some Jvm.ClassFile.FieldType.int)) 3 69 [.ref (g.2.2.2 0), .int x1, .int x2] I J (fun v I' J' => Post v I' ∧ J' = J) :=
  kf_enti hg (by decide) (Nat.le_of_ble_eq_true rfl) rfl (fun x hx hr => we_X10_backWalk g hg hx x1 x2 I J Post (fun pc lv v I' hd hP => hr pc lv v I' J hd ⟨hP, rfl⟩) h)
theorem dX10_spread_0 : decode cX10_spread 0 = .ok (.aload_n 0, 1) := by decide +kernel
theorem dX10_spread_1 : decode cX10_spread 1 = .ok (.aload_n 0, 1) := by decide +kernel
theorem dX10_spread_2 : decode cX10_spread 2 = .ok (.getfield 29, 3) := by decide +kernel
theorem dX10_spread_5 : decode cX10_spread 5 = .ok (.iload_n 1, 1) := by decide +kernel
theorem dX10_spread_6 : decode cX10_spread 6 = .ok (.invokevirtual 242, 3) := by decide +kernel
theorem dX10_spread_9 : decode cX10_spread 9 = .ok (.ifCond .eq 18, 3) := by decide +kernel
theorem dX10_spread_12 : decode cX10_spread 12 = .ok (.aload_n 0, 1) := by decide +kernel
theorem dX10_spread_13 : decode cX10_spread 13 = .ok (.getfield 29, 3) := by decide +kernel
theorem dX10_spread_16 : decode cX10_spread 16 = .ok (.iload_n 2, 1) := by decide +kernel
theorem dX10_spread_17 : decode cX10_spread 17 = .ok (.invokevirtual 236, 3) := by decide +kernel
theorem dX10_spread_20 : decode cX10_spread 20 = .ok (.ifCond .eq 7, 3) := by decide +kernel
theorem dX10_spread_23 : decode cX10_spread 23 = .ok (.iconst 1, 1) := by decide +kernel
theorem dX10_spread_24 : decode cX10_spread 24 = .ok (.goto 4, 3) := by decide +kernel
theorem dX10_spread_27 : decode cX10_spread 27 = .ok (.iconst 0, 1) := by decide +kernel
theorem dX10_spread_28 : decode cX10_spread 28 = .ok (.iconst 1, 1) := by decide +kernel
theorem dX10_spread_29 : decode cX10_spread 29 = .ok (.invokestatic 198, 3) := by decide +kernel
theorem dX10_spread_32 : decode cX10_spread 32 = .ok (.invokevirtual 115, 3) := by decide +kernel
theorem dX10_spread_35 : decode cX10_spread 35 = .ok (.ifCond .eq 5, 3) := by decide +kernel
theorem dX10_spread_38 : decode cX10_spread 38 = .ok (.iconst 0, 1) := by decide +kernel
theorem dX10_spread_39 : decode cX10_spread 39 = .ok (.ireturn, 1) := by decide +kernel
theorem dX10_spread_40 : decode cX10_spread 40 = .ok (.aload_n 0, 1) := by decide +kernel
theorem dX10_spread_41 : decode cX10_spread 41 = .ok (.getfield 22, 3) := by decide +kernel
theorem dX10_spread_44 : decode cX10_spread 44 = .ok (.aload_n 0, 1) := by decide +kernel
theorem dX10_spread_45 : decode cX10_spread 45 = .ok (.getfield 50, 3) := by decide +kernel
theorem dX10_spread_48 : decode cX10_spread 48 = .ok (.iload_n 1, 1) := by decide +kernel
theorem dX10_spread_49 : decode cX10_spread 49 = .ok (.iload_n 2, 1) := by decide +kernel
theorem dX10_spread_50 : decode cX10_spread 50 = .ok (.invokevirtual 251, 3) := by decide +kernel
theorem dX10_spread_53 : decode cX10_spread 53 = .ok (.aload_n 0, 1) := by decide +kernel
theorem dX10_spread_54 : decode cX10_spread 54 = .ok (.getfield 50, 3) := by decide +kernel
theorem dX10_spread_57 : decode cX10_spread 57 = .ok (.invokevirtual 255, 3) := by decide +kernel
theorem dX10_spread_60 : decode cX10_spread 60 = .ok (.invokevirtual 259, 3) := by decide +kernel
theorem dX10_spread_63 : decode cX10_spread 63 = .ok (.iconst 1, 1) := by decide +kernel
theorem dX10_spread_64 : decode cX10_spread 64 = .ok (.ireturn, 1) := by decide +kernel
def wj_X10_spread_28 (I : HI) (J : HJ) (x1 : Int32) (x2 : Int32) (t0 : Int32) (Post : Bool → HI → HJ → Prop) : Prop :=
  w_X10_oneOf t0 1 (fun (r_2 : Int32) => (w_X10_fails r_2 I J (fun (r_3 : Bool) (I_4 : HI) => ((r_3 = false → (w_X2_total x1 x2 I_4 J (fun (r_5 : Int64) => (w_X2_whole  I_4 J (fun (r_6 : Int64) => (w_X1_become r_5 r_6 I_4 J (fun (J_7 : HJ) => (Post true I_4 J_7)))))))) ∧ (r_3 = true → (Post false I_4 J))))))
set_option maxHeartbeats 4000000 in
set_option maxRecDepth 20000 in
theorem wk_X10_spread_28 (g : kf_G) (hg : kf_g g) {x : kf_X} (hx : kf_ok g x RX10 cX10_spread 3 18 680) (I : HI) (J : HJ) (x1 : Int32) (x2 : Int32) (t0 : Int32) (Post : Bool → HI → HJ → Prop) (hret : ∀ (pc : Nat) (lv : List (Nat × Value)) (v : Bool) (Iy : HI) (Jy : HJ), decode cX10_spread pc = .ok (.ireturn, 1) → Post v Iy Jy → kf_M g x 3 pc lv [.int (kb v)] Iy Jy) (h : wj_X10_spread_28 I J x1 x2 t0 Post) : kf_M g x 3 28 [(0, .ref (g.2.2.2 0)), (1, .int x1), (2, .int x2)] [.int t0, .ref (g.2.2.2 0)] I J := by
  unfold wj_X10_spread_28 at h
  refine kf_iconst (v := 1) hx dX10_spread_28 (by decide) ?_
  refine kf_callSiP (st := [.ref (g.2.2.2 0)]) hx (m_X10_oneOf g hg t0 1 I J _ h) lk_RX10_198 km_X10_oneOf rfl (by decide) rfl (Nat.le_of_ble_eq_true rfl) dX10_spread_29 (fun r_2 h => ?_)
  refine kf_callVbI (st := []) hx (m_X10_fails g hg r_2 I J _ h) lk_RX10_115 km_X10_fails ob_0 rfl (by decide) rfl (Nat.le_of_ble_eq_true rfl) dX10_spread_32 (fun r_3 I_4 h => ?_)
  refine kf_ifB_eq hx 40 dX10_spread_35 (by decide) (fun c => ?_) (fun c => ?_)
  · replace h := h.1 c
    refine kf_aload_n hx dX10_spread_40 rfl 0 rfl ?_
    refine kf_getR (n := 11) hx sl_0_2 fl_RX10_22 dX10_spread_41 ?_
    refine kf_aload_n hx dX10_spread_44 rfl 0 rfl ?_
    refine kf_getR (n := 39) hx sl_0_6 fl_RX10_50 dX10_spread_45 ?_
    refine kf_iload_n hx dX10_spread_48 rfl 1 rfl ?_
    refine kf_iload_n hx dX10_spread_49 rfl 2 rfl ?_
    refine kf_callVlP (st := [.ref (g.2.2.2 11)]) hx (m_X2_total g hg x1 x2 I_4 J _ h) lk_RX10_251 km_X2_total ob_39 rfl (by decide) rfl (Nat.le_of_ble_eq_true rfl) dX10_spread_50 (fun r_5 h => ?_)
    refine kf_aload_n hx dX10_spread_53 rfl 0 rfl ?_
    refine kf_getR (n := 39) hx sl_0_6 fl_RX10_50 dX10_spread_54 ?_
    refine kf_callVlP (st := [.long r_5, .ref (g.2.2.2 11)]) hx (m_X2_whole g hg  I_4 J _ h) lk_RX10_255 km_X2_whole ob_39 rfl (by decide) rfl (Nat.le_of_ble_eq_true rfl) dX10_spread_57 (fun r_6 h => ?_)
    refine kf_callVvJ (st := []) hx (m_X1_become g hg r_5 r_6 I_4 J _ h) lk_RX10_259 km_X1_become ob_11 rfl (by decide) rfl (Nat.le_of_ble_eq_true rfl) dX10_spread_60 (fun J_7 h => ?_)
    refine kf_iconst (v := 1) hx dX10_spread_63 (by decide) ?_
    exact hret _ _ true _ _ dX10_spread_64 h
  · replace h := h.2 c
    refine kf_iconst (v := 0) hx dX10_spread_38 (by decide) ?_
    exact hret _ _ false _ _ dX10_spread_39 h
def wj_X10_spread_27 (I : HI) (J : HJ) (x1 : Int32) (x2 : Int32) (Post : Bool → HI → HJ → Prop) : Prop :=
  wj_X10_spread_28 I J x1 x2 0 Post
set_option maxHeartbeats 4000000 in
set_option maxRecDepth 20000 in
theorem wk_X10_spread_27 (g : kf_G) (hg : kf_g g) {x : kf_X} (hx : kf_ok g x RX10 cX10_spread 3 18 680) (I : HI) (J : HJ) (x1 : Int32) (x2 : Int32) (Post : Bool → HI → HJ → Prop) (hret : ∀ (pc : Nat) (lv : List (Nat × Value)) (v : Bool) (Iy : HI) (Jy : HJ), decode cX10_spread pc = .ok (.ireturn, 1) → Post v Iy Jy → kf_M g x 3 pc lv [.int (kb v)] Iy Jy) (h : wj_X10_spread_27 I J x1 x2 Post) : kf_M g x 3 27 [(0, .ref (g.2.2.2 0)), (1, .int x1), (2, .int x2)] [.ref (g.2.2.2 0)] I J := by
  unfold wj_X10_spread_27 at h
  refine kf_iconst (v := 0) hx dX10_spread_27 (by decide) ?_
  exact wk_X10_spread_28 g hg hx I J x1 x2 0 _ hret h
def w_X10_spread (x1 : Int32) (x2 : Int32) (I : HI) (J : HJ) (Post : Bool → HI → HJ → Prop) : Prop :=
  w_X4_arePeople x1 I J (fun (r_1 : Bool) => ((r_1 = false → (wj_X10_spread_27 I J x1 x2 Post)) ∧ (r_1 = true → (w_X4_areTies x2 I J (fun (r_8 : Bool) => ((r_8 = false → (wj_X10_spread_27 I J x1 x2 Post)) ∧ (r_8 = true → (wj_X10_spread_28 I J x1 x2 1 Post))))))))
set_option maxHeartbeats 4000000 in
set_option maxRecDepth 20000 in
theorem we_X10_spread (g : kf_G) (hg : kf_g g) {x : kf_X} (hx : kf_ok g x RX10 cX10_spread 3 18 680) (x1 : Int32) (x2 : Int32) (I : HI) (J : HJ) (Post : Bool → HI → HJ → Prop) (hret : ∀ (pc : Nat) (lv : List (Nat × Value)) (v : Bool) (Iy : HI) (Jy : HJ), decode cX10_spread pc = .ok (.ireturn, 1) → Post v Iy Jy → kf_M g x 3 pc lv [.int (kb v)] Iy Jy) (h : w_X10_spread x1 x2 I J Post) : kf_M g x 3 0 [(0, .ref (g.2.2.2 0)), (1, .int x1), (2, .int x2)] [] I J := by
  unfold w_X10_spread at h
  refine kf_aload_n hx dX10_spread_0 rfl 0 rfl ?_
  refine kf_aload_n hx dX10_spread_1 rfl 0 rfl ?_
  refine kf_getR (n := 12) hx sl_0_3 fl_RX10_29 dX10_spread_2 ?_
  refine kf_iload_n hx dX10_spread_5 rfl 1 rfl ?_
  refine kf_callVbP (st := [.ref (g.2.2.2 0)]) hx (m_X4_arePeople g hg x1 I J _ h) lk_RX10_242 km_X4_arePeople ob_12 rfl (by decide) rfl (Nat.le_of_ble_eq_true rfl) dX10_spread_6 (fun r_1 h => ?_)
  refine kf_ifB_eq hx 27 dX10_spread_9 (by decide) (fun c => ?_) (fun c => ?_)
  · replace h := h.1 c
    exact wk_X10_spread_27 g hg hx I J x1 x2 _ hret h
  · replace h := h.2 c
    refine kf_aload_n hx dX10_spread_12 rfl 0 rfl ?_
    refine kf_getR (n := 12) hx sl_0_3 fl_RX10_29 dX10_spread_13 ?_
    refine kf_iload_n hx dX10_spread_16 rfl 2 rfl ?_
    refine kf_callVbP (st := [.ref (g.2.2.2 0)]) hx (m_X4_areTies g hg x2 I J _ h) lk_RX10_236 km_X4_areTies ob_12 rfl (by decide) rfl (Nat.le_of_ble_eq_true rfl) dX10_spread_17 (fun r_8 h => ?_)
    refine kf_ifB_eq hx 27 dX10_spread_20 (by decide) (fun c => ?_) (fun c => ?_)
    · replace h := h.1 c
      exact wk_X10_spread_27 g hg hx I J x1 x2 _ hret h
    · replace h := h.2 c
      refine kf_iconst (v := 1) hx dX10_spread_23 (by decide) ?_
      refine kf_goto hx 28 dX10_spread_24 (by decide) ?_
      exact wk_X10_spread_28 g hg hx I J x1 x2 1 _ hret h
set_option maxHeartbeats 4000000 in
set_option maxRecDepth 20000 in
theorem m_X10_spread (g : kf_G) (hg : kf_g g) (x1 : Int32) (x2 : Int32) (I : HI) (J : HJ) (Post : Bool → HI → HJ → Prop) (h : w_X10_spread x1 x2 I J Post) : kf_Mb g yX10_spread (kf_W yX10_spread cX10_spread 3 (Option.some Jvm.ClassFile.FieldType.boolean)) 18 680 [.ref (g.2.2.2 0), .int x1, .int x2] I J Post :=
  kf_entb hg (by decide) (Nat.le_of_ble_eq_true rfl) rfl (fun x hx hr => we_X10_spread g hg hx x1 x2 I J Post (fun pc lv v I' J' hd hP => hr pc lv v I' J' hd hP) h)
theorem dX10_adds_0 : decode cX10_adds 0 = .ok (.aload_n 0, 1) := by decide +kernel
theorem dX10_adds_1 : decode cX10_adds 1 = .ok (.aload_n 0, 1) := by decide +kernel
theorem dX10_adds_2 : decode cX10_adds 2 = .ok (.getfield 29, 3) := by decide +kernel
theorem dX10_adds_5 : decode cX10_adds 5 = .ok (.iload_n 1, 1) := by decide +kernel
theorem dX10_adds_6 : decode cX10_adds 6 = .ok (.invokevirtual 242, 3) := by decide +kernel
theorem dX10_adds_9 : decode cX10_adds 9 = .ok (.ifCond .eq 18, 3) := by decide +kernel
theorem dX10_adds_12 : decode cX10_adds 12 = .ok (.aload_n 0, 1) := by decide +kernel
theorem dX10_adds_13 : decode cX10_adds 13 = .ok (.getfield 29, 3) := by decide +kernel
theorem dX10_adds_16 : decode cX10_adds 16 = .ok (.iload_n 2, 1) := by decide +kernel
theorem dX10_adds_17 : decode cX10_adds 17 = .ok (.invokevirtual 195, 3) := by decide +kernel
theorem dX10_adds_20 : decode cX10_adds 20 = .ok (.ifCond .eq 7, 3) := by decide +kernel
theorem dX10_adds_23 : decode cX10_adds 23 = .ok (.iconst 1, 1) := by decide +kernel
theorem dX10_adds_24 : decode cX10_adds 24 = .ok (.goto 4, 3) := by decide +kernel
theorem dX10_adds_27 : decode cX10_adds 27 = .ok (.iconst 0, 1) := by decide +kernel
theorem dX10_adds_28 : decode cX10_adds 28 = .ok (.iconst 1, 1) := by decide +kernel
theorem dX10_adds_29 : decode cX10_adds 29 = .ok (.invokestatic 198, 3) := by decide +kernel
theorem dX10_adds_32 : decode cX10_adds 32 = .ok (.invokevirtual 115, 3) := by decide +kernel
theorem dX10_adds_35 : decode cX10_adds 35 = .ok (.ifCond .eq 5, 3) := by decide +kernel
theorem dX10_adds_38 : decode cX10_adds 38 = .ok (.iconst 0, 1) := by decide +kernel
theorem dX10_adds_39 : decode cX10_adds 39 = .ok (.ireturn, 1) := by decide +kernel
theorem dX10_adds_40 : decode cX10_adds 40 = .ok (.aload_n 0, 1) := by decide +kernel
theorem dX10_adds_41 : decode cX10_adds 41 = .ok (.getfield 50, 3) := by decide +kernel
theorem dX10_adds_44 : decode cX10_adds 44 = .ok (.iload_n 1, 1) := by decide +kernel
theorem dX10_adds_45 : decode cX10_adds 45 = .ok (.iconst 1, 1) := by decide +kernel
theorem dX10_adds_46 : decode cX10_adds 46 = .ok (.iload_n 2, 1) := by decide +kernel
theorem dX10_adds_47 : decode cX10_adds 47 = .ok (.ishl, 1) := by decide +kernel
theorem dX10_adds_48 : decode cX10_adds 48 = .ok (.ior, 1) := by decide +kernel
theorem dX10_adds_49 : decode cX10_adds 49 = .ok (.iconst 0, 1) := by decide +kernel
theorem dX10_adds_50 : decode cX10_adds 50 = .ok (.invokevirtual 251, 3) := by decide +kernel
theorem dX10_adds_53 : decode cX10_adds 53 = .ok (.aload_n 0, 1) := by decide +kernel
theorem dX10_adds_54 : decode cX10_adds 54 = .ok (.getfield 50, 3) := by decide +kernel
theorem dX10_adds_57 : decode cX10_adds 57 = .ok (.iload_n 1, 1) := by decide +kernel
theorem dX10_adds_58 : decode cX10_adds 58 = .ok (.iconst 0, 1) := by decide +kernel
theorem dX10_adds_59 : decode cX10_adds 59 = .ok (.invokevirtual 251, 3) := by decide +kernel
theorem dX10_adds_62 : decode cX10_adds 62 = .ok (.lsub, 1) := by decide +kernel
theorem dX10_adds_63 : decode cX10_adds 63 = .ok (.lstore_n 3, 1) := by decide +kernel
theorem dX10_adds_64 : decode cX10_adds 64 = .ok (.aload_n 0, 1) := by decide +kernel
theorem dX10_adds_65 : decode cX10_adds 65 = .ok (.getfield 22, 3) := by decide +kernel
theorem dX10_adds_68 : decode cX10_adds 68 = .ok (.lload_n 3, 1) := by decide +kernel
theorem dX10_adds_69 : decode cX10_adds 69 = .ok (.aload_n 0, 1) := by decide +kernel
theorem dX10_adds_70 : decode cX10_adds 70 = .ok (.getfield 50, 3) := by decide +kernel
theorem dX10_adds_73 : decode cX10_adds 73 = .ok (.invokevirtual 255, 3) := by decide +kernel
theorem dX10_adds_76 : decode cX10_adds 76 = .ok (.invokevirtual 259, 3) := by decide +kernel
theorem dX10_adds_79 : decode cX10_adds 79 = .ok (.iconst 1, 1) := by decide +kernel
theorem dX10_adds_80 : decode cX10_adds 80 = .ok (.ireturn, 1) := by decide +kernel
def wj_X10_adds_28 (I : HI) (J : HJ) (x1 : Int32) (x2 : Int32) (t0 : Int32) (Post : Bool → HI → HJ → Prop) : Prop :=
  w_X10_oneOf t0 1 (fun (r_2 : Int32) => (w_X10_fails r_2 I J (fun (r_3 : Bool) (I_4 : HI) => ((r_3 = false → (w_X2_total (x1 ||| (1 <<< (x2 &&& 31))) 0 I_4 J (fun (r_5 : Int64) => (w_X2_total x1 0 I_4 J (fun (r_6 : Int64) => (w_X2_whole  I_4 J (fun (r_7 : Int64) => (w_X1_become (r_5 - r_6) r_7 I_4 J (fun (J_8 : HJ) => (Post true I_4 J_8)))))))))) ∧ (r_3 = true → (Post false I_4 J))))))
set_option maxHeartbeats 4000000 in
set_option maxRecDepth 20000 in
theorem wk_X10_adds_28 (g : kf_G) (hg : kf_g g) {x : kf_X} (hx : kf_ok g x RX10 cX10_adds 5 18 680) (I : HI) (J : HJ) (x1 : Int32) (x2 : Int32) (t0 : Int32) (Post : Bool → HI → HJ → Prop) (hret : ∀ (pc : Nat) (lv : List (Nat × Value)) (v : Bool) (Iy : HI) (Jy : HJ), decode cX10_adds pc = .ok (.ireturn, 1) → Post v Iy Jy → kf_M g x 5 pc lv [.int (kb v)] Iy Jy) (h : wj_X10_adds_28 I J x1 x2 t0 Post) : kf_M g x 5 28 [(0, .ref (g.2.2.2 0)), (1, .int x1), (2, .int x2)] [.int t0, .ref (g.2.2.2 0)] I J := by
  unfold wj_X10_adds_28 at h
  refine kf_iconst (v := 1) hx dX10_adds_28 (by decide) ?_
  refine kf_callSiP (st := [.ref (g.2.2.2 0)]) hx (m_X10_oneOf g hg t0 1 I J _ h) lk_RX10_198 km_X10_oneOf rfl (by decide) rfl (Nat.le_of_ble_eq_true rfl) dX10_adds_29 (fun r_2 h => ?_)
  refine kf_callVbI (st := []) hx (m_X10_fails g hg r_2 I J _ h) lk_RX10_115 km_X10_fails ob_0 rfl (by decide) rfl (Nat.le_of_ble_eq_true rfl) dX10_adds_32 (fun r_3 I_4 h => ?_)
  refine kf_ifB_eq hx 40 dX10_adds_35 (by decide) (fun c => ?_) (fun c => ?_)
  · replace h := h.1 c
    refine kf_aload_n hx dX10_adds_40 rfl 0 rfl ?_
    refine kf_getR (n := 39) hx sl_0_6 fl_RX10_50 dX10_adds_41 ?_
    refine kf_iload_n hx dX10_adds_44 rfl 1 rfl ?_
    refine kf_iconst (v := 1) hx dX10_adds_45 (by decide) ?_
    refine kf_iload_n hx dX10_adds_46 rfl 2 rfl ?_
    refine kf_ishl hx dX10_adds_47 ?_
    refine kf_ior hx dX10_adds_48 ?_
    refine kf_iconst (v := 0) hx dX10_adds_49 (by decide) ?_
    refine kf_callVlP (st := []) hx (m_X2_total g hg (x1 ||| (1 <<< (x2 &&& 31))) 0 I_4 J _ h) lk_RX10_251 km_X2_total ob_39 rfl (by decide) rfl (Nat.le_of_ble_eq_true rfl) dX10_adds_50 (fun r_5 h => ?_)
    refine kf_aload_n hx dX10_adds_53 rfl 0 rfl ?_
    refine kf_getR (n := 39) hx sl_0_6 fl_RX10_50 dX10_adds_54 ?_
    refine kf_iload_n hx dX10_adds_57 rfl 1 rfl ?_
    refine kf_iconst (v := 0) hx dX10_adds_58 (by decide) ?_
    refine kf_callVlP (st := [.long r_5]) hx (m_X2_total g hg x1 0 I_4 J _ h) lk_RX10_251 km_X2_total ob_39 rfl (by decide) rfl (Nat.le_of_ble_eq_true rfl) dX10_adds_59 (fun r_6 h => ?_)
    refine kf_lsub hx dX10_adds_62 ?_
    refine kf_lstore_n (lv' := [(3, .long (r_5 - r_6)), (0, .ref (g.2.2.2 0)), (1, .int x1), (2, .int x2)]) hx dX10_adds_63 rfl (by decide) rfl ?_
    refine kf_aload_n hx dX10_adds_64 rfl 1 rfl ?_
    refine kf_getR (n := 11) hx sl_0_2 fl_RX10_22 dX10_adds_65 ?_
    refine kf_lload_n hx dX10_adds_68 rfl 0 rfl ?_
    refine kf_aload_n hx dX10_adds_69 rfl 1 rfl ?_
    refine kf_getR (n := 39) hx sl_0_6 fl_RX10_50 dX10_adds_70 ?_
    refine kf_callVlP (st := [.long (r_5 - r_6), .ref (g.2.2.2 11)]) hx (m_X2_whole g hg  I_4 J _ h) lk_RX10_255 km_X2_whole ob_39 rfl (by decide) rfl (Nat.le_of_ble_eq_true rfl) dX10_adds_73 (fun r_7 h => ?_)
    refine kf_callVvJ (st := []) hx (m_X1_become g hg (r_5 - r_6) r_7 I_4 J _ h) lk_RX10_259 km_X1_become ob_11 rfl (by decide) rfl (Nat.le_of_ble_eq_true rfl) dX10_adds_76 (fun J_8 h => ?_)
    refine kf_iconst (v := 1) hx dX10_adds_79 (by decide) ?_
    exact hret _ _ true _ _ dX10_adds_80 h
  · replace h := h.2 c
    refine kf_iconst (v := 0) hx dX10_adds_38 (by decide) ?_
    exact hret _ _ false _ _ dX10_adds_39 h
def wj_X10_adds_27 (I : HI) (J : HJ) (x1 : Int32) (x2 : Int32) (Post : Bool → HI → HJ → Prop) : Prop :=
  wj_X10_adds_28 I J x1 x2 0 Post
set_option maxHeartbeats 4000000 in
set_option maxRecDepth 20000 in
theorem wk_X10_adds_27 (g : kf_G) (hg : kf_g g) {x : kf_X} (hx : kf_ok g x RX10 cX10_adds 5 18 680) (I : HI) (J : HJ) (x1 : Int32) (x2 : Int32) (Post : Bool → HI → HJ → Prop) (hret : ∀ (pc : Nat) (lv : List (Nat × Value)) (v : Bool) (Iy : HI) (Jy : HJ), decode cX10_adds pc = .ok (.ireturn, 1) → Post v Iy Jy → kf_M g x 5 pc lv [.int (kb v)] Iy Jy) (h : wj_X10_adds_27 I J x1 x2 Post) : kf_M g x 5 27 [(0, .ref (g.2.2.2 0)), (1, .int x1), (2, .int x2)] [.ref (g.2.2.2 0)] I J := by
  unfold wj_X10_adds_27 at h
  refine kf_iconst (v := 0) hx dX10_adds_27 (by decide) ?_
  exact wk_X10_adds_28 g hg hx I J x1 x2 0 _ hret h
def w_X10_adds (x1 : Int32) (x2 : Int32) (I : HI) (J : HJ) (Post : Bool → HI → HJ → Prop) : Prop :=
  w_X4_arePeople x1 I J (fun (r_1 : Bool) => ((r_1 = false → (wj_X10_adds_27 I J x1 x2 Post)) ∧ (r_1 = true → (w_X4_isPerson_12 x2 I J (fun (r_9 : Bool) => ((r_9 = false → (wj_X10_adds_27 I J x1 x2 Post)) ∧ (r_9 = true → (wj_X10_adds_28 I J x1 x2 1 Post))))))))
set_option maxHeartbeats 4000000 in
set_option maxRecDepth 20000 in
theorem we_X10_adds (g : kf_G) (hg : kf_g g) {x : kf_X} (hx : kf_ok g x RX10 cX10_adds 5 18 680) (x1 : Int32) (x2 : Int32) (I : HI) (J : HJ) (Post : Bool → HI → HJ → Prop) (hret : ∀ (pc : Nat) (lv : List (Nat × Value)) (v : Bool) (Iy : HI) (Jy : HJ), decode cX10_adds pc = .ok (.ireturn, 1) → Post v Iy Jy → kf_M g x 5 pc lv [.int (kb v)] Iy Jy) (h : w_X10_adds x1 x2 I J Post) : kf_M g x 5 0 [(0, .ref (g.2.2.2 0)), (1, .int x1), (2, .int x2)] [] I J := by
  unfold w_X10_adds at h
  refine kf_aload_n hx dX10_adds_0 rfl 0 rfl ?_
  refine kf_aload_n hx dX10_adds_1 rfl 0 rfl ?_
  refine kf_getR (n := 12) hx sl_0_3 fl_RX10_29 dX10_adds_2 ?_
  refine kf_iload_n hx dX10_adds_5 rfl 1 rfl ?_
  refine kf_callVbP (st := [.ref (g.2.2.2 0)]) hx (m_X4_arePeople g hg x1 I J _ h) lk_RX10_242 km_X4_arePeople ob_12 rfl (by decide) rfl (Nat.le_of_ble_eq_true rfl) dX10_adds_6 (fun r_1 h => ?_)
  refine kf_ifB_eq hx 27 dX10_adds_9 (by decide) (fun c => ?_) (fun c => ?_)
  · replace h := h.1 c
    exact wk_X10_adds_27 g hg hx I J x1 x2 _ hret h
  · replace h := h.2 c
    refine kf_aload_n hx dX10_adds_12 rfl 0 rfl ?_
    refine kf_getR (n := 12) hx sl_0_3 fl_RX10_29 dX10_adds_13 ?_
    refine kf_iload_n hx dX10_adds_16 rfl 2 rfl ?_
    refine kf_callVbP (st := [.ref (g.2.2.2 0)]) hx (m_X4_isPerson_12 g hg x2 I J _ h) lk_RX10_195 km_X4_isPerson ob_12 rfl (by decide) rfl (Nat.le_of_ble_eq_true rfl) dX10_adds_17 (fun r_9 h => ?_)
    refine kf_ifB_eq hx 27 dX10_adds_20 (by decide) (fun c => ?_) (fun c => ?_)
    · replace h := h.1 c
      exact wk_X10_adds_27 g hg hx I J x1 x2 _ hret h
    · replace h := h.2 c
      refine kf_iconst (v := 1) hx dX10_adds_23 (by decide) ?_
      refine kf_goto hx 28 dX10_adds_24 (by decide) ?_
      exact wk_X10_adds_28 g hg hx I J x1 x2 1 _ hret h
set_option maxHeartbeats 4000000 in
set_option maxRecDepth 20000 in
theorem m_X10_adds (g : kf_G) (hg : kf_g g) (x1 : Int32) (x2 : Int32) (I : HI) (J : HJ) (Post : Bool → HI → HJ → Prop) (h : w_X10_adds x1 x2 I J Post) : kf_Mb g yX10_adds (kf_W yX10_adds cX10_adds 5 (Option.some Jvm.ClassFile.FieldType.boolean)) 18 680 [.ref (g.2.2.2 0), .int x1, .int x2] I J Post :=
  kf_entb hg (by decide) (Nat.le_of_ble_eq_true rfl) rfl (fun x hx hr => we_X10_adds g hg hx x1 x2 I J Post (fun pc lv v I' J' hd hP => hr pc lv v I' J' hd hP) h)
theorem dX10_choiceStatus_0 : decode cX10_choiceStatus 0 = .ok (.iload_n 0, 1) := by decide +kernel
theorem dX10_choiceStatus_1 : decode cX10_choiceStatus 1 = .ok (.iconst 1, 1) := by decide +kernel
theorem dX10_choiceStatus_2 : decode cX10_choiceStatus 2 = .ok (.iconst 4, 1) := by decide +kernel
theorem dX10_choiceStatus_3 : decode cX10_choiceStatus 3 = .ok (.invokestatic 188, 3) := by decide +kernel
theorem dX10_choiceStatus_6 : decode cX10_choiceStatus 6 = .ok (.ifCond .eq 18, 3) := by decide +kernel
theorem dX10_choiceStatus_9 : decode cX10_choiceStatus 9 = .ok (.iload_n 1, 1) := by decide +kernel
theorem dX10_choiceStatus_10 : decode cX10_choiceStatus 10 = .ok (.iconst 0, 1) := by decide +kernel
theorem dX10_choiceStatus_11 : decode cX10_choiceStatus 11 = .ok (.sipush 999, 3) := by decide +kernel
theorem dX10_choiceStatus_14 : decode cX10_choiceStatus 14 = .ok (.invokestatic 188, 3) := by decide +kernel
theorem dX10_choiceStatus_17 : decode cX10_choiceStatus 17 = .ok (.ifCond .eq 7, 3) := by decide +kernel
theorem dX10_choiceStatus_20 : decode cX10_choiceStatus 20 = .ok (.iconst 0, 1) := by decide +kernel
theorem dX10_choiceStatus_21 : decode cX10_choiceStatus 21 = .ok (.goto 4, 3) := by decide +kernel
theorem dX10_choiceStatus_24 : decode cX10_choiceStatus 24 = .ok (.iconst 5, 1) := by decide +kernel
theorem dX10_choiceStatus_25 : decode cX10_choiceStatus 25 = .ok (.ireturn, 1) := by decide +kernel
def w_X10_choiceStatus (x0 : Int32) (x1 : Int32) (Post : Int32 → Prop) : Prop :=
  w_X10_isBetween x0 1 4 (fun (r_1 : Bool) => ((r_1 = false → (Post 5)) ∧ (r_1 = true → (w_X10_isBetween x1 0 999 (fun (r_2 : Bool) => ((r_2 = false → (Post 5)) ∧ (r_2 = true → (Post 0))))))))
set_option maxHeartbeats 4000000 in
set_option maxRecDepth 20000 in
theorem we_X10_choiceStatus (g : kf_G) (hg : kf_g g) {x : kf_X} (hx : kf_ok g x RX10 cX10_choiceStatus 2 1 22) (x0 : Int32) (x1 : Int32) (I : HI) (J : HJ) (Post : Int32 → Prop) (hret : ∀ (pc : Nat) (lv : List (Nat × Value)) (v : Int32), decode cX10_choiceStatus pc = .ok (.ireturn, 1) → Post v → kf_M g x 2 pc lv [.int v] I J) (h : w_X10_choiceStatus x0 x1 Post) : kf_M g x 2 0 [(0, .int x0), (1, .int x1)] [] I J := by
  unfold w_X10_choiceStatus at h
  refine kf_iload_n hx dX10_choiceStatus_0 rfl 0 rfl ?_
  refine kf_iconst (v := 1) hx dX10_choiceStatus_1 (by decide) ?_
  refine kf_iconst (v := 4) hx dX10_choiceStatus_2 (by decide) ?_
  refine kf_callSbP (st := []) hx (m_X10_isBetween g hg x0 1 4 I J _ h) lk_RX10_188 km_X10_isBetween rfl (by decide) rfl (Nat.le_of_ble_eq_true rfl) dX10_choiceStatus_3 (fun r_1 h => ?_)
  refine kf_ifB_eq hx 24 dX10_choiceStatus_6 (by decide) (fun c => ?_) (fun c => ?_)
  · replace h := h.1 c
    refine kf_iconst (v := 5) hx dX10_choiceStatus_24 (by decide) ?_
    exact hret _ _ 5  dX10_choiceStatus_25 h
  · replace h := h.2 c
    refine kf_iload_n hx dX10_choiceStatus_9 rfl 1 rfl ?_
    refine kf_iconst (v := 0) hx dX10_choiceStatus_10 (by decide) ?_
    refine kf_sipush (v := 999) hx dX10_choiceStatus_11 (by decide) ?_
    refine kf_callSbP (st := []) hx (m_X10_isBetween g hg x1 0 999 I J _ h) lk_RX10_188 km_X10_isBetween rfl (by decide) rfl (Nat.le_of_ble_eq_true rfl) dX10_choiceStatus_14 (fun r_2 h => ?_)
    refine kf_ifB_eq hx 24 dX10_choiceStatus_17 (by decide) (fun c => ?_) (fun c => ?_)
    · replace h := h.1 c
      refine kf_iconst (v := 5) hx dX10_choiceStatus_24 (by decide) ?_
      exact hret _ _ 5  dX10_choiceStatus_25 h
    · replace h := h.2 c
      refine kf_iconst (v := 0) hx dX10_choiceStatus_20 (by decide) ?_
      refine kf_goto hx 25 dX10_choiceStatus_21 (by decide) ?_
      exact hret _ _ 0  dX10_choiceStatus_25 h
set_option maxHeartbeats 4000000 in
set_option maxRecDepth 20000 in
theorem m_X10_choiceStatus (g : kf_G) (hg : kf_g g) (x0 : Int32) (x1 : Int32) (I : HI) (J : HJ) (Post : Int32 → Prop) (h : w_X10_choiceStatus x0 x1 Post) : kf_Mi g yX10_choiceStatus (kf_W yX10_choiceStatus cX10_choiceStatus 2 (Option.some Jvm.ClassFile.FieldType.int)) 1 22 [.int x0, .int x1] I J (fun v I' J' => Post v ∧ I' = I ∧ J' = J) :=
  kf_enti hg (by decide) (Nat.le_of_ble_eq_true rfl) rfl (fun x hx hr => we_X10_choiceStatus g hg hx x0 x1 I J Post (fun pc lv v hd hP => hr pc lv v I J hd ⟨hP, rfl, rfl⟩) h)
theorem dX10_greedy_0 : decode cX10_greedy 0 = .ok (.aload_n 0, 1) := by decide +kernel
theorem dX10_greedy_1 : decode cX10_greedy 1 = .ok (.iload_n 1, 1) := by decide +kernel
theorem dX10_greedy_2 : decode cX10_greedy 2 = .ok (.iload_n 2, 1) := by decide +kernel
theorem dX10_greedy_3 : decode cX10_greedy 3 = .ok (.invokestatic 263, 3) := by decide +kernel
theorem dX10_greedy_6 : decode cX10_greedy 6 = .ok (.invokevirtual 115, 3) := by decide +kernel
theorem dX10_greedy_9 : decode cX10_greedy 9 = .ok (.ifCond .eq 5, 3) := by decide +kernel
theorem dX10_greedy_12 : decode cX10_greedy 12 = .ok (.iconst (-1), 1) := by decide +kernel
theorem dX10_greedy_13 : decode cX10_greedy 13 = .ok (.ireturn, 1) := by decide +kernel
theorem dX10_greedy_14 : decode cX10_greedy 14 = .ok (.aload_n 0, 1) := by decide +kernel
theorem dX10_greedy_15 : decode cX10_greedy 15 = .ok (.getfield 59, 3) := by decide +kernel
theorem dX10_greedy_18 : decode cX10_greedy 18 = .ok (.iload_n 1, 1) := by decide +kernel
theorem dX10_greedy_19 : decode cX10_greedy 19 = .ok (.iload_n 2, 1) := by decide +kernel
theorem dX10_greedy_20 : decode cX10_greedy 20 = .ok (.invokevirtual 266, 3) := by decide +kernel
theorem dX10_greedy_23 : decode cX10_greedy 23 = .ok (.istore_n 3, 1) := by decide +kernel
theorem dX10_greedy_24 : decode cX10_greedy 24 = .ok (.aload_n 0, 1) := by decide +kernel
theorem dX10_greedy_25 : decode cX10_greedy 25 = .ok (.getfield 22, 3) := by decide +kernel
theorem dX10_greedy_28 : decode cX10_greedy 28 = .ok (.aload_n 0, 1) := by decide +kernel
theorem dX10_greedy_29 : decode cX10_greedy 29 = .ok (.getfield 59, 3) := by decide +kernel
theorem dX10_greedy_32 : decode cX10_greedy 32 = .ok (.getfield 269, 3) := by decide +kernel
theorem dX10_greedy_35 : decode cX10_greedy 35 = .ok (.aload_n 0, 1) := by decide +kernel
theorem dX10_greedy_36 : decode cX10_greedy 36 = .ok (.getfield 50, 3) := by decide +kernel
theorem dX10_greedy_39 : decode cX10_greedy 39 = .ok (.invokevirtual 255, 3) := by decide +kernel
theorem dX10_greedy_42 : decode cX10_greedy 42 = .ok (.invokevirtual 259, 3) := by decide +kernel
theorem dX10_greedy_45 : decode cX10_greedy 45 = .ok (.iload_n 3, 1) := by decide +kernel
theorem dX10_greedy_46 : decode cX10_greedy 46 = .ok (.ireturn, 1) := by decide +kernel
def w_X10_greedy (x1 : Int32) (x2 : Int32) (I : HI) (J : HJ) (Post : Int32 → HI → HJ → Prop) : Prop :=
  w_X10_choiceStatus x1 x2 (fun (r_1 : Int32) => (w_X10_fails r_1 I J (fun (r_2 : Bool) (I_3 : HI) => ((r_2 = false → (w_X0_oneByOne x1 x2 I_3 J (fun (r_4 : Int32) (J_5 : HJ) => (w_X2_whole  I_3 J_5 (fun (r_6 : Int64) => (w_X1_become (J_5 41 3) r_6 I_3 J_5 (fun (J_7 : HJ) => (Post r_4 I_3 J_7)))))))) ∧ (r_2 = true → (Post (-1) I_3 J))))))
set_option maxHeartbeats 4000000 in
set_option maxRecDepth 20000 in
theorem we_X10_greedy (g : kf_G) (hg : kf_g g) {x : kf_X} (hx : kf_ok g x RX10 cX10_greedy 4 20 733) (x1 : Int32) (x2 : Int32) (I : HI) (J : HJ) (Post : Int32 → HI → HJ → Prop) (hret : ∀ (pc : Nat) (lv : List (Nat × Value)) (v : Int32) (Iy : HI) (Jy : HJ), decode cX10_greedy pc = .ok (.ireturn, 1) → Post v Iy Jy → kf_M g x 4 pc lv [.int v] Iy Jy) (h : w_X10_greedy x1 x2 I J Post) : kf_M g x 4 0 [(0, .ref (g.2.2.2 0)), (1, .int x1), (2, .int x2)] [] I J := by
  unfold w_X10_greedy at h
  refine kf_aload_n hx dX10_greedy_0 rfl 0 rfl ?_
  refine kf_iload_n hx dX10_greedy_1 rfl 1 rfl ?_
  refine kf_iload_n hx dX10_greedy_2 rfl 2 rfl ?_
  refine kf_callSiP (st := [.ref (g.2.2.2 0)]) hx (m_X10_choiceStatus g hg x1 x2 I J _ h) lk_RX10_263 km_X10_choiceStatus rfl (by decide) rfl (Nat.le_of_ble_eq_true rfl) dX10_greedy_3 (fun r_1 h => ?_)
  refine kf_callVbI (st := []) hx (m_X10_fails g hg r_1 I J _ h) lk_RX10_115 km_X10_fails ob_0 rfl (by decide) rfl (Nat.le_of_ble_eq_true rfl) dX10_greedy_6 (fun r_2 I_3 h => ?_)
  refine kf_ifB_eq hx 14 dX10_greedy_9 (by decide) (fun c => ?_) (fun c => ?_)
  · replace h := h.1 c
    refine kf_aload_n hx dX10_greedy_14 rfl 0 rfl ?_
    refine kf_getR (n := 41) hx sl_0_7 fl_RX10_59 dX10_greedy_15 ?_
    refine kf_iload_n hx dX10_greedy_18 rfl 1 rfl ?_
    refine kf_iload_n hx dX10_greedy_19 rfl 2 rfl ?_
    refine kf_callViJ (st := []) hx (m_X0_oneByOne g hg x1 x2 I_3 J _ h) lk_RX10_266 km_X0_oneByOne ob_41 rfl (by decide) rfl (Nat.le_of_ble_eq_true rfl) dX10_greedy_20 (fun r_4 J_5 h => ?_)
    refine kf_istore_n (lv' := [(3, .int r_4), (0, .ref (g.2.2.2 0)), (1, .int x1), (2, .int x2)]) hx dX10_greedy_23 rfl (by decide) rfl ?_
    refine kf_aload_n hx dX10_greedy_24 rfl 1 rfl ?_
    refine kf_getR (n := 11) hx sl_0_2 fl_RX10_22 dX10_greedy_25 ?_
    refine kf_aload_n hx dX10_greedy_28 rfl 1 rfl ?_
    refine kf_getR (n := 41) hx sl_0_7 fl_RX10_59 dX10_greedy_29 ?_
    refine kf_getJ hx sl_41_3 fl_RX10_269 dX10_greedy_32 ?_
    refine kf_aload_n hx dX10_greedy_35 rfl 1 rfl ?_
    refine kf_getR (n := 39) hx sl_0_6 fl_RX10_50 dX10_greedy_36 ?_
    refine kf_callVlP (st := [.long (J_5 41 3), .ref (g.2.2.2 11)]) hx (m_X2_whole g hg  I_3 J_5 _ h) lk_RX10_255 km_X2_whole ob_39 rfl (by decide) rfl (Nat.le_of_ble_eq_true rfl) dX10_greedy_39 (fun r_6 h => ?_)
    refine kf_callVvJ (st := []) hx (m_X1_become g hg (J_5 41 3) r_6 I_3 J_5 _ h) lk_RX10_259 km_X1_become ob_11 rfl (by decide) rfl (Nat.le_of_ble_eq_true rfl) dX10_greedy_42 (fun J_7 h => ?_)
    refine kf_iload_n hx dX10_greedy_45 rfl 0 rfl ?_
    exact hret _ _ r_4 _ _ dX10_greedy_46 h
  · replace h := h.2 c
    refine kf_iconst (v := (-1)) hx dX10_greedy_12 (by decide) ?_
    exact hret _ _ (-1) _ _ dX10_greedy_13 h
set_option maxHeartbeats 4000000 in
set_option maxRecDepth 20000 in
theorem m_X10_greedy (g : kf_G) (hg : kf_g g) (x1 : Int32) (x2 : Int32) (I : HI) (J : HJ) (Post : Int32 → HI → HJ → Prop) (h : w_X10_greedy x1 x2 I J Post) : kf_Mi g yX10_greedy (kf_W yX10_greedy cX10_greedy 4 (Option.some Jvm.ClassFile.FieldType.int)) 20 733 [.ref (g.2.2.2 0), .int x1, .int x2] I J Post :=
  kf_enti hg (by decide) (Nat.le_of_ble_eq_true rfl) rfl (fun x hx hr => we_X10_greedy g hg hx x1 x2 I J Post (fun pc lv v I' J' hd hP => hr pc lv v I' J' hd hP) h)
theorem dX10_best_0 : decode cX10_best 0 = .ok (.aload_n 0, 1) := by decide +kernel
theorem dX10_best_1 : decode cX10_best 1 = .ok (.iload_n 1, 1) := by decide +kernel
theorem dX10_best_2 : decode cX10_best 2 = .ok (.iload_n 2, 1) := by decide +kernel
theorem dX10_best_3 : decode cX10_best 3 = .ok (.invokestatic 263, 3) := by decide +kernel
theorem dX10_best_6 : decode cX10_best 6 = .ok (.invokevirtual 115, 3) := by decide +kernel
theorem dX10_best_9 : decode cX10_best 9 = .ok (.ifCond .eq 5, 3) := by decide +kernel
theorem dX10_best_12 : decode cX10_best 12 = .ok (.iconst (-1), 1) := by decide +kernel
theorem dX10_best_13 : decode cX10_best 13 = .ok (.ireturn, 1) := by decide +kernel
theorem dX10_best_14 : decode cX10_best 14 = .ok (.aload_n 0, 1) := by decide +kernel
theorem dX10_best_15 : decode cX10_best 15 = .ok (.getfield 59, 3) := by decide +kernel
theorem dX10_best_18 : decode cX10_best 18 = .ok (.iload_n 1, 1) := by decide +kernel
theorem dX10_best_19 : decode cX10_best 19 = .ok (.iload_n 2, 1) := by decide +kernel
theorem dX10_best_20 : decode cX10_best 20 = .ok (.invokevirtual 271, 3) := by decide +kernel
theorem dX10_best_23 : decode cX10_best 23 = .ok (.istore_n 3, 1) := by decide +kernel
theorem dX10_best_24 : decode cX10_best 24 = .ok (.aload_n 0, 1) := by decide +kernel
theorem dX10_best_25 : decode cX10_best 25 = .ok (.getfield 22, 3) := by decide +kernel
theorem dX10_best_28 : decode cX10_best 28 = .ok (.aload_n 0, 1) := by decide +kernel
theorem dX10_best_29 : decode cX10_best 29 = .ok (.getfield 59, 3) := by decide +kernel
theorem dX10_best_32 : decode cX10_best 32 = .ok (.getfield 269, 3) := by decide +kernel
theorem dX10_best_35 : decode cX10_best 35 = .ok (.aload_n 0, 1) := by decide +kernel
theorem dX10_best_36 : decode cX10_best 36 = .ok (.getfield 50, 3) := by decide +kernel
theorem dX10_best_39 : decode cX10_best 39 = .ok (.invokevirtual 255, 3) := by decide +kernel
theorem dX10_best_42 : decode cX10_best 42 = .ok (.invokevirtual 259, 3) := by decide +kernel
theorem dX10_best_45 : decode cX10_best 45 = .ok (.iload_n 3, 1) := by decide +kernel
theorem dX10_best_46 : decode cX10_best 46 = .ok (.ireturn, 1) := by decide +kernel
def w_X10_best (x1 : Int32) (x2 : Int32) (I : HI) (J : HJ) (Post : Int32 → HI → HJ → Prop) : Prop :=
  w_X10_choiceStatus x1 x2 (fun (r_1 : Int32) => (w_X10_fails r_1 I J (fun (r_2 : Bool) (I_3 : HI) => ((r_2 = false → (w_X0_throughAll x1 x2 I_3 J (fun (r_4 : Int32) (J_5 : HJ) => (w_X2_whole  I_3 J_5 (fun (r_6 : Int64) => (w_X1_become (J_5 41 3) r_6 I_3 J_5 (fun (J_7 : HJ) => (Post r_4 I_3 J_7)))))))) ∧ (r_2 = true → (Post (-1) I_3 J))))))
set_option maxHeartbeats 4000000 in
set_option maxRecDepth 20000 in
theorem we_X10_best (g : kf_G) (hg : kf_g g) {x : kf_X} (hx : kf_ok g x RX10 cX10_best 4 19 706) (x1 : Int32) (x2 : Int32) (I : HI) (J : HJ) (Post : Int32 → HI → HJ → Prop) (hret : ∀ (pc : Nat) (lv : List (Nat × Value)) (v : Int32) (Iy : HI) (Jy : HJ), decode cX10_best pc = .ok (.ireturn, 1) → Post v Iy Jy → kf_M g x 4 pc lv [.int v] Iy Jy) (h : w_X10_best x1 x2 I J Post) : kf_M g x 4 0 [(0, .ref (g.2.2.2 0)), (1, .int x1), (2, .int x2)] [] I J := by
  unfold w_X10_best at h
  refine kf_aload_n hx dX10_best_0 rfl 0 rfl ?_
  refine kf_iload_n hx dX10_best_1 rfl 1 rfl ?_
  refine kf_iload_n hx dX10_best_2 rfl 2 rfl ?_
  refine kf_callSiP (st := [.ref (g.2.2.2 0)]) hx (m_X10_choiceStatus g hg x1 x2 I J _ h) lk_RX10_263 km_X10_choiceStatus rfl (by decide) rfl (Nat.le_of_ble_eq_true rfl) dX10_best_3 (fun r_1 h => ?_)
  refine kf_callVbI (st := []) hx (m_X10_fails g hg r_1 I J _ h) lk_RX10_115 km_X10_fails ob_0 rfl (by decide) rfl (Nat.le_of_ble_eq_true rfl) dX10_best_6 (fun r_2 I_3 h => ?_)
  refine kf_ifB_eq hx 14 dX10_best_9 (by decide) (fun c => ?_) (fun c => ?_)
  · replace h := h.1 c
    refine kf_aload_n hx dX10_best_14 rfl 0 rfl ?_
    refine kf_getR (n := 41) hx sl_0_7 fl_RX10_59 dX10_best_15 ?_
    refine kf_iload_n hx dX10_best_18 rfl 1 rfl ?_
    refine kf_iload_n hx dX10_best_19 rfl 2 rfl ?_
    refine kf_callViJ (st := []) hx (m_X0_throughAll g hg x1 x2 I_3 J _ h) lk_RX10_271 km_X0_throughAll ob_41 rfl (by decide) rfl (Nat.le_of_ble_eq_true rfl) dX10_best_20 (fun r_4 J_5 h => ?_)
    refine kf_istore_n (lv' := [(3, .int r_4), (0, .ref (g.2.2.2 0)), (1, .int x1), (2, .int x2)]) hx dX10_best_23 rfl (by decide) rfl ?_
    refine kf_aload_n hx dX10_best_24 rfl 1 rfl ?_
    refine kf_getR (n := 11) hx sl_0_2 fl_RX10_22 dX10_best_25 ?_
    refine kf_aload_n hx dX10_best_28 rfl 1 rfl ?_
    refine kf_getR (n := 41) hx sl_0_7 fl_RX10_59 dX10_best_29 ?_
    refine kf_getJ hx sl_41_3 fl_RX10_269 dX10_best_32 ?_
    refine kf_aload_n hx dX10_best_35 rfl 1 rfl ?_
    refine kf_getR (n := 39) hx sl_0_6 fl_RX10_50 dX10_best_36 ?_
    refine kf_callVlP (st := [.long (J_5 41 3), .ref (g.2.2.2 11)]) hx (m_X2_whole g hg  I_3 J_5 _ h) lk_RX10_255 km_X2_whole ob_39 rfl (by decide) rfl (Nat.le_of_ble_eq_true rfl) dX10_best_39 (fun r_6 h => ?_)
    refine kf_callVvJ (st := []) hx (m_X1_become g hg (J_5 41 3) r_6 I_3 J_5 _ h) lk_RX10_259 km_X1_become ob_11 rfl (by decide) rfl (Nat.le_of_ble_eq_true rfl) dX10_best_42 (fun J_7 h => ?_)
    refine kf_iload_n hx dX10_best_45 rfl 0 rfl ?_
    exact hret _ _ r_4 _ _ dX10_best_46 h
  · replace h := h.2 c
    refine kf_iconst (v := (-1)) hx dX10_best_12 (by decide) ?_
    exact hret _ _ (-1) _ _ dX10_best_13 h
set_option maxHeartbeats 4000000 in
set_option maxRecDepth 20000 in
theorem m_X10_best (g : kf_G) (hg : kf_g g) (x1 : Int32) (x2 : Int32) (I : HI) (J : HJ) (Post : Int32 → HI → HJ → Prop) (h : w_X10_best x1 x2 I J Post) : kf_Mi g yX10_best (kf_W yX10_best cX10_best 4 (Option.some Jvm.ClassFile.FieldType.int)) 19 706 [.ref (g.2.2.2 0), .int x1, .int x2] I J Post :=
  kf_enti hg (by decide) (Nat.le_of_ble_eq_true rfl) rfl (fun x hx hr => we_X10_best g hg hx x1 x2 I J Post (fun pc lv v I' J' hd hP => hr pc lv v I' J' hd hP) h)
theorem dX10_bound_0 : decode cX10_bound 0 = .ok (.aload_n 0, 1) := by decide +kernel
theorem dX10_bound_1 : decode cX10_bound 1 = .ok (.iload_n 1, 1) := by decide +kernel
theorem dX10_bound_2 : decode cX10_bound 2 = .ok (.iload_n 2, 1) := by decide +kernel
theorem dX10_bound_3 : decode cX10_bound 3 = .ok (.invokestatic 263, 3) := by decide +kernel
theorem dX10_bound_6 : decode cX10_bound 6 = .ok (.invokevirtual 115, 3) := by decide +kernel
theorem dX10_bound_9 : decode cX10_bound 9 = .ok (.ifCond .eq 5, 3) := by decide +kernel
theorem dX10_bound_12 : decode cX10_bound 12 = .ok (.iconst 0, 1) := by decide +kernel
theorem dX10_bound_13 : decode cX10_bound 13 = .ok (.ireturn, 1) := by decide +kernel
theorem dX10_bound_14 : decode cX10_bound 14 = .ok (.aload_n 0, 1) := by decide +kernel
theorem dX10_bound_15 : decode cX10_bound 15 = .ok (.getfield 59, 3) := by decide +kernel
theorem dX10_bound_18 : decode cX10_bound 18 = .ok (.iload_n 1, 1) := by decide +kernel
theorem dX10_bound_19 : decode cX10_bound 19 = .ok (.iload_n 2, 1) := by decide +kernel
theorem dX10_bound_20 : decode cX10_bound 20 = .ok (.invokevirtual 266, 3) := by decide +kernel
theorem dX10_bound_23 : decode cX10_bound 23 = .ok (.istore_n 3, 1) := by decide +kernel
theorem dX10_bound_24 : decode cX10_bound 24 = .ok (.aload_n 0, 1) := by decide +kernel
theorem dX10_bound_25 : decode cX10_bound 25 = .ok (.getfield 22, 3) := by decide +kernel
theorem dX10_bound_28 : decode cX10_bound 28 = .ok (.aload_n 0, 1) := by decide +kernel
theorem dX10_bound_29 : decode cX10_bound 29 = .ok (.getfield 59, 3) := by decide +kernel
theorem dX10_bound_32 : decode cX10_bound 32 = .ok (.iload_n 3, 1) := by decide +kernel
theorem dX10_bound_33 : decode cX10_bound 33 = .ok (.iload_n 1, 1) := by decide +kernel
theorem dX10_bound_34 : decode cX10_bound 34 = .ok (.invokevirtual 274, 3) := by decide +kernel
theorem dX10_bound_37 : decode cX10_bound 37 = .ok (.aload_n 0, 1) := by decide +kernel
theorem dX10_bound_38 : decode cX10_bound 38 = .ok (.getfield 50, 3) := by decide +kernel
theorem dX10_bound_41 : decode cX10_bound 41 = .ok (.invokevirtual 255, 3) := by decide +kernel
theorem dX10_bound_44 : decode cX10_bound 44 = .ok (.invokevirtual 259, 3) := by decide +kernel
theorem dX10_bound_47 : decode cX10_bound 47 = .ok (.iconst 1, 1) := by decide +kernel
theorem dX10_bound_48 : decode cX10_bound 48 = .ok (.ireturn, 1) := by decide +kernel
def w_X10_bound (x1 : Int32) (x2 : Int32) (I : HI) (J : HJ) (Post : Bool → HI → HJ → Prop) : Prop :=
  w_X10_choiceStatus x1 x2 (fun (r_1 : Int32) => (w_X10_fails r_1 I J (fun (r_2 : Bool) (I_3 : HI) => ((r_2 = false → (w_X0_oneByOne x1 x2 I_3 J (fun (r_4 : Int32) (J_5 : HJ) => (w_X0_withGrowths r_4 x1 I_3 J_5 (fun (r_6 : Int64) (J_7 : HJ) => (w_X2_whole  I_3 J_7 (fun (r_8 : Int64) => (w_X1_become r_6 r_8 I_3 J_7 (fun (J_9 : HJ) => (Post true I_3 J_9)))))))))) ∧ (r_2 = true → (Post false I_3 J))))))
set_option maxHeartbeats 4000000 in
set_option maxRecDepth 20000 in
theorem we_X10_bound (g : kf_G) (hg : kf_g g) {x : kf_X} (hx : kf_ok g x RX10 cX10_bound 4 20 733) (x1 : Int32) (x2 : Int32) (I : HI) (J : HJ) (Post : Bool → HI → HJ → Prop) (hret : ∀ (pc : Nat) (lv : List (Nat × Value)) (v : Bool) (Iy : HI) (Jy : HJ), decode cX10_bound pc = .ok (.ireturn, 1) → Post v Iy Jy → kf_M g x 4 pc lv [.int (kb v)] Iy Jy) (h : w_X10_bound x1 x2 I J Post) : kf_M g x 4 0 [(0, .ref (g.2.2.2 0)), (1, .int x1), (2, .int x2)] [] I J := by
  unfold w_X10_bound at h
  refine kf_aload_n hx dX10_bound_0 rfl 0 rfl ?_
  refine kf_iload_n hx dX10_bound_1 rfl 1 rfl ?_
  refine kf_iload_n hx dX10_bound_2 rfl 2 rfl ?_
  refine kf_callSiP (st := [.ref (g.2.2.2 0)]) hx (m_X10_choiceStatus g hg x1 x2 I J _ h) lk_RX10_263 km_X10_choiceStatus rfl (by decide) rfl (Nat.le_of_ble_eq_true rfl) dX10_bound_3 (fun r_1 h => ?_)
  refine kf_callVbI (st := []) hx (m_X10_fails g hg r_1 I J _ h) lk_RX10_115 km_X10_fails ob_0 rfl (by decide) rfl (Nat.le_of_ble_eq_true rfl) dX10_bound_6 (fun r_2 I_3 h => ?_)
  refine kf_ifB_eq hx 14 dX10_bound_9 (by decide) (fun c => ?_) (fun c => ?_)
  · replace h := h.1 c
    refine kf_aload_n hx dX10_bound_14 rfl 0 rfl ?_
    refine kf_getR (n := 41) hx sl_0_7 fl_RX10_59 dX10_bound_15 ?_
    refine kf_iload_n hx dX10_bound_18 rfl 1 rfl ?_
    refine kf_iload_n hx dX10_bound_19 rfl 2 rfl ?_
    refine kf_callViJ (st := []) hx (m_X0_oneByOne g hg x1 x2 I_3 J _ h) lk_RX10_266 km_X0_oneByOne ob_41 rfl (by decide) rfl (Nat.le_of_ble_eq_true rfl) dX10_bound_20 (fun r_4 J_5 h => ?_)
    refine kf_istore_n (lv' := [(3, .int r_4), (0, .ref (g.2.2.2 0)), (1, .int x1), (2, .int x2)]) hx dX10_bound_23 rfl (by decide) rfl ?_
    refine kf_aload_n hx dX10_bound_24 rfl 1 rfl ?_
    refine kf_getR (n := 11) hx sl_0_2 fl_RX10_22 dX10_bound_25 ?_
    refine kf_aload_n hx dX10_bound_28 rfl 1 rfl ?_
    refine kf_getR (n := 41) hx sl_0_7 fl_RX10_59 dX10_bound_29 ?_
    refine kf_iload_n hx dX10_bound_32 rfl 0 rfl ?_
    refine kf_iload_n hx dX10_bound_33 rfl 2 rfl ?_
    refine kf_callVlJ (st := [.ref (g.2.2.2 11)]) hx (m_X0_withGrowths g hg r_4 x1 I_3 J_5 _ h) lk_RX10_274 km_X0_withGrowths ob_41 rfl (by decide) rfl (Nat.le_of_ble_eq_true rfl) dX10_bound_34 (fun r_6 J_7 h => ?_)
    refine kf_aload_n hx dX10_bound_37 rfl 1 rfl ?_
    refine kf_getR (n := 39) hx sl_0_6 fl_RX10_50 dX10_bound_38 ?_
    refine kf_callVlP (st := [.long r_6, .ref (g.2.2.2 11)]) hx (m_X2_whole g hg  I_3 J_7 _ h) lk_RX10_255 km_X2_whole ob_39 rfl (by decide) rfl (Nat.le_of_ble_eq_true rfl) dX10_bound_41 (fun r_8 h => ?_)
    refine kf_callVvJ (st := []) hx (m_X1_become g hg r_6 r_8 I_3 J_7 _ h) lk_RX10_259 km_X1_become ob_11 rfl (by decide) rfl (Nat.le_of_ble_eq_true rfl) dX10_bound_44 (fun J_9 h => ?_)
    refine kf_iconst (v := 1) hx dX10_bound_47 (by decide) ?_
    exact hret _ _ true _ _ dX10_bound_48 h
  · replace h := h.2 c
    refine kf_iconst (v := 0) hx dX10_bound_12 (by decide) ?_
    exact hret _ _ false _ _ dX10_bound_13 h
set_option maxHeartbeats 4000000 in
set_option maxRecDepth 20000 in
theorem m_X10_bound (g : kf_G) (hg : kf_g g) (x1 : Int32) (x2 : Int32) (I : HI) (J : HJ) (Post : Bool → HI → HJ → Prop) (h : w_X10_bound x1 x2 I J Post) : kf_Mb g yX10_bound (kf_W yX10_bound cX10_bound 4 (Option.some Jvm.ClassFile.FieldType.boolean)) 20 733 [.ref (g.2.2.2 0), .int x1, .int x2] I J Post :=
  kf_entb hg (by decide) (Nat.le_of_ble_eq_true rfl) rfl (fun x hx hr => we_X10_bound g hg hx x1 x2 I J Post (fun pc lv v I' J' hd hP => hr pc lv v I' J' hd hP) h)
theorem dX10_askedOfSome_0 : decode cX10_askedOfSome 0 = .ok (.iload_n 1, 1) := by decide +kernel
theorem dX10_askedOfSome_1 : decode cX10_askedOfSome 1 = .ok (.ifCond .ne 5, 3) := by decide +kernel
theorem dX10_askedOfSome_4 : decode cX10_askedOfSome 4 = .ok (.iconst 5, 1) := by decide +kernel
theorem dX10_askedOfSome_5 : decode cX10_askedOfSome 5 = .ok (.ireturn, 1) := by decide +kernel
theorem dX10_askedOfSome_6 : decode cX10_askedOfSome 6 = .ok (.aload_n 0, 1) := by decide +kernel
theorem dX10_askedOfSome_7 : decode cX10_askedOfSome 7 = .ok (.getfield 29, 3) := by decide +kernel
theorem dX10_askedOfSome_10 : decode cX10_askedOfSome 10 = .ok (.getfield 185, 3) := by decide +kernel
theorem dX10_askedOfSome_13 : decode cX10_askedOfSome 13 = .ok (.ifCond .ne 8, 3) := by decide +kernel
theorem dX10_askedOfSome_16 : decode cX10_askedOfSome 16 = .ok (.bipush 8, 2) := by decide +kernel
theorem dX10_askedOfSome_18 : decode cX10_askedOfSome 18 = .ok (.goto 4, 3) := by decide +kernel
theorem dX10_askedOfSome_21 : decode cX10_askedOfSome 21 = .ok (.iconst 0, 1) := by decide +kernel
theorem dX10_askedOfSome_22 : decode cX10_askedOfSome 22 = .ok (.ireturn, 1) := by decide +kernel
def w_X10_askedOfSome (x1 : Int32) (I : HI) (J : HJ) (Post : Int32 → Prop) : Prop :=
  (¬ x1 = 0 → ((¬ (I 12 11) = 0 → (Post 0)) ∧ ((I 12 11) = 0 → (Post 8)))) ∧ (x1 = 0 → (Post 5))
set_option maxHeartbeats 4000000 in
set_option maxRecDepth 20000 in
theorem we_X10_askedOfSome (g : kf_G) (hg : kf_g g) {x : kf_X} (hx : kf_ok g x RX10 cX10_askedOfSome 2 0 0) (x1 : Int32) (I : HI) (J : HJ) (Post : Int32 → Prop) (hret : ∀ (pc : Nat) (lv : List (Nat × Value)) (v : Int32), decode cX10_askedOfSome pc = .ok (.ireturn, 1) → Post v → kf_M g x 2 pc lv [.int v] I J) (h : w_X10_askedOfSome x1 I J Post) : kf_M g x 2 0 [(0, .ref (g.2.2.2 0)), (1, .int x1)] [] I J := by
  unfold w_X10_askedOfSome at h
  refine kf_iload_n hx dX10_askedOfSome_0 rfl 1 rfl ?_
  refine kf_if_ne hx 6 dX10_askedOfSome_1 (by decide) (fun c => ?_) (fun c => ?_)
  · replace h := h.1 c
    refine kf_aload_n hx dX10_askedOfSome_6 rfl 0 rfl ?_
    refine kf_getR (n := 12) hx sl_0_3 fl_RX10_29 dX10_askedOfSome_7 ?_
    refine kf_getI hx sl_12_11 fl_RX10_185 dX10_askedOfSome_10 ?_
    refine kf_if_ne hx 21 dX10_askedOfSome_13 (by decide) (fun c => ?_) (fun c => ?_)
    · replace h := h.1 c
      refine kf_iconst (v := 0) hx dX10_askedOfSome_21 (by decide) ?_
      exact hret _ _ 0  dX10_askedOfSome_22 h
    · replace h := h.2 c
      refine kf_bipush (v := 8) hx dX10_askedOfSome_16 (by decide) ?_
      refine kf_goto hx 22 dX10_askedOfSome_18 (by decide) ?_
      exact hret _ _ 8  dX10_askedOfSome_22 h
  · replace h := h.2 c
    refine kf_iconst (v := 5) hx dX10_askedOfSome_4 (by decide) ?_
    exact hret _ _ 5  dX10_askedOfSome_5 h
set_option maxHeartbeats 4000000 in
set_option maxRecDepth 20000 in
theorem m_X10_askedOfSome (g : kf_G) (hg : kf_g g) (x1 : Int32) (I : HI) (J : HJ) (Post : Int32 → Prop) (h : w_X10_askedOfSome x1 I J Post) : kf_Mi g yX10_askedOfSome (kf_W yX10_askedOfSome cX10_askedOfSome 2 (Option.some Jvm.ClassFile.FieldType.int)) 0 0 [.ref (g.2.2.2 0), .int x1] I J (fun v I' J' => Post v ∧ I' = I ∧ J' = J) :=
  kf_enti hg (by decide) (Nat.le_of_ble_eq_true rfl) rfl (fun x hx hr => we_X10_askedOfSome g hg hx x1 I J Post (fun pc lv v hd hP => hr pc lv v I J hd ⟨hP, rfl, rfl⟩) h)
theorem dX10_rounds_0 : decode cX10_rounds 0 = .ok (.aload_n 0, 1) := by decide +kernel
theorem dX10_rounds_1 : decode cX10_rounds 1 = .ok (.aload_n 0, 1) := by decide +kernel
theorem dX10_rounds_2 : decode cX10_rounds 2 = .ok (.iload_n 1, 1) := by decide +kernel
theorem dX10_rounds_3 : decode cX10_rounds 3 = .ok (.iconst 0, 1) := by decide +kernel
theorem dX10_rounds_4 : decode cX10_rounds 4 = .ok (.iconst 2, 1) := by decide +kernel
theorem dX10_rounds_5 : decode cX10_rounds 5 = .ok (.invokestatic 188, 3) := by decide +kernel
theorem dX10_rounds_8 : decode cX10_rounds 8 = .ok (.invokevirtual 277, 3) := by decide +kernel
theorem dX10_rounds_11 : decode cX10_rounds 11 = .ok (.invokevirtual 115, 3) := by decide +kernel
theorem dX10_rounds_14 : decode cX10_rounds 14 = .ok (.ifCond .eq 5, 3) := by decide +kernel
theorem dX10_rounds_17 : decode cX10_rounds 17 = .ok (.iconst (-1), 1) := by decide +kernel
theorem dX10_rounds_18 : decode cX10_rounds 18 = .ok (.ireturn, 1) := by decide +kernel
theorem dX10_rounds_19 : decode cX10_rounds 19 = .ok (.iload_n 1, 1) := by decide +kernel
theorem dX10_rounds_20 : decode cX10_rounds 20 = .ok (.ifCond .ne 34, 3) := by decide +kernel
theorem dX10_rounds_23 : decode cX10_rounds 23 = .ok (.aload_n 0, 1) := by decide +kernel
theorem dX10_rounds_24 : decode cX10_rounds 24 = .ok (.getfield 66, 3) := by decide +kernel
theorem dX10_rounds_27 : decode cX10_rounds 27 = .ok (.invokevirtual 281, 3) := by decide +kernel
theorem dX10_rounds_30 : decode cX10_rounds 30 = .ok (.istore_n 2, 1) := by decide +kernel
theorem dX10_rounds_31 : decode cX10_rounds 31 = .ok (.aload_n 0, 1) := by decide +kernel
theorem dX10_rounds_32 : decode cX10_rounds 32 = .ok (.getfield 22, 3) := by decide +kernel
theorem dX10_rounds_35 : decode cX10_rounds 35 = .ok (.aload_n 0, 1) := by decide +kernel
theorem dX10_rounds_36 : decode cX10_rounds 36 = .ok (.getfield 66, 3) := by decide +kernel
theorem dX10_rounds_39 : decode cX10_rounds 39 = .ok (.getfield 285, 3) := by decide +kernel
theorem dX10_rounds_42 : decode cX10_rounds 42 = .ok (.aload_n 0, 1) := by decide +kernel
theorem dX10_rounds_43 : decode cX10_rounds 43 = .ok (.getfield 50, 3) := by decide +kernel
theorem dX10_rounds_46 : decode cX10_rounds 46 = .ok (.invokevirtual 255, 3) := by decide +kernel
theorem dX10_rounds_49 : decode cX10_rounds 49 = .ok (.invokevirtual 259, 3) := by decide +kernel
theorem dX10_rounds_52 : decode cX10_rounds 52 = .ok (.iload_n 2, 1) := by decide +kernel
theorem dX10_rounds_53 : decode cX10_rounds 53 = .ok (.ireturn, 1) := by decide +kernel
theorem dX10_rounds_54 : decode cX10_rounds 54 = .ok (.aload_n 0, 1) := by decide +kernel
theorem dX10_rounds_55 : decode cX10_rounds 55 = .ok (.getfield 66, 3) := by decide +kernel
theorem dX10_rounds_58 : decode cX10_rounds 58 = .ok (.invokevirtual 288, 3) := by decide +kernel
theorem dX10_rounds_61 : decode cX10_rounds 61 = .ok (.istore_n 2, 1) := by decide +kernel
theorem dX10_rounds_62 : decode cX10_rounds 62 = .ok (.aload_n 0, 1) := by decide +kernel
theorem dX10_rounds_63 : decode cX10_rounds 63 = .ok (.getfield 66, 3) := by decide +kernel
theorem dX10_rounds_66 : decode cX10_rounds 66 = .ok (.getfield 291, 3) := by decide +kernel
theorem dX10_rounds_69 : decode cX10_rounds 69 = .ok (.lstore_n 3, 1) := by decide +kernel
theorem dX10_rounds_70 : decode cX10_rounds 70 = .ok (.iload_n 1, 1) := by decide +kernel
theorem dX10_rounds_71 : decode cX10_rounds 71 = .ok (.iconst 2, 1) := by decide +kernel
theorem dX10_rounds_72 : decode cX10_rounds 72 = .ok (.if_icmp .ne 21, 3) := by decide +kernel
theorem dX10_rounds_75 : decode cX10_rounds 75 = .ok (.aload_n 0, 1) := by decide +kernel
theorem dX10_rounds_76 : decode cX10_rounds 76 = .ok (.getfield 66, 3) := by decide +kernel
theorem dX10_rounds_79 : decode cX10_rounds 79 = .ok (.invokevirtual 281, 3) := by decide +kernel
theorem dX10_rounds_82 : decode cX10_rounds 82 = .ok (.pop, 1) := by decide +kernel
theorem dX10_rounds_83 : decode cX10_rounds 83 = .ok (.aload_n 0, 1) := by decide +kernel
theorem dX10_rounds_84 : decode cX10_rounds 84 = .ok (.getfield 66, 3) := by decide +kernel
theorem dX10_rounds_87 : decode cX10_rounds 87 = .ok (.getfield 285, 3) := by decide +kernel
theorem dX10_rounds_90 : decode cX10_rounds 90 = .ok (.lload_n 3, 1) := by decide +kernel
theorem dX10_rounds_91 : decode cX10_rounds 91 = .ok (.lsub, 1) := by decide +kernel
theorem dX10_rounds_92 : decode cX10_rounds 92 = .ok (.lstore_n 3, 1) := by decide +kernel
theorem dX10_rounds_93 : decode cX10_rounds 93 = .ok (.aload_n 0, 1) := by decide +kernel
theorem dX10_rounds_94 : decode cX10_rounds 94 = .ok (.getfield 22, 3) := by decide +kernel
theorem dX10_rounds_97 : decode cX10_rounds 97 = .ok (.lload_n 3, 1) := by decide +kernel
theorem dX10_rounds_98 : decode cX10_rounds 98 = .ok (.aload_n 0, 1) := by decide +kernel
theorem dX10_rounds_99 : decode cX10_rounds 99 = .ok (.getfield 50, 3) := by decide +kernel
theorem dX10_rounds_102 : decode cX10_rounds 102 = .ok (.invokevirtual 255, 3) := by decide +kernel
theorem dX10_rounds_105 : decode cX10_rounds 105 = .ok (.invokevirtual 259, 3) := by decide +kernel
theorem dX10_rounds_108 : decode cX10_rounds 108 = .ok (.iload_n 2, 1) := by decide +kernel
theorem dX10_rounds_109 : decode cX10_rounds 109 = .ok (.ireturn, 1) := by decide +kernel
def wj_X10_rounds_93 (I : HI) (J : HJ) (x2 : Int32) (x3 : Int64) (Post : Int32 → HI → HJ → Prop) : Prop :=
  w_X2_whole  I J (fun (r_7 : Int64) => (w_X1_become x3 r_7 I J (fun (J_8 : HJ) => (Post x2 I J_8))))
set_option maxHeartbeats 4000000 in
set_option maxRecDepth 20000 in
theorem wk_X10_rounds_93 (g : kf_G) (hg : kf_g g) {x : kf_X} (hx : kf_ok g x RX10 cX10_rounds 5 19 705) (I : HI) (J : HJ) (x2 : Int32) (x3 : Int64) (Post : Int32 → HI → HJ → Prop) (hret : ∀ (pc : Nat) (lv : List (Nat × Value)) (v : Int32) (Iy : HI) (Jy : HJ), decode cX10_rounds pc = .ok (.ireturn, 1) → Post v Iy Jy → kf_M g x 5 pc lv [.int v] Iy Jy) (h : wj_X10_rounds_93 I J x2 x3 Post) : kf_M g x 5 93 [(0, .ref (g.2.2.2 0)), (2, .int x2), (3, .long x3)] [] I J := by
  unfold wj_X10_rounds_93 at h
  refine kf_aload_n hx dX10_rounds_93 rfl 0 rfl ?_
  refine kf_getR (n := 11) hx sl_0_2 fl_RX10_22 dX10_rounds_94 ?_
  refine kf_lload_n hx dX10_rounds_97 rfl 2 rfl ?_
  refine kf_aload_n hx dX10_rounds_98 rfl 0 rfl ?_
  refine kf_getR (n := 39) hx sl_0_6 fl_RX10_50 dX10_rounds_99 ?_
  refine kf_callVlP (st := [.long x3, .ref (g.2.2.2 11)]) hx (m_X2_whole g hg  I J _ h) lk_RX10_255 km_X2_whole ob_39 rfl (by decide) rfl (Nat.le_of_ble_eq_true rfl) dX10_rounds_102 (fun r_7 h => ?_)
  refine kf_callVvJ (st := []) hx (m_X1_become g hg x3 r_7 I J _ h) lk_RX10_259 km_X1_become ob_11 rfl (by decide) rfl (Nat.le_of_ble_eq_true rfl) dX10_rounds_105 (fun J_8 h => ?_)
  refine kf_iload_n hx dX10_rounds_108 rfl 1 rfl ?_
  exact hret _ _ x2 _ _ dX10_rounds_109 h
def w_X10_rounds (x1 : Int32) (I : HI) (J : HJ) (Post : Int32 → HI → HJ → Prop) : Prop :=
  w_X10_isBetween x1 0 2 (fun (r_1 : Bool) => (w_X10_askedOfSome (kb r_1) I J (fun (r_2 : Int32) => (w_X10_fails r_2 I J (fun (r_3 : Bool) (I_4 : HI) => ((r_3 = false → ((¬ x1 = 0 → (w_X9_blindly  I_4 J (fun (r_5 : Int32) (J_6 : HJ) => ((¬ x1 = 2 → (wj_X10_rounds_93 I_4 J_6 r_5 (J_6 43 7) Post)) ∧ (x1 = 2 → (w_X9_seeing  I_4 J_6 (fun (r_9 : Int32) (I_10 : HI) (J_11 : HJ) => (wj_X10_rounds_93 I_10 J_11 r_5 ((J_11 43 6) - (J_6 43 7)) Post)))))))) ∧ (x1 = 0 → (w_X9_seeing  I_4 J (fun (r_12 : Int32) (I_13 : HI) (J_14 : HJ) => (w_X2_whole  I_13 J_14 (fun (r_15 : Int64) => (w_X1_become (J_14 43 6) r_15 I_13 J_14 (fun (J_16 : HJ) => (Post r_12 I_13 J_16)))))))))) ∧ (r_3 = true → (Post (-1) I_4 J))))))))
set_option maxHeartbeats 4000000 in
set_option maxRecDepth 20000 in
theorem we_X10_rounds (g : kf_G) (hg : kf_g g) {x : kf_X} (hx : kf_ok g x RX10 cX10_rounds 5 19 705) (x1 : Int32) (I : HI) (J : HJ) (Post : Int32 → HI → HJ → Prop) (hret : ∀ (pc : Nat) (lv : List (Nat × Value)) (v : Int32) (Iy : HI) (Jy : HJ), decode cX10_rounds pc = .ok (.ireturn, 1) → Post v Iy Jy → kf_M g x 5 pc lv [.int v] Iy Jy) (h : w_X10_rounds x1 I J Post) : kf_M g x 5 0 [(0, .ref (g.2.2.2 0)), (1, .int x1)] [] I J := by
  unfold w_X10_rounds at h
  refine kf_aload_n hx dX10_rounds_0 rfl 0 rfl ?_
  refine kf_aload_n hx dX10_rounds_1 rfl 0 rfl ?_
  refine kf_iload_n hx dX10_rounds_2 rfl 1 rfl ?_
  refine kf_iconst (v := 0) hx dX10_rounds_3 (by decide) ?_
  refine kf_iconst (v := 2) hx dX10_rounds_4 (by decide) ?_
  refine kf_callSbP (st := [.ref (g.2.2.2 0), .ref (g.2.2.2 0)]) hx (m_X10_isBetween g hg x1 0 2 I J _ h) lk_RX10_188 km_X10_isBetween rfl (by decide) rfl (Nat.le_of_ble_eq_true rfl) dX10_rounds_5 (fun r_1 h => ?_)
  refine kf_callViP (st := [.ref (g.2.2.2 0)]) hx (m_X10_askedOfSome g hg (kb r_1) I J _ h) lk_RX10_277 km_X10_askedOfSome ob_0 rfl (by decide) rfl (Nat.le_of_ble_eq_true rfl) dX10_rounds_8 (fun r_2 h => ?_)
  refine kf_callVbI (st := []) hx (m_X10_fails g hg r_2 I J _ h) lk_RX10_115 km_X10_fails ob_0 rfl (by decide) rfl (Nat.le_of_ble_eq_true rfl) dX10_rounds_11 (fun r_3 I_4 h => ?_)
  refine kf_ifB_eq hx 19 dX10_rounds_14 (by decide) (fun c => ?_) (fun c => ?_)
  · replace h := h.1 c
    refine kf_iload_n hx dX10_rounds_19 rfl 1 rfl ?_
    refine kf_if_ne hx 54 dX10_rounds_20 (by decide) (fun c => ?_) (fun c => ?_)
    · replace h := h.1 c
      refine kf_aload_n hx dX10_rounds_54 rfl 0 rfl ?_
      refine kf_getR (n := 43) hx sl_0_8 fl_RX10_66 dX10_rounds_55 ?_
      refine kf_callViJ (st := []) hx (m_X9_blindly g hg  I_4 J _ h) lk_RX10_288 km_X9_blindly ob_43 rfl (by decide) rfl (Nat.le_of_ble_eq_true rfl) dX10_rounds_58 (fun r_5 J_6 h => ?_)
      refine kf_istore_n (lv' := [(2, .int r_5), (0, .ref (g.2.2.2 0)), (1, .int x1)]) hx dX10_rounds_61 rfl (by decide) rfl ?_
      refine kf_aload_n hx dX10_rounds_62 rfl 1 rfl ?_
      refine kf_getR (n := 43) hx sl_0_8 fl_RX10_66 dX10_rounds_63 ?_
      refine kf_getJ hx sl_43_7 fl_RX10_291 dX10_rounds_66 ?_
      refine kf_lstore_n (lv' := [(3, .long (J_6 43 7)), (2, .int r_5), (0, .ref (g.2.2.2 0)), (1, .int x1)]) hx dX10_rounds_69 rfl (by decide) rfl ?_
      refine kf_iload_n hx dX10_rounds_70 rfl 3 rfl ?_
      refine kf_iconst (v := 2) hx dX10_rounds_71 (by decide) ?_
      refine kf_icmp_ne hx 93 dX10_rounds_72 (by decide) (fun c => ?_) (fun c => ?_)
      · replace h := h.1 c
        refine kf_sub [2, 1, 0] rfl ?_
        exact wk_X10_rounds_93 g hg hx I_4 J_6 r_5 (J_6 43 7) _ hret h
      · replace h := h.2 c
        refine kf_aload_n hx dX10_rounds_75 rfl 2 rfl ?_
        refine kf_getR (n := 43) hx sl_0_8 fl_RX10_66 dX10_rounds_76 ?_
        refine kf_callVi (st := []) hx (m_X9_seeing g hg  I_4 J_6 _ h) lk_RX10_281 km_X9_seeing ob_43 rfl (by decide) rfl (Nat.le_of_ble_eq_true rfl) dX10_rounds_79 (fun r_9 I_10 J_11 h => ?_)
        refine kf_pop hx dX10_rounds_82 rfl ?_
        refine kf_aload_n hx dX10_rounds_83 rfl 2 rfl ?_
        refine kf_getR (n := 43) hx sl_0_8 fl_RX10_66 dX10_rounds_84 ?_
        refine kf_getJ hx sl_43_6 fl_RX10_285 dX10_rounds_87 ?_
        refine kf_lload_n hx dX10_rounds_90 rfl 0 rfl ?_
        refine kf_lsub hx dX10_rounds_91 ?_
        refine kf_lstore_n (lv' := [(3, .long ((J_11 43 6) - (J_6 43 7))), (2, .int r_5), (0, .ref (g.2.2.2 0)), (1, .int x1)]) hx dX10_rounds_92 rfl (by decide) rfl ?_
        refine kf_sub [2, 1, 0] rfl ?_
        exact wk_X10_rounds_93 g hg hx I_10 J_11 r_5 ((J_11 43 6) - (J_6 43 7)) _ hret h
    · replace h := h.2 c
      refine kf_aload_n hx dX10_rounds_23 rfl 0 rfl ?_
      refine kf_getR (n := 43) hx sl_0_8 fl_RX10_66 dX10_rounds_24 ?_
      refine kf_callVi (st := []) hx (m_X9_seeing g hg  I_4 J _ h) lk_RX10_281 km_X9_seeing ob_43 rfl (by decide) rfl (Nat.le_of_ble_eq_true rfl) dX10_rounds_27 (fun r_12 I_13 J_14 h => ?_)
      refine kf_istore_n (lv' := [(2, .int r_12), (0, .ref (g.2.2.2 0)), (1, .int x1)]) hx dX10_rounds_30 rfl (by decide) rfl ?_
      refine kf_aload_n hx dX10_rounds_31 rfl 1 rfl ?_
      refine kf_getR (n := 11) hx sl_0_2 fl_RX10_22 dX10_rounds_32 ?_
      refine kf_aload_n hx dX10_rounds_35 rfl 1 rfl ?_
      refine kf_getR (n := 43) hx sl_0_8 fl_RX10_66 dX10_rounds_36 ?_
      refine kf_getJ hx sl_43_6 fl_RX10_285 dX10_rounds_39 ?_
      refine kf_aload_n hx dX10_rounds_42 rfl 1 rfl ?_
      refine kf_getR (n := 39) hx sl_0_6 fl_RX10_50 dX10_rounds_43 ?_
      refine kf_callVlP (st := [.long (J_14 43 6), .ref (g.2.2.2 11)]) hx (m_X2_whole g hg  I_13 J_14 _ h) lk_RX10_255 km_X2_whole ob_39 rfl (by decide) rfl (Nat.le_of_ble_eq_true rfl) dX10_rounds_46 (fun r_15 h => ?_)
      refine kf_callVvJ (st := []) hx (m_X1_become g hg (J_14 43 6) r_15 I_13 J_14 _ h) lk_RX10_259 km_X1_become ob_11 rfl (by decide) rfl (Nat.le_of_ble_eq_true rfl) dX10_rounds_49 (fun J_16 h => ?_)
      refine kf_iload_n hx dX10_rounds_52 rfl 0 rfl ?_
      exact hret _ _ r_12 _ _ dX10_rounds_53 h
  · replace h := h.2 c
    refine kf_iconst (v := (-1)) hx dX10_rounds_17 (by decide) ?_
    exact hret _ _ (-1) _ _ dX10_rounds_18 h
set_option maxHeartbeats 4000000 in
set_option maxRecDepth 20000 in
theorem m_X10_rounds (g : kf_G) (hg : kf_g g) (x1 : Int32) (I : HI) (J : HJ) (Post : Int32 → HI → HJ → Prop) (h : w_X10_rounds x1 I J Post) : kf_Mi g yX10_rounds (kf_W yX10_rounds cX10_rounds 5 (Option.some Jvm.ClassFile.FieldType.int)) 19 705 [.ref (g.2.2.2 0), .int x1] I J Post :=
  kf_enti hg (by decide) (Nat.le_of_ble_eq_true rfl) rfl (fun x hx hr => we_X10_rounds g hg hx x1 I J Post (fun pc lv v I' J' hd hP => hr pc lv v I' J' hd hP) h)
