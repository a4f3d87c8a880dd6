def tl_1 (g : kf_G) (z : Nat) : va_W := ([] : va_W) ++ [(z + 1, .inl (kf_cA g 2, 600, .inl (fun _ => 0)))]
def tl_2 (g : kf_G) (z : Nat) : va_W := tl_1 g z ++ [(z + 2, .inr (1, [.long 0, .long 0]))]
def tl_3 (g : kf_G) (z : Nat) : va_W := tl_1 g z ++ w1_X1_init g (z + 2) (z + 3)
def tl_4 (g : kf_G) (z : Nat) : va_W := tl_3 g z ++ [(z + 3, .inr (4, [.null, .null, .null, .null, .null, .null, .null, .null, .null, .null, .null, .int 0, .int 0, .int 0]))]
def tl_5 (g : kf_G) (z : Nat) : va_W := tl_3 g z ++ w1_X4_init g (z + 3) (z + 4)
def tl_6 (g : kf_G) (z : Nat) : va_W := tl_5 g z ++ [(z + 15, .inr (4, [.null, .null, .null, .null, .null, .null, .null, .null, .null, .null, .null, .int 0, .int 0, .int 0]))]
def tl_7 (g : kf_G) (z : Nat) : va_W := tl_5 g z ++ w1_X4_init g (z + 15) (z + 16)
def tl_8 (g : kf_G) (z : Nat) : va_W := tl_7 g z ++ [(z + 27, .inr (5, [.null, .null, .null, .null, .int 0, .int 0, .int 0, .int 0, .int 0, .long 0, .int 0, .int 0, .int 0]))]
def tl_9 (g : kf_G) (z : Nat) : va_W := tl_7 g z ++ w1_X5_init g (z + 1) (z + 15) (z + 27) (z + 28)
def tl_10 (g : kf_G) (z : Nat) : va_W := tl_9 g z ++ [(z + 30, .inr (2, [.null, .null]))]
def tl_11 (g : kf_G) (z : Nat) : va_W := tl_9 g z ++ w1_X2_init g (z + 3) (z + 30) (z + 31)
def tl_12 (g : kf_G) (z : Nat) : va_W := tl_11 g z ++ [(z + 32, .inr (0, [.null, .null, .null, .long 0]))]
def tl_13 (g : kf_G) (z : Nat) : va_W := tl_11 g z ++ w1_X0_init g (z + 3) (z + 30) (z + 32) (z + 33)
def tl_14 (g : kf_G) (z : Nat) : va_W := tl_13 g z ++ [(z + 34, .inr (9, [.null, .null, .null, .null, .null, .null, .long 0, .long 0]))]
def tl_15 (g : kf_G) (z : Nat) : va_W := tl_13 g z ++ w1_X9_init g (z + 3) (z + 30) (z + 34) (z + 35)
def tl_16 (g : kf_G) (z : Nat) : va_W := tl_15 g z ++ [(z + 39, .inr (7, [.null, .null, .null, .null, .int 0, .int 0, .int 0, .int 0, .int 0, .int 0, .int 0]))]
def tl_17 (g : kf_G) (z : Nat) : va_W := tl_15 g z ++ w1_X7_init g (z + 3) (z + 39) (z + 40)
def tl_18 (g : kf_G) (z : Nat) : va_W := tl_17 g z ++ [(z + 43, .inr (3, [.null, .null, .null, .null, .long 0]))]
def tl_19 (g : kf_G) (z : Nat) : va_W := tl_17 g z ++ w1_X3_init g (z + 3) (z + 30) (z + 39) (z + 43) (z + 44)
def tl_20 (g : kf_G) (z : Nat) : va_W := tl_19 g z ++ [(z + 45, .inr (6, [.null, .null, .null, .int 0]))]
def tl_21 (g : kf_G) (z : Nat) : va_W := tl_19 g z ++ w1_X6_init g (z + 3) (z + 45) (z + 46)
def tl_22 (g : kf_G) (z : Nat) : va_W := tl_21 g z ++ [(z + 63, .inr (8, [.null, .int 0, .int 0]))]
def tl_23 (g : kf_G) (z : Nat) : va_W := tl_21 g z ++ w1_X8_init g (z + 63) (z + 64)
def tl_24 (g : kf_G) (z : Nat) : va_W := tl_23 g z ++ [(z + 65, .inr (8, [.null, .int 0, .int 0]))]
def tl_25 (g : kf_G) (z : Nat) : va_W := tl_23 g z ++ w1_X8_init g (z + 65) (z + 66)
def tl_26 (g : kf_G) (z : Nat) : va_W := tl_25 g z ++ [(z + 67, .inr (8, [.null, .int 0, .int 0]))]
def tl_27 (g : kf_G) (z : Nat) : va_W := tl_25 g z ++ w1_X8_init g (z + 67) (z + 68)
def tl_28 (g : kf_G) (z : Nat) : va_W := tl_27 g z ++ [(z + 69, .inr (8, [.null, .int 0, .int 0]))]
def tl_29 (g : kf_G) (z : Nat) : va_W := tl_27 g z ++ w1_X8_init g (z + 69) (z + 70)
def w1_X10_init (g : kf_G) : Nat → Nat → va_W := fun h z => (h, .inr (10, [.ref (z + 0), .ref (z + 1), .ref (z + 2), .ref (z + 3), .ref (z + 15), .ref (z + 27), .ref (z + 30), .ref (z + 32), .ref (z + 34), .ref (z + 39), .ref (z + 43), .ref (z + 45), .int 0, .int 0, .int (-1), .int (-1)])) :: (z + 0, .inl (kf_cA g 4, 4, .inr (.inr (.inr (.inr (va_up (va_up (va_up (va_up (fun _ => none) (Int32.toNatClampNeg 0) (some (z + 63))) (Int32.toNatClampNeg 1) (some (z + 65))) (Int32.toNatClampNeg 2) (some (z + 67))) (Int32.toNatClampNeg 3) (some (z + 69)))))))) :: (tl_29 g z)
set_option maxRecDepth 100000 in
set_option maxHeartbeats 4000000 in
theorem c_X10_init (g : kf_G) (hg : g.2.2.1.map (fun q => q.2) = [.int, .long, .byte, .boolean, .object "TellFirst$Tray", .array .int]) (B aK aV : Nat) : kj_C g yX10_init cX10_init 2 5 109 71 6489 B (kE B aK aV) [] (.inr (10, [.null, .null, .null, .null, .null, .null, .null, .null, .null, .null, .null, .null, .int 0, .int 0, .int 0, .int 0])) (w1_X10_init g) := by
  refine kj_ent hg (by decide +kernel) rfl (fun _ => Nat.le_of_ble_eq_true rfl) (fun x h hB hlt hx hi hE hA ret => ?_)
  have hs : ks_ok x B aK aV := ⟨hE, fun q hq => by rcases hA q hq with r | r <;> omega⟩
  have hBz : B ≤ kj_sz x := by omega
  show kj_M g x 2 0 [(0, .ref h)] [] 0 0 _
  refine kj_aload_n hx dX10_init_0 rfl 0 rfl ?_
  refine kj_objInit hx (kw_in 127 (by decide +kernel) rfl) ow_i ow_c (by decide) (by decide) dX10_init_1 ?_
  refine kj_aload_n hx dX10_init_4 rfl 0 rfl ?_
  refine kj_iconst hx dX10_init_5 (v := 4) (by decide) ?_
  refine kj_newq hx hE.2.2.2.2.2.1 kc_t (Nat.le_of_ble_eq_true rfl) (Nat.le_of_ble_eq_true rfl) dX10_init_6 (ws' := (h, .inr (10, [.null, .null, .null, .null, .null, .null, .null, .null, .null, .null, .null, .null, .int 0, .int 0, .int 0, .int 0])) :: ((kj_sz x) + 0, .inl (kf_cA g 4, 4, .inr (.inr (.inr (.inr (fun _ => none)))))) :: []) rfl ?_
  show kj_M g x 2 9 _ _ 1 4 _
  refine kj_pf hx hi kl_10_11 kn_10_0 0 rfl rfl rfl (Nat.le_of_ble_eq_true rfl) dX10_init_9 (ws' := (h, .inr (10, [.ref (kj_sz x + 0), .null, .null, .null, .null, .null, .null, .null, .null, .null, .null, .null, .int 0, .int 0, .int 0, .int 0])) :: ((kj_sz x) + 0, .inl (kf_cA g 4, 4, .inr (.inr (.inr (.inr (fun _ => none)))))) :: []) rfl ?_
  refine kj_aload_n hx dX10_init_12 rfl 0 rfl ?_
  refine kj_sipush hx dX10_init_13 (v := 600) (by decide) ?_
  refine kj_newa hx (ty := .byte) rfl ow_byte rfl (by decide) (t := 2) (N := 600) (a0 := (600, .inl (fun _ => 0))) (fun _ => rfl) (by decide) (by decide) (by decide) (Nat.le_of_ble_eq_true rfl) (Nat.le_of_ble_eq_true rfl) dX10_init_16 (ws' := (h, .inr (10, [.ref (kj_sz x + 0), .null, .null, .null, .null, .null, .null, .null, .null, .null, .null, .null, .int 0, .int 0, .int 0, .int 0])) :: ((kj_sz x) + 0, .inl (kf_cA g 4, 4, .inr (.inr (.inr (.inr (fun _ => none)))))) :: (tl_1 g (kj_sz x))) rfl ?_
  show kj_M g x 2 18 _ _ 2 604 _
  refine kj_pf hx hi kl_10_15 kn_10_1 0 rfl rfl rfl (Nat.le_of_ble_eq_true rfl) dX10_init_18 (ws' := (h, .inr (10, [.ref (kj_sz x + 0), .ref (kj_sz x + 1), .null, .null, .null, .null, .null, .null, .null, .null, .null, .null, .int 0, .int 0, .int 0, .int 0])) :: ((kj_sz x) + 0, .inl (kf_cA g 4, 4, .inr (.inr (.inr (.inr (fun _ => none)))))) :: (tl_1 g (kj_sz x))) rfl ?_
  refine kj_aload_n hx dX10_init_21 rfl 0 rfl ?_
  refine kj_nw hx ko_n19 (Nat.le_of_ble_eq_true rfl) (Nat.le_of_ble_eq_true rfl) dX10_init_22 (ws' := (h, .inr (10, [.ref (kj_sz x + 0), .ref (kj_sz x + 1), .null, .null, .null, .null, .null, .null, .null, .null, .null, .null, .int 0, .int 0, .int 0, .int 0])) :: ((kj_sz x) + 0, .inl (kf_cA g 4, 4, .inr (.inr (.inr (.inr (fun _ => none)))))) :: (tl_2 g (kj_sz x))) rfl ?_
  show kj_M g x 2 25 _ _ 3 606 _
  refine kj_dup hx dX10_init_25 ?_
  refine kj_call hx (c_X1_init g hg B) ko_l21 ko_m1 rfl (Nat.le_trans hBz (Nat.le_add_right _ _)) kj_nil (fun _ _ _ _ _ _ => trivial) (by decide) (Nat.le_of_ble_eq_true rfl) (Nat.le_of_ble_eq_true rfl) ((h, .inr (10, [.ref (kj_sz x + 0), .ref (kj_sz x + 1), .null, .null, .null, .null, .null, .null, .null, .null, .null, .null, .int 0, .int 0, .int 0, .int 0])) :: ((kj_sz x) + 0, .inl (kf_cA g 4, 4, .inr (.inr (.inr (.inr (fun _ => none)))))) :: (tl_1 g (kj_sz x))) rfl rfl (Nat.le_of_ble_eq_true rfl) dX10_init_26 (ws' := (h, .inr (10, [.ref (kj_sz x + 0), .ref (kj_sz x + 1), .null, .null, .null, .null, .null, .null, .null, .null, .null, .null, .int 0, .int 0, .int 0, .int 0])) :: ((kj_sz x) + 0, .inl (kf_cA g 4, 4, .inr (.inr (.inr (.inr (fun _ => none)))))) :: (tl_3 g (kj_sz x))) rfl ?_
  show kj_M g x 2 29 _ _ 3 606 _
  refine kj_pf hx hi kl_10_22 kn_10_2 0 rfl rfl rfl (Nat.le_of_ble_eq_true rfl) dX10_init_29 (ws' := (h, .inr (10, [.ref (kj_sz x + 0), .ref (kj_sz x + 1), .ref (kj_sz x + 2), .null, .null, .null, .null, .null, .null, .null, .null, .null, .int 0, .int 0, .int 0, .int 0])) :: ((kj_sz x) + 0, .inl (kf_cA g 4, 4, .inr (.inr (.inr (.inr (fun _ => none)))))) :: (tl_3 g (kj_sz x))) rfl ?_
  refine kj_aload_n hx dX10_init_32 rfl 0 rfl ?_
  refine kj_nw hx ko_n26 (Nat.le_of_ble_eq_true rfl) (Nat.le_of_ble_eq_true rfl) dX10_init_33 (ws' := (h, .inr (10, [.ref (kj_sz x + 0), .ref (kj_sz x + 1), .ref (kj_sz x + 2), .null, .null, .null, .null, .null, .null, .null, .null, .null, .int 0, .int 0, .int 0, .int 0])) :: ((kj_sz x) + 0, .inl (kf_cA g 4, 4, .inr (.inr (.inr (.inr (fun _ => none)))))) :: (tl_4 g (kj_sz x))) rfl ?_
  show kj_M g x 2 36 _ _ 4 620 _
  refine kj_dup hx dX10_init_36 ?_
  refine kj_call hx (c_X4_init g hg B) ko_l28 ko_m4 rfl (Nat.le_trans hBz (Nat.le_add_right _ _)) kj_nil (fun _ _ _ _ _ _ => trivial) (by decide) (Nat.le_of_ble_eq_true rfl) (Nat.le_of_ble_eq_true rfl) ((h, .inr (10, [.ref (kj_sz x + 0), .ref (kj_sz x + 1), .ref (kj_sz x + 2), .null, .null, .null, .null, .null, .null, .null, .null, .null, .int 0, .int 0, .int 0, .int 0])) :: ((kj_sz x) + 0, .inl (kf_cA g 4, 4, .inr (.inr (.inr (.inr (fun _ => none)))))) :: (tl_3 g (kj_sz x))) rfl rfl (Nat.le_of_ble_eq_true rfl) dX10_init_37 (ws' := (h, .inr (10, [.ref (kj_sz x + 0), .ref (kj_sz x + 1), .ref (kj_sz x + 2), .null, .null, .null, .null, .null, .null, .null, .null, .null, .int 0, .int 0, .int 0, .int 0])) :: ((kj_sz x) + 0, .inl (kf_cA g 4, 4, .inr (.inr (.inr (.inr (fun _ => none)))))) :: (tl_5 g (kj_sz x))) rfl ?_
  show kj_M g x 2 40 _ _ 15 736 _
  refine kj_pf hx hi kl_10_29 kn_10_3 0 rfl rfl rfl (Nat.le_of_ble_eq_true rfl) dX10_init_40 (ws' := (h, .inr (10, [.ref (kj_sz x + 0), .ref (kj_sz x + 1), .ref (kj_sz x + 2), .ref (kj_sz x + 3), .null, .null, .null, .null, .null, .null, .null, .null, .int 0, .int 0, .int 0, .int 0])) :: ((kj_sz x) + 0, .inl (kf_cA g 4, 4, .inr (.inr (.inr (.inr (fun _ => none)))))) :: (tl_5 g (kj_sz x))) rfl ?_
  refine kj_aload_n hx dX10_init_43 rfl 0 rfl ?_
  refine kj_nw hx ko_n26 (Nat.le_of_ble_eq_true rfl) (Nat.le_of_ble_eq_true rfl) dX10_init_44 (ws' := (h, .inr (10, [.ref (kj_sz x + 0), .ref (kj_sz x + 1), .ref (kj_sz x + 2), .ref (kj_sz x + 3), .null, .null, .null, .null, .null, .null, .null, .null, .int 0, .int 0, .int 0, .int 0])) :: ((kj_sz x) + 0, .inl (kf_cA g 4, 4, .inr (.inr (.inr (.inr (fun _ => none)))))) :: (tl_6 g (kj_sz x))) rfl ?_
  show kj_M g x 2 47 _ _ 16 750 _
  refine kj_dup hx dX10_init_47 ?_
  refine kj_call hx (c_X4_init g hg B) ko_l28 ko_m4 rfl (Nat.le_trans hBz (Nat.le_add_right _ _)) kj_nil (fun _ _ _ _ _ _ => trivial) (by decide) (Nat.le_of_ble_eq_true rfl) (Nat.le_of_ble_eq_true rfl) ((h, .inr (10, [.ref (kj_sz x + 0), .ref (kj_sz x + 1), .ref (kj_sz x + 2), .ref (kj_sz x + 3), .null, .null, .null, .null, .null, .null, .null, .null, .int 0, .int 0, .int 0, .int 0])) :: ((kj_sz x) + 0, .inl (kf_cA g 4, 4, .inr (.inr (.inr (.inr (fun _ => none)))))) :: (tl_5 g (kj_sz x))) rfl rfl (Nat.le_of_ble_eq_true rfl) dX10_init_48 (ws' := (h, .inr (10, [.ref (kj_sz x + 0), .ref (kj_sz x + 1), .ref (kj_sz x + 2), .ref (kj_sz x + 3), .null, .null, .null, .null, .null, .null, .null, .null, .int 0, .int 0, .int 0, .int 0])) :: ((kj_sz x) + 0, .inl (kf_cA g 4, 4, .inr (.inr (.inr (.inr (fun _ => none)))))) :: (tl_7 g (kj_sz x))) rfl ?_
  show kj_M g x 2 51 _ _ 27 866 _
  refine kj_pf hx hi kl_10_33 kn_10_4 0 rfl rfl rfl (Nat.le_of_ble_eq_true rfl) dX10_init_51 (ws' := (h, .inr (10, [.ref (kj_sz x + 0), .ref (kj_sz x + 1), .ref (kj_sz x + 2), .ref (kj_sz x + 3), .ref (kj_sz x + 15), .null, .null, .null, .null, .null, .null, .null, .int 0, .int 0, .int 0, .int 0])) :: ((kj_sz x) + 0, .inl (kf_cA g 4, 4, .inr (.inr (.inr (.inr (fun _ => none)))))) :: (tl_7 g (kj_sz x))) rfl ?_
  refine kj_aload_n hx dX10_init_54 rfl 0 rfl ?_
  refine kj_nw hx ko_n36 (Nat.le_of_ble_eq_true rfl) (Nat.le_of_ble_eq_true rfl) dX10_init_55 (ws' := (h, .inr (10, [.ref (kj_sz x + 0), .ref (kj_sz x + 1), .ref (kj_sz x + 2), .ref (kj_sz x + 3), .ref (kj_sz x + 15), .null, .null, .null, .null, .null, .null, .null, .int 0, .int 0, .int 0, .int 0])) :: ((kj_sz x) + 0, .inl (kf_cA g 4, 4, .inr (.inr (.inr (.inr (fun _ => none)))))) :: (tl_8 g (kj_sz x))) rfl ?_
  show kj_M g x 2 58 _ _ 28 879 _
  refine kj_dup hx dX10_init_58 ?_
  refine kj_aload_n hx dX10_init_59 rfl 0 rfl ?_
  refine kj_gt hx kl_10_15 0 rfl rfl dX10_init_60 ?_
  refine kj_aload_n hx dX10_init_63 rfl 0 rfl ?_
  refine kj_gt hx kl_10_33 0 rfl rfl dX10_init_64 ?_
  refine kj_call hx (c_X5_init g hg B aK aV (kj_sz x + 1) (kj_sz x + 15)) ko_l38 ko_m5 rfl (Nat.le_trans hBz (Nat.le_add_right _ _)) kE_bl (kr_E hs) (by decide) (Nat.le_of_ble_eq_true rfl) (Nat.le_of_ble_eq_true rfl) ((h, .inr (10, [.ref (kj_sz x + 0), .ref (kj_sz x + 1), .ref (kj_sz x + 2), .ref (kj_sz x + 3), .ref (kj_sz x + 15), .null, .null, .null, .null, .null, .null, .null, .int 0, .int 0, .int 0, .int 0])) :: ((kj_sz x) + 0, .inl (kf_cA g 4, 4, .inr (.inr (.inr (.inr (fun _ => none)))))) :: (tl_7 g (kj_sz x))) rfl rfl (Nat.le_of_ble_eq_true rfl) dX10_init_67 (ws' := (h, .inr (10, [.ref (kj_sz x + 0), .ref (kj_sz x + 1), .ref (kj_sz x + 2), .ref (kj_sz x + 3), .ref (kj_sz x + 15), .null, .null, .null, .null, .null, .null, .null, .int 0, .int 0, .int 0, .int 0])) :: ((kj_sz x) + 0, .inl (kf_cA g 4, 4, .inr (.inr (.inr (.inr (fun _ => none)))))) :: (tl_9 g (kj_sz x))) rfl ?_
  show kj_M g x 2 70 _ _ 30 904 _
  refine kj_pf hx hi kl_10_41 kn_10_5 0 rfl rfl rfl (Nat.le_of_ble_eq_true rfl) dX10_init_70 (ws' := (h, .inr (10, [.ref (kj_sz x + 0), .ref (kj_sz x + 1), .ref (kj_sz x + 2), .ref (kj_sz x + 3), .ref (kj_sz x + 15), .ref (kj_sz x + 27), .null, .null, .null, .null, .null, .null, .int 0, .int 0, .int 0, .int 0])) :: ((kj_sz x) + 0, .inl (kf_cA g 4, 4, .inr (.inr (.inr (.inr (fun _ => none)))))) :: (tl_9 g (kj_sz x))) rfl ?_
  refine kj_aload_n hx dX10_init_73 rfl 0 rfl ?_
  refine kj_nw hx ko_n45 (Nat.le_of_ble_eq_true rfl) (Nat.le_of_ble_eq_true rfl) dX10_init_74 (ws' := (h, .inr (10, [.ref (kj_sz x + 0), .ref (kj_sz x + 1), .ref (kj_sz x + 2), .ref (kj_sz x + 3), .ref (kj_sz x + 15), .ref (kj_sz x + 27), .null, .null, .null, .null, .null, .null, .int 0, .int 0, .int 0, .int 0])) :: ((kj_sz x) + 0, .inl (kf_cA g 4, 4, .inr (.inr (.inr (.inr (fun _ => none)))))) :: (tl_10 g (kj_sz x))) rfl ?_
  show kj_M g x 2 77 _ _ 31 906 _
  refine kj_dup hx dX10_init_77 ?_
  refine kj_aload_n hx dX10_init_78 rfl 0 rfl ?_
  refine kj_gt hx kl_10_29 0 rfl rfl dX10_init_79 ?_
  refine kj_call hx (c_X2_init g hg B (kj_sz x + 3)) ko_l47 ko_m2 rfl (Nat.le_trans hBz (Nat.le_add_right _ _)) kj_nil (fun _ _ _ _ _ _ => trivial) (by decide) (Nat.le_of_ble_eq_true rfl) (Nat.le_of_ble_eq_true rfl) ((h, .inr (10, [.ref (kj_sz x + 0), .ref (kj_sz x + 1), .ref (kj_sz x + 2), .ref (kj_sz x + 3), .ref (kj_sz x + 15), .ref (kj_sz x + 27), .null, .null, .null, .null, .null, .null, .int 0, .int 0, .int 0, .int 0])) :: ((kj_sz x) + 0, .inl (kf_cA g 4, 4, .inr (.inr (.inr (.inr (fun _ => none)))))) :: (tl_9 g (kj_sz x))) rfl rfl (Nat.le_of_ble_eq_true rfl) dX10_init_82 (ws' := (h, .inr (10, [.ref (kj_sz x + 0), .ref (kj_sz x + 1), .ref (kj_sz x + 2), .ref (kj_sz x + 3), .ref (kj_sz x + 15), .ref (kj_sz x + 27), .null, .null, .null, .null, .null, .null, .int 0, .int 0, .int 0, .int 0])) :: ((kj_sz x) + 0, .inl (kf_cA g 4, 4, .inr (.inr (.inr (.inr (fun _ => none)))))) :: (tl_11 g (kj_sz x))) rfl ?_
  show kj_M g x 2 85 _ _ 32 1930 _
  refine kj_pf hx hi kl_10_50 kn_10_6 0 rfl rfl rfl (Nat.le_of_ble_eq_true rfl) dX10_init_85 (ws' := (h, .inr (10, [.ref (kj_sz x + 0), .ref (kj_sz x + 1), .ref (kj_sz x + 2), .ref (kj_sz x + 3), .ref (kj_sz x + 15), .ref (kj_sz x + 27), .ref (kj_sz x + 30), .null, .null, .null, .null, .null, .int 0, .int 0, .int 0, .int 0])) :: ((kj_sz x) + 0, .inl (kf_cA g 4, 4, .inr (.inr (.inr (.inr (fun _ => none)))))) :: (tl_11 g (kj_sz x))) rfl ?_
  refine kj_aload_n hx dX10_init_88 rfl 0 rfl ?_
  refine kj_nw hx ko_n54 (Nat.le_of_ble_eq_true rfl) (Nat.le_of_ble_eq_true rfl) dX10_init_89 (ws' := (h, .inr (10, [.ref (kj_sz x + 0), .ref (kj_sz x + 1), .ref (kj_sz x + 2), .ref (kj_sz x + 3), .ref (kj_sz x + 15), .ref (kj_sz x + 27), .ref (kj_sz x + 30), .null, .null, .null, .null, .null, .int 0, .int 0, .int 0, .int 0])) :: ((kj_sz x) + 0, .inl (kf_cA g 4, 4, .inr (.inr (.inr (.inr (fun _ => none)))))) :: (tl_12 g (kj_sz x))) rfl ?_
  show kj_M g x 2 92 _ _ 33 1934 _
  refine kj_dup hx dX10_init_92 ?_
  refine kj_aload_n hx dX10_init_93 rfl 0 rfl ?_
  refine kj_gt hx kl_10_29 0 rfl rfl dX10_init_94 ?_
  refine kj_aload_n hx dX10_init_97 rfl 0 rfl ?_
  refine kj_gt hx kl_10_50 0 rfl rfl dX10_init_98 ?_
  refine kj_call hx (c_X0_init g hg B (kj_sz x + 3) (kj_sz x + 30)) ko_l56 ko_m0 rfl (Nat.le_trans hBz (Nat.le_add_right _ _)) kj_nil (fun _ _ _ _ _ _ => trivial) (by decide) (Nat.le_of_ble_eq_true rfl) (Nat.le_of_ble_eq_true rfl) ((h, .inr (10, [.ref (kj_sz x + 0), .ref (kj_sz x + 1), .ref (kj_sz x + 2), .ref (kj_sz x + 3), .ref (kj_sz x + 15), .ref (kj_sz x + 27), .ref (kj_sz x + 30), .null, .null, .null, .null, .null, .int 0, .int 0, .int 0, .int 0])) :: ((kj_sz x) + 0, .inl (kf_cA g 4, 4, .inr (.inr (.inr (.inr (fun _ => none)))))) :: (tl_11 g (kj_sz x))) rfl rfl (Nat.le_of_ble_eq_true rfl) dX10_init_101 (ws' := (h, .inr (10, [.ref (kj_sz x + 0), .ref (kj_sz x + 1), .ref (kj_sz x + 2), .ref (kj_sz x + 3), .ref (kj_sz x + 15), .ref (kj_sz x + 27), .ref (kj_sz x + 30), .null, .null, .null, .null, .null, .int 0, .int 0, .int 0, .int 0])) :: ((kj_sz x) + 0, .inl (kf_cA g 4, 4, .inr (.inr (.inr (.inr (fun _ => none)))))) :: (tl_13 g (kj_sz x))) rfl ?_
  show kj_M g x 2 104 _ _ 34 1946 _
  refine kj_pf hx hi kl_10_59 kn_10_7 0 rfl rfl rfl (Nat.le_of_ble_eq_true rfl) dX10_init_104 (ws' := (h, .inr (10, [.ref (kj_sz x + 0), .ref (kj_sz x + 1), .ref (kj_sz x + 2), .ref (kj_sz x + 3), .ref (kj_sz x + 15), .ref (kj_sz x + 27), .ref (kj_sz x + 30), .ref (kj_sz x + 32), .null, .null, .null, .null, .int 0, .int 0, .int 0, .int 0])) :: ((kj_sz x) + 0, .inl (kf_cA g 4, 4, .inr (.inr (.inr (.inr (fun _ => none)))))) :: (tl_13 g (kj_sz x))) rfl ?_
  refine kj_aload_n hx dX10_init_107 rfl 0 rfl ?_
  refine kj_nw hx ko_n63 (Nat.le_of_ble_eq_true rfl) (Nat.le_of_ble_eq_true rfl) dX10_init_108 (ws' := (h, .inr (10, [.ref (kj_sz x + 0), .ref (kj_sz x + 1), .ref (kj_sz x + 2), .ref (kj_sz x + 3), .ref (kj_sz x + 15), .ref (kj_sz x + 27), .ref (kj_sz x + 30), .ref (kj_sz x + 32), .null, .null, .null, .null, .int 0, .int 0, .int 0, .int 0])) :: ((kj_sz x) + 0, .inl (kf_cA g 4, 4, .inr (.inr (.inr (.inr (fun _ => none)))))) :: (tl_14 g (kj_sz x))) rfl ?_
  show kj_M g x 2 111 _ _ 35 1954 _
  refine kj_dup hx dX10_init_111 ?_
  refine kj_aload_n hx dX10_init_112 rfl 0 rfl ?_
  refine kj_gt hx kl_10_29 0 rfl rfl dX10_init_113 ?_
  refine kj_aload_n hx dX10_init_116 rfl 0 rfl ?_
  refine kj_gt hx kl_10_50 0 rfl rfl dX10_init_117 ?_
  refine kj_call hx (c_X9_init g hg B (kj_sz x + 3) (kj_sz x + 30)) ko_l65 ko_m9 rfl (Nat.le_trans hBz (Nat.le_add_right _ _)) kj_nil (fun _ _ _ _ _ _ => trivial) (by decide) (Nat.le_of_ble_eq_true rfl) (Nat.le_of_ble_eq_true rfl) ((h, .inr (10, [.ref (kj_sz x + 0), .ref (kj_sz x + 1), .ref (kj_sz x + 2), .ref (kj_sz x + 3), .ref (kj_sz x + 15), .ref (kj_sz x + 27), .ref (kj_sz x + 30), .ref (kj_sz x + 32), .null, .null, .null, .null, .int 0, .int 0, .int 0, .int 0])) :: ((kj_sz x) + 0, .inl (kf_cA g 4, 4, .inr (.inr (.inr (.inr (fun _ => none)))))) :: (tl_13 g (kj_sz x))) rfl rfl (Nat.le_of_ble_eq_true rfl) dX10_init_120 (ws' := (h, .inr (10, [.ref (kj_sz x + 0), .ref (kj_sz x + 1), .ref (kj_sz x + 2), .ref (kj_sz x + 3), .ref (kj_sz x + 15), .ref (kj_sz x + 27), .ref (kj_sz x + 30), .ref (kj_sz x + 32), .null, .null, .null, .null, .int 0, .int 0, .int 0, .int 0])) :: ((kj_sz x) + 0, .inl (kf_cA g 4, 4, .inr (.inr (.inr (.inr (fun _ => none)))))) :: (tl_15 g (kj_sz x))) rfl ?_
  show kj_M g x 2 123 _ _ 39 6050 _
  refine kj_pf hx hi kl_10_66 kn_10_8 0 rfl rfl rfl (Nat.le_of_ble_eq_true rfl) dX10_init_123 (ws' := (h, .inr (10, [.ref (kj_sz x + 0), .ref (kj_sz x + 1), .ref (kj_sz x + 2), .ref (kj_sz x + 3), .ref (kj_sz x + 15), .ref (kj_sz x + 27), .ref (kj_sz x + 30), .ref (kj_sz x + 32), .ref (kj_sz x + 34), .null, .null, .null, .int 0, .int 0, .int 0, .int 0])) :: ((kj_sz x) + 0, .inl (kf_cA g 4, 4, .inr (.inr (.inr (.inr (fun _ => none)))))) :: (tl_15 g (kj_sz x))) rfl ?_
  refine kj_aload_n hx dX10_init_126 rfl 0 rfl ?_
  refine kj_nw hx ko_n70 (Nat.le_of_ble_eq_true rfl) (Nat.le_of_ble_eq_true rfl) dX10_init_127 (ws' := (h, .inr (10, [.ref (kj_sz x + 0), .ref (kj_sz x + 1), .ref (kj_sz x + 2), .ref (kj_sz x + 3), .ref (kj_sz x + 15), .ref (kj_sz x + 27), .ref (kj_sz x + 30), .ref (kj_sz x + 32), .ref (kj_sz x + 34), .null, .null, .null, .int 0, .int 0, .int 0, .int 0])) :: ((kj_sz x) + 0, .inl (kf_cA g 4, 4, .inr (.inr (.inr (.inr (fun _ => none)))))) :: (tl_16 g (kj_sz x))) rfl ?_
  show kj_M g x 2 130 _ _ 40 6061 _
  refine kj_dup hx dX10_init_130 ?_
  refine kj_aload_n hx dX10_init_131 rfl 0 rfl ?_
  refine kj_gt hx kl_10_29 0 rfl rfl dX10_init_132 ?_
  refine kj_call hx (c_X7_init g hg B (kj_sz x + 3)) ko_l72 ko_m7 rfl (Nat.le_trans hBz (Nat.le_add_right _ _)) kj_nil (fun _ _ _ _ _ _ => trivial) (by decide) (Nat.le_of_ble_eq_true rfl) (Nat.le_of_ble_eq_true rfl) ((h, .inr (10, [.ref (kj_sz x + 0), .ref (kj_sz x + 1), .ref (kj_sz x + 2), .ref (kj_sz x + 3), .ref (kj_sz x + 15), .ref (kj_sz x + 27), .ref (kj_sz x + 30), .ref (kj_sz x + 32), .ref (kj_sz x + 34), .null, .null, .null, .int 0, .int 0, .int 0, .int 0])) :: ((kj_sz x) + 0, .inl (kf_cA g 4, 4, .inr (.inr (.inr (.inr (fun _ => none)))))) :: (tl_15 g (kj_sz x))) rfl rfl (Nat.le_of_ble_eq_true rfl) dX10_init_135 (ws' := (h, .inr (10, [.ref (kj_sz x + 0), .ref (kj_sz x + 1), .ref (kj_sz x + 2), .ref (kj_sz x + 3), .ref (kj_sz x + 15), .ref (kj_sz x + 27), .ref (kj_sz x + 30), .ref (kj_sz x + 32), .ref (kj_sz x + 34), .null, .null, .null, .int 0, .int 0, .int 0, .int 0])) :: ((kj_sz x) + 0, .inl (kf_cA g 4, 4, .inr (.inr (.inr (.inr (fun _ => none)))))) :: (tl_17 g (kj_sz x))) rfl ?_
  show kj_M g x 2 138 _ _ 43 6089 _
  refine kj_pf hx hi kl_10_73 kn_10_9 0 rfl rfl rfl (Nat.le_of_ble_eq_true rfl) dX10_init_138 (ws' := (h, .inr (10, [.ref (kj_sz x + 0), .ref (kj_sz x + 1), .ref (kj_sz x + 2), .ref (kj_sz x + 3), .ref (kj_sz x + 15), .ref (kj_sz x + 27), .ref (kj_sz x + 30), .ref (kj_sz x + 32), .ref (kj_sz x + 34), .ref (kj_sz x + 39), .null, .null, .int 0, .int 0, .int 0, .int 0])) :: ((kj_sz x) + 0, .inl (kf_cA g 4, 4, .inr (.inr (.inr (.inr (fun _ => none)))))) :: (tl_17 g (kj_sz x))) rfl ?_
  refine kj_aload_n hx dX10_init_141 rfl 0 rfl ?_
  refine kj_nw hx ko_n77 (Nat.le_of_ble_eq_true rfl) (Nat.le_of_ble_eq_true rfl) dX10_init_142 (ws' := (h, .inr (10, [.ref (kj_sz x + 0), .ref (kj_sz x + 1), .ref (kj_sz x + 2), .ref (kj_sz x + 3), .ref (kj_sz x + 15), .ref (kj_sz x + 27), .ref (kj_sz x + 30), .ref (kj_sz x + 32), .ref (kj_sz x + 34), .ref (kj_sz x + 39), .null, .null, .int 0, .int 0, .int 0, .int 0])) :: ((kj_sz x) + 0, .inl (kf_cA g 4, 4, .inr (.inr (.inr (.inr (fun _ => none)))))) :: (tl_18 g (kj_sz x))) rfl ?_
  show kj_M g x 2 145 _ _ 44 6094 _
  refine kj_dup hx dX10_init_145 ?_
  refine kj_aload_n hx dX10_init_146 rfl 0 rfl ?_
  refine kj_gt hx kl_10_29 0 rfl rfl dX10_init_147 ?_
  refine kj_aload_n hx dX10_init_150 rfl 0 rfl ?_
  refine kj_gt hx kl_10_50 0 rfl rfl dX10_init_151 ?_
  refine kj_aload_n hx dX10_init_154 rfl 0 rfl ?_
  refine kj_gt hx kl_10_73 0 rfl rfl dX10_init_155 ?_
  refine kj_call hx (c_X3_init g hg B (kj_sz x + 3) (kj_sz x + 30) (kj_sz x + 39)) ko_l79 ko_m3 rfl (Nat.le_trans hBz (Nat.le_add_right _ _)) kj_nil (fun _ _ _ _ _ _ => trivial) (by decide) (Nat.le_of_ble_eq_true rfl) (Nat.le_of_ble_eq_true rfl) ((h, .inr (10, [.ref (kj_sz x + 0), .ref (kj_sz x + 1), .ref (kj_sz x + 2), .ref (kj_sz x + 3), .ref (kj_sz x + 15), .ref (kj_sz x + 27), .ref (kj_sz x + 30), .ref (kj_sz x + 32), .ref (kj_sz x + 34), .ref (kj_sz x + 39), .null, .null, .int 0, .int 0, .int 0, .int 0])) :: ((kj_sz x) + 0, .inl (kf_cA g 4, 4, .inr (.inr (.inr (.inr (fun _ => none)))))) :: (tl_17 g (kj_sz x))) rfl rfl (Nat.le_of_ble_eq_true rfl) dX10_init_158 (ws' := (h, .inr (10, [.ref (kj_sz x + 0), .ref (kj_sz x + 1), .ref (kj_sz x + 2), .ref (kj_sz x + 3), .ref (kj_sz x + 15), .ref (kj_sz x + 27), .ref (kj_sz x + 30), .ref (kj_sz x + 32), .ref (kj_sz x + 34), .ref (kj_sz x + 39), .null, .null, .int 0, .int 0, .int 0, .int 0])) :: ((kj_sz x) + 0, .inl (kf_cA g 4, 4, .inr (.inr (.inr (.inr (fun _ => none)))))) :: (tl_19 g (kj_sz x))) rfl ?_
  show kj_M g x 2 161 _ _ 45 6106 _
  refine kj_pf hx hi kl_10_82 kn_10_10 0 rfl rfl rfl (Nat.le_of_ble_eq_true rfl) dX10_init_161 (ws' := (h, .inr (10, [.ref (kj_sz x + 0), .ref (kj_sz x + 1), .ref (kj_sz x + 2), .ref (kj_sz x + 3), .ref (kj_sz x + 15), .ref (kj_sz x + 27), .ref (kj_sz x + 30), .ref (kj_sz x + 32), .ref (kj_sz x + 34), .ref (kj_sz x + 39), .ref (kj_sz x + 43), .null, .int 0, .int 0, .int 0, .int 0])) :: ((kj_sz x) + 0, .inl (kf_cA g 4, 4, .inr (.inr (.inr (.inr (fun _ => none)))))) :: (tl_19 g (kj_sz x))) rfl ?_
  refine kj_aload_n hx dX10_init_164 rfl 0 rfl ?_
  refine kj_nw hx ko_n86 (Nat.le_of_ble_eq_true rfl) (Nat.le_of_ble_eq_true rfl) dX10_init_165 (ws' := (h, .inr (10, [.ref (kj_sz x + 0), .ref (kj_sz x + 1), .ref (kj_sz x + 2), .ref (kj_sz x + 3), .ref (kj_sz x + 15), .ref (kj_sz x + 27), .ref (kj_sz x + 30), .ref (kj_sz x + 32), .ref (kj_sz x + 34), .ref (kj_sz x + 39), .ref (kj_sz x + 43), .null, .int 0, .int 0, .int 0, .int 0])) :: ((kj_sz x) + 0, .inl (kf_cA g 4, 4, .inr (.inr (.inr (.inr (fun _ => none)))))) :: (tl_20 g (kj_sz x))) rfl ?_
  show kj_M g x 2 168 _ _ 46 6110 _
  refine kj_dup hx dX10_init_168 ?_
  refine kj_aload_n hx dX10_init_169 rfl 0 rfl ?_
  refine kj_gt hx kl_10_29 0 rfl rfl dX10_init_170 ?_
  refine kj_call hx (c_X6_init g hg B aK aV (kj_sz x + 3)) ko_l88 ko_m6 rfl (Nat.le_trans hBz (Nat.le_add_right _ _)) kE_bl (kr_E hs) (by decide) (Nat.le_of_ble_eq_true rfl) (Nat.le_of_ble_eq_true rfl) ((h, .inr (10, [.ref (kj_sz x + 0), .ref (kj_sz x + 1), .ref (kj_sz x + 2), .ref (kj_sz x + 3), .ref (kj_sz x + 15), .ref (kj_sz x + 27), .ref (kj_sz x + 30), .ref (kj_sz x + 32), .ref (kj_sz x + 34), .ref (kj_sz x + 39), .ref (kj_sz x + 43), .null, .int 0, .int 0, .int 0, .int 0])) :: ((kj_sz x) + 0, .inl (kf_cA g 4, 4, .inr (.inr (.inr (.inr (fun _ => none)))))) :: (tl_19 g (kj_sz x))) rfl rfl (Nat.le_of_ble_eq_true rfl) dX10_init_173 (ws' := (h, .inr (10, [.ref (kj_sz x + 0), .ref (kj_sz x + 1), .ref (kj_sz x + 2), .ref (kj_sz x + 3), .ref (kj_sz x + 15), .ref (kj_sz x + 27), .ref (kj_sz x + 30), .ref (kj_sz x + 32), .ref (kj_sz x + 34), .ref (kj_sz x + 39), .ref (kj_sz x + 43), .null, .int 0, .int 0, .int 0, .int 0])) :: ((kj_sz x) + 0, .inl (kf_cA g 4, 4, .inr (.inr (.inr (.inr (fun _ => none)))))) :: (tl_21 g (kj_sz x))) rfl ?_
  show kj_M g x 2 176 _ _ 63 6317 _
  refine kj_pf hx hi kl_10_89 kn_10_11 0 rfl rfl rfl (Nat.le_of_ble_eq_true rfl) dX10_init_176 (ws' := (h, .inr (10, [.ref (kj_sz x + 0), .ref (kj_sz x + 1), .ref (kj_sz x + 2), .ref (kj_sz x + 3), .ref (kj_sz x + 15), .ref (kj_sz x + 27), .ref (kj_sz x + 30), .ref (kj_sz x + 32), .ref (kj_sz x + 34), .ref (kj_sz x + 39), .ref (kj_sz x + 43), .ref (kj_sz x + 45), .int 0, .int 0, .int 0, .int 0])) :: ((kj_sz x) + 0, .inl (kf_cA g 4, 4, .inr (.inr (.inr (.inr (fun _ => none)))))) :: (tl_21 g (kj_sz x))) rfl ?_
  refine kj_aload_n hx dX10_init_179 rfl 0 rfl ?_
  refine kj_iconst hx dX10_init_180 (v := (-1)) (by decide) ?_
  refine kj_pt hx kl_10_93 fp_10_14 0 rfl rfl rfl (Nat.le_of_ble_eq_true rfl) dX10_init_181 (ws' := (h, .inr (10, [.ref (kj_sz x + 0), .ref (kj_sz x + 1), .ref (kj_sz x + 2), .ref (kj_sz x + 3), .ref (kj_sz x + 15), .ref (kj_sz x + 27), .ref (kj_sz x + 30), .ref (kj_sz x + 32), .ref (kj_sz x + 34), .ref (kj_sz x + 39), .ref (kj_sz x + 43), .ref (kj_sz x + 45), .int 0, .int 0, .int (-1), .int 0])) :: ((kj_sz x) + 0, .inl (kf_cA g 4, 4, .inr (.inr (.inr (.inr (fun _ => none)))))) :: (tl_21 g (kj_sz x))) rfl ?_
  refine kj_aload_n hx dX10_init_184 rfl 0 rfl ?_
  refine kj_iconst hx dX10_init_185 (v := (-1)) (by decide) ?_
  refine kj_pt hx kl_10_97 fp_10_15 0 rfl rfl rfl (Nat.le_of_ble_eq_true rfl) dX10_init_186 (ws' := (h, .inr (10, [.ref (kj_sz x + 0), .ref (kj_sz x + 1), .ref (kj_sz x + 2), .ref (kj_sz x + 3), .ref (kj_sz x + 15), .ref (kj_sz x + 27), .ref (kj_sz x + 30), .ref (kj_sz x + 32), .ref (kj_sz x + 34), .ref (kj_sz x + 39), .ref (kj_sz x + 43), .ref (kj_sz x + 45), .int 0, .int 0, .int (-1), .int (-1)])) :: ((kj_sz x) + 0, .inl (kf_cA g 4, 4, .inr (.inr (.inr (.inr (fun _ => none)))))) :: (tl_21 g (kj_sz x))) rfl ?_
  refine kj_iconst hx dX10_init_189 (v := 0) (by decide) ?_
  refine kj_istore_n hx dX10_init_190 rfl (by decide) (lv' := [(1, .int (0)), (0, .ref (h))]) rfl ?_
  refine kj_iload_n hx dX10_init_191 rfl 0 rfl ?_
  refine kj_iconst hx dX10_init_192 (v := 4) (by decide) ?_
  refine kj_icmp_ge hx 215 dX10_init_193 rfl (fun h9 => absurd h9 (by decide)) (fun _ => ?_)
  refine kj_aload_n hx dX10_init_196 rfl 1 rfl ?_
  refine kj_gt hx kl_10_11 0 rfl rfl dX10_init_197 ?_
  refine kj_iload_n hx dX10_init_200 rfl 0 rfl ?_
  refine kj_nw hx ko_n9 (Nat.le_of_ble_eq_true rfl) (Nat.le_of_ble_eq_true rfl) dX10_init_201 (ws' := (h, .inr (10, [.ref (kj_sz x + 0), .ref (kj_sz x + 1), .ref (kj_sz x + 2), .ref (kj_sz x + 3), .ref (kj_sz x + 15), .ref (kj_sz x + 27), .ref (kj_sz x + 30), .ref (kj_sz x + 32), .ref (kj_sz x + 34), .ref (kj_sz x + 39), .ref (kj_sz x + 43), .ref (kj_sz x + 45), .int 0, .int 0, .int (-1), .int (-1)])) :: ((kj_sz x) + 0, .inl (kf_cA g 4, 4, .inr (.inr (.inr (.inr (fun _ => none)))))) :: (tl_22 g (kj_sz x))) rfl ?_
  show kj_M g x 2 204 _ _ 64 6320 _
  refine kj_dup hx dX10_init_204 ?_
  refine kj_call hx (c_X8_init g hg B) ko_l100 ko_m8 rfl (Nat.le_trans hBz (Nat.le_add_right _ _)) kj_nil (fun _ _ _ _ _ _ => trivial) (by decide) (Nat.le_of_ble_eq_true rfl) (Nat.le_of_ble_eq_true rfl) ((h, .inr (10, [.ref (kj_sz x + 0), .ref (kj_sz x + 1), .ref (kj_sz x + 2), .ref (kj_sz x + 3), .ref (kj_sz x + 15), .ref (kj_sz x + 27), .ref (kj_sz x + 30), .ref (kj_sz x + 32), .ref (kj_sz x + 34), .ref (kj_sz x + 39), .ref (kj_sz x + 43), .ref (kj_sz x + 45), .int 0, .int 0, .int (-1), .int (-1)])) :: ((kj_sz x) + 0, .inl (kf_cA g 4, 4, .inr (.inr (.inr (.inr (fun _ => none)))))) :: (tl_21 g (kj_sz x))) rfl rfl (Nat.le_of_ble_eq_true rfl) dX10_init_205 (ws' := (h, .inr (10, [.ref (kj_sz x + 0), .ref (kj_sz x + 1), .ref (kj_sz x + 2), .ref (kj_sz x + 3), .ref (kj_sz x + 15), .ref (kj_sz x + 27), .ref (kj_sz x + 30), .ref (kj_sz x + 32), .ref (kj_sz x + 34), .ref (kj_sz x + 39), .ref (kj_sz x + 43), .ref (kj_sz x + 45), .int 0, .int 0, .int (-1), .int (-1)])) :: ((kj_sz x) + 0, .inl (kf_cA g 4, 4, .inr (.inr (.inr (.inr (fun _ => none)))))) :: (tl_23 g (kj_sz x))) rfl ?_
  show kj_M g x 2 208 _ _ 65 6360 _
  refine kj_astq hx 1 64 rfl rfl (by unfold vp_in; decide) dX10_init_208 (ws' := (h, .inr (10, [.ref (kj_sz x + 0), .ref (kj_sz x + 1), .ref (kj_sz x + 2), .ref (kj_sz x + 3), .ref (kj_sz x + 15), .ref (kj_sz x + 27), .ref (kj_sz x + 30), .ref (kj_sz x + 32), .ref (kj_sz x + 34), .ref (kj_sz x + 39), .ref (kj_sz x + 43), .ref (kj_sz x + 45), .int 0, .int 0, .int (-1), .int (-1)])) :: ((kj_sz x) + 0, .inl (kf_cA g 4, 4, .inr (.inr (.inr (.inr (va_up (fun _ => none) (Int32.toNatClampNeg 0) (some (kj_sz x + 63)))))))) :: (tl_23 g (kj_sz x))) rfl ?_
  refine kj_iinc hx dX10_init_209 0 rfl (w := 1) (by decide) (by decide) (lv' := [(1, .int (1)), (0, .ref (h))]) rfl ?_
  refine kj_goto hx 191 dX10_init_212 rfl ?_
  refine kj_iload_n hx dX10_init_191 rfl 0 rfl ?_
  refine kj_iconst hx dX10_init_192 (v := 4) (by decide) ?_
  refine kj_icmp_ge hx 215 dX10_init_193 rfl (fun h9 => absurd h9 (by decide)) (fun _ => ?_)
  refine kj_aload_n hx dX10_init_196 rfl 1 rfl ?_
  refine kj_gt hx kl_10_11 0 rfl rfl dX10_init_197 ?_
  refine kj_iload_n hx dX10_init_200 rfl 0 rfl ?_
  refine kj_nw hx ko_n9 (Nat.le_of_ble_eq_true rfl) (Nat.le_of_ble_eq_true rfl) dX10_init_201 (ws' := (h, .inr (10, [.ref (kj_sz x + 0), .ref (kj_sz x + 1), .ref (kj_sz x + 2), .ref (kj_sz x + 3), .ref (kj_sz x + 15), .ref (kj_sz x + 27), .ref (kj_sz x + 30), .ref (kj_sz x + 32), .ref (kj_sz x + 34), .ref (kj_sz x + 39), .ref (kj_sz x + 43), .ref (kj_sz x + 45), .int 0, .int 0, .int (-1), .int (-1)])) :: ((kj_sz x) + 0, .inl (kf_cA g 4, 4, .inr (.inr (.inr (.inr (va_up (fun _ => none) (Int32.toNatClampNeg 0) (some (kj_sz x + 63)))))))) :: (tl_24 g (kj_sz x))) rfl ?_
  show kj_M g x 2 204 _ _ 66 6363 _
  refine kj_dup hx dX10_init_204 ?_
  refine kj_call hx (c_X8_init g hg B) ko_l100 ko_m8 rfl (Nat.le_trans hBz (Nat.le_add_right _ _)) kj_nil (fun _ _ _ _ _ _ => trivial) (by decide) (Nat.le_of_ble_eq_true rfl) (Nat.le_of_ble_eq_true rfl) ((h, .inr (10, [.ref (kj_sz x + 0), .ref (kj_sz x + 1), .ref (kj_sz x + 2), .ref (kj_sz x + 3), .ref (kj_sz x + 15), .ref (kj_sz x + 27), .ref (kj_sz x + 30), .ref (kj_sz x + 32), .ref (kj_sz x + 34), .ref (kj_sz x + 39), .ref (kj_sz x + 43), .ref (kj_sz x + 45), .int 0, .int 0, .int (-1), .int (-1)])) :: ((kj_sz x) + 0, .inl (kf_cA g 4, 4, .inr (.inr (.inr (.inr (va_up (fun _ => none) (Int32.toNatClampNeg 0) (some (kj_sz x + 63)))))))) :: (tl_23 g (kj_sz x))) rfl rfl (Nat.le_of_ble_eq_true rfl) dX10_init_205 (ws' := (h, .inr (10, [.ref (kj_sz x + 0), .ref (kj_sz x + 1), .ref (kj_sz x + 2), .ref (kj_sz x + 3), .ref (kj_sz x + 15), .ref (kj_sz x + 27), .ref (kj_sz x + 30), .ref (kj_sz x + 32), .ref (kj_sz x + 34), .ref (kj_sz x + 39), .ref (kj_sz x + 43), .ref (kj_sz x + 45), .int 0, .int 0, .int (-1), .int (-1)])) :: ((kj_sz x) + 0, .inl (kf_cA g 4, 4, .inr (.inr (.inr (.inr (va_up (fun _ => none) (Int32.toNatClampNeg 0) (some (kj_sz x + 63)))))))) :: (tl_25 g (kj_sz x))) rfl ?_
  show kj_M g x 2 208 _ _ 67 6403 _
  refine kj_astq hx 1 66 rfl rfl (by unfold vp_in; decide) dX10_init_208 (ws' := (h, .inr (10, [.ref (kj_sz x + 0), .ref (kj_sz x + 1), .ref (kj_sz x + 2), .ref (kj_sz x + 3), .ref (kj_sz x + 15), .ref (kj_sz x + 27), .ref (kj_sz x + 30), .ref (kj_sz x + 32), .ref (kj_sz x + 34), .ref (kj_sz x + 39), .ref (kj_sz x + 43), .ref (kj_sz x + 45), .int 0, .int 0, .int (-1), .int (-1)])) :: ((kj_sz x) + 0, .inl (kf_cA g 4, 4, .inr (.inr (.inr (.inr (va_up (va_up (fun _ => none) (Int32.toNatClampNeg 0) (some (kj_sz x + 63))) (Int32.toNatClampNeg 1) (some (kj_sz x + 65)))))))) :: (tl_25 g (kj_sz x))) rfl ?_
  refine kj_iinc hx dX10_init_209 0 rfl (w := 2) (by decide) (by decide) (lv' := [(1, .int (2)), (0, .ref (h))]) rfl ?_
  refine kj_goto hx 191 dX10_init_212 rfl ?_
  refine kj_iload_n hx dX10_init_191 rfl 0 rfl ?_
  refine kj_iconst hx dX10_init_192 (v := 4) (by decide) ?_
  refine kj_icmp_ge hx 215 dX10_init_193 rfl (fun h9 => absurd h9 (by decide)) (fun _ => ?_)
  refine kj_aload_n hx dX10_init_196 rfl 1 rfl ?_
  refine kj_gt hx kl_10_11 0 rfl rfl dX10_init_197 ?_
  refine kj_iload_n hx dX10_init_200 rfl 0 rfl ?_
  refine kj_nw hx ko_n9 (Nat.le_of_ble_eq_true rfl) (Nat.le_of_ble_eq_true rfl) dX10_init_201 (ws' := (h, .inr (10, [.ref (kj_sz x + 0), .ref (kj_sz x + 1), .ref (kj_sz x + 2), .ref (kj_sz x + 3), .ref (kj_sz x + 15), .ref (kj_sz x + 27), .ref (kj_sz x + 30), .ref (kj_sz x + 32), .ref (kj_sz x + 34), .ref (kj_sz x + 39), .ref (kj_sz x + 43), .ref (kj_sz x + 45), .int 0, .int 0, .int (-1), .int (-1)])) :: ((kj_sz x) + 0, .inl (kf_cA g 4, 4, .inr (.inr (.inr (.inr (va_up (va_up (fun _ => none) (Int32.toNatClampNeg 0) (some (kj_sz x + 63))) (Int32.toNatClampNeg 1) (some (kj_sz x + 65)))))))) :: (tl_26 g (kj_sz x))) rfl ?_
  show kj_M g x 2 204 _ _ 68 6406 _
  refine kj_dup hx dX10_init_204 ?_
  refine kj_call hx (c_X8_init g hg B) ko_l100 ko_m8 rfl (Nat.le_trans hBz (Nat.le_add_right _ _)) kj_nil (fun _ _ _ _ _ _ => trivial) (by decide) (Nat.le_of_ble_eq_true rfl) (Nat.le_of_ble_eq_true rfl) ((h, .inr (10, [.ref (kj_sz x + 0), .ref (kj_sz x + 1), .ref (kj_sz x + 2), .ref (kj_sz x + 3), .ref (kj_sz x + 15), .ref (kj_sz x + 27), .ref (kj_sz x + 30), .ref (kj_sz x + 32), .ref (kj_sz x + 34), .ref (kj_sz x + 39), .ref (kj_sz x + 43), .ref (kj_sz x + 45), .int 0, .int 0, .int (-1), .int (-1)])) :: ((kj_sz x) + 0, .inl (kf_cA g 4, 4, .inr (.inr (.inr (.inr (va_up (va_up (fun _ => none) (Int32.toNatClampNeg 0) (some (kj_sz x + 63))) (Int32.toNatClampNeg 1) (some (kj_sz x + 65)))))))) :: (tl_25 g (kj_sz x))) rfl rfl (Nat.le_of_ble_eq_true rfl) dX10_init_205 (ws' := (h, .inr (10, [.ref (kj_sz x + 0), .ref (kj_sz x + 1), .ref (kj_sz x + 2), .ref (kj_sz x + 3), .ref (kj_sz x + 15), .ref (kj_sz x + 27), .ref (kj_sz x + 30), .ref (kj_sz x + 32), .ref (kj_sz x + 34), .ref (kj_sz x + 39), .ref (kj_sz x + 43), .ref (kj_sz x + 45), .int 0, .int 0, .int (-1), .int (-1)])) :: ((kj_sz x) + 0, .inl (kf_cA g 4, 4, .inr (.inr (.inr (.inr (va_up (va_up (fun _ => none) (Int32.toNatClampNeg 0) (some (kj_sz x + 63))) (Int32.toNatClampNeg 1) (some (kj_sz x + 65)))))))) :: (tl_27 g (kj_sz x))) rfl ?_
  show kj_M g x 2 208 _ _ 69 6446 _
  refine kj_astq hx 1 68 rfl rfl (by unfold vp_in; decide) dX10_init_208 (ws' := (h, .inr (10, [.ref (kj_sz x + 0), .ref (kj_sz x + 1), .ref (kj_sz x + 2), .ref (kj_sz x + 3), .ref (kj_sz x + 15), .ref (kj_sz x + 27), .ref (kj_sz x + 30), .ref (kj_sz x + 32), .ref (kj_sz x + 34), .ref (kj_sz x + 39), .ref (kj_sz x + 43), .ref (kj_sz x + 45), .int 0, .int 0, .int (-1), .int (-1)])) :: ((kj_sz x) + 0, .inl (kf_cA g 4, 4, .inr (.inr (.inr (.inr (va_up (va_up (va_up (fun _ => none) (Int32.toNatClampNeg 0) (some (kj_sz x + 63))) (Int32.toNatClampNeg 1) (some (kj_sz x + 65))) (Int32.toNatClampNeg 2) (some (kj_sz x + 67)))))))) :: (tl_27 g (kj_sz x))) rfl ?_
  refine kj_iinc hx dX10_init_209 0 rfl (w := 3) (by decide) (by decide) (lv' := [(1, .int (3)), (0, .ref (h))]) rfl ?_
  refine kj_goto hx 191 dX10_init_212 rfl ?_
  refine kj_iload_n hx dX10_init_191 rfl 0 rfl ?_
  refine kj_iconst hx dX10_init_192 (v := 4) (by decide) ?_
  refine kj_icmp_ge hx 215 dX10_init_193 rfl (fun h9 => absurd h9 (by decide)) (fun _ => ?_)
  refine kj_aload_n hx dX10_init_196 rfl 1 rfl ?_
  refine kj_gt hx kl_10_11 0 rfl rfl dX10_init_197 ?_
  refine kj_iload_n hx dX10_init_200 rfl 0 rfl ?_
  refine kj_nw hx ko_n9 (Nat.le_of_ble_eq_true rfl) (Nat.le_of_ble_eq_true rfl) dX10_init_201 (ws' := (h, .inr (10, [.ref (kj_sz x + 0), .ref (kj_sz x + 1), .ref (kj_sz x + 2), .ref (kj_sz x + 3), .ref (kj_sz x + 15), .ref (kj_sz x + 27), .ref (kj_sz x + 30), .ref (kj_sz x + 32), .ref (kj_sz x + 34), .ref (kj_sz x + 39), .ref (kj_sz x + 43), .ref (kj_sz x + 45), .int 0, .int 0, .int (-1), .int (-1)])) :: ((kj_sz x) + 0, .inl (kf_cA g 4, 4, .inr (.inr (.inr (.inr (va_up (va_up (va_up (fun _ => none) (Int32.toNatClampNeg 0) (some (kj_sz x + 63))) (Int32.toNatClampNeg 1) (some (kj_sz x + 65))) (Int32.toNatClampNeg 2) (some (kj_sz x + 67)))))))) :: (tl_28 g (kj_sz x))) rfl ?_
  show kj_M g x 2 204 _ _ 70 6449 _
  refine kj_dup hx dX10_init_204 ?_
  refine kj_call hx (c_X8_init g hg B) ko_l100 ko_m8 rfl (Nat.le_trans hBz (Nat.le_add_right _ _)) kj_nil (fun _ _ _ _ _ _ => trivial) (by decide) (Nat.le_of_ble_eq_true rfl) (Nat.le_of_ble_eq_true rfl) ((h, .inr (10, [.ref (kj_sz x + 0), .ref (kj_sz x + 1), .ref (kj_sz x + 2), .ref (kj_sz x + 3), .ref (kj_sz x + 15), .ref (kj_sz x + 27), .ref (kj_sz x + 30), .ref (kj_sz x + 32), .ref (kj_sz x + 34), .ref (kj_sz x + 39), .ref (kj_sz x + 43), .ref (kj_sz x + 45), .int 0, .int 0, .int (-1), .int (-1)])) :: ((kj_sz x) + 0, .inl (kf_cA g 4, 4, .inr (.inr (.inr (.inr (va_up (va_up (va_up (fun _ => none) (Int32.toNatClampNeg 0) (some (kj_sz x + 63))) (Int32.toNatClampNeg 1) (some (kj_sz x + 65))) (Int32.toNatClampNeg 2) (some (kj_sz x + 67)))))))) :: (tl_27 g (kj_sz x))) rfl rfl (Nat.le_of_ble_eq_true rfl) dX10_init_205 (ws' := (h, .inr (10, [.ref (kj_sz x + 0), .ref (kj_sz x + 1), .ref (kj_sz x + 2), .ref (kj_sz x + 3), .ref (kj_sz x + 15), .ref (kj_sz x + 27), .ref (kj_sz x + 30), .ref (kj_sz x + 32), .ref (kj_sz x + 34), .ref (kj_sz x + 39), .ref (kj_sz x + 43), .ref (kj_sz x + 45), .int 0, .int 0, .int (-1), .int (-1)])) :: ((kj_sz x) + 0, .inl (kf_cA g 4, 4, .inr (.inr (.inr (.inr (va_up (va_up (va_up (fun _ => none) (Int32.toNatClampNeg 0) (some (kj_sz x + 63))) (Int32.toNatClampNeg 1) (some (kj_sz x + 65))) (Int32.toNatClampNeg 2) (some (kj_sz x + 67)))))))) :: (tl_29 g (kj_sz x))) rfl ?_
  show kj_M g x 2 208 _ _ 71 6489 _
  refine kj_astq hx 1 70 rfl rfl (by unfold vp_in; decide) dX10_init_208 (ws' := (h, .inr (10, [.ref (kj_sz x + 0), .ref (kj_sz x + 1), .ref (kj_sz x + 2), .ref (kj_sz x + 3), .ref (kj_sz x + 15), .ref (kj_sz x + 27), .ref (kj_sz x + 30), .ref (kj_sz x + 32), .ref (kj_sz x + 34), .ref (kj_sz x + 39), .ref (kj_sz x + 43), .ref (kj_sz x + 45), .int 0, .int 0, .int (-1), .int (-1)])) :: ((kj_sz x) + 0, .inl (kf_cA g 4, 4, .inr (.inr (.inr (.inr (va_up (va_up (va_up (va_up (fun _ => none) (Int32.toNatClampNeg 0) (some (kj_sz x + 63))) (Int32.toNatClampNeg 1) (some (kj_sz x + 65))) (Int32.toNatClampNeg 2) (some (kj_sz x + 67))) (Int32.toNatClampNeg 3) (some (kj_sz x + 69)))))))) :: (tl_29 g (kj_sz x))) rfl ?_
  refine kj_iinc hx dX10_init_209 0 rfl (w := 4) (by decide) (by decide) (lv' := [(1, .int (4)), (0, .ref (h))]) rfl ?_
  refine kj_goto hx 191 dX10_init_212 rfl ?_
  refine kj_iload_n hx dX10_init_191 rfl 0 rfl ?_
  refine kj_iconst hx dX10_init_192 (v := 4) (by decide) ?_
  refine kj_icmp_ge hx 215 dX10_init_193 rfl (fun _ => ?_) (fun h9 => absurd (by decide) h9)
  exact ret _ _ dX10_init_215
