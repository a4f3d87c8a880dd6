theorem dJ0_length_8abf5_0 : decode cJ0_length_8abf5 0 = .ok (.aload_n 0, 1) := by decide +kernel
theorem dJ0_length_8abf5_1 : decode cJ0_length_8abf5 1 = .ok (.getfield 9, 3) := by decide +kernel
theorem dJ0_length_8abf5_4 : decode cJ0_length_8abf5 4 = .ok (.arraylength, 1) := by decide +kernel
theorem dJ0_length_8abf5_5 : decode cJ0_length_8abf5 5 = .ok (.aload_n 0, 1) := by decide +kernel
theorem dJ0_length_8abf5_6 : decode cJ0_length_8abf5 6 = .ok (.invokevirtual 335, 3) := by decide +kernel
theorem dJ0_length_8abf5_9 : decode cJ0_length_8abf5 9 = .ok (.ishr, 1) := by decide +kernel
theorem dJ0_length_8abf5_10 : decode cJ0_length_8abf5 10 = .ok (.ireturn, 1) := by decide +kernel
theorem dJ0_charAt_5068e_0 : decode cJ0_charAt_5068e 0 = .ok (.aload_n 0, 1) := by decide +kernel
theorem dJ0_charAt_5068e_1 : decode cJ0_charAt_5068e 1 = .ok (.invokevirtual 492, 3) := by decide +kernel
theorem dJ0_charAt_5068e_4 : decode cJ0_charAt_5068e 4 = .ok (.ifCond .eq 12, 3) := by decide +kernel
theorem dJ0_charAt_5068e_7 : decode cJ0_charAt_5068e 7 = .ok (.aload_n 0, 1) := by decide +kernel
theorem dJ0_charAt_5068e_8 : decode cJ0_charAt_5068e 8 = .ok (.getfield 9, 3) := by decide +kernel
theorem dJ0_charAt_5068e_11 : decode cJ0_charAt_5068e 11 = .ok (.iload_n 1, 1) := by decide +kernel
theorem dJ0_charAt_5068e_12 : decode cJ0_charAt_5068e 12 = .ok (.invokestatic 495, 3) := by decide +kernel
theorem dJ0_charAt_5068e_15 : decode cJ0_charAt_5068e 15 = .ok (.ireturn, 1) := by decide +kernel
theorem dJ0_charAt_5068e_16 : decode cJ0_charAt_5068e 16 = .ok (.aload_n 0, 1) := by decide +kernel
theorem dJ0_charAt_5068e_17 : decode cJ0_charAt_5068e 17 = .ok (.getfield 9, 3) := by decide +kernel
theorem dJ0_charAt_5068e_20 : decode cJ0_charAt_5068e 20 = .ok (.iload_n 1, 1) := by decide +kernel
theorem dJ0_charAt_5068e_21 : decode cJ0_charAt_5068e 21 = .ok (.invokestatic 498, 3) := by decide +kernel
theorem dJ0_charAt_5068e_24 : decode cJ0_charAt_5068e 24 = .ok (.ireturn, 1) := by decide +kernel
theorem dJ0_coder_7d493_0 : decode cJ0_coder_7d493 0 = .ok (.getstatic 38, 3) := by decide +kernel
theorem dJ0_coder_7d493_3 : decode cJ0_coder_7d493 3 = .ok (.ifCond .eq 10, 3) := by decide +kernel
theorem dJ0_coder_7d493_6 : decode cJ0_coder_7d493 6 = .ok (.aload_n 0, 1) := by decide +kernel
theorem dJ0_coder_7d493_7 : decode cJ0_coder_7d493 7 = .ok (.getfield 15, 3) := by decide +kernel
theorem dJ0_coder_7d493_10 : decode cJ0_coder_7d493 10 = .ok (.goto 4, 3) := by decide +kernel
theorem dJ0_coder_7d493_13 : decode cJ0_coder_7d493 13 = .ok (.iconst 1, 1) := by decide +kernel
theorem dJ0_coder_7d493_14 : decode cJ0_coder_7d493 14 = .ok (.ireturn, 1) := by decide +kernel
theorem dJ0_isLatin1_aae02_0 : decode cJ0_isLatin1_aae02 0 = .ok (.getstatic 38, 3) := by decide +kernel
theorem dJ0_isLatin1_aae02_3 : decode cJ0_isLatin1_aae02 3 = .ok (.ifCond .eq 14, 3) := by decide +kernel
theorem dJ0_isLatin1_aae02_6 : decode cJ0_isLatin1_aae02 6 = .ok (.aload_n 0, 1) := by decide +kernel
theorem dJ0_isLatin1_aae02_7 : decode cJ0_isLatin1_aae02 7 = .ok (.getfield 15, 3) := by decide +kernel
theorem dJ0_isLatin1_aae02_10 : decode cJ0_isLatin1_aae02 10 = .ok (.ifCond .ne 7, 3) := by decide +kernel
theorem dJ0_isLatin1_aae02_13 : decode cJ0_isLatin1_aae02 13 = .ok (.iconst 1, 1) := by decide +kernel
theorem dJ0_isLatin1_aae02_14 : decode cJ0_isLatin1_aae02 14 = .ok (.goto 4, 3) := by decide +kernel
theorem dJ0_isLatin1_aae02_17 : decode cJ0_isLatin1_aae02 17 = .ok (.iconst 0, 1) := by decide +kernel
theorem dJ0_isLatin1_aae02_18 : decode cJ0_isLatin1_aae02 18 = .ok (.ireturn, 1) := by decide +kernel
theorem dJ0_checkIndex_df160_0 : decode cJ0_checkIndex_df160 0 = .ok (.iload_n 0, 1) := by decide +kernel
theorem dJ0_checkIndex_df160_1 : decode cJ0_checkIndex_df160 1 = .ok (.iload_n 1, 1) := by decide +kernel
theorem dJ0_checkIndex_df160_2 : decode cJ0_checkIndex_df160 2 = .ok (.getstatic 1053, 3) := by decide +kernel
theorem dJ0_checkIndex_df160_5 : decode cJ0_checkIndex_df160 5 = .ok (.invokestatic 1059, 3) := by decide +kernel
theorem dJ0_checkIndex_df160_8 : decode cJ0_checkIndex_df160 8 = .ok (.pop, 1) := by decide +kernel
theorem dJ0_checkIndex_df160_9 : decode cJ0_checkIndex_df160 9 = .ok (.return_, 1) := by decide +kernel
theorem dJ1_charAt_3b067_0 : decode cJ1_charAt_3b067 0 = .ok (.iload_n 1, 1) := by decide +kernel
theorem dJ1_charAt_3b067_1 : decode cJ1_charAt_3b067 1 = .ok (.aload_n 0, 1) := by decide +kernel
theorem dJ1_charAt_3b067_2 : decode cJ1_charAt_3b067 2 = .ok (.arraylength, 1) := by decide +kernel
theorem dJ1_charAt_3b067_3 : decode cJ1_charAt_3b067 3 = .ok (.invokestatic 9, 3) := by decide +kernel
theorem dJ1_charAt_3b067_6 : decode cJ1_charAt_3b067 6 = .ok (.aload_n 0, 1) := by decide +kernel
theorem dJ1_charAt_3b067_7 : decode cJ1_charAt_3b067 7 = .ok (.iload_n 1, 1) := by decide +kernel
theorem dJ1_charAt_3b067_8 : decode cJ1_charAt_3b067 8 = .ok (.baload, 1) := by decide +kernel
theorem dJ1_charAt_3b067_9 : decode cJ1_charAt_3b067 9 = .ok (.sipush 255, 3) := by decide +kernel
theorem dJ1_charAt_3b067_12 : decode cJ1_charAt_3b067 12 = .ok (.iand, 1) := by decide +kernel
theorem dJ1_charAt_3b067_13 : decode cJ1_charAt_3b067 13 = .ok (.i2c, 1) := by decide +kernel
theorem dJ1_charAt_3b067_14 : decode cJ1_charAt_3b067 14 = .ok (.ireturn, 1) := by decide +kernel
theorem dJ3_checkIndex_8e157_0 : decode cJ3_checkIndex_8e157 0 = .ok (.iload_n 0, 1) := by decide +kernel
theorem dJ3_checkIndex_8e157_1 : decode cJ3_checkIndex_8e157 1 = .ok (.ifCond .lt 8, 3) := by decide +kernel
theorem dJ3_checkIndex_8e157_4 : decode cJ3_checkIndex_8e157 4 = .ok (.iload_n 0, 1) := by decide +kernel
theorem dJ3_checkIndex_8e157_5 : decode cJ3_checkIndex_8e157 5 = .ok (.iload_n 1, 1) := by decide +kernel
theorem dJ3_checkIndex_8e157_6 : decode cJ3_checkIndex_8e157 6 = .ok (.if_icmp .lt 10, 3) := by decide +kernel
theorem dJ3_checkIndex_8e157_9 : decode cJ3_checkIndex_8e157 9 = .ok (.aload_n 2, 1) := by decide +kernel
theorem dJ3_checkIndex_8e157_10 : decode cJ3_checkIndex_8e157 10 = .ok (.iload_n 0, 1) := by decide +kernel
theorem dJ3_checkIndex_8e157_11 : decode cJ3_checkIndex_8e157 11 = .ok (.iload_n 1, 1) := by decide +kernel
theorem dJ3_checkIndex_8e157_12 : decode cJ3_checkIndex_8e157 12 = .ok (.invokestatic 95, 3) := by decide +kernel
theorem dJ3_checkIndex_8e157_15 : decode cJ3_checkIndex_8e157 15 = .ok (.athrow, 1) := by decide +kernel
theorem dJ3_checkIndex_8e157_16 : decode cJ3_checkIndex_8e157 16 = .ok (.iload_n 0, 1) := by decide +kernel
theorem dJ3_checkIndex_8e157_17 : decode cJ3_checkIndex_8e157 17 = .ok (.ireturn, 1) := by decide +kernel
theorem dX5_init_0 : decode cX5_init 0 = .ok (.aload_n 0, 1) := by decide +kernel
theorem dX5_init_1 : decode cX5_init 1 = .ok (.invokespecial 3, 3) := by decide +kernel
theorem dX5_init_4 : decode cX5_init 4 = .ok (.aload_n 0, 1) := by decide +kernel
theorem dX5_init_5 : decode cX5_init 5 = .ok (.bipush 13, 2) := by decide +kernel
theorem dX5_init_7 : decode cX5_init 7 = .ok (.newarray .long, 2) := by decide +kernel
theorem dX5_init_9 : decode cX5_init 9 = .ok (.putfield 11, 3) := by decide +kernel
theorem dX5_init_12 : decode cX5_init 12 = .ok (.aload_n 0, 1) := by decide +kernel
theorem dX5_init_13 : decode cX5_init 13 = .ok (.bipush 12, 2) := by decide +kernel
theorem dX5_init_15 : decode cX5_init 15 = .ok (.newarray .long, 2) := by decide +kernel
theorem dX5_init_17 : decode cX5_init 17 = .ok (.putfield 15, 3) := by decide +kernel
theorem dX5_init_20 : decode cX5_init 20 = .ok (.aload_n 0, 1) := by decide +kernel
theorem dX5_init_21 : decode cX5_init 21 = .ok (.aload_n 1, 1) := by decide +kernel
theorem dX5_init_22 : decode cX5_init 22 = .ok (.putfield 18, 3) := by decide +kernel
theorem dX5_init_25 : decode cX5_init 25 = .ok (.aload_n 0, 1) := by decide +kernel
theorem dX5_init_26 : decode cX5_init 26 = .ok (.aload_n 2, 1) := by decide +kernel
theorem dX5_init_27 : decode cX5_init 27 = .ok (.putfield 22, 3) := by decide +kernel
theorem dX5_init_30 : decode cX5_init 30 = .ok (.iconst 0, 1) := by decide +kernel
theorem dX5_init_31 : decode cX5_init 31 = .ok (.istore_n 3, 1) := by decide +kernel
theorem dX5_init_32 : decode cX5_init 32 = .ok (.iconst 0, 1) := by decide +kernel
theorem dX5_init_33 : decode cX5_init 33 = .ok (.istore 4, 2) := by decide +kernel
theorem dX5_init_35 : decode cX5_init 35 = .ok (.iload 4, 2) := by decide +kernel
theorem dX5_init_37 : decode cX5_init 37 = .ok (.ldc 26, 2) := by decide +kernel
theorem dX5_init_39 : decode cX5_init 39 = .ok (.invokevirtual 28, 3) := by decide +kernel
theorem dX5_init_42 : decode cX5_init 42 = .ok (.if_icmp .ge 61, 3) := by decide +kernel
theorem dX5_init_45 : decode cX5_init 45 = .ok (.iload_n 3, 1) := by decide +kernel
theorem dX5_init_46 : decode cX5_init 46 = .ok (.bipush 13, 2) := by decide +kernel
theorem dX5_init_48 : decode cX5_init 48 = .ok (.if_icmp .ge 55, 3) := by decide +kernel
theorem dX5_init_51 : decode cX5_init 51 = .ok (.ldc 26, 2) := by decide +kernel
theorem dX5_init_53 : decode cX5_init 53 = .ok (.iload 4, 2) := by decide +kernel
theorem dX5_init_55 : decode cX5_init 55 = .ok (.invokevirtual 34, 3) := by decide +kernel
theorem dX5_init_58 : decode cX5_init 58 = .ok (.bipush 32, 2) := by decide +kernel
theorem dX5_init_60 : decode cX5_init 60 = .ok (.if_icmp .ne 9, 3) := by decide +kernel
theorem dX5_init_63 : decode cX5_init 63 = .ok (.iinc 3 1, 3) := by decide +kernel
theorem dX5_init_66 : decode cX5_init 66 = .ok (.goto 31, 3) := by decide +kernel
theorem dX5_init_69 : decode cX5_init 69 = .ok (.aload_n 0, 1) := by decide +kernel
theorem dX5_init_70 : decode cX5_init 70 = .ok (.getfield 11, 3) := by decide +kernel
theorem dX5_init_73 : decode cX5_init 73 = .ok (.iload_n 3, 1) := by decide +kernel
theorem dX5_init_74 : decode cX5_init 74 = .ok (.aload_n 0, 1) := by decide +kernel
theorem dX5_init_75 : decode cX5_init 75 = .ok (.getfield 11, 3) := by decide +kernel
theorem dX5_init_78 : decode cX5_init 78 = .ok (.iload_n 3, 1) := by decide +kernel
theorem dX5_init_79 : decode cX5_init 79 = .ok (.laload, 1) := by decide +kernel
theorem dX5_init_80 : decode cX5_init 80 = .ok (.iconst 5, 1) := by decide +kernel
theorem dX5_init_81 : decode cX5_init 81 = .ok (.lshl, 1) := by decide +kernel
theorem dX5_init_82 : decode cX5_init 82 = .ok (.ldc 26, 2) := by decide +kernel
theorem dX5_init_84 : decode cX5_init 84 = .ok (.iload 4, 2) := by decide +kernel
theorem dX5_init_86 : decode cX5_init 86 = .ok (.invokevirtual 34, 3) := by decide +kernel
theorem dX5_init_89 : decode cX5_init 89 = .ok (.bipush 97, 2) := by decide +kernel
theorem dX5_init_91 : decode cX5_init 91 = .ok (.isub, 1) := by decide +kernel
theorem dX5_init_92 : decode cX5_init 92 = .ok (.iconst 1, 1) := by decide +kernel
theorem dX5_init_93 : decode cX5_init 93 = .ok (.iadd, 1) := by decide +kernel
theorem dX5_init_94 : decode cX5_init 94 = .ok (.i2l, 1) := by decide +kernel
theorem dX5_init_95 : decode cX5_init 95 = .ok (.lor, 1) := by decide +kernel
theorem dX5_init_96 : decode cX5_init 96 = .ok (.lastore, 1) := by decide +kernel
theorem dX5_init_97 : decode cX5_init 97 = .ok (.iinc 4 1, 3) := by decide +kernel
theorem dX5_init_100 : decode cX5_init 100 = .ok (.goto (-65), 3) := by decide +kernel
theorem dX5_init_103 : decode cX5_init 103 = .ok (.return_, 1) := by decide +kernel
theorem ks_9 : Cond.fieldLink RJ0 9 "java/lang/String" "value" "[B" ∈ kw_T := (kw_in 1773 (by decide +kernel) rfl)
theorem ks_15 : Cond.fieldLink RJ0 15 "java/lang/String" "coder" "B" ∈ kw_T := (kw_in 1774 (by decide +kernel) rfl)
theorem ks_38 : Cond.fieldLink RJ0 38 "java/lang/String" "COMPACT_STRINGS" "Z" ∈ kw_T := (kw_in 262 (by decide +kernel) rfl)
theorem ks_1053 : Cond.fieldLink RJ0 1053 "jdk/internal/util/Preconditions" "SIOOBE_FORMATTER" "Ljava/util/function/BiFunction;" ∈ kw_T := (kw_in 278 (by decide +kernel) rfl)
theorem ks_335 : Cond.methodLink RJ0 335 yJ0_coder_7d493 ∈ kw_T := (kw_in 258 (by decide +kernel) rfl)
theorem ks_492 : Cond.methodLink RJ0 492 yJ0_isLatin1_aae02 ∈ kw_T := (kw_in 268 (by decide +kernel) rfl)
theorem ks_495 : Cond.methodLink RJ0 495 yJ1_charAt_3b067 ∈ kw_T := (kw_in 272 (by decide +kernel) rfl)
theorem ks_1059 : Cond.methodLink RJ0 1059 yJ3_checkIndex_8e157 ∈ kw_T := (kw_in 280 (by decide +kernel) rfl)
theorem ks_j9 : Cond.methodLink RJ1 9 yJ0_checkIndex_df160 ∈ kw_T := (kw_in 275 (by decide +kernel) rfl)
theorem ks_28 : Cond.methodLink RX5 28 yJ0_length_8abf5 ∈ kw_T := (kw_in 254 (by decide +kernel) rfl)
theorem ks_34 : Cond.methodLink RX5 34 yJ0_charAt_5068e ∈ kw_T := (kw_in 264 (by decide +kernel) rfl)
theorem q_chk3 (g : kf_G) (hg : g.2.2.1.map (fun q => q.2) = [.int, .long, .byte, .boolean, .object "TellFirst$Tray", .array .int]) (B aK aV : Nat) {j : Nat} (hj : j < 71) (v : Value) (hv : v = .null ∨ ∃ t : Nat, v = .ref t) : kr_C g yJ3_checkIndex_8e157 cJ3_checkIndex_8e157 3 (Option.some Jvm.ClassFile.FieldType.int) 0 0 B (kE B aK aV) [.int (nI j), .int 71, v] (fun r => r = some (.int (nI j))) := by
  refine kr_ent hg (by decide +kernel) (by rcases hv with rfl | ⟨t, rfl⟩ <;> exact Nat.le_of_ble_eq_true rfl) (fun x hB hx hE hA ri rv => ?_)
  have e : lv_args 0 [.int (nI j), .int 71, v] = [(0, .int (nI j)), (1, .int 71), (2, v)] := by rcases hv with rfl | ⟨t, rfl⟩ <;> rfl
  rw [e]
  refine kj_iload_n hx dJ3_checkIndex_8e157_0 rfl 0 rfl ?_
  refine kr_if_lt hx 9 dJ3_checkIndex_8e157_1 rfl (fun h => absurd h (nI_pos (by omega))) (fun _ => ?_)
  refine kj_iload_n hx dJ3_checkIndex_8e157_4 rfl 0 rfl ?_
  refine kj_iload_n hx dJ3_checkIndex_8e157_5 rfl 1 rfl ?_
  refine kr_icmp_lt hx 16 dJ3_checkIndex_8e157_6 rfl (fun _ => ?_) (fun h => absurd (nI_lt (b := 71) hj (by decide)) h)
  refine kj_iload_n hx dJ3_checkIndex_8e157_16 rfl 0 rfl ?_
  exact ri _ _ _ _ rfl rfl dJ3_checkIndex_8e157_17 rfl
theorem q_chk0 (g : kf_G) (hg : g.2.2.1.map (fun q => q.2) = [.int, .long, .byte, .boolean, .object "TellFirst$Tray", .array .int]) (B aK aV : Nat) {j : Nat} (hj : j < 71) : kr_C g yJ0_checkIndex_df160 cJ0_checkIndex_df160 2 (Option.none : Option Jvm.ClassFile.FieldType) 1 22 B (kE B aK aV) [.int (nI j), .int 71] (fun r => r = none) := by
  refine kr_ent hg (by decide +kernel) (Nat.le_of_ble_eq_true rfl) (fun x hB hx hE hA ri rv => ?_)
  have hs : ks_ok x B aK aV := ⟨hE, fun q h => Nat.le_trans hB (hA q h)⟩
  show kj_M g x 2 0 [(0, .int (nI j)), (1, .int 71)] [] 0 0 []
  refine kj_iload_n hx dJ0_checkIndex_df160_0 rfl 0 rfl ?_
  refine kj_iload_n hx dJ0_checkIndex_df160_1 rfl 1 rfl ?_
  refine kr_gf hx hs ks_1053 dJ0_checkIndex_df160_2 (fun v hv => ?_)
  refine kr_callS hx (q_chk3 g hg B aK aV hj v hv) ks_1059 km_J3_checkIndex_8e157 rfl hB kE_bl (kr_E hs) (by decide) (Nat.zero_le _) (Nat.zero_le _) rfl (Nat.le_of_ble_eq_true rfl) dJ0_checkIndex_df160_5 (fun r hr => ?_)
  subst hr
  refine kr_pop hx dJ0_checkIndex_df160_8 rfl ?_
  exact rv _ _ rfl dJ0_checkIndex_df160_9 rfl
theorem ks_c : ∀ j, j < 71 → ((ks_b.getD j 0 &&& 255).toUInt32 % 65536).toInt32 = ks_b.getD j 0 ∧ narrow .char (.int (ks_b.getD j 0)) = .int (ks_b.getD j 0) := by
  have h : ∀ b ∈ ks_b, ((b &&& 255).toUInt32 % 65536).toInt32 = b ∧ ((b.toUInt32 % 65536).toInt32 = b) := by decide +kernel
  intro j hj
  have hm : ks_b.getD j 0 ∈ ks_b := by
    rw [List.getD_eq_getElem?_getD, List.getElem?_eq_getElem (show j < ks_b.length from hj)]
    exact List.getElem_mem _
  obtain ⟨h1, h2⟩ := h _ hm
  refine ⟨h1, ?_⟩
  have e : narrow .char (.int (ks_b.getD j 0)) = .int (((ks_b.getD j 0).toUInt32 % 65536).toInt32) := rfl
  rw [e, h2]
theorem q_chA1 (g : kf_G) (hg : g.2.2.1.map (fun q => q.2) = [.int, .long, .byte, .boolean, .object "TellFirst$Tray", .array .int]) (B aK aV : Nat) {j : Nat} (hj : j < 71) : kr_C g yJ1_charAt_3b067 cJ1_charAt_3b067 2 (Option.some Jvm.ClassFile.FieldType.char) 2 43 B (kE B aK aV) [.ref aV, .int (nI j)] (fun r => r = some (.int (ks_b.getD j 0))) := by
  refine kr_ent hg (by decide +kernel) (Nat.le_of_ble_eq_true rfl) (fun x hB hx hE hA ri rv => ?_)
  have hs : ks_ok x B aK aV := ⟨hE, fun q h => Nat.le_trans hB (hA q h)⟩
  show kj_M g x 2 0 [(0, .ref aV), (1, .int (nI j))] [] 0 0 []
  refine kj_iload_n hx dJ1_charAt_3b067_0 rfl 1 rfl ?_
  refine kj_aload_n hx dJ1_charAt_3b067_1 rfl 0 rfl ?_
  refine kr_vlen hx hs dJ1_charAt_3b067_2 ?_
  refine kr_callS hx (q_chk0 g hg B aK aV hj) ks_j9 km_J0_checkIndex_df160 rfl hB kE_bl (kr_E hs) (by decide) (Nat.zero_le _) (Nat.zero_le _) rfl (Nat.le_of_ble_eq_true rfl) dJ1_charAt_3b067_3 (fun r hr => ?_)
  subst hr
  refine kj_aload_n hx dJ1_charAt_3b067_6 rfl 0 rfl ?_
  refine kj_iload_n hx dJ1_charAt_3b067_7 rfl 1 rfl ?_
  refine kr_vld hx hs hj dJ1_charAt_3b067_8 ?_
  refine kj_sipush hx dJ1_charAt_3b067_9 (v := 255) (by decide) ?_
  refine kr_iand hx dJ1_charAt_3b067_12 ?_
  refine kr_i2c hx dJ1_charAt_3b067_13 (ks_c j hj).1 ?_
  exact ri _ _ _ _ rfl (ks_c j hj).2 dJ1_charAt_3b067_14 rfl
theorem q_lat (g : kf_G) (hg : g.2.2.1.map (fun q => q.2) = [.int, .long, .byte, .boolean, .object "TellFirst$Tray", .array .int]) (B aK aV : Nat) : kr_C g yJ0_isLatin1_aae02 cJ0_isLatin1_aae02 1 (Option.some Jvm.ClassFile.FieldType.boolean) 0 0 B (kE B aK aV) [.ref aK] (fun r => r = some (.int 1)) := by
  refine kr_ent hg (by decide +kernel) (Nat.le_of_ble_eq_true rfl) (fun x hB hx hE hA ri rv => ?_)
  have hs : ks_ok x B aK aV := ⟨hE, fun q h => Nat.le_trans hB (hA q h)⟩
  show kj_M g x 1 0 [(0, .ref aK)] [] 0 0 []
  refine kr_gs hx hs ks_38 dJ0_isLatin1_aae02_0 ?_
  refine kr_if_eq hx 17 dJ0_isLatin1_aae02_3 rfl (fun h => absurd h (by decide)) (fun _ => ?_)
  refine kj_aload_n hx dJ0_isLatin1_aae02_6 rfl 0 rfl ?_
  refine kr_coder hx hs ks_15 dJ0_isLatin1_aae02_7 ?_
  refine kr_if_ne hx 17 dJ0_isLatin1_aae02_10 rfl (fun h => absurd rfl h) (fun _ => ?_)
  refine kj_iconst hx dJ0_isLatin1_aae02_13 (v := 1) (by decide) ?_
  refine kj_goto hx 18 dJ0_isLatin1_aae02_14 rfl ?_
  exact ri _ _ _ _ rfl rfl dJ0_isLatin1_aae02_18 rfl
theorem q_cod (g : kf_G) (hg : g.2.2.1.map (fun q => q.2) = [.int, .long, .byte, .boolean, .object "TellFirst$Tray", .array .int]) (B aK aV : Nat) : kr_C g yJ0_coder_7d493 cJ0_coder_7d493 1 (Option.some Jvm.ClassFile.FieldType.byte) 0 0 B (kE B aK aV) [.ref aK] (fun r => r = some (.int 0)) := by
  refine kr_ent hg (by decide +kernel) (Nat.le_of_ble_eq_true rfl) (fun x hB hx hE hA ri rv => ?_)
  have hs : ks_ok x B aK aV := ⟨hE, fun q h => Nat.le_trans hB (hA q h)⟩
  show kj_M g x 1 0 [(0, .ref aK)] [] 0 0 []
  refine kr_gs hx hs ks_38 dJ0_coder_7d493_0 ?_
  refine kr_if_eq hx 13 dJ0_coder_7d493_3 rfl (fun h => absurd h (by decide)) (fun _ => ?_)
  refine kj_aload_n hx dJ0_coder_7d493_6 rfl 0 rfl ?_
  refine kr_coder hx hs ks_15 dJ0_coder_7d493_7 ?_
  refine kj_goto hx 14 dJ0_coder_7d493_10 rfl ?_
  exact ri _ _ _ _ rfl rfl dJ0_coder_7d493_14 rfl
theorem q_len (g : kf_G) (hg : g.2.2.1.map (fun q => q.2) = [.int, .long, .byte, .boolean, .object "TellFirst$Tray", .array .int]) (B aK aV : Nat) : kr_C g yJ0_length_8abf5 cJ0_length_8abf5 1 (Option.some Jvm.ClassFile.FieldType.int) 1 20 B (kE B aK aV) [.ref aK] (fun r => r = some (.int 71)) := by
  refine kr_ent hg (by decide +kernel) (Nat.le_of_ble_eq_true rfl) (fun x hB hx hE hA ri rv => ?_)
  have hs : ks_ok x B aK aV := ⟨hE, fun q h => Nat.le_trans hB (hA q h)⟩
  show kj_M g x 1 0 [(0, .ref aK)] [] 0 0 []
  refine kj_aload_n hx dJ0_length_8abf5_0 rfl 0 rfl ?_
  refine kr_value hx hs ks_9 dJ0_length_8abf5_1 ?_
  refine kr_vlen hx hs dJ0_length_8abf5_4 ?_
  refine kj_aload_n hx dJ0_length_8abf5_5 rfl 0 rfl ?_
  refine kr_callV hx (q_cod g hg B aK aV) ks_335 km_J0_coder_7d493 (kr_str hs) rfl hB kE_bl (kr_E hs) (by decide) (Nat.zero_le _) (Nat.zero_le _) rfl (Nat.le_of_ble_eq_true rfl) dJ0_length_8abf5_6 (fun r hr => ?_)
  subst hr
  refine kr_ishr hx dJ0_length_8abf5_9 ?_
  exact ri _ _ _ _ rfl rfl dJ0_length_8abf5_10 (by decide)
theorem q_chA (g : kf_G) (hg : g.2.2.1.map (fun q => q.2) = [.int, .long, .byte, .boolean, .object "TellFirst$Tray", .array .int]) (B aK aV : Nat) {j : Nat} (hj : j < 71) : kr_C g yJ0_charAt_5068e cJ0_charAt_5068e 2 (Option.some Jvm.ClassFile.FieldType.char) 3 64 B (kE B aK aV) [.ref aK, .int (nI j)] (fun r => r = some (.int (ks_b.getD j 0))) := by
  refine kr_ent hg (by decide +kernel) (Nat.le_of_ble_eq_true rfl) (fun x hB hx hE hA ri rv => ?_)
  have hs : ks_ok x B aK aV := ⟨hE, fun q h => Nat.le_trans hB (hA q h)⟩
  show kj_M g x 2 0 [(0, .ref aK), (1, .int (nI j))] [] 0 0 []
  refine kj_aload_n hx dJ0_charAt_5068e_0 rfl 0 rfl ?_
  refine kr_callV hx (q_lat g hg B aK aV) ks_492 km_J0_isLatin1_aae02 (kr_str hs) rfl hB kE_bl (kr_E hs) (by decide) (Nat.zero_le _) (Nat.zero_le _) rfl (Nat.le_of_ble_eq_true rfl) dJ0_charAt_5068e_1 (fun r hr => ?_)
  subst hr
  refine kr_if_eq hx 16 dJ0_charAt_5068e_4 rfl (fun h => absurd h (by decide)) (fun _ => ?_)
  refine kj_aload_n hx dJ0_charAt_5068e_7 rfl 0 rfl ?_
  refine kr_value hx hs ks_9 dJ0_charAt_5068e_8 ?_
  refine kj_iload_n hx dJ0_charAt_5068e_11 rfl 1 rfl ?_
  refine kr_callS hx (q_chA1 g hg B aK aV hj) ks_495 km_J1_charAt_3b067 rfl hB kE_bl (kr_E hs) (by decide) (Nat.zero_le _) (Nat.zero_le _) rfl (Nat.le_of_ble_eq_true rfl) dJ0_charAt_5068e_12 (fun r hr => ?_)
  subst hr
  exact ri _ _ _ _ rfl (ks_c j hj).2 dJ0_charAt_5068e_15 rfl
