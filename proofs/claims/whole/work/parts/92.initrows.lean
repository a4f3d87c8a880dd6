theorem ow_i : Cond.instanceMethod objectInit ∈ kw_T := (kw_in 128 (by decide +kernel) rfl)
theorem ow_c : Cond.code objectInit ⟨#[0xb1]⟩ 1 none ∈ kw_T := (kw_in 129 (by decide +kernel) rfl)
theorem ow_byte : Cond.arrayClass .byte ∈ kw_T := (kw_in 147 (by decide +kernel) rfl)
theorem ow_int : Cond.arrayClass .int ∈ kw_T := (kw_in 246 (by decide +kernel) rfl)
theorem ow_long : Cond.arrayClass .long ∈ kw_T := (kw_in 344 (by decide +kernel) rfl)
theorem ow_boolean : Cond.arrayClass .boolean ∈ kw_T := (kw_in 1346 (by decide +kernel) rfl)
theorem kl_0_9 : kj_L RX0 9 0 2 := ⟨_, _, _, rfl, by decide, ku_0, (kw_in 369 (by decide +kernel) rfl)⟩
theorem kl_0_15 : kj_L RX0 15 0 0 := ⟨_, _, _, rfl, by decide, ku_0, (kw_in 367 (by decide +kernel) rfl)⟩
theorem kl_0_19 : kj_L RX0 19 0 1 := ⟨_, _, _, rfl, by decide, ku_0, (kw_in 368 (by decide +kernel) rfl)⟩
theorem kl_1_7 : kj_L RX1 7 1 1 := ⟨_, _, _, rfl, by decide, ku_1, (kw_in 140 (by decide +kernel) rfl)⟩
theorem kl_2_9 : kj_L RX2 9 2 1 := ⟨_, _, _, rfl, by decide, ku_2, (kw_in 352 (by decide +kernel) rfl)⟩
theorem kl_2_15 : kj_L RX2 15 2 0 := ⟨_, _, _, rfl, by decide, ku_2, (kw_in 351 (by decide +kernel) rfl)⟩
theorem kl_3_9 : kj_L RX3 9 3 3 := ⟨_, _, _, rfl, by decide, ku_3, (kw_in 467 (by decide +kernel) rfl)⟩
theorem kl_3_15 : kj_L RX3 15 3 0 := ⟨_, _, _, rfl, by decide, ku_3, (kw_in 464 (by decide +kernel) rfl)⟩
theorem kl_3_19 : kj_L RX3 19 3 1 := ⟨_, _, _, rfl, by decide, ku_3, (kw_in 465 (by decide +kernel) rfl)⟩
theorem kl_3_23 : kj_L RX3 23 3 2 := ⟨_, _, _, rfl, by decide, ku_3, (kw_in 466 (by decide +kernel) rfl)⟩
theorem kl_4_9 : kj_L RX4 9 4 0 := ⟨_, _, _, rfl, by decide, ku_4, (kw_in 154 (by decide +kernel) rfl)⟩
theorem kl_4_15 : kj_L RX4 15 4 1 := ⟨_, _, _, rfl, by decide, ku_4, (kw_in 159 (by decide +kernel) rfl)⟩
theorem kl_4_18 : kj_L RX4 18 4 2 := ⟨_, _, _, rfl, by decide, ku_4, (kw_in 162 (by decide +kernel) rfl)⟩
theorem kl_4_21 : kj_L RX4 21 4 3 := ⟨_, _, _, rfl, by decide, ku_4, (kw_in 167 (by decide +kernel) rfl)⟩
theorem kl_4_24 : kj_L RX4 24 4 4 := ⟨_, _, _, rfl, by decide, ku_4, (kw_in 171 (by decide +kernel) rfl)⟩
theorem kl_4_27 : kj_L RX4 27 4 5 := ⟨_, _, _, rfl, by decide, ku_4, (kw_in 175 (by decide +kernel) rfl)⟩
theorem kl_4_30 : kj_L RX4 30 4 6 := ⟨_, _, _, rfl, by decide, ku_4, (kw_in 178 (by decide +kernel) rfl)⟩
theorem kl_4_33 : kj_L RX4 33 4 7 := ⟨_, _, _, rfl, by decide, ku_4, (kw_in 183 (by decide +kernel) rfl)⟩
theorem kl_4_36 : kj_L RX4 36 4 8 := ⟨_, _, _, rfl, by decide, ku_4, (kw_in 188 (by decide +kernel) rfl)⟩
theorem kl_4_39 : kj_L RX4 39 4 9 := ⟨_, _, _, rfl, by decide, ku_4, (kw_in 191 (by decide +kernel) rfl)⟩
theorem kl_4_42 : kj_L RX4 42 4 10 := ⟨_, _, _, rfl, by decide, ku_4, (kw_in 195 (by decide +kernel) rfl)⟩
theorem kl_7_9 : kj_L RX7 9 7 1 := ⟨_, _, _, rfl, by decide, ku_7, (kw_in 421 (by decide +kernel) rfl)⟩
theorem kl_7_15 : kj_L RX7 15 7 2 := ⟨_, _, _, rfl, by decide, ku_7, (kw_in 423 (by decide +kernel) rfl)⟩
theorem kl_7_18 : kj_L RX7 18 7 3 := ⟨_, _, _, rfl, by decide, ku_7, (kw_in 424 (by decide +kernel) rfl)⟩
theorem kl_7_21 : kj_L RX7 21 7 0 := ⟨_, _, _, rfl, by decide, ku_7, (kw_in 420 (by decide +kernel) rfl)⟩
theorem kl_8_11 : kj_L RX8 11 8 0 := ⟨_, _, _, rfl, by decide, ku_8, (kw_in 509 (by decide +kernel) rfl)⟩
theorem kl_8_15 : kj_L RX8 15 8 2 := ⟨_, _, _, rfl, by decide, ku_8, (kw_in 513 (by decide +kernel) rfl)⟩
theorem kl_9_9 : kj_L RX9 9 9 2 := ⟨_, _, _, rfl, by decide, ku_9, (kw_in 389 (by decide +kernel) rfl)⟩
theorem kl_9_15 : kj_L RX9 15 9 3 := ⟨_, _, _, rfl, by decide, ku_9, (kw_in 390 (by decide +kernel) rfl)⟩
theorem kl_9_18 : kj_L RX9 18 9 4 := ⟨_, _, _, rfl, by decide, ku_9, (kw_in 391 (by decide +kernel) rfl)⟩
theorem kl_9_22 : kj_L RX9 22 9 5 := ⟨_, _, _, rfl, by decide, ku_9, (kw_in 392 (by decide +kernel) rfl)⟩
theorem kl_9_25 : kj_L RX9 25 9 0 := ⟨_, _, _, rfl, by decide, ku_9, (kw_in 387 (by decide +kernel) rfl)⟩
theorem kl_9_29 : kj_L RX9 29 9 1 := ⟨_, _, _, rfl, by decide, ku_9, (kw_in 388 (by decide +kernel) rfl)⟩
theorem kl_11_7 : kj_L RX11 7 11 3 := ⟨_, _, _, rfl, by decide, ku_11, (kw_in 1194 (by decide +kernel) rfl)⟩
theorem kl_11_13 : kj_L RX11 13 11 4 := ⟨_, _, _, rfl, by decide, ku_11, (kw_in 1195 (by decide +kernel) rfl)⟩
theorem kl_11_17 : kj_L RX11 17 11 5 := ⟨_, _, _, rfl, by decide, ku_11, (kw_in 1196 (by decide +kernel) rfl)⟩
theorem kl_11_20 : kj_L RX11 20 11 6 := ⟨_, _, _, rfl, by decide, ku_11, (kw_in 1197 (by decide +kernel) rfl)⟩
theorem kl_11_24 : kj_L RX11 24 11 7 := ⟨_, _, _, rfl, by decide, ku_11, (kw_in 1198 (by decide +kernel) rfl)⟩
theorem kl_11_28 : kj_L RX11 28 11 10 := ⟨_, _, _, rfl, by decide, ku_11, (kw_in 1201 (by decide +kernel) rfl)⟩
theorem kl_11_32 : kj_L RX11 32 11 11 := ⟨_, _, _, rfl, by decide, ku_11, (kw_in 1202 (by decide +kernel) rfl)⟩
theorem kl_11_35 : kj_L RX11 35 11 24 := ⟨_, _, _, rfl, by decide, ku_11, (kw_in 1215 (by decide +kernel) rfl)⟩
theorem kl_11_38 : kj_L RX11 38 11 25 := ⟨_, _, _, rfl, by decide, ku_11, (kw_in 1216 (by decide +kernel) rfl)⟩
theorem kl_11_41 : kj_L RX11 41 11 26 := ⟨_, _, _, rfl, by decide, ku_11, (kw_in 1217 (by decide +kernel) rfl)⟩
theorem kl_11_44 : kj_L RX11 44 11 27 := ⟨_, _, _, rfl, by decide, ku_11, (kw_in 1218 (by decide +kernel) rfl)⟩
theorem kl_11_47 : kj_L RX11 47 11 28 := ⟨_, _, _, rfl, by decide, ku_11, (kw_in 1219 (by decide +kernel) rfl)⟩
theorem kl_11_50 : kj_L RX11 50 11 29 := ⟨_, _, _, rfl, by decide, ku_11, (kw_in 1220 (by decide +kernel) rfl)⟩
theorem kl_11_53 : kj_L RX11 53 11 30 := ⟨_, _, _, rfl, by decide, ku_11, (kw_in 1221 (by decide +kernel) rfl)⟩
theorem kl_11_56 : kj_L RX11 56 11 31 := ⟨_, _, _, rfl, by decide, ku_11, (kw_in 1222 (by decide +kernel) rfl)⟩
theorem kl_11_59 : kj_L RX11 59 11 32 := ⟨_, _, _, rfl, by decide, ku_11, (kw_in 1223 (by decide +kernel) rfl)⟩
theorem kl_11_62 : kj_L RX11 62 11 33 := ⟨_, _, _, rfl, by decide, ku_11, (kw_in 1224 (by decide +kernel) rfl)⟩
theorem kl_11_65 : kj_L RX11 65 11 34 := ⟨_, _, _, rfl, by decide, ku_11, (kw_in 1225 (by decide +kernel) rfl)⟩
theorem kl_11_68 : kj_L RX11 68 11 35 := ⟨_, _, _, rfl, by decide, ku_11, (kw_in 1226 (by decide +kernel) rfl)⟩
theorem kl_11_71 : kj_L RX11 71 11 36 := ⟨_, _, _, rfl, by decide, ku_11, (kw_in 1227 (by decide +kernel) rfl)⟩
theorem kl_11_74 : kj_L RX11 74 11 37 := ⟨_, _, _, rfl, by decide, ku_11, (kw_in 1228 (by decide +kernel) rfl)⟩
theorem kl_11_78 : kj_L RX11 78 11 39 := ⟨_, _, _, rfl, by decide, ku_11, (kw_in 1230 (by decide +kernel) rfl)⟩
theorem kl_11_81 : kj_L RX11 81 11 40 := ⟨_, _, _, rfl, by decide, ku_11, (kw_in 1231 (by decide +kernel) rfl)⟩
theorem kl_11_84 : kj_L RX11 84 11 41 := ⟨_, _, _, rfl, by decide, ku_11, (kw_in 1232 (by decide +kernel) rfl)⟩
theorem kl_11_87 : kj_L RX11 87 11 42 := ⟨_, _, _, rfl, by decide, ku_11, (kw_in 1233 (by decide +kernel) rfl)⟩
theorem kl_11_90 : kj_L RX11 90 11 43 := ⟨_, _, _, rfl, by decide, ku_11, (kw_in 1234 (by decide +kernel) rfl)⟩
theorem kl_11_93 : kj_L RX11 93 11 46 := ⟨_, _, _, rfl, by decide, ku_11, (kw_in 1235 (by decide +kernel) rfl)⟩
theorem kl_11_97 : kj_L RX11 97 11 47 := ⟨_, _, _, rfl, by decide, ku_11, (kw_in 1236 (by decide +kernel) rfl)⟩
theorem kl_11_100 : kj_L RX11 100 11 48 := ⟨_, _, _, rfl, by decide, ku_11, (kw_in 1237 (by decide +kernel) rfl)⟩
theorem kl_11_103 : kj_L RX11 103 11 49 := ⟨_, _, _, rfl, by decide, ku_11, (kw_in 1238 (by decide +kernel) rfl)⟩
theorem kn_0_0 : kj_F RX0 0 0 := ⟨_, _, _, rfl, tyX0_ok, nmX0, rfl, rfl⟩
theorem kn_0_1 : kj_F RX0 0 1 := ⟨_, _, _, rfl, tyX0_ok, nmX0, rfl, rfl⟩
theorem kn_0_2 : kj_F RX0 0 2 := ⟨_, _, _, rfl, tyX0_ok, nmX0, rfl, rfl⟩
theorem kn_2_0 : kj_F RX2 2 0 := ⟨_, _, _, rfl, tyX2_ok, nmX2, rfl, rfl⟩
theorem kn_2_1 : kj_F RX2 2 1 := ⟨_, _, _, rfl, tyX2_ok, nmX2, rfl, rfl⟩
theorem kn_3_0 : kj_F RX3 3 0 := ⟨_, _, _, rfl, tyX3_ok, nmX3, rfl, rfl⟩
theorem kn_3_1 : kj_F RX3 3 1 := ⟨_, _, _, rfl, tyX3_ok, nmX3, rfl, rfl⟩
theorem kn_3_2 : kj_F RX3 3 2 := ⟨_, _, _, rfl, tyX3_ok, nmX3, rfl, rfl⟩
theorem kn_3_3 : kj_F RX3 3 3 := ⟨_, _, _, rfl, tyX3_ok, nmX3, rfl, rfl⟩
theorem kn_4_0 : kj_F RX4 4 0 := ⟨_, _, _, rfl, tyX4_ok, nmX4, rfl, rfl⟩
theorem kn_4_1 : kj_F RX4 4 1 := ⟨_, _, _, rfl, tyX4_ok, nmX4, rfl, rfl⟩
theorem kn_4_2 : kj_F RX4 4 2 := ⟨_, _, _, rfl, tyX4_ok, nmX4, rfl, rfl⟩
theorem kn_4_3 : kj_F RX4 4 3 := ⟨_, _, _, rfl, tyX4_ok, nmX4, rfl, rfl⟩
theorem kn_4_4 : kj_F RX4 4 4 := ⟨_, _, _, rfl, tyX4_ok, nmX4, rfl, rfl⟩
theorem kn_4_5 : kj_F RX4 4 5 := ⟨_, _, _, rfl, tyX4_ok, nmX4, rfl, rfl⟩
theorem kn_4_6 : kj_F RX4 4 6 := ⟨_, _, _, rfl, tyX4_ok, nmX4, rfl, rfl⟩
theorem kn_4_7 : kj_F RX4 4 7 := ⟨_, _, _, rfl, tyX4_ok, nmX4, rfl, rfl⟩
theorem kn_4_8 : kj_F RX4 4 8 := ⟨_, _, _, rfl, tyX4_ok, nmX4, rfl, rfl⟩
theorem kn_4_9 : kj_F RX4 4 9 := ⟨_, _, _, rfl, tyX4_ok, nmX4, rfl, rfl⟩
theorem kn_4_10 : kj_F RX4 4 10 := ⟨_, _, _, rfl, tyX4_ok, nmX4, rfl, rfl⟩
theorem kn_7_0 : kj_F RX7 7 0 := ⟨_, _, _, rfl, tyX7_ok, nmX7, rfl, rfl⟩
theorem kn_7_1 : kj_F RX7 7 1 := ⟨_, _, _, rfl, tyX7_ok, nmX7, rfl, rfl⟩
theorem kn_7_2 : kj_F RX7 7 2 := ⟨_, _, _, rfl, tyX7_ok, nmX7, rfl, rfl⟩
theorem kn_7_3 : kj_F RX7 7 3 := ⟨_, _, _, rfl, tyX7_ok, nmX7, rfl, rfl⟩
theorem kn_8_0 : kj_F RX8 8 0 := ⟨_, _, _, rfl, tyX8_ok, nmX8, rfl, rfl⟩
theorem kn_9_0 : kj_F RX9 9 0 := ⟨_, _, _, rfl, tyX9_ok, nmX9, rfl, rfl⟩
theorem kn_9_1 : kj_F RX9 9 1 := ⟨_, _, _, rfl, tyX9_ok, nmX9, rfl, rfl⟩
theorem kn_9_2 : kj_F RX9 9 2 := ⟨_, _, _, rfl, tyX9_ok, nmX9, rfl, rfl⟩
theorem kn_9_3 : kj_F RX9 9 3 := ⟨_, _, _, rfl, tyX9_ok, nmX9, rfl, rfl⟩
theorem kn_9_4 : kj_F RX9 9 4 := ⟨_, _, _, rfl, tyX9_ok, nmX9, rfl, rfl⟩
theorem kn_9_5 : kj_F RX9 9 5 := ⟨_, _, _, rfl, tyX9_ok, nmX9, rfl, rfl⟩
theorem kn_11_4 : kj_F RX11 11 4 := ⟨_, _, _, rfl, tyX11_ok, nmX11, rfl, rfl⟩
theorem kn_11_5 : kj_F RX11 11 5 := ⟨_, _, _, rfl, tyX11_ok, nmX11, rfl, rfl⟩
theorem kn_11_6 : kj_F RX11 11 6 := ⟨_, _, _, rfl, tyX11_ok, nmX11, rfl, rfl⟩
theorem kn_11_7 : kj_F RX11 11 7 := ⟨_, _, _, rfl, tyX11_ok, nmX11, rfl, rfl⟩
theorem kn_11_24 : kj_F RX11 11 24 := ⟨_, _, _, rfl, tyX11_ok, nmX11, rfl, rfl⟩
theorem kn_11_25 : kj_F RX11 11 25 := ⟨_, _, _, rfl, tyX11_ok, nmX11, rfl, rfl⟩
theorem kn_11_26 : kj_F RX11 11 26 := ⟨_, _, _, rfl, tyX11_ok, nmX11, rfl, rfl⟩
theorem kn_11_27 : kj_F RX11 11 27 := ⟨_, _, _, rfl, tyX11_ok, nmX11, rfl, rfl⟩
theorem kn_11_28 : kj_F RX11 11 28 := ⟨_, _, _, rfl, tyX11_ok, nmX11, rfl, rfl⟩
theorem kn_11_29 : kj_F RX11 11 29 := ⟨_, _, _, rfl, tyX11_ok, nmX11, rfl, rfl⟩
theorem kn_11_30 : kj_F RX11 11 30 := ⟨_, _, _, rfl, tyX11_ok, nmX11, rfl, rfl⟩
theorem kn_11_31 : kj_F RX11 11 31 := ⟨_, _, _, rfl, tyX11_ok, nmX11, rfl, rfl⟩
theorem kn_11_32 : kj_F RX11 11 32 := ⟨_, _, _, rfl, tyX11_ok, nmX11, rfl, rfl⟩
theorem kn_11_33 : kj_F RX11 11 33 := ⟨_, _, _, rfl, tyX11_ok, nmX11, rfl, rfl⟩
theorem kn_11_34 : kj_F RX11 11 34 := ⟨_, _, _, rfl, tyX11_ok, nmX11, rfl, rfl⟩
theorem kn_11_35 : kj_F RX11 11 35 := ⟨_, _, _, rfl, tyX11_ok, nmX11, rfl, rfl⟩
theorem kn_11_36 : kj_F RX11 11 36 := ⟨_, _, _, rfl, tyX11_ok, nmX11, rfl, rfl⟩
theorem kn_11_37 : kj_F RX11 11 37 := ⟨_, _, _, rfl, tyX11_ok, nmX11, rfl, rfl⟩
theorem kn_11_39 : kj_F RX11 11 39 := ⟨_, _, _, rfl, tyX11_ok, nmX11, rfl, rfl⟩
theorem kn_11_40 : kj_F RX11 11 40 := ⟨_, _, _, rfl, tyX11_ok, nmX11, rfl, rfl⟩
theorem kn_11_41 : kj_F RX11 11 41 := ⟨_, _, _, rfl, tyX11_ok, nmX11, rfl, rfl⟩
theorem kn_11_42 : kj_F RX11 11 42 := ⟨_, _, _, rfl, tyX11_ok, nmX11, rfl, rfl⟩
theorem kn_11_43 : kj_F RX11 11 43 := ⟨_, _, _, rfl, tyX11_ok, nmX11, rfl, rfl⟩
theorem kn_11_46 : kj_F RX11 11 46 := ⟨_, _, _, rfl, tyX11_ok, nmX11, rfl, rfl⟩
theorem kn_11_47 : kj_F RX11 11 47 := ⟨_, _, _, rfl, tyX11_ok, nmX11, rfl, rfl⟩
theorem kn_11_48 : kj_F RX11 11 48 := ⟨_, _, _, rfl, tyX11_ok, nmX11, rfl, rfl⟩
theorem kn_11_49 : kj_F RX11 11 49 := ⟨_, _, _, rfl, tyX11_ok, nmX11, rfl, rfl⟩
theorem dX8_init_0 : decode cX8_init 0 = .ok (.aload_n 0, 1) := by decide +kernel
theorem dX8_init_1 : decode cX8_init 1 = .ok (.invokespecial 3, 3) := by decide +kernel
theorem dX8_init_4 : decode cX8_init 4 = .ok (.aload_n 0, 1) := by decide +kernel
theorem dX8_init_5 : decode cX8_init 5 = .ok (.bipush 40, 2) := by decide +kernel
theorem dX8_init_7 : decode cX8_init 7 = .ok (.newarray .long, 2) := by decide +kernel
theorem dX8_init_9 : decode cX8_init 9 = .ok (.putfield 11, 3) := by decide +kernel
theorem dX8_init_12 : decode cX8_init 12 = .ok (.aload_n 0, 1) := by decide +kernel
theorem dX8_init_13 : decode cX8_init 13 = .ok (.iconst (-1), 1) := by decide +kernel
theorem dX8_init_14 : decode cX8_init 14 = .ok (.putfield 15, 3) := by decide +kernel
theorem dX8_init_17 : decode cX8_init 17 = .ok (.return_, 1) := by decide +kernel
theorem dX1_init_0 : decode cX1_init 0 = .ok (.aload_n 0, 1) := by decide +kernel
theorem dX1_init_1 : decode cX1_init 1 = .ok (.invokespecial 1, 3) := by decide +kernel
theorem dX1_init_4 : decode cX1_init 4 = .ok (.aload_n 0, 1) := by decide +kernel
theorem dX1_init_5 : decode cX1_init 5 = .ok (.lconst 1, 1) := by decide +kernel
theorem dX1_init_6 : decode cX1_init 6 = .ok (.putfield 7, 3) := by decide +kernel
theorem dX1_init_9 : decode cX1_init 9 = .ok (.return_, 1) := by decide +kernel
theorem dX4_init_0 : decode cX4_init 0 = .ok (.aload_n 0, 1) := by decide +kernel
theorem dX4_init_1 : decode cX4_init 1 = .ok (.invokespecial 3, 3) := by decide +kernel
theorem dX4_init_4 : decode cX4_init 4 = .ok (.aload_n 0, 1) := by decide +kernel
theorem dX4_init_5 : decode cX4_init 5 = .ok (.bipush 12, 2) := by decide +kernel
theorem dX4_init_7 : decode cX4_init 7 = .ok (.newarray .int, 2) := by decide +kernel
theorem dX4_init_9 : decode cX4_init 9 = .ok (.putfield 9, 3) := by decide +kernel
theorem dX4_init_12 : decode cX4_init 12 = .ok (.aload_n 0, 1) := by decide +kernel
theorem dX4_init_13 : decode cX4_init 13 = .ok (.bipush 12, 2) := by decide +kernel
theorem dX4_init_15 : decode cX4_init 15 = .ok (.newarray .int, 2) := by decide +kernel
theorem dX4_init_17 : decode cX4_init 17 = .ok (.putfield 15, 3) := by decide +kernel
theorem dX4_init_20 : decode cX4_init 20 = .ok (.aload_n 0, 1) := by decide +kernel
theorem dX4_init_21 : decode cX4_init 21 = .ok (.bipush 12, 2) := by decide +kernel
theorem dX4_init_23 : decode cX4_init 23 = .ok (.newarray .int, 2) := by decide +kernel
theorem dX4_init_25 : decode cX4_init 25 = .ok (.putfield 18, 3) := by decide +kernel
theorem dX4_init_28 : decode cX4_init 28 = .ok (.aload_n 0, 1) := by decide +kernel
theorem dX4_init_29 : decode cX4_init 29 = .ok (.bipush 12, 2) := by decide +kernel
theorem dX4_init_31 : decode cX4_init 31 = .ok (.newarray .int, 2) := by decide +kernel
theorem dX4_init_33 : decode cX4_init 33 = .ok (.putfield 21, 3) := by decide +kernel
theorem dX4_init_36 : decode cX4_init 36 = .ok (.aload_n 0, 1) := by decide +kernel
theorem dX4_init_37 : decode cX4_init 37 = .ok (.bipush 12, 2) := by decide +kernel
theorem dX4_init_39 : decode cX4_init 39 = .ok (.newarray .int, 2) := by decide +kernel
theorem dX4_init_41 : decode cX4_init 41 = .ok (.putfield 24, 3) := by decide +kernel
theorem dX4_init_44 : decode cX4_init 44 = .ok (.aload_n 0, 1) := by decide +kernel
theorem dX4_init_45 : decode cX4_init 45 = .ok (.bipush 12, 2) := by decide +kernel
theorem dX4_init_47 : decode cX4_init 47 = .ok (.newarray .int, 2) := by decide +kernel
theorem dX4_init_49 : decode cX4_init 49 = .ok (.putfield 27, 3) := by decide +kernel
theorem dX4_init_52 : decode cX4_init 52 = .ok (.aload_n 0, 1) := by decide +kernel
theorem dX4_init_53 : decode cX4_init 53 = .ok (.bipush 10, 2) := by decide +kernel
theorem dX4_init_55 : decode cX4_init 55 = .ok (.newarray .int, 2) := by decide +kernel
theorem dX4_init_57 : decode cX4_init 57 = .ok (.putfield 30, 3) := by decide +kernel
theorem dX4_init_60 : decode cX4_init 60 = .ok (.aload_n 0, 1) := by decide +kernel
theorem dX4_init_61 : decode cX4_init 61 = .ok (.bipush 10, 2) := by decide +kernel
theorem dX4_init_63 : decode cX4_init 63 = .ok (.newarray .int, 2) := by decide +kernel
theorem dX4_init_65 : decode cX4_init 65 = .ok (.putfield 33, 3) := by decide +kernel
theorem dX4_init_68 : decode cX4_init 68 = .ok (.aload_n 0, 1) := by decide +kernel
theorem dX4_init_69 : decode cX4_init 69 = .ok (.bipush 10, 2) := by decide +kernel
theorem dX4_init_71 : decode cX4_init 71 = .ok (.newarray .int, 2) := by decide +kernel
theorem dX4_init_73 : decode cX4_init 73 = .ok (.putfield 36, 3) := by decide +kernel
theorem dX4_init_76 : decode cX4_init 76 = .ok (.aload_n 0, 1) := by decide +kernel
theorem dX4_init_77 : decode cX4_init 77 = .ok (.bipush 10, 2) := by decide +kernel
theorem dX4_init_79 : decode cX4_init 79 = .ok (.newarray .int, 2) := by decide +kernel
theorem dX4_init_81 : decode cX4_init 81 = .ok (.putfield 39, 3) := by decide +kernel
theorem dX4_init_84 : decode cX4_init 84 = .ok (.aload_n 0, 1) := by decide +kernel
theorem dX4_init_85 : decode cX4_init 85 = .ok (.iconst 4, 1) := by decide +kernel
theorem dX4_init_86 : decode cX4_init 86 = .ok (.newarray .int, 2) := by decide +kernel
theorem dX4_init_88 : decode cX4_init 88 = .ok (.putfield 42, 3) := by decide +kernel
theorem dX4_init_91 : decode cX4_init 91 = .ok (.return_, 1) := by decide +kernel
theorem dX2_init_0 : decode cX2_init 0 = .ok (.aload_n 0, 1) := by decide +kernel
theorem dX2_init_1 : decode cX2_init 1 = .ok (.invokespecial 3, 3) := by decide +kernel
theorem dX2_init_4 : decode cX2_init 4 = .ok (.aload_n 0, 1) := by decide +kernel
theorem dX2_init_5 : decode cX2_init 5 = .ok (.sipush 1024, 3) := by decide +kernel
theorem dX2_init_8 : decode cX2_init 8 = .ok (.newarray .long, 2) := by decide +kernel
theorem dX2_init_10 : decode cX2_init 10 = .ok (.putfield 9, 3) := by decide +kernel
theorem dX2_init_13 : decode cX2_init 13 = .ok (.aload_n 0, 1) := by decide +kernel
theorem dX2_init_14 : decode cX2_init 14 = .ok (.aload_n 1, 1) := by decide +kernel
theorem dX2_init_15 : decode cX2_init 15 = .ok (.putfield 15, 3) := by decide +kernel
theorem dX2_init_18 : decode cX2_init 18 = .ok (.aload_n 0, 1) := by decide +kernel
theorem dX2_init_19 : decode cX2_init 19 = .ok (.getfield 9, 3) := by decide +kernel
theorem dX2_init_22 : decode cX2_init 22 = .ok (.iconst 0, 1) := by decide +kernel
theorem dX2_init_23 : decode cX2_init 23 = .ok (.lconst 1, 1) := by decide +kernel
theorem dX2_init_24 : decode cX2_init 24 = .ok (.lastore, 1) := by decide +kernel
theorem dX2_init_25 : decode cX2_init 25 = .ok (.return_, 1) := by decide +kernel
theorem dX0_init_0 : decode cX0_init 0 = .ok (.aload_n 0, 1) := by decide +kernel
theorem dX0_init_1 : decode cX0_init 1 = .ok (.invokespecial 3, 3) := by decide +kernel
theorem dX0_init_4 : decode cX0_init 4 = .ok (.aload_n 0, 1) := by decide +kernel
theorem dX0_init_5 : decode cX0_init 5 = .ok (.bipush 12, 2) := by decide +kernel
theorem dX0_init_7 : decode cX0_init 7 = .ok (.newarray .long, 2) := by decide +kernel
theorem dX0_init_9 : decode cX0_init 9 = .ok (.putfield 9, 3) := by decide +kernel
theorem dX0_init_12 : decode cX0_init 12 = .ok (.aload_n 0, 1) := by decide +kernel
theorem dX0_init_13 : decode cX0_init 13 = .ok (.aload_n 1, 1) := by decide +kernel
theorem dX0_init_14 : decode cX0_init 14 = .ok (.putfield 15, 3) := by decide +kernel
theorem dX0_init_17 : decode cX0_init 17 = .ok (.aload_n 0, 1) := by decide +kernel
theorem dX0_init_18 : decode cX0_init 18 = .ok (.aload_n 2, 1) := by decide +kernel
theorem dX0_init_19 : decode cX0_init 19 = .ok (.putfield 19, 3) := by decide +kernel
theorem dX0_init_22 : decode cX0_init 22 = .ok (.return_, 1) := by decide +kernel
theorem dX9_init_0 : decode cX9_init 0 = .ok (.aload_n 0, 1) := by decide +kernel
theorem dX9_init_1 : decode cX9_init 1 = .ok (.invokespecial 3, 3) := by decide +kernel
theorem dX9_init_4 : decode cX9_init 4 = .ok (.aload_n 0, 1) := by decide +kernel
theorem dX9_init_5 : decode cX9_init 5 = .ok (.sipush 1024, 3) := by decide +kernel
theorem dX9_init_8 : decode cX9_init 8 = .ok (.newarray .int, 2) := by decide +kernel
theorem dX9_init_10 : decode cX9_init 10 = .ok (.putfield 9, 3) := by decide +kernel
theorem dX9_init_13 : decode cX9_init 13 = .ok (.aload_n 0, 1) := by decide +kernel
theorem dX9_init_14 : decode cX9_init 14 = .ok (.sipush 1024, 3) := by decide +kernel
theorem dX9_init_17 : decode cX9_init 17 = .ok (.newarray .int, 2) := by decide +kernel
theorem dX9_init_19 : decode cX9_init 19 = .ok (.putfield 15, 3) := by decide +kernel
theorem dX9_init_22 : decode cX9_init 22 = .ok (.aload_n 0, 1) := by decide +kernel
theorem dX9_init_23 : decode cX9_init 23 = .ok (.sipush 1024, 3) := by decide +kernel
theorem dX9_init_26 : decode cX9_init 26 = .ok (.newarray .long, 2) := by decide +kernel
theorem dX9_init_28 : decode cX9_init 28 = .ok (.putfield 18, 3) := by decide +kernel
theorem dX9_init_31 : decode cX9_init 31 = .ok (.aload_n 0, 1) := by decide +kernel
theorem dX9_init_32 : decode cX9_init 32 = .ok (.sipush 1024, 3) := by decide +kernel
theorem dX9_init_35 : decode cX9_init 35 = .ok (.newarray .long, 2) := by decide +kernel
theorem dX9_init_37 : decode cX9_init 37 = .ok (.putfield 22, 3) := by decide +kernel
theorem dX9_init_40 : decode cX9_init 40 = .ok (.aload_n 0, 1) := by decide +kernel
theorem dX9_init_41 : decode cX9_init 41 = .ok (.aload_n 1, 1) := by decide +kernel
theorem dX9_init_42 : decode cX9_init 42 = .ok (.putfield 25, 3) := by decide +kernel
theorem dX9_init_45 : decode cX9_init 45 = .ok (.aload_n 0, 1) := by decide +kernel
theorem dX9_init_46 : decode cX9_init 46 = .ok (.aload_n 2, 1) := by decide +kernel
theorem dX9_init_47 : decode cX9_init 47 = .ok (.putfield 29, 3) := by decide +kernel
theorem dX9_init_50 : decode cX9_init 50 = .ok (.return_, 1) := by decide +kernel
theorem dX7_init_0 : decode cX7_init 0 = .ok (.aload_n 0, 1) := by decide +kernel
theorem dX7_init_1 : decode cX7_init 1 = .ok (.invokespecial 3, 3) := by decide +kernel
theorem dX7_init_4 : decode cX7_init 4 = .ok (.aload_n 0, 1) := by decide +kernel
theorem dX7_init_5 : decode cX7_init 5 = .ok (.bipush 12, 2) := by decide +kernel
theorem dX7_init_7 : decode cX7_init 7 = .ok (.newarray .int, 2) := by decide +kernel
theorem dX7_init_9 : decode cX7_init 9 = .ok (.putfield 9, 3) := by decide +kernel
theorem dX7_init_12 : decode cX7_init 12 = .ok (.aload_n 0, 1) := by decide +kernel
theorem dX7_init_13 : decode cX7_init 13 = .ok (.bipush 8, 2) := by decide +kernel
theorem dX7_init_15 : decode cX7_init 15 = .ok (.newarray .int, 2) := by decide +kernel
theorem dX7_init_17 : decode cX7_init 17 = .ok (.putfield 15, 3) := by decide +kernel
theorem dX7_init_20 : decode cX7_init 20 = .ok (.aload_n 0, 1) := by decide +kernel
theorem dX7_init_21 : decode cX7_init 21 = .ok (.bipush 8, 2) := by decide +kernel
theorem dX7_init_23 : decode cX7_init 23 = .ok (.newarray .int, 2) := by decide +kernel
theorem dX7_init_25 : decode cX7_init 25 = .ok (.putfield 18, 3) := by decide +kernel
theorem dX7_init_28 : decode cX7_init 28 = .ok (.aload_n 0, 1) := by decide +kernel
theorem dX7_init_29 : decode cX7_init 29 = .ok (.aload_n 1, 1) := by decide +kernel
theorem dX7_init_30 : decode cX7_init 30 = .ok (.putfield 21, 3) := by decide +kernel
theorem dX7_init_33 : decode cX7_init 33 = .ok (.return_, 1) := by decide +kernel
theorem dX3_init_0 : decode cX3_init 0 = .ok (.aload_n 0, 1) := by decide +kernel
theorem dX3_init_1 : decode cX3_init 1 = .ok (.invokespecial 3, 3) := by decide +kernel
theorem dX3_init_4 : decode cX3_init 4 = .ok (.aload_n 0, 1) := by decide +kernel
theorem dX3_init_5 : decode cX3_init 5 = .ok (.bipush 12, 2) := by decide +kernel
theorem dX3_init_7 : decode cX3_init 7 = .ok (.newarray .long, 2) := by decide +kernel
theorem dX3_init_9 : decode cX3_init 9 = .ok (.putfield 9, 3) := by decide +kernel
theorem dX3_init_12 : decode cX3_init 12 = .ok (.aload_n 0, 1) := by decide +kernel
theorem dX3_init_13 : decode cX3_init 13 = .ok (.aload_n 1, 1) := by decide +kernel
theorem dX3_init_14 : decode cX3_init 14 = .ok (.putfield 15, 3) := by decide +kernel
theorem dX3_init_17 : decode cX3_init 17 = .ok (.aload_n 0, 1) := by decide +kernel
theorem dX3_init_18 : decode cX3_init 18 = .ok (.aload_n 2, 1) := by decide +kernel
theorem dX3_init_19 : decode cX3_init 19 = .ok (.putfield 19, 3) := by decide +kernel
theorem dX3_init_22 : decode cX3_init 22 = .ok (.aload_n 0, 1) := by decide +kernel
theorem dX3_init_23 : decode cX3_init 23 = .ok (.aload_n 3, 1) := by decide +kernel
theorem dX3_init_24 : decode cX3_init 24 = .ok (.putfield 23, 3) := by decide +kernel
theorem dX3_init_27 : decode cX3_init 27 = .ok (.return_, 1) := by decide +kernel
theorem dX11_init_0 : decode cX11_init 0 = .ok (.aload_n 0, 1) := by decide +kernel
theorem dX11_init_1 : decode cX11_init 1 = .ok (.invokespecial 1, 3) := by decide +kernel
theorem dX11_init_4 : decode cX11_init 4 = .ok (.aload_n 0, 1) := by decide +kernel
theorem dX11_init_5 : decode cX11_init 5 = .ok (.lconst 1, 1) := by decide +kernel
theorem dX11_init_6 : decode cX11_init 6 = .ok (.putfield 7, 3) := by decide +kernel
theorem dX11_init_9 : decode cX11_init 9 = .ok (.aload_n 0, 1) := by decide +kernel
theorem dX11_init_10 : decode cX11_init 10 = .ok (.iconst 4, 1) := by decide +kernel
theorem dX11_init_11 : decode cX11_init 11 = .ok (.newarray .int, 2) := by decide +kernel
theorem dX11_init_13 : decode cX11_init 13 = .ok (.putfield 13, 3) := by decide +kernel
theorem dX11_init_16 : decode cX11_init 16 = .ok (.aload_n 0, 1) := by decide +kernel
theorem dX11_init_17 : decode cX11_init 17 = .ok (.iconst 4, 1) := by decide +kernel
theorem dX11_init_18 : decode cX11_init 18 = .ok (.newarray .int, 2) := by decide +kernel
theorem dX11_init_20 : decode cX11_init 20 = .ok (.putfield 17, 3) := by decide +kernel
theorem dX11_init_23 : decode cX11_init 23 = .ok (.aload_n 0, 1) := by decide +kernel
theorem dX11_init_24 : decode cX11_init 24 = .ok (.sipush 160, 3) := by decide +kernel
theorem dX11_init_27 : decode cX11_init 27 = .ok (.newarray .long, 2) := by decide +kernel
theorem dX11_init_29 : decode cX11_init 29 = .ok (.putfield 20, 3) := by decide +kernel
theorem dX11_init_32 : decode cX11_init 32 = .ok (.aload_n 0, 1) := by decide +kernel
theorem dX11_init_33 : decode cX11_init 33 = .ok (.sipush 600, 3) := by decide +kernel
theorem dX11_init_36 : decode cX11_init 36 = .ok (.newarray .byte, 2) := by decide +kernel
theorem dX11_init_38 : decode cX11_init 38 = .ok (.putfield 24, 3) := by decide +kernel
theorem dX11_init_41 : decode cX11_init 41 = .ok (.aload_n 0, 1) := by decide +kernel
theorem dX11_init_42 : decode cX11_init 42 = .ok (.iconst (-1), 1) := by decide +kernel
theorem dX11_init_43 : decode cX11_init 43 = .ok (.putfield 28, 3) := by decide +kernel
theorem dX11_init_46 : decode cX11_init 46 = .ok (.aload_n 0, 1) := by decide +kernel
theorem dX11_init_47 : decode cX11_init 47 = .ok (.iconst (-1), 1) := by decide +kernel
theorem dX11_init_48 : decode cX11_init 48 = .ok (.putfield 32, 3) := by decide +kernel
theorem dX11_init_51 : decode cX11_init 51 = .ok (.aload_n 0, 1) := by decide +kernel
theorem dX11_init_52 : decode cX11_init 52 = .ok (.bipush 60, 2) := by decide +kernel
theorem dX11_init_54 : decode cX11_init 54 = .ok (.newarray .int, 2) := by decide +kernel
theorem dX11_init_56 : decode cX11_init 56 = .ok (.putfield 35, 3) := by decide +kernel
theorem dX11_init_59 : decode cX11_init 59 = .ok (.aload_n 0, 1) := by decide +kernel
theorem dX11_init_60 : decode cX11_init 60 = .ok (.bipush 60, 2) := by decide +kernel
theorem dX11_init_62 : decode cX11_init 62 = .ok (.newarray .int, 2) := by decide +kernel
theorem dX11_init_64 : decode cX11_init 64 = .ok (.putfield 38, 3) := by decide +kernel
theorem dX11_init_67 : decode cX11_init 67 = .ok (.aload_n 0, 1) := by decide +kernel
theorem dX11_init_68 : decode cX11_init 68 = .ok (.bipush 10, 2) := by decide +kernel
theorem dX11_init_70 : decode cX11_init 70 = .ok (.newarray .int, 2) := by decide +kernel
theorem dX11_init_72 : decode cX11_init 72 = .ok (.putfield 41, 3) := by decide +kernel
theorem dX11_init_75 : decode cX11_init 75 = .ok (.aload_n 0, 1) := by decide +kernel
theorem dX11_init_76 : decode cX11_init 76 = .ok (.bipush 10, 2) := by decide +kernel
theorem dX11_init_78 : decode cX11_init 78 = .ok (.newarray .int, 2) := by decide +kernel
theorem dX11_init_80 : decode cX11_init 80 = .ok (.putfield 44, 3) := by decide +kernel
theorem dX11_init_83 : decode cX11_init 83 = .ok (.aload_n 0, 1) := by decide +kernel
theorem dX11_init_84 : decode cX11_init 84 = .ok (.bipush 10, 2) := by decide +kernel
theorem dX11_init_86 : decode cX11_init 86 = .ok (.newarray .int, 2) := by decide +kernel
theorem dX11_init_88 : decode cX11_init 88 = .ok (.putfield 47, 3) := by decide +kernel
theorem dX11_init_91 : decode cX11_init 91 = .ok (.aload_n 0, 1) := by decide +kernel
theorem dX11_init_92 : decode cX11_init 92 = .ok (.bipush 10, 2) := by decide +kernel
theorem dX11_init_94 : decode cX11_init 94 = .ok (.newarray .int, 2) := by decide +kernel
theorem dX11_init_96 : decode cX11_init 96 = .ok (.putfield 50, 3) := by decide +kernel
theorem dX11_init_99 : decode cX11_init 99 = .ok (.aload_n 0, 1) := by decide +kernel
theorem dX11_init_100 : decode cX11_init 100 = .ok (.bipush 10, 2) := by decide +kernel
theorem dX11_init_102 : decode cX11_init 102 = .ok (.newarray .int, 2) := by decide +kernel
theorem dX11_init_104 : decode cX11_init 104 = .ok (.putfield 53, 3) := by decide +kernel
theorem dX11_init_107 : decode cX11_init 107 = .ok (.aload_n 0, 1) := by decide +kernel
theorem dX11_init_108 : decode cX11_init 108 = .ok (.bipush 10, 2) := by decide +kernel
theorem dX11_init_110 : decode cX11_init 110 = .ok (.newarray .int, 2) := by decide +kernel
theorem dX11_init_112 : decode cX11_init 112 = .ok (.putfield 56, 3) := by decide +kernel
theorem dX11_init_115 : decode cX11_init 115 = .ok (.aload_n 0, 1) := by decide +kernel
theorem dX11_init_116 : decode cX11_init 116 = .ok (.bipush 10, 2) := by decide +kernel
theorem dX11_init_118 : decode cX11_init 118 = .ok (.newarray .int, 2) := by decide +kernel
theorem dX11_init_120 : decode cX11_init 120 = .ok (.putfield 59, 3) := by decide +kernel
theorem dX11_init_123 : decode cX11_init 123 = .ok (.aload_n 0, 1) := by decide +kernel
theorem dX11_init_124 : decode cX11_init 124 = .ok (.bipush 10, 2) := by decide +kernel
theorem dX11_init_126 : decode cX11_init 126 = .ok (.newarray .int, 2) := by decide +kernel
theorem dX11_init_128 : decode cX11_init 128 = .ok (.putfield 62, 3) := by decide +kernel
theorem dX11_init_131 : decode cX11_init 131 = .ok (.aload_n 0, 1) := by decide +kernel
theorem dX11_init_132 : decode cX11_init 132 = .ok (.iconst 4, 1) := by decide +kernel
theorem dX11_init_133 : decode cX11_init 133 = .ok (.newarray .int, 2) := by decide +kernel
theorem dX11_init_135 : decode cX11_init 135 = .ok (.putfield 65, 3) := by decide +kernel
theorem dX11_init_138 : decode cX11_init 138 = .ok (.aload_n 0, 1) := by decide +kernel
theorem dX11_init_139 : decode cX11_init 139 = .ok (.iconst 4, 1) := by decide +kernel
theorem dX11_init_140 : decode cX11_init 140 = .ok (.newarray .int, 2) := by decide +kernel
theorem dX11_init_142 : decode cX11_init 142 = .ok (.putfield 68, 3) := by decide +kernel
theorem dX11_init_145 : decode cX11_init 145 = .ok (.aload_n 0, 1) := by decide +kernel
theorem dX11_init_146 : decode cX11_init 146 = .ok (.bipush 12, 2) := by decide +kernel
theorem dX11_init_148 : decode cX11_init 148 = .ok (.newarray .long, 2) := by decide +kernel
theorem dX11_init_150 : decode cX11_init 150 = .ok (.putfield 71, 3) := by decide +kernel
theorem dX11_init_153 : decode cX11_init 153 = .ok (.aload_n 0, 1) := by decide +kernel
theorem dX11_init_154 : decode cX11_init 154 = .ok (.iconst 4, 1) := by decide +kernel
theorem dX11_init_155 : decode cX11_init 155 = .ok (.newarray .boolean, 2) := by decide +kernel
theorem dX11_init_157 : decode cX11_init 157 = .ok (.putfield 74, 3) := by decide +kernel
theorem dX11_init_160 : decode cX11_init 160 = .ok (.aload_n 0, 1) := by decide +kernel
theorem dX11_init_161 : decode cX11_init 161 = .ok (.sipush 180, 3) := by decide +kernel
theorem dX11_init_164 : decode cX11_init 164 = .ok (.newarray .int, 2) := by decide +kernel
theorem dX11_init_166 : decode cX11_init 166 = .ok (.putfield 78, 3) := by decide +kernel
theorem dX11_init_169 : decode cX11_init 169 = .ok (.aload_n 0, 1) := by decide +kernel
theorem dX11_init_170 : decode cX11_init 170 = .ok (.bipush 12, 2) := by decide +kernel
theorem dX11_init_172 : decode cX11_init 172 = .ok (.newarray .int, 2) := by decide +kernel
theorem dX11_init_174 : decode cX11_init 174 = .ok (.putfield 81, 3) := by decide +kernel
theorem dX11_init_177 : decode cX11_init 177 = .ok (.aload_n 0, 1) := by decide +kernel
theorem dX11_init_178 : decode cX11_init 178 = .ok (.bipush 12, 2) := by decide +kernel
theorem dX11_init_180 : decode cX11_init 180 = .ok (.newarray .int, 2) := by decide +kernel
theorem dX11_init_182 : decode cX11_init 182 = .ok (.putfield 84, 3) := by decide +kernel
theorem dX11_init_185 : decode cX11_init 185 = .ok (.aload_n 0, 1) := by decide +kernel
theorem dX11_init_186 : decode cX11_init 186 = .ok (.bipush 12, 2) := by decide +kernel
theorem dX11_init_188 : decode cX11_init 188 = .ok (.newarray .int, 2) := by decide +kernel
theorem dX11_init_190 : decode cX11_init 190 = .ok (.putfield 87, 3) := by decide +kernel
theorem dX11_init_193 : decode cX11_init 193 = .ok (.aload_n 0, 1) := by decide +kernel
theorem dX11_init_194 : decode cX11_init 194 = .ok (.bipush 10, 2) := by decide +kernel
theorem dX11_init_196 : decode cX11_init 196 = .ok (.newarray .int, 2) := by decide +kernel
theorem dX11_init_198 : decode cX11_init 198 = .ok (.putfield 90, 3) := by decide +kernel
theorem dX11_init_201 : decode cX11_init 201 = .ok (.aload_n 0, 1) := by decide +kernel
theorem dX11_init_202 : decode cX11_init 202 = .ok (.bipush 12, 2) := by decide +kernel
theorem dX11_init_204 : decode cX11_init 204 = .ok (.newarray .long, 2) := by decide +kernel
theorem dX11_init_206 : decode cX11_init 206 = .ok (.putfield 93, 3) := by decide +kernel
theorem dX11_init_209 : decode cX11_init 209 = .ok (.aload_n 0, 1) := by decide +kernel
theorem dX11_init_210 : decode cX11_init 210 = .ok (.ldc 96, 2) := by decide +kernel
theorem dX11_init_212 : decode cX11_init 212 = .ok (.newarray .long, 2) := by decide +kernel
theorem dX11_init_214 : decode cX11_init 214 = .ok (.putfield 97, 3) := by decide +kernel
theorem dX11_init_217 : decode cX11_init 217 = .ok (.aload_n 0, 1) := by decide +kernel
theorem dX11_init_218 : decode cX11_init 218 = .ok (.bipush 12, 2) := by decide +kernel
theorem dX11_init_220 : decode cX11_init 220 = .ok (.newarray .int, 2) := by decide +kernel
theorem dX11_init_222 : decode cX11_init 222 = .ok (.putfield 100, 3) := by decide +kernel
theorem dX11_init_225 : decode cX11_init 225 = .ok (.aload_n 0, 1) := by decide +kernel
theorem dX11_init_226 : decode cX11_init 226 = .ok (.bipush 12, 2) := by decide +kernel
theorem dX11_init_228 : decode cX11_init 228 = .ok (.newarray .int, 2) := by decide +kernel
theorem dX11_init_230 : decode cX11_init 230 = .ok (.putfield 103, 3) := by decide +kernel
theorem dX11_init_233 : decode cX11_init 233 = .ok (.iconst 0, 1) := by decide +kernel
theorem dX11_init_234 : decode cX11_init 234 = .ok (.istore_n 1, 1) := by decide +kernel
theorem dX11_init_235 : decode cX11_init 235 = .ok (.iload_n 1, 1) := by decide +kernel
theorem dX11_init_236 : decode cX11_init 236 = .ok (.iconst 4, 1) := by decide +kernel
theorem dX11_init_237 : decode cX11_init 237 = .ok (.if_icmp .ge 16, 3) := by decide +kernel
theorem dX11_init_240 : decode cX11_init 240 = .ok (.aload_n 0, 1) := by decide +kernel
theorem dX11_init_241 : decode cX11_init 241 = .ok (.getfield 17, 3) := by decide +kernel
theorem dX11_init_244 : decode cX11_init 244 = .ok (.iload_n 1, 1) := by decide +kernel
theorem dX11_init_245 : decode cX11_init 245 = .ok (.iconst (-1), 1) := by decide +kernel
theorem dX11_init_246 : decode cX11_init 246 = .ok (.iastore, 1) := by decide +kernel
theorem dX11_init_247 : decode cX11_init 247 = .ok (.iinc 1 1, 3) := by decide +kernel
theorem dX11_init_250 : decode cX11_init 250 = .ok (.goto (-15), 3) := by decide +kernel
theorem dX11_init_253 : decode cX11_init 253 = .ok (.return_, 1) := by decide +kernel
