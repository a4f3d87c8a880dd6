theorem dX10_init_0 : decode cX10_init 0 = .ok (.aload_n 0, 1) := by decide +kernel
theorem dX10_init_1 : decode cX10_init 1 = .ok (.invokespecial 3, 3) := by decide +kernel
theorem dX10_init_4 : decode cX10_init 4 = .ok (.aload_n 0, 1) := by decide +kernel
theorem dX10_init_5 : decode cX10_init 5 = .ok (.iconst 4, 1) := by decide +kernel
theorem dX10_init_6 : decode cX10_init 6 = .ok (.anewarray 9, 3) := by decide +kernel
theorem dX10_init_9 : decode cX10_init 9 = .ok (.putfield 11, 3) := by decide +kernel
theorem dX10_init_12 : decode cX10_init 12 = .ok (.aload_n 0, 1) := by decide +kernel
theorem dX10_init_13 : decode cX10_init 13 = .ok (.sipush 600, 3) := by decide +kernel
theorem dX10_init_16 : decode cX10_init 16 = .ok (.newarray .byte, 2) := by decide +kernel
theorem dX10_init_18 : decode cX10_init 18 = .ok (.putfield 15, 3) := by decide +kernel
theorem dX10_init_21 : decode cX10_init 21 = .ok (.aload_n 0, 1) := by decide +kernel
theorem dX10_init_22 : decode cX10_init 22 = .ok (.new 19, 3) := by decide +kernel
theorem dX10_init_25 : decode cX10_init 25 = .ok (.dup, 1) := by decide +kernel
theorem dX10_init_26 : decode cX10_init 26 = .ok (.invokespecial 21, 3) := by decide +kernel
theorem dX10_init_29 : decode cX10_init 29 = .ok (.putfield 22, 3) := by decide +kernel
theorem dX10_init_32 : decode cX10_init 32 = .ok (.aload_n 0, 1) := by decide +kernel
theorem dX10_init_33 : decode cX10_init 33 = .ok (.new 26, 3) := by decide +kernel
theorem dX10_init_36 : decode cX10_init 36 = .ok (.dup, 1) := by decide +kernel
theorem dX10_init_37 : decode cX10_init 37 = .ok (.invokespecial 28, 3) := by decide +kernel
theorem dX10_init_40 : decode cX10_init 40 = .ok (.putfield 29, 3) := by decide +kernel
theorem dX10_init_43 : decode cX10_init 43 = .ok (.aload_n 0, 1) := by decide +kernel
theorem dX10_init_44 : decode cX10_init 44 = .ok (.new 26, 3) := by decide +kernel
theorem dX10_init_47 : decode cX10_init 47 = .ok (.dup, 1) := by decide +kernel
theorem dX10_init_48 : decode cX10_init 48 = .ok (.invokespecial 28, 3) := by decide +kernel
theorem dX10_init_51 : decode cX10_init 51 = .ok (.putfield 33, 3) := by decide +kernel
theorem dX10_init_54 : decode cX10_init 54 = .ok (.aload_n 0, 1) := by decide +kernel
theorem dX10_init_55 : decode cX10_init 55 = .ok (.new 36, 3) := by decide +kernel
theorem dX10_init_58 : decode cX10_init 58 = .ok (.dup, 1) := by decide +kernel
theorem dX10_init_59 : decode cX10_init 59 = .ok (.aload_n 0, 1) := by decide +kernel
theorem dX10_init_60 : decode cX10_init 60 = .ok (.getfield 15, 3) := by decide +kernel
theorem dX10_init_63 : decode cX10_init 63 = .ok (.aload_n 0, 1) := by decide +kernel
theorem dX10_init_64 : decode cX10_init 64 = .ok (.getfield 33, 3) := by decide +kernel
theorem dX10_init_67 : decode cX10_init 67 = .ok (.invokespecial 38, 3) := by decide +kernel
theorem dX10_init_70 : decode cX10_init 70 = .ok (.putfield 41, 3) := by decide +kernel
theorem dX10_init_73 : decode cX10_init 73 = .ok (.aload_n 0, 1) := by decide +kernel
theorem dX10_init_74 : decode cX10_init 74 = .ok (.new 45, 3) := by decide +kernel
theorem dX10_init_77 : decode cX10_init 77 = .ok (.dup, 1) := by decide +kernel
theorem dX10_init_78 : decode cX10_init 78 = .ok (.aload_n 0, 1) := by decide +kernel
theorem dX10_init_79 : decode cX10_init 79 = .ok (.getfield 29, 3) := by decide +kernel
theorem dX10_init_82 : decode cX10_init 82 = .ok (.invokespecial 47, 3) := by decide +kernel
theorem dX10_init_85 : decode cX10_init 85 = .ok (.putfield 50, 3) := by decide +kernel
theorem dX10_init_88 : decode cX10_init 88 = .ok (.aload_n 0, 1) := by decide +kernel
theorem dX10_init_89 : decode cX10_init 89 = .ok (.new 54, 3) := by decide +kernel
theorem dX10_init_92 : decode cX10_init 92 = .ok (.dup, 1) := by decide +kernel
theorem dX10_init_93 : decode cX10_init 93 = .ok (.aload_n 0, 1) := by decide +kernel
theorem dX10_init_94 : decode cX10_init 94 = .ok (.getfield 29, 3) := by decide +kernel
theorem dX10_init_97 : decode cX10_init 97 = .ok (.aload_n 0, 1) := by decide +kernel
theorem dX10_init_98 : decode cX10_init 98 = .ok (.getfield 50, 3) := by decide +kernel
theorem dX10_init_101 : decode cX10_init 101 = .ok (.invokespecial 56, 3) := by decide +kernel
theorem dX10_init_104 : decode cX10_init 104 = .ok (.putfield 59, 3) := by decide +kernel
theorem dX10_init_107 : decode cX10_init 107 = .ok (.aload_n 0, 1) := by decide +kernel
theorem dX10_init_108 : decode cX10_init 108 = .ok (.new 63, 3) := by decide +kernel
theorem dX10_init_111 : decode cX10_init 111 = .ok (.dup, 1) := by decide +kernel
theorem dX10_init_112 : decode cX10_init 112 = .ok (.aload_n 0, 1) := by decide +kernel
theorem dX10_init_113 : decode cX10_init 113 = .ok (.getfield 29, 3) := by decide +kernel
theorem dX10_init_116 : decode cX10_init 116 = .ok (.aload_n 0, 1) := by decide +kernel
theorem dX10_init_117 : decode cX10_init 117 = .ok (.getfield 50, 3) := by decide +kernel
theorem dX10_init_120 : decode cX10_init 120 = .ok (.invokespecial 65, 3) := by decide +kernel
theorem dX10_init_123 : decode cX10_init 123 = .ok (.putfield 66, 3) := by decide +kernel
theorem dX10_init_126 : decode cX10_init 126 = .ok (.aload_n 0, 1) := by decide +kernel
theorem dX10_init_127 : decode cX10_init 127 = .ok (.new 70, 3) := by decide +kernel
theorem dX10_init_130 : decode cX10_init 130 = .ok (.dup, 1) := by decide +kernel
theorem dX10_init_131 : decode cX10_init 131 = .ok (.aload_n 0, 1) := by decide +kernel
theorem dX10_init_132 : decode cX10_init 132 = .ok (.getfield 29, 3) := by decide +kernel
theorem dX10_init_135 : decode cX10_init 135 = .ok (.invokespecial 72, 3) := by decide +kernel
theorem dX10_init_138 : decode cX10_init 138 = .ok (.putfield 73, 3) := by decide +kernel
theorem dX10_init_141 : decode cX10_init 141 = .ok (.aload_n 0, 1) := by decide +kernel
theorem dX10_init_142 : decode cX10_init 142 = .ok (.new 77, 3) := by decide +kernel
theorem dX10_init_145 : decode cX10_init 145 = .ok (.dup, 1) := by decide +kernel
theorem dX10_init_146 : decode cX10_init 146 = .ok (.aload_n 0, 1) := by decide +kernel
theorem dX10_init_147 : decode cX10_init 147 = .ok (.getfield 29, 3) := by decide +kernel
theorem dX10_init_150 : decode cX10_init 150 = .ok (.aload_n 0, 1) := by decide +kernel
theorem dX10_init_151 : decode cX10_init 151 = .ok (.getfield 50, 3) := by decide +kernel
theorem dX10_init_154 : decode cX10_init 154 = .ok (.aload_n 0, 1) := by decide +kernel
theorem dX10_init_155 : decode cX10_init 155 = .ok (.getfield 73, 3) := by decide +kernel
theorem dX10_init_158 : decode cX10_init 158 = .ok (.invokespecial 79, 3) := by decide +kernel
theorem dX10_init_161 : decode cX10_init 161 = .ok (.putfield 82, 3) := by decide +kernel
theorem dX10_init_164 : decode cX10_init 164 = .ok (.aload_n 0, 1) := by decide +kernel
theorem dX10_init_165 : decode cX10_init 165 = .ok (.new 86, 3) := by decide +kernel
theorem dX10_init_168 : decode cX10_init 168 = .ok (.dup, 1) := by decide +kernel
theorem dX10_init_169 : decode cX10_init 169 = .ok (.aload_n 0, 1) := by decide +kernel
theorem dX10_init_170 : decode cX10_init 170 = .ok (.getfield 29, 3) := by decide +kernel
theorem dX10_init_173 : decode cX10_init 173 = .ok (.invokespecial 88, 3) := by decide +kernel
theorem dX10_init_176 : decode cX10_init 176 = .ok (.putfield 89, 3) := by decide +kernel
theorem dX10_init_179 : decode cX10_init 179 = .ok (.aload_n 0, 1) := by decide +kernel
theorem dX10_init_180 : decode cX10_init 180 = .ok (.iconst (-1), 1) := by decide +kernel
theorem dX10_init_181 : decode cX10_init 181 = .ok (.putfield 93, 3) := by decide +kernel
theorem dX10_init_184 : decode cX10_init 184 = .ok (.aload_n 0, 1) := by decide +kernel
theorem dX10_init_185 : decode cX10_init 185 = .ok (.iconst (-1), 1) := by decide +kernel
theorem dX10_init_186 : decode cX10_init 186 = .ok (.putfield 97, 3) := by decide +kernel
theorem dX10_init_189 : decode cX10_init 189 = .ok (.iconst 0, 1) := by decide +kernel
theorem dX10_init_190 : decode cX10_init 190 = .ok (.istore_n 1, 1) := by decide +kernel
theorem dX10_init_191 : decode cX10_init 191 = .ok (.iload_n 1, 1) := by decide +kernel
theorem dX10_init_192 : decode cX10_init 192 = .ok (.iconst 4, 1) := by decide +kernel
theorem dX10_init_193 : decode cX10_init 193 = .ok (.if_icmp .ge 22, 3) := by decide +kernel
theorem dX10_init_196 : decode cX10_init 196 = .ok (.aload_n 0, 1) := by decide +kernel
theorem dX10_init_197 : decode cX10_init 197 = .ok (.getfield 11, 3) := by decide +kernel
theorem dX10_init_200 : decode cX10_init 200 = .ok (.iload_n 1, 1) := by decide +kernel
theorem dX10_init_201 : decode cX10_init 201 = .ok (.new 9, 3) := by decide +kernel
theorem dX10_init_204 : decode cX10_init 204 = .ok (.dup, 1) := by decide +kernel
theorem dX10_init_205 : decode cX10_init 205 = .ok (.invokespecial 100, 3) := by decide +kernel
theorem dX10_init_208 : decode cX10_init 208 = .ok (.aastore, 1) := by decide +kernel
theorem dX10_init_209 : decode cX10_init 209 = .ok (.iinc 1 1, 3) := by decide +kernel
theorem dX10_init_212 : decode cX10_init 212 = .ok (.goto (-21), 3) := by decide +kernel
theorem dX10_init_215 : decode cX10_init 215 = .ok (.return_, 1) := by decide +kernel
section KR
variable {g : kf_G} {x : kj_X} {own : String} {cc : ByteArray} {nL fr lc mc ms pc k n : Nat} {lv lv' : List (Nat × Value)} {st : List Value} {ws ws' : va_W}
theorem kj_astq (hx : kj_ok g x own cc nL fr lc mc ms) (q0 qk : Nat) {a N v : Nat} {vs : List Value} {f : Nat → Option Nat} (hq : ws[q0]? = some (a, .inl (kf_cA g 4, N, .inr (.inr (.inr (.inr f)))))) (hv : ws[qk]? = some (v, .inr (8, vs))) {i : Int32} (hin : vp_in i N) (hd : decode cc pc = .ok (.aastore, 1)) (he : ws.set q0 (a, .inl (kf_cA g 4, N, .inr (.inr (.inr (.inr (va_up f i.toNatClampNeg (some v))))))) = ws') (kk : kj_M g x nL (pc + 1) lv st k n ws') : kj_M g x nL pc lv (.ref v :: .int i :: .ref a :: st) k n ws := by
  obtain ⟨p, e, R, s, m, args, below, meth, c, A, Q⟩ := x
  obtain ⟨h1, h2, h3, h4, h5, h6, h7, h8, h9, h10, h11, h12⟩ := hx
  subst he
  intro H locs ls hlv hz hP hD hS
  exact va_astq (r := (RX8, TX8, 3)) h1 h2 h6 hP hD (kj_self hS) q0 4 qk 8 hq (kj_ty h7 (t := 4) rfl) hv rfl hin hd (fun H1 locs1 hP1 hD1 hS1 => kk H1 locs1 ls hlv (Nat.le_trans hz hS1.1) hP1 hD1 (kj_comp hS hS1))
theorem kj_newq (hx : kj_ok g x own cc nL fr lc mc ms) {idx : Nat} (hover : va_AO "TellFirst$Tray" (kj_st x)) (hcl : Cond.classLink own idx "TellFirst$Tray" ∈ kw_T) (hk : k + 1 ≤ mc) (hn : n + 4 ≤ ms) (hd : decode cc pc = .ok (.anewarray idx, 3)) (he : ws ++ [(kj_sz x + k, .inl (kf_cA g 4, 4, .inr (.inr (.inr (.inr (fun _ => none))))))] = ws') (kk : kj_M g x nL (pc + 3) lv (.ref (kj_sz x + k) :: st) (k + 1) (n + 4) ws') : kj_M g x nL pc lv (.int 4 :: st) k n ws := by
  obtain ⟨p, e, R, s, m, args, below, meth, c, A, Q⟩ := x
  obtain ⟨h1, h2, h3, h4, h5, h6, h7, h8, h9, h10, h11, h12⟩ := hx
  subst he
  intro H locs ls hlv hz0 hP hD hS
  refine kj_exact hz0 fun hz => ?_
  have hsz : kj_sz (p, e, R, s, m, args, below, meth, c, A, Q) + k = H.size := hz.symm
  rw [hsz] at kk
  refine W.anew h1 h2 h4 (h5 _ hcl) (va_AO.use hover) rfl hd rfl (by decide) (by decide) (Nat.le_trans hk h11) (Nat.le_trans (show n + (4 : Int32).toNatClampNeg ≤ ms from hn) h12) fun cA kA comp f1 f2 f3 f4 => ?_
  have hcA : kf_cA g 4 = cA := by
    obtain ⟨kA', comp', -, -, -, r4⟩ := (h6.2 4 _ (kj_ty h7 (t := 4) rfl)).2
    exact Option.some.inj (r4.symm.trans f1)
  generalize hH1 : H.push ({ cls := cA, slots := Array.replicate (4 : Int32).toNatClampNeg .null, vm := .none } : Cell) = H1
  have z1 : H1.size = H.size + 1 := by rw [← hH1, Array.size_push]
  have e1 : H1[H.size]? = some (arrV cA 4 (fun _ => .null)) := by rw [← hH1, Array.getElem?_push_size, ← arrV_new]; rfl
  have o1 : ∀ q : Nat, q < H.size → H1[q]? = H[q]? := fun q hq => by rw [← hH1, Array.getElem?_push, if_neg (Nat.ne_of_lt hq)]
  refine kk H1 locs ls hlv (by omega) ((hP.kept (fun k x hx => o1 x.1 ((hP k x hx).lt))).app (fun j q hq => ?_)) (hD.push hP rfl (h8 _ hS.1)) ⟨by have := hS.1; omega, fun q q1 q2 => (o1 q (Nat.lt_of_lt_of_le q1 hS.1)).trans (hS.2.1 q q1 q2), hS.2.2⟩
  have hj : j < 1 := (List.getElem?_eq_some_iff.mp hq).1
  have : j = 0 := by omega
  subst this
  cases hq
  show H1[H.size]? = some (vp_cell _ _)
  rw [vp_cell_q, hcA]
  exact e1
end KR
theorem kl_10_11 : kj_L RX10 11 10 0 := ⟨_, _, _, rfl, by decide, ku_10, (kw_in 522 (by decide +kernel) rfl)⟩
theorem kl_10_15 : kj_L RX10 15 10 1 := ⟨_, _, _, rfl, by decide, ku_10, (kw_in 523 (by decide +kernel) rfl)⟩
theorem kl_10_22 : kj_L RX10 22 10 2 := ⟨_, _, _, rfl, by decide, ku_10, (kw_in 524 (by decide +kernel) rfl)⟩
theorem kl_10_29 : kj_L RX10 29 10 3 := ⟨_, _, _, rfl, by decide, ku_10, (kw_in 525 (by decide +kernel) rfl)⟩
theorem kl_10_33 : kj_L RX10 33 10 4 := ⟨_, _, _, rfl, by decide, ku_10, (kw_in 526 (by decide +kernel) rfl)⟩
theorem kl_10_41 : kj_L RX10 41 10 5 := ⟨_, _, _, rfl, by decide, ku_10, (kw_in 527 (by decide +kernel) rfl)⟩
theorem kl_10_50 : kj_L RX10 50 10 6 := ⟨_, _, _, rfl, by decide, ku_10, (kw_in 528 (by decide +kernel) rfl)⟩
theorem kl_10_59 : kj_L RX10 59 10 7 := ⟨_, _, _, rfl, by decide, ku_10, (kw_in 529 (by decide +kernel) rfl)⟩
theorem kl_10_66 : kj_L RX10 66 10 8 := ⟨_, _, _, rfl, by decide, ku_10, (kw_in 530 (by decide +kernel) rfl)⟩
theorem kl_10_73 : kj_L RX10 73 10 9 := ⟨_, _, _, rfl, by decide, ku_10, (kw_in 531 (by decide +kernel) rfl)⟩
theorem kl_10_82 : kj_L RX10 82 10 10 := ⟨_, _, _, rfl, by decide, ku_10, (kw_in 532 (by decide +kernel) rfl)⟩
theorem kl_10_89 : kj_L RX10 89 10 11 := ⟨_, _, _, rfl, by decide, ku_10, (kw_in 533 (by decide +kernel) rfl)⟩
theorem kl_10_93 : kj_L RX10 93 10 14 := ⟨_, _, _, rfl, by decide, ku_10, (kw_in 536 (by decide +kernel) rfl)⟩
theorem kl_10_97 : kj_L RX10 97 10 15 := ⟨_, _, _, rfl, by decide, ku_10, (kw_in 537 (by decide +kernel) rfl)⟩
theorem kn_10_0 : kj_F RX10 10 0 := ⟨_, _, _, rfl, tyX10_ok, nmX10, rfl, rfl⟩
theorem kn_10_1 : kj_F RX10 10 1 := ⟨_, _, _, rfl, tyX10_ok, nmX10, rfl, rfl⟩
theorem kn_10_2 : kj_F RX10 10 2 := ⟨_, _, _, rfl, tyX10_ok, nmX10, rfl, rfl⟩
theorem kn_10_3 : kj_F RX10 10 3 := ⟨_, _, _, rfl, tyX10_ok, nmX10, rfl, rfl⟩
theorem kn_10_4 : kj_F RX10 10 4 := ⟨_, _, _, rfl, tyX10_ok, nmX10, rfl, rfl⟩
theorem kn_10_5 : kj_F RX10 10 5 := ⟨_, _, _, rfl, tyX10_ok, nmX10, rfl, rfl⟩
theorem kn_10_6 : kj_F RX10 10 6 := ⟨_, _, _, rfl, tyX10_ok, nmX10, rfl, rfl⟩
theorem kn_10_7 : kj_F RX10 10 7 := ⟨_, _, _, rfl, tyX10_ok, nmX10, rfl, rfl⟩
theorem kn_10_8 : kj_F RX10 10 8 := ⟨_, _, _, rfl, tyX10_ok, nmX10, rfl, rfl⟩
theorem kn_10_9 : kj_F RX10 10 9 := ⟨_, _, _, rfl, tyX10_ok, nmX10, rfl, rfl⟩
theorem kn_10_10 : kj_F RX10 10 10 := ⟨_, _, _, rfl, tyX10_ok, nmX10, rfl, rfl⟩
theorem kn_10_11 : kj_F RX10 10 11 := ⟨_, _, _, rfl, tyX10_ok, nmX10, rfl, rfl⟩
theorem kc_t : Cond.classLink RX10 9 "TellFirst$Tray" ∈ kw_T := (kw_in 130 (by decide +kernel) rfl)
theorem ko_n9 : kj_N 8 [.null, .int 0, .int 0] RX10 9 3 := ⟨_, _, rfl, ku_8, tyX8_ok, (kw_in 130 (by decide +kernel) rfl), (kw_in 504 (by decide +kernel) rfl), (kw_in 116 (by decide +kernel) rfl), by decide +kernel⟩
theorem ko_n19 : kj_N 1 [.long 0, .long 0] RX10 19 2 := ⟨_, _, rfl, ku_1, tyX1_ok, (kw_in 132 (by decide +kernel) rfl), (kw_in 133 (by decide +kernel) rfl), (kw_in 103 (by decide +kernel) rfl), by decide +kernel⟩
theorem ko_n26 : kj_N 4 [.null, .null, .null, .null, .null, .null, .null, .null, .null, .null, .null, .int 0, .int 0, .int 0] RX10 26 14 := ⟨_, _, rfl, ku_4, tyX4_ok, (kw_in 148 (by decide +kernel) rfl), (kw_in 149 (by decide +kernel) rfl), (kw_in 104 (by decide +kernel) rfl), by decide +kernel⟩
theorem ko_n36 : kj_N 5 [.null, .null, .null, .null, .int 0, .int 0, .int 0, .int 0, .int 0, .long 0, .int 0, .int 0, .int 0] RX10 36 13 := ⟨_, _, rfl, ku_5, tyX5_ok, (kw_in 247 (by decide +kernel) rfl), (kw_in 248 (by decide +kernel) rfl), (kw_in 105 (by decide +kernel) rfl), by decide +kernel⟩
theorem ko_n45 : kj_N 2 [.null, .null] RX10 45 2 := ⟨_, _, rfl, ku_2, tyX2_ok, (kw_in 345 (by decide +kernel) rfl), (kw_in 346 (by decide +kernel) rfl), (kw_in 110 (by decide +kernel) rfl), by decide +kernel⟩
theorem ko_n54 : kj_N 0 [.null, .null, .null, .long 0] RX10 54 4 := ⟨_, _, rfl, ku_0, tyX0_ok, (kw_in 361 (by decide +kernel) rfl), (kw_in 362 (by decide +kernel) rfl), (kw_in 111 (by decide +kernel) rfl), by decide +kernel⟩
theorem ko_n63 : kj_N 9 [.null, .null, .null, .null, .null, .null, .long 0, .long 0] RX10 63 8 := ⟨_, _, rfl, ku_9, tyX9_ok, (kw_in 381 (by decide +kernel) rfl), (kw_in 382 (by decide +kernel) rfl), (kw_in 112 (by decide +kernel) rfl), by decide +kernel⟩
theorem ko_n70 : kj_N 7 [.null, .null, .null, .null, .int 0, .int 0, .int 0, .int 0, .int 0, .int 0, .int 0] RX10 70 11 := ⟨_, _, rfl, ku_7, tyX7_ok, (kw_in 414 (by decide +kernel) rfl), (kw_in 415 (by decide +kernel) rfl), (kw_in 113 (by decide +kernel) rfl), by decide +kernel⟩
theorem ko_n77 : kj_N 3 [.null, .null, .null, .null, .long 0] RX10 77 5 := ⟨_, _, rfl, ku_3, tyX3_ok, (kw_in 458 (by decide +kernel) rfl), (kw_in 459 (by decide +kernel) rfl), (kw_in 114 (by decide +kernel) rfl), by decide +kernel⟩
theorem ko_n86 : kj_N 6 [.null, .null, .null, .int 0] RX10 86 4 := ⟨_, _, rfl, ku_6, tyX6_ok, (kw_in 482 (by decide +kernel) rfl), (kw_in 483 (by decide +kernel) rfl), (kw_in 115 (by decide +kernel) rfl), by decide +kernel⟩
theorem ko_l21 : kf_lk RX10 21 yX1_init := Or.inr ⟨"TellFirst", (kw_in 134 (by decide +kernel) rfl)⟩
theorem ko_l28 : kf_lk RX10 28 yX4_init := Or.inr ⟨"TellFirst", (kw_in 150 (by decide +kernel) rfl)⟩
theorem ko_l38 : kf_lk RX10 38 yX5_init := Or.inl (kw_in 249 (by decide +kernel) rfl)
theorem ko_l47 : kf_lk RX10 47 yX2_init := Or.inl (kw_in 347 (by decide +kernel) rfl)
theorem ko_l56 : kf_lk RX10 56 yX0_init := Or.inl (kw_in 363 (by decide +kernel) rfl)
theorem ko_l65 : kf_lk RX10 65 yX9_init := Or.inl (kw_in 383 (by decide +kernel) rfl)
theorem ko_l72 : kf_lk RX10 72 yX7_init := Or.inl (kw_in 416 (by decide +kernel) rfl)
theorem ko_l79 : kf_lk RX10 79 yX3_init := Or.inl (kw_in 460 (by decide +kernel) rfl)
theorem ko_l88 : kf_lk RX10 88 yX6_init := Or.inl (kw_in 484 (by decide +kernel) rfl)
theorem ko_l100 : kf_lk RX10 100 yX8_init := Or.inr ⟨"TellFirst", (kw_in 505 (by decide +kernel) rfl)⟩
theorem ko_m0 : kj_mi yX0_init cX0_init 3 2 := ⟨(kw_in 364 (by decide +kernel) rfl), (kw_in 111 (by decide +kernel) rfl), (kw_in 365 (by decide +kernel) rfl), by decide, by decide, by decide +kernel, rfl⟩
theorem ko_m1 : kj_mi yX1_init cX1_init 1 0 := ⟨(kw_in 135 (by decide +kernel) rfl), (kw_in 103 (by decide +kernel) rfl), (kw_in 136 (by decide +kernel) rfl), by decide, by decide, by decide +kernel, rfl⟩
theorem ko_m2 : kj_mi yX2_init cX2_init 2 1 := ⟨(kw_in 348 (by decide +kernel) rfl), (kw_in 110 (by decide +kernel) rfl), (kw_in 349 (by decide +kernel) rfl), by decide, by decide, by decide +kernel, rfl⟩
theorem ko_m3 : kj_mi yX3_init cX3_init 4 3 := ⟨(kw_in 461 (by decide +kernel) rfl), (kw_in 114 (by decide +kernel) rfl), (kw_in 462 (by decide +kernel) rfl), by decide, by decide, by decide +kernel, rfl⟩
theorem ko_m4 : kj_mi yX4_init cX4_init 1 0 := ⟨(kw_in 151 (by decide +kernel) rfl), (kw_in 104 (by decide +kernel) rfl), (kw_in 152 (by decide +kernel) rfl), by decide, by decide, by decide +kernel, rfl⟩
theorem ko_m5 : kj_mi yX5_init cX5_init 5 2 := ⟨(kw_in 250 (by decide +kernel) rfl), (kw_in 105 (by decide +kernel) rfl), (kw_in 251 (by decide +kernel) rfl), by decide, by decide, by decide +kernel, rfl⟩
theorem ko_m6 : kj_mi yX6_init cX6_init 2 1 := ⟨(kw_in 485 (by decide +kernel) rfl), (kw_in 115 (by decide +kernel) rfl), (kw_in 486 (by decide +kernel) rfl), by decide, by decide, by decide +kernel, rfl⟩
theorem ko_m7 : kj_mi yX7_init cX7_init 2 1 := ⟨(kw_in 417 (by decide +kernel) rfl), (kw_in 113 (by decide +kernel) rfl), (kw_in 418 (by decide +kernel) rfl), by decide, by decide, by decide +kernel, rfl⟩
theorem ko_m8 : kj_mi yX8_init cX8_init 1 0 := ⟨(kw_in 506 (by decide +kernel) rfl), (kw_in 116 (by decide +kernel) rfl), (kw_in 507 (by decide +kernel) rfl), by decide, by decide, by decide +kernel, rfl⟩
theorem ko_m9 : kj_mi yX9_init cX9_init 3 2 := ⟨(kw_in 384 (by decide +kernel) rfl), (kw_in 112 (by decide +kernel) rfl), (kw_in 385 (by decide +kernel) rfl), by decide, by decide, by decide +kernel, rfl⟩
theorem ko_m10 : kj_mi yX10_init cX10_init 2 0 := ⟨(kw_in 125 (by decide +kernel) rfl), (kw_in 102 (by decide +kernel) rfl), (kw_in 126 (by decide +kernel) rfl), by decide, by decide, by decide +kernel, rfl⟩
theorem ko_m11 : kj_mi yX11_init cX11_init 2 0 := ⟨(kw_in 1187 (by decide +kernel) rfl), (kw_in 117 (by decide +kernel) rfl), (kw_in 1188 (by decide +kernel) rfl), by decide, by decide, by decide +kernel, rfl⟩
