theorem kl_5_11 : kj_L RX5 11 5 0 := ⟨_, _, _, rfl, by decide, ku_5, (kw_in 302 (by decide +kernel) rfl)⟩
theorem kn_5_0 : kj_F RX5 5 0 := ⟨_, _, _, rfl, tyX5_ok, nmX5, rfl, rfl⟩
theorem kl_5_15 : kj_L RX5 15 5 1 := ⟨_, _, _, rfl, by decide, ku_5, (kw_in 303 (by decide +kernel) rfl)⟩
theorem kn_5_1 : kj_F RX5 5 1 := ⟨_, _, _, rfl, tyX5_ok, nmX5, rfl, rfl⟩
theorem kl_5_18 : kj_L RX5 18 5 2 := ⟨_, _, _, rfl, by decide, ku_5, (kw_in 304 (by decide +kernel) rfl)⟩
theorem kn_5_2 : kj_F RX5 5 2 := ⟨_, _, _, rfl, tyX5_ok, nmX5, rfl, rfl⟩
theorem kl_5_22 : kj_L RX5 22 5 3 := ⟨_, _, _, rfl, by decide, ku_5, (kw_in 305 (by decide +kernel) rfl)⟩
theorem kn_5_3 : kj_F RX5 5 3 := ⟨_, _, _, rfl, tyX5_ok, nmX5, rfl, rfl⟩
section KR
variable {g : kf_G} {x : kj_X} {own : String} {cc : ByteArray} {nL fr lc mc ms pc k n : Nat} {lv lv' : List (Nat × Value)} {st : List Value} {ws ws' : va_W}
theorem kr_ldcS (hx : kj_ok g x "TellFirst$NetReader" cc nL fr lc mc ms) {B aK aV : Nat} (hs : ks_ok x B aK aV) (hd : decode cc pc = .ok (.ldc 26, 2)) (kk : kj_M g x nL (pc + 2) lv (.ref aK :: st) k n ws) : kj_M g x nL pc lv st k n ws := by
  obtain ⟨p, e, R, s, m, args, below, meth, c, A, Q⟩ := x
  obtain ⟨h1, h2, h3, h4, h5, -⟩ := hx
  obtain ⟨⟨-, -, -, -, q5, -⟩, qA⟩ := hs
  intro H locs ls hl hz hP hD hS
  exact va_ldcS h1 h2 h4 q5 hd (kk H locs ls hl hz hP hD hS)
theorem kr_lald (hx : kj_ok g x own cc nL fr lc mc ms) (q0 : Nat) {a N : Nat} {f : Nat → Int64} (hq : ws[q0]? = some (a, .inl (kf_cA g 1, N, .inr (.inl f)))) {i : Int32} (hin : vp_in i N) (hd : decode cc pc = .ok (.laload, 1)) (kk : kj_M g x nL (pc + 1) lv (.long (f i.toNatClampNeg) :: st) k n ws) : kj_M g x nL pc lv (.int i :: .ref a :: st) k n ws := by
  obtain ⟨p, e, R, s, m, args, below, meth, c, A, Q⟩ := x
  obtain ⟨h1, h2, h3, h4, h5, h6, h7, -⟩ := hx
  intro H locs ls hl hz hP hD hS
  exact va_lald h1 h2 h6 hP q0 1 hq (kj_ty h7 rfl) hin hd (kk H locs ls hl hz hP hD hS)
end KR
def ks_w : Nat → Nat
  | 0 => 0
  | i + 1 => if ks_b.getD i 0 = 32 then ks_w i + 1 else ks_w i
def ks_f : Nat → Nat → Int64
  | 0 => fun _ => 0
  | i + 1 => if ks_b.getD i 0 = 32 then ks_f i else vp_updL (ks_f i) (ks_w i) ((ks_f i (ks_w i) <<< (Int32.toInt64 5 &&& 63)) ||| Int32.toInt64 (ks_b.getD i 0 - 97 + 1))
theorem ks_w13 : ∀ i, i < 71 → ks_w i < 13 := by decide +kernel
theorem ks_fin : ∀ k, k < 13 → ks_f 71 k = lN (wds.getD k 0) := by decide +kernel
def ks_o (p1 p2 z : Nat) : List Value := [.ref z, .ref (z + 1), .ref p1, .ref p2, .int 0, .int 0, .int 0, .int 0, .int 0, .long 0, .int 0, .int 0, .int 0]
def ks_ws (g : kf_G) (p1 p2 h z : Nat) (f : Nat → Int64) : va_W := [(h, .inr (5, ks_o p1 p2 z)), (z, .inl (kf_cA g 1, 13, .inr (.inl f))), (z + 1, .inl (kf_cA g 1, 12, .inr (.inl (fun _ => 0))))]
def w1_X5_init (g : kf_G) (p1 p2 : Nat) : Nat → Nat → va_W := fun h z => ks_ws g p1 p2 h z (ks_f 71)
def ks_lv (p1 p2 h i w : Nat) : List (Nat × Value) := [(4, .int (nI i)), (3, .int (nI w)), (0, .ref h), (1, .ref p1), (2, .ref p2)]
def ks_lw (p1 p2 h i w : Nat) : List (Nat × Value) := [(3, .int (nI w)), (4, .int (nI i)), (0, .ref h), (1, .ref p1), (2, .ref p2)]
theorem ks_loop {g : kf_G} (hg : g.2.2.1.map (fun q => q.2) = [.int, .long, .byte, .boolean, .object "TellFirst$Tray", .array .int]) {x : kj_X} {B aK aV p1 p2 h : Nat} (hx : kj_ok g x RX5 cX5_init 5 4 85 2 25) (hB : B ≤ kj_sz x) (hs : ks_ok x B aK aV) (ret : ∀ (pc : Nat) (lv : List (Nat × Value)), decode cX5_init pc = .ok (.return_, 1) → kj_M g x 5 pc lv [] 2 25 (ks_ws g p1 p2 h (kj_sz x) (ks_f 71))) : ∀ d i : Nat, i + d = 71 → kj_M g x 5 35 (ks_lv p1 p2 h i (ks_w i)) [] 2 25 (ks_ws g p1 p2 h (kj_sz x) (ks_f i)) := by
  intro d
  induction d with
  | zero =>
    intro i hi
    have : i = 71 := by omega
    subst this
    refine kj_iload hx dX5_init_35 0 rfl ?_
    refine kr_ldcS hx hs dX5_init_37 ?_
    refine kr_callV hx (q_len g hg B aK aV) ks_28 km_J0_length_8abf5 (kr_str hs) rfl hB kE_bl (kr_E hs) (by decide) (Nat.le_refl _) (Nat.le_refl _) rfl (Nat.le_of_ble_eq_true rfl) dX5_init_39 (fun r hr => ?_)
    subst hr
    refine kj_icmp_ge hx 103 dX5_init_42 rfl (fun _ => ?_) (fun h9 => absurd (by decide) h9)
    exact ret _ _ dX5_init_103
  | succ d ih =>
    intro i hi
    have hi71 : i < 71 := by omega
    have hw := ks_w13 i hi71
    refine kj_iload hx dX5_init_35 0 rfl ?_
    refine kr_ldcS hx hs dX5_init_37 ?_
    refine kr_callV hx (q_len g hg B aK aV) ks_28 km_J0_length_8abf5 (kr_str hs) rfl hB kE_bl (kr_E hs) (by decide) (Nat.le_refl _) (Nat.le_refl _) rfl (Nat.le_of_ble_eq_true rfl) dX5_init_39 (fun r hr => ?_)
    subst hr
    refine kj_icmp_ge hx 103 dX5_init_42 rfl (fun h9 => absurd h9 (nI_ge (b := 71) hi71 (by decide))) (fun _ => ?_)
    refine kj_iload_n hx dX5_init_45 rfl 1 rfl ?_
    refine kj_bipush hx dX5_init_46 (v := 13) (by decide) ?_
    refine kj_icmp_ge hx 103 dX5_init_48 rfl (fun h9 => absurd h9 (nI_ge (b := 13) hw (by decide))) (fun _ => ?_)
    refine kr_ldcS hx hs dX5_init_51 ?_
    refine kj_iload hx dX5_init_53 0 rfl ?_
    refine kr_callV hx (q_chA g hg B aK aV hi71) ks_34 km_J0_charAt_5068e (kr_str hs) rfl hB kE_bl (kr_E hs) (by decide) (Nat.le_refl _) (Nat.le_refl _) rfl (Nat.le_of_ble_eq_true rfl) dX5_init_55 (fun r hr => ?_)
    subst hr
    refine kj_bipush hx dX5_init_58 (v := 32) (by decide) ?_
    have next : ∀ w : Nat, ∀ f : Nat → Int64, w = ks_w (i + 1) → f = ks_f (i + 1) → ∀ lv, lv = ks_lv p1 p2 h i w ∨ lv = ks_lw p1 p2 h i w → kj_M g x 5 97 lv [] 2 25 (ks_ws g p1 p2 h (kj_sz x) f) := by
      intro w f hw1 hf1 lv hlv
      subst hw1
      subst hf1
      have k := ih (i + 1) (by omega)
      rcases hlv with rfl | rfl
      · refine kj_iinc hx dX5_init_97 0 rfl (w := nI (i + 1)) (nI_1 i) (by decide) (lv' := ks_lv p1 p2 h (i + 1) (ks_w (i + 1))) rfl ?_
        exact kj_goto hx 35 dX5_init_100 rfl k
      · refine kj_iinc hx dX5_init_97 1 rfl (w := nI (i + 1)) (nI_1 i) (by decide) (lv' := ks_lv p1 p2 h (i + 1) (ks_w (i + 1))) rfl ?_
        exact kj_goto hx 35 dX5_init_100 rfl k
    refine kr_icmp_ne hx 69 dX5_init_60 rfl (fun hc => ?_) (fun hc => ?_)
    · refine kj_aload_n hx dX5_init_69 rfl 2 rfl ?_
      refine kj_gt hx kl_5_11 0 rfl rfl dX5_init_70 ?_
      refine kj_iload_n hx dX5_init_73 rfl 1 rfl ?_
      refine kj_aload_n hx dX5_init_74 rfl 2 rfl ?_
      refine kj_gt hx kl_5_11 0 rfl rfl dX5_init_75 ?_
      refine kj_iload_n hx dX5_init_78 rfl 1 rfl ?_
      refine kr_lald hx 1 rfl (nI_in hw (by decide)) dX5_init_79 ?_
      refine kj_iconst hx dX5_init_80 (v := 5) (by decide) ?_
      refine kr_lshl hx dX5_init_81 ?_
      refine kr_ldcS hx hs dX5_init_82 ?_
      refine kj_iload hx dX5_init_84 0 rfl ?_
      refine kr_callV hx (q_chA g hg B aK aV hi71) ks_34 km_J0_charAt_5068e (kr_str hs) rfl hB kE_bl (kr_E hs) (by decide) (Nat.le_refl _) (Nat.le_refl _) rfl (Nat.le_of_ble_eq_true rfl) dX5_init_86 (fun r hr => ?_)
      subst hr
      refine kj_bipush hx dX5_init_89 (v := 97) (by decide) ?_
      refine kr_isub hx dX5_init_91 ?_
      refine kj_iconst hx dX5_init_92 (v := 1) (by decide) ?_
      refine kr_iadd hx dX5_init_93 ?_
      refine kr_i2l hx dX5_init_94 ?_
      refine kr_lor hx dX5_init_95 ?_
      refine kj_last hx 1 rfl (nI_in hw (by decide)) dX5_init_96 (ws' := ks_ws g p1 p2 h (kj_sz x) (vp_updL (ks_f i) (nI (ks_w i)).toNatClampNeg ((ks_f i (nI (ks_w i)).toNatClampNeg <<< (Int32.toInt64 5 &&& 63)) ||| Int32.toInt64 (ks_b.getD i 0 - 97 + 1)))) rfl ?_
      refine next (ks_w i) _ ?_ ?_ _ (Or.inl rfl)
      · show _ = if ks_b.getD i 0 = 32 then _ else _
        rw [if_neg hc]
      · show _ = if ks_b.getD i 0 = 32 then _ else _
        rw [if_neg hc, nI_clamp (by omega)]
    · refine kj_iinc hx dX5_init_63 1 rfl (w := nI (ks_w i + 1)) (nI_1 _) (by decide) (lv' := ks_lw p1 p2 h i (ks_w i + 1)) rfl ?_
      refine kj_goto hx 97 dX5_init_66 rfl ?_
      refine next (ks_w i + 1) _ ?_ ?_ _ (Or.inr rfl)
      · show _ = if ks_b.getD i 0 = 32 then _ else _
        rw [if_pos hc]
      · show _ = if ks_b.getD i 0 = 32 then _ else _
        rw [if_pos hc]
theorem c_X5_init (g : kf_G) (hg : g.2.2.1.map (fun q => q.2) = [.int, .long, .byte, .boolean, .object "TellFirst$Tray", .array .int]) (B aK aV p1 p2 : Nat) : kj_C g yX5_init cX5_init 5 4 85 2 25 B (kE B aK aV) [.ref p1, .ref p2] (.inr (5, [.null, .null, .null, .null, .int 0, .int 0, .int 0, .int 0, .int 0, .long 0, .int 0, .int 0, .int 0])) (w1_X5_init g p1 p2) := by
  refine kj_ent hg (by decide +kernel) rfl (fun _ => Nat.le_of_ble_eq_true rfl) (fun x h hB hlt hx hi hE hA ret => ?_)
  have hs : ks_ok x B aK aV := ⟨hE, fun q hq => by rcases hA q hq with r | r <;> omega⟩
  show kj_M g x 5 0 [(0, .ref h), (1, .ref p1), (2, .ref p2)] [] 0 0 _
  refine kj_aload_n hx dX5_init_0 rfl 0 rfl ?_
  refine kj_objInit hx (kw_in 252 (by decide +kernel) rfl) ow_i ow_c (by decide) (by decide) dX5_init_1 ?_
  refine kj_aload_n hx dX5_init_4 rfl 0 rfl ?_
  refine kj_bipush hx dX5_init_5 (v := 13) (by decide) ?_
  refine kj_newa hx (ty := .long) rfl ow_long rfl (by decide) (t := 1) (N := 13) (a0 := (13, .inr (.inl (fun _ => 0)))) (fun _ => rfl) (by decide) (by decide) (by decide) (Nat.le_of_ble_eq_true rfl) (Nat.le_of_ble_eq_true rfl) dX5_init_7 rfl ?_
  refine kj_pf hx hi kl_5_11 kn_5_0 0 rfl rfl rfl (Nat.le_of_ble_eq_true rfl) dX5_init_9 rfl ?_
  refine kj_aload_n hx dX5_init_12 rfl 0 rfl ?_
  refine kj_bipush hx dX5_init_13 (v := 12) (by decide) ?_
  refine kj_newa hx (ty := .long) rfl ow_long rfl (by decide) (t := 1) (N := 12) (a0 := (12, .inr (.inl (fun _ => 0)))) (fun _ => rfl) (by decide) (by decide) (by decide) (Nat.le_of_ble_eq_true rfl) (Nat.le_of_ble_eq_true rfl) dX5_init_15 rfl ?_
  refine kj_pf hx hi kl_5_15 kn_5_1 0 rfl rfl rfl (Nat.le_of_ble_eq_true rfl) dX5_init_17 rfl ?_
  refine kj_aload_n hx dX5_init_20 rfl 0 rfl ?_
  refine kj_aload_n hx dX5_init_21 rfl 1 rfl ?_
  refine kj_pf hx hi kl_5_18 kn_5_2 0 rfl rfl rfl (Nat.le_of_ble_eq_true rfl) dX5_init_22 rfl ?_
  refine kj_aload_n hx dX5_init_25 rfl 0 rfl ?_
  refine kj_aload_n hx dX5_init_26 rfl 2 rfl ?_
  refine kj_pf hx hi kl_5_22 kn_5_3 0 rfl rfl rfl (Nat.le_of_ble_eq_true rfl) dX5_init_27 rfl ?_
  refine kj_iconst hx dX5_init_30 (v := 0) (by decide) ?_
  refine kj_istore_n hx dX5_init_31 rfl (by decide) (lv' := [(3, .int 0), (0, .ref h), (1, .ref p1), (2, .ref p2)]) rfl ?_
  refine kj_iconst hx dX5_init_32 (v := 0) (by decide) ?_
  refine kj_istore hx dX5_init_33 (by decide) (lv' := [(4, .int 0), (3, .int 0), (0, .ref h), (1, .ref p1), (2, .ref p2)]) rfl ?_
  exact ks_loop hg hx (by omega) hs ret 71 0 rfl
