theorem wn_10 : kj_N 10 [.null, .null, .null, .null, .null, .null, .null, .null, .null, .null, .null, .null, .int 0, .int 0, .int 0, .int 0] "TellFirstLaw" 7 16 := ⟨_, _, rfl, ku_10, tyX10_ok, (kw_in 122 (by decide +kernel) rfl), (kw_in 123 (by decide +kernel) rfl), (kw_in 102 (by decide +kernel) rfl), by decide +kernel⟩
theorem wn_11 : kj_N 11 [.int 0, .int 0, .long 0, .long 0, .null, .null, .null, .null, .int 0, .int 0, .int 0, .int 0, .int 0, .int 0, .int 0, .int 0, .int 0, .int 0, .int 0, .long 0, .int 0, .int 0, .int 0, .int 0, .null, .null, .null, .null, .null, .null, .null, .null, .null, .null, .null, .null, .null, .null, .int 0, .null, .null, .null, .null, .null, .long 0, .long 0, .null, .null, .null, .null, .long 0, .long 0] "TellFirstLaw" 10 52 := ⟨_, _, rfl, ku_11, tyX11_ok, (kw_in 1184 (by decide +kernel) rfl), (kw_in 1185 (by decide +kernel) rfl), (kw_in 117 (by decide +kernel) rfl), by decide +kernel⟩
theorem wk_10 : kf_lk "TellFirstLaw" 9 yX10_init := Or.inl (kw_in 124 (by decide +kernel) rfl)
theorem wk_11 : kf_lk "TellFirstLaw" 12 yX11_init := Or.inl (kw_in 1186 (by decide +kernel) rfl)
theorem w_go {g : kf_G} {x : kj_X} {b aK aV : Nat} {w10 w11 : Nat → Nat → va_W} (hok : kj_ok g x "TellFirstLaw" cL_law 4 2048 84000 600000 7302250) (hA : ∀ q, kj_A x q → kj_sz x ≤ q) (hE : kE (kj_sz x) aK aV (kj_st x))
    (c10 : kj_C g yX10_init cX10_init 2 5 109 71 6489 (kj_sz x) (kE (kj_sz x) aK aV) [] (.inr (10, [.null, .null, .null, .null, .null, .null, .null, .null, .null, .null, .null, .null, .int 0, .int 0, .int 0, .int 0])) w10)
    (c11 : kj_C g yX11_init cX11_init 2 1 12 27 50406 (kj_sz x) (fun _ => True) [] (.inr (11, [.int 0, .int 0, .long 0, .long 0, .null, .null, .null, .null, .int 0, .int 0, .int 0, .int 0, .int 0, .int 0, .int 0, .int 0, .int 0, .int 0, .int 0, .long 0, .int 0, .int 0, .int 0, .int 0, .null, .null, .null, .null, .null, .null, .null, .null, .null, .null, .null, .null, .null, .null, .int 0, .null, .null, .null, .null, .null, .long 0, .long 0, .null, .null, .null, .null, .long 0, .long 0])) w11)
    (hend : kj_M g x 4 18 [(3, .int 0), (2, .ref (kj_sz x + 72)), (1, .ref (kj_sz x + 0)), (0, .ref b)] [] 100 56963 (w10 (kj_sz x + 0) (kj_sz x + 1) ++ w11 (kj_sz x + 72) (kj_sz x + 73))) : kj_M g x 4 0 [(0, .ref b)] [] 0 0 [] := by
  refine kj_nw hok wn_10 (by decide) (by decide) dL_law_0 (List.nil_append _) ?_
  refine kj_dup hok dL_law_3 ?_
  refine kj_call hok c10 wk_10 ko_m10 rfl (Nat.le_add_right _ _) kE_bl (fun H locs hS U hU hW => kE_to hE (by rw [hU]; exact hS) hA hW) (by decide) (by decide) (by decide) [] rfl rfl (Nat.le_of_ble_eq_true rfl) dL_law_4 (ws' := w10 (kj_sz x + 0) (kj_sz x + 1)) rfl ?_
  refine kj_astore_n hok dL_law_7 rfl (by decide) (lv' := [(1, .ref (kj_sz x + 0)), (0, .ref b)]) rfl ?_
  refine kj_nw hok wn_11 (by decide) (by decide) dL_law_8 rfl ?_
  refine kj_dup hok dL_law_11 ?_
  refine kj_call hok c11 wk_11 ko_m11 rfl (Nat.le_add_right _ _) (fun _ _ _ _ _ => trivial) (fun _ _ _ _ _ _ => trivial) (by decide) (by decide) (by decide) (w10 (kj_sz x + 0) (kj_sz x + 1)) rfl rfl (Nat.le_of_ble_eq_true rfl) dL_law_12 (ws' := w10 (kj_sz x + 0) (kj_sz x + 1) ++ w11 (kj_sz x + 72) (kj_sz x + 73)) rfl ?_
  refine kj_astore_n hok dL_law_15 rfl (by decide) (lv' := [(2, .ref (kj_sz x + 72)), (1, .ref (kj_sz x + 0)), (0, .ref b)]) rfl ?_
  refine kj_iconst hok dL_law_16 (v := 0) rfl ?_
  refine kj_istore_n hok dL_law_17 rfl (by decide) (lv' := [(3, .int 0), (2, .ref (kj_sz x + 72)), (1, .ref (kj_sz x + 0)), (0, .ref b)]) rfl ?_
  exact hend
theorem whole_start {p : Program} {e : Env} {s : State} {m : MethodId} {below : List Frame} {meth : Method} {c : Code} (l : Launch) {b L : Nat} {xs : Nat → Int32} (hL : L ≤ 3072) (C0 : lw_At p s m meth c b L xs) : W p l e room_1 s m #[Value.ref b] below meth c s.heap [] 0 0 (lw_Z below #[Value.ref b] s) (entryFrame m ([Value.ref b] : List Value).toArray 4) := by
  obtain ⟨hx, hb, hr, hml, hown, hts, hX, hbl, hlk, hgv⟩ := C0
  obtain ⟨D, tys, hK, hty⟩ := ws_K hts
  obtain ⟨aK, aV, hE⟩ := ws_E hts hgv
  have hT := ws_T hts
  have hgo : kj_M (l, D, tys, fun c => s.heap.size + od c) (p, e, room_1, s, m, #[Value.ref b], below, meth, c, (fun q => s.heap.size ≤ q), lw_Z below #[Value.ref b] s) 4 0 [(0, .ref b)] [] 0 0 [] := by
    refine w_go (aK := aK) (aV := aV) ⟨hx, hb, hml, hown, hT, hK, hty, fun q h => h, Nat.le_refl _, Nat.le_refl _, Nat.le_refl _, Nat.le_refl _⟩ (fun q h => h) hE (c_X10_init _ hty _ aK aV) (c_X11_init _ hty _) ?_
    intro H locs ls hl hz hP hD hS
    have hP1 := start_P l D tys s.heap.size hP
    have hokf : kf_ok (l, D, tys, fun c => s.heap.size + od c) (p, e, room_1, s, m, #[Value.ref b], below, meth, c, (fun q => s.heap.size ≤ q), 100, 56963, lw_Z below #[Value.ref b] s) "TellFirstLaw" cL_law 4 2048 84000 := ⟨hx, hb, hml, hown, hT, hK, ⟨hty, fun i j hi hj h => od_inj i hi j hj (Nat.add_left_cancel h)⟩, fun c _ => Nat.le_add_right _ _, fun q h => h, Nat.le_refl _, Nat.le_refl _, hlk, by decide, by decide⟩
    have hlo : lo_X (p, e, room_1, s, m, #[Value.ref b], below, meth, c, (fun q => s.heap.size ≤ q), 100, 56963, lw_Z below #[Value.ref b] s) b L xs := ⟨hX, hbl, fun h => absurd hbl (Nat.not_lt.mpr h)⟩
    have hend : ∀ (lv : List (Nat × Value)) (I : HI) (J : HJ), kf_M (l, D, tys, fun c => s.heap.size + od c) (p, e, room_1, s, m, #[Value.ref b], below, meth, c, (fun q => s.heap.size ≤ q), 100, 56963, lw_Z below #[Value.ref b] s) 4 1407 lv [.int 1] I J := by
      intro lv I J H locs ls hl hP hS
      refine va_forget (fun q hq => hS.2.2 q hq) ?_
      refine W.widen (k := 600000) (n := 7302250) (by decide) (by decide) ?_
      exact lw_ret hx hb hr hlk dL_law_1407
    have K := lo_loop hokf hlo hL hend 3084 0 I0 (J0f (ks_f 71)) (Nat.zero_le _) (by omega) (inv0 (ks_f 71) ks_fin)
    exact K H locs ls (lv_sub hl [0, 3, 2, 1] (by unfold lo_lv; rw [nI_0]; rfl)) hP1 hS
  have hl := lv_entry [Value.ref b] (n := 4) (Nat.le_of_ble_eq_true rfl)
  rw [lg_entry_eq]
  generalize (lg_sl [Value.ref b] ++ List.replicate (4 - (lg_sl [Value.ref b]).length) Slot.unset).toArray = ls at hl ⊢
  exact hgo s.heap [] ls hl (Nat.le_refl _) (fun k q h => by cases h) ⟨fun i j p q h => by (cases h), fun k q h => by cases h⟩ va_S.rf
