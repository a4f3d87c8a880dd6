theorem sp_1 (f : Nat → Int64) (l : Launch) (D : va_G) (tys : List (ClassId × FieldType)) (sz : Nat) {H : Heap} (h : va_at D kf_cl ((sz + 1) + 0, .inl (kf_cA (l, D, tys, fun c => sz + od c) 4, 4, .inr (.inr (.inr (.inr (va_up (va_up (va_up (va_up (fun _ => none) (Int32.toNatClampNeg 0) (some ((sz + 1) + 63))) (Int32.toNatClampNeg 1) (some ((sz + 1) + 65))) (Int32.toNatClampNeg 2) (some ((sz + 1) + 67))) (Int32.toNatClampNeg 3) (some ((sz + 1) + 69)))))))) H) : va_at D kf_cl (sz + od 1, kf_ce (l, D, tys, fun c => sz + od c) (kf_SH.getD 1 (0, 0, [])) (I0 1) (J0f f 1)) H := by
  have h := h
  exact (show H[_]? = some (vp_cell _ _) from h).trans (congrArg some (by
    rw [vp_cell_q, vp_cell_q]
    refine arrV_eq (fun j hj => ?_)
    match j, hj with
    | 0, _ => rfl
    | 1, _ => rfl
    | 2, _ => rfl
    | 3, _ => rfl))
theorem sp_55 (f : Nat → Int64) (l : Launch) (D : va_G) (tys : List (ClassId × FieldType)) (sz : Nat) {H : Heap} (h : va_P D kf_cl (w1_X6_init (l, D, tys, fun c => sz + od c) ((sz + 1) + 3) ((sz + 1) + 45) ((sz + 1) + 46)) H) : va_at D kf_cl (sz + od 55, kf_ce (l, D, tys, fun c => sz + od c) (kf_SH.getD 55 (0, 0, [])) (I0 55) (J0f f 55)) H := by
  have h := h 1 _ rfl
  exact (show H[_]? = some (vp_cell _ _) from h).trans (congrArg some (by
    rw [vp_cell_q, vp_cell_q]
    refine arrV_eq (fun j hj => ?_)
    match j, hj with
    | 0, _ => rfl
    | 1, _ => rfl
    | 2, _ => rfl
    | 3, _ => rfl
    | 4, _ => rfl
    | 5, _ => rfl
    | 6, _ => rfl
    | 7, _ => rfl
    | 8, _ => rfl
    | 9, _ => rfl
    | 10, _ => rfl
    | 11, _ => rfl
    | 12, _ => rfl
    | 13, _ => rfl
    | 14, _ => rfl))
