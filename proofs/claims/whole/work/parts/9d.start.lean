set_option maxRecDepth 10000 in
theorem mi16 {α β : Type} (f : Nat → α → β) (a0 a1 a2 a3 a4 a5 a6 a7 a8 a9 a10 a11 a12 a13 a14 a15 : α) : List.mapIdx f [a0, a1, a2, a3, a4, a5, a6, a7, a8, a9, a10, a11, a12, a13, a14, a15] = [f 0 a0, f 1 a1, f 2 a2, f 3 a3, f 4 a4, f 5 a5, f 6 a6, f 7 a7, f 8 a8, f 9 a9, f 10 a10, f 11 a11, f 12 a12, f 13 a13, f 14 a14, f 15 a15] := by
  simp only [List.mapIdx_cons, List.mapIdx_nil, Nat.zero_add, Nat.reduceAdd, Nat.add_assoc]
set_option maxRecDepth 10000 in
theorem mi52 {α β : Type} (f : Nat → α → β) (a0 a1 a2 a3 a4 a5 a6 a7 a8 a9 a10 a11 a12 a13 a14 a15 a16 a17 a18 a19 a20 a21 a22 a23 a24 a25 a26 a27 a28 a29 a30 a31 a32 a33 a34 a35 a36 a37 a38 a39 a40 a41 a42 a43 a44 a45 a46 a47 a48 a49 a50 a51 : α) : List.mapIdx f [a0, a1, a2, a3, a4, a5, a6, a7, a8, a9, a10, a11, a12, a13, a14, a15, a16, a17, a18, a19, a20, a21, a22, a23, a24, a25, a26, a27, a28, a29, a30, a31, a32, a33, a34, a35, a36, a37, a38, a39, a40, a41, a42, a43, a44, a45, a46, a47, a48, a49, a50, a51] = [f 0 a0, f 1 a1, f 2 a2, f 3 a3, f 4 a4, f 5 a5, f 6 a6, f 7 a7, f 8 a8, f 9 a9, f 10 a10, f 11 a11, f 12 a12, f 13 a13, f 14 a14, f 15 a15, f 16 a16, f 17 a17, f 18 a18, f 19 a19, f 20 a20, f 21 a21, f 22 a22, f 23 a23, f 24 a24, f 25 a25, f 26 a26, f 27 a27, f 28 a28, f 29 a29, f 30 a30, f 31 a31, f 32 a32, f 33 a33, f 34 a34, f 35 a35, f 36 a36, f 37 a37, f 38 a38, f 39 a39, f 40 a40, f 41 a41, f 42 a42, f 43 a43, f 44 a44, f 45 a45, f 46 a46, f 47 a47, f 48 a48, f 49 a49, f 50 a50, f 51 a51] := by
  simp only [List.mapIdx_cons, List.mapIdx_nil, Nat.zero_add, Nat.reduceAdd, Nat.add_assoc]
theorem sp_0 (f : Nat → Int64) (l : Launch) (D : va_G) (tys : List (ClassId × FieldType)) (sz : Nat) {H : Heap} (h : va_at D kf_cl ((sz + 0), .inr (10, [.ref ((sz + 1) + 0), .ref ((sz + 1) + 1), .ref ((sz + 1) + 2), .ref ((sz + 1) + 3), .ref ((sz + 1) + 15), .ref ((sz + 1) + 27), .ref ((sz + 1) + 30), .ref ((sz + 1) + 32), .ref ((sz + 1) + 34), .ref ((sz + 1) + 39), .ref ((sz + 1) + 43), .ref ((sz + 1) + 45), .int 0, .int 0, .int (-1), .int (-1)])) H) : va_at D kf_cl (sz + od 0, kf_ce (l, D, tys, fun c => sz + od c) (kf_SH.getD 0 (0, 0, [])) (I0 0) (J0f f 0)) H := by
  have h := h
  show va_at D kf_cl (sz + od 0, (.inr (10, List.mapIdx (kf_vl (fun c => sz + od c) (I0 0) (J0f f 0)) [3, 12, 13, 14, 26, 38, 41, 43, 45, 50, 54, 56, 0, 0, 0, 0]) : va_E)) H
  rw [mi16]
  exact h
theorem sp_72 (f : Nat → Int64) (l : Launch) (D : va_G) (tys : List (ClassId × FieldType)) (sz : Nat) {H : Heap} (h : va_P D kf_cl (w1_X11_init (l, D, tys, fun c => sz + od c) (sz + 72) (sz + 73)) H) : va_at D kf_cl (sz + od 72, kf_ce (l, D, tys, fun c => sz + od c) (kf_SH.getD 72 (0, 0, [])) (I0 72) (J0f f 72)) H := by
  have h := h 0 _ rfl
  show va_at D kf_cl (sz + od 72, (.inr (11, List.mapIdx (kf_vl (fun c => sz + od c) (I0 72) (J0f f 72)) [0, 0, 1, 1, 75, 76, 77, 78, 0, 0, 0, 0, 0, 0, 0, 0, 0, 0, 0, 1, 0, 0, 0, 0, 79, 80, 81, 82, 83, 84, 85, 86, 87, 88, 89, 90, 91, 92, 0, 93, 94, 95, 96, 97, 1, 1, 98, 99, 100, 101, 1, 1]) : va_E)) H
  rw [mi52]
  exact h
