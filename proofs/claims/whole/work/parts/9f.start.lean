theorem sp_at (f : Nat → Int64) (l : Launch) (D : va_G) (tys : List (ClassId × FieldType)) (sz : Nat) {k : Nat} {q : Nat × va_E} (hq : (kf_ws (l, D, tys, fun c => sz + od c) I0 (J0f f))[k]? = some q) : k < 100 ∧ q = (sz + od k, kf_ce (l, D, tys, fun c => sz + od c) (kf_SH.getD k (0, 0, [])) (I0 k) (J0f f k)) := by
  have hk : k < kf_SH.length := (kf_back hq).2
  refine ⟨hk, ?_⟩
  have h := kf_at (g := (l, D, tys, fun c => sz + od c)) (I := I0) (J := J0f f) (List.getElem?_eq_getElem hk)
  rw [h] at hq
  rw [List.getD_eq_getElem?_getD, List.getElem?_eq_getElem hk]
  exact (Option.some.inj hq).symm
set_option maxRecDepth 10000 in
theorem start_P (l : Launch) (D : va_G) (tys : List (ClassId × FieldType)) (sz : Nat) {H : Heap} (hP : va_P D kf_cl (w1_X10_init (l, D, tys, fun c => sz + od c) (sz + 0) (sz + 1) ++ w1_X11_init (l, D, tys, fun c => sz + od c) (sz + 72) (sz + 73)) H) : va_P D kf_cl (kf_ws (l, D, tys, fun c => sz + od c) I0 (J0f (ks_f 71))) H := by
  have m := va_Pr hP
  obtain ⟨c0, h1⟩ := va_Pc1 (show va_P D kf_cl (((sz + 0), .inr (10, [.ref ((sz + 1) + 0), .ref ((sz + 1) + 1), .ref ((sz + 1) + 2), .ref ((sz + 1) + 3), .ref ((sz + 1) + 15), .ref ((sz + 1) + 27), .ref ((sz + 1) + 30), .ref ((sz + 1) + 32), .ref ((sz + 1) + 34), .ref ((sz + 1) + 39), .ref ((sz + 1) + 43), .ref ((sz + 1) + 45), .int 0, .int 0, .int (-1), .int (-1)])) :: _) H from va_Pl hP)
  obtain ⟨c1, h2⟩ := va_Pc1 (show va_P D kf_cl (((sz + 1) + 0, .inl (kf_cA (l, D, tys, fun c => sz + od c) 4, 4, .inr (.inr (.inr (.inr (va_up (va_up (va_up (va_up (fun _ => none) (Int32.toNatClampNeg 0) (some ((sz + 1) + 63))) (Int32.toNatClampNeg 1) (some ((sz + 1) + 65))) (Int32.toNatClampNeg 2) (some ((sz + 1) + 67))) (Int32.toNatClampNeg 3) (some ((sz + 1) + 69)))))))) :: _) H from h1)
  obtain ⟨b0, b1, b2, b3, b4, b5, b6, b7, b8, b9, b10, b11, b12, b13, b14⟩ := sp_tl l D tys sz h2
  replace b4 : va_P D kf_cl (ks_ws (l, D, tys, fun c => sz + od c) ((sz + 1) + 1) ((sz + 1) + 15) ((sz + 1) + 27) ((sz + 1) + 28) (ks_f 71)) H := b4
  generalize ks_f 71 = f at b4 ⊢
  clear h1 h2 hP
  have k0 : ∀ j, j < 10 → va_at D kf_cl (sz + od (0 + j), kf_ce (l, D, tys, fun c => sz + od c) (kf_SH.getD (0 + j) (0, 0, [])) (I0 (0 + j)) (J0f f (0 + j))) H := fun j hj => match j, hj with
    | 0, _ => (sp_0 f l D tys sz c0)
    | 1, _ => (sp_1 f l D tys sz c1)
    | 2, _ => (sp_2 f l D tys sz b11)
    | 3, _ => (sp_3 f l D tys sz b11)
    | 4, _ => (sp_4 f l D tys sz b12)
    | 5, _ => (sp_5 f l D tys sz b12)
    | 6, _ => (sp_6 f l D tys sz b13)
    | 7, _ => (sp_7 f l D tys sz b13)
    | 8, _ => (sp_8 f l D tys sz b14)
    | 9, _ => (sp_9 f l D tys sz b14)
  have k10 : ∀ j, j < 10 → va_at D kf_cl (sz + od (10 + j), kf_ce (l, D, tys, fun c => sz + od c) (kf_SH.getD (10 + j) (0, 0, [])) (I0 (10 + j)) (J0f f (10 + j))) H := fun j hj => match j, hj with
    | 0, _ => (sp_10 f l D tys sz b0)
    | 1, _ => (sp_11 f l D tys sz b1)
    | 2, _ => (sp_12 f l D tys sz b2)
    | 3, _ => (sp_13 f l D tys sz b2)
    | 4, _ => (sp_14 f l D tys sz b2)
    | 5, _ => (sp_15 f l D tys sz b2)
    | 6, _ => (sp_16 f l D tys sz b2)
    | 7, _ => (sp_17 f l D tys sz b2)
    | 8, _ => (sp_18 f l D tys sz b2)
    | 9, _ => (sp_19 f l D tys sz b2)
  have k20 : ∀ j, j < 10 → va_at D kf_cl (sz + od (20 + j), kf_ce (l, D, tys, fun c => sz + od c) (kf_SH.getD (20 + j) (0, 0, [])) (I0 (20 + j)) (J0f f (20 + j))) H := fun j hj => match j, hj with
    | 0, _ => (sp_20 f l D tys sz b2)
    | 1, _ => (sp_21 f l D tys sz b2)
    | 2, _ => (sp_22 f l D tys sz b2)
    | 3, _ => (sp_23 f l D tys sz b2)
    | 4, _ => (sp_24 f l D tys sz b3)
    | 5, _ => (sp_25 f l D tys sz b3)
    | 6, _ => (sp_26 f l D tys sz b3)
    | 7, _ => (sp_27 f l D tys sz b3)
    | 8, _ => (sp_28 f l D tys sz b3)
    | 9, _ => (sp_29 f l D tys sz b3)
  have k30 : ∀ j, j < 10 → va_at D kf_cl (sz + od (30 + j), kf_ce (l, D, tys, fun c => sz + od c) (kf_SH.getD (30 + j) (0, 0, [])) (I0 (30 + j)) (J0f f (30 + j))) H := fun j hj => match j, hj with
    | 0, _ => (sp_30 f l D tys sz b3)
    | 1, _ => (sp_31 f l D tys sz b3)
    | 2, _ => (sp_32 f l D tys sz b3)
    | 3, _ => (sp_33 f l D tys sz b3)
    | 4, _ => (sp_34 f l D tys sz b3)
    | 5, _ => (sp_35 f l D tys sz b3)
    | 6, _ => (sp_36 f l D tys sz b4)
    | 7, _ => (sp_37 f l D tys sz b4)
    | 8, _ => (sp_38 f l D tys sz b4)
    | 9, _ => (sp_39 f l D tys sz b5)
  have k40 : ∀ j, j < 10 → va_at D kf_cl (sz + od (40 + j), kf_ce (l, D, tys, fun c => sz + od c) (kf_SH.getD (40 + j) (0, 0, [])) (I0 (40 + j)) (J0f f (40 + j))) H := fun j hj => match j, hj with
    | 0, _ => (sp_40 f l D tys sz b5)
    | 1, _ => (sp_41 f l D tys sz b6)
    | 2, _ => (sp_42 f l D tys sz b6)
    | 3, _ => (sp_43 f l D tys sz b7)
    | 4, _ => (sp_44 f l D tys sz b7)
    | 5, _ => (sp_45 f l D tys sz b7)
    | 6, _ => (sp_46 f l D tys sz b7)
    | 7, _ => (sp_47 f l D tys sz b7)
    | 8, _ => (sp_48 f l D tys sz b8)
    | 9, _ => (sp_49 f l D tys sz b8)
  have k50 : ∀ j, j < 10 → va_at D kf_cl (sz + od (50 + j), kf_ce (l, D, tys, fun c => sz + od c) (kf_SH.getD (50 + j) (0, 0, [])) (I0 (50 + j)) (J0f f (50 + j))) H := fun j hj => match j, hj with
    | 0, _ => (sp_50 f l D tys sz b8)
    | 1, _ => (sp_51 f l D tys sz b8)
    | 2, _ => (sp_52 f l D tys sz b9)
    | 3, _ => (sp_53 f l D tys sz b9)
    | 4, _ => (sp_54 f l D tys sz b10)
    | 5, _ => (sp_55 f l D tys sz b10)
    | 6, _ => (sp_56 f l D tys sz b10)
    | 7, _ => (sp_57 f l D tys sz b10)
    | 8, _ => (sp_58 f l D tys sz b10)
    | 9, _ => (sp_59 f l D tys sz b10)
  have k60 : ∀ j, j < 10 → va_at D kf_cl (sz + od (60 + j), kf_ce (l, D, tys, fun c => sz + od c) (kf_SH.getD (60 + j) (0, 0, [])) (I0 (60 + j)) (J0f f (60 + j))) H := fun j hj => match j, hj with
    | 0, _ => (sp_60 f l D tys sz b10)
    | 1, _ => (sp_61 f l D tys sz b10)
    | 2, _ => (sp_62 f l D tys sz b10)
    | 3, _ => (sp_63 f l D tys sz b10)
    | 4, _ => (sp_64 f l D tys sz b10)
    | 5, _ => (sp_65 f l D tys sz b10)
    | 6, _ => (sp_66 f l D tys sz b10)
    | 7, _ => (sp_67 f l D tys sz b10)
    | 8, _ => (sp_68 f l D tys sz b10)
    | 9, _ => (sp_69 f l D tys sz b10)
  have k70 : ∀ j, j < 10 → va_at D kf_cl (sz + od (70 + j), kf_ce (l, D, tys, fun c => sz + od c) (kf_SH.getD (70 + j) (0, 0, [])) (I0 (70 + j)) (J0f f (70 + j))) H := fun j hj => match j, hj with
    | 0, _ => (sp_70 f l D tys sz b10)
    | 1, _ => (sp_71 f l D tys sz b10)
    | 2, _ => (sp_72 f l D tys sz m)
    | 3, _ => (sp_73 f l D tys sz m)
    | 4, _ => (sp_74 f l D tys sz m)
    | 5, _ => (sp_75 f l D tys sz m)
    | 6, _ => (sp_76 f l D tys sz m)
    | 7, _ => (sp_77 f l D tys sz m)
    | 8, _ => (sp_78 f l D tys sz m)
    | 9, _ => (sp_79 f l D tys sz m)
  have k80 : ∀ j, j < 10 → va_at D kf_cl (sz + od (80 + j), kf_ce (l, D, tys, fun c => sz + od c) (kf_SH.getD (80 + j) (0, 0, [])) (I0 (80 + j)) (J0f f (80 + j))) H := fun j hj => match j, hj with
    | 0, _ => (sp_80 f l D tys sz m)
    | 1, _ => (sp_81 f l D tys sz m)
    | 2, _ => (sp_82 f l D tys sz m)
    | 3, _ => (sp_83 f l D tys sz m)
    | 4, _ => (sp_84 f l D tys sz m)
    | 5, _ => (sp_85 f l D tys sz m)
    | 6, _ => (sp_86 f l D tys sz m)
    | 7, _ => (sp_87 f l D tys sz m)
    | 8, _ => (sp_88 f l D tys sz m)
    | 9, _ => (sp_89 f l D tys sz m)
  have k90 : ∀ j, j < 10 → va_at D kf_cl (sz + od (90 + j), kf_ce (l, D, tys, fun c => sz + od c) (kf_SH.getD (90 + j) (0, 0, [])) (I0 (90 + j)) (J0f f (90 + j))) H := fun j hj => match j, hj with
    | 0, _ => (sp_90 f l D tys sz m)
    | 1, _ => (sp_91 f l D tys sz m)
    | 2, _ => (sp_92 f l D tys sz m)
    | 3, _ => (sp_93 f l D tys sz m)
    | 4, _ => (sp_94 f l D tys sz m)
    | 5, _ => (sp_95 f l D tys sz m)
    | 6, _ => (sp_96 f l D tys sz m)
    | 7, _ => (sp_97 f l D tys sz m)
    | 8, _ => (sp_98 f l D tys sz m)
    | 9, _ => (sp_99 f l D tys sz m)
  intro k q hq
  obtain ⟨hk, rfl⟩ := sp_at f l D tys sz hq
  by_cases z0 : k < 10
  · obtain ⟨j, rfl⟩ : ∃ j, k = 0 + j := ⟨k - 0, by omega⟩
    exact k0 j (by omega)
  by_cases z10 : k < 20
  · obtain ⟨j, rfl⟩ : ∃ j, k = 10 + j := ⟨k - 10, by omega⟩
    exact k10 j (by omega)
  by_cases z20 : k < 30
  · obtain ⟨j, rfl⟩ : ∃ j, k = 20 + j := ⟨k - 20, by omega⟩
    exact k20 j (by omega)
  by_cases z30 : k < 40
  · obtain ⟨j, rfl⟩ : ∃ j, k = 30 + j := ⟨k - 30, by omega⟩
    exact k30 j (by omega)
  by_cases z40 : k < 50
  · obtain ⟨j, rfl⟩ : ∃ j, k = 40 + j := ⟨k - 40, by omega⟩
    exact k40 j (by omega)
  by_cases z50 : k < 60
  · obtain ⟨j, rfl⟩ : ∃ j, k = 50 + j := ⟨k - 50, by omega⟩
    exact k50 j (by omega)
  by_cases z60 : k < 70
  · obtain ⟨j, rfl⟩ : ∃ j, k = 60 + j := ⟨k - 60, by omega⟩
    exact k60 j (by omega)
  by_cases z70 : k < 80
  · obtain ⟨j, rfl⟩ : ∃ j, k = 70 + j := ⟨k - 70, by omega⟩
    exact k70 j (by omega)
  by_cases z80 : k < 90
  · obtain ⟨j, rfl⟩ : ∃ j, k = 80 + j := ⟨k - 80, by omega⟩
    exact k80 j (by omega)
  by_cases z90 : k < 100
  · obtain ⟨j, rfl⟩ : ∃ j, k = 90 + j := ⟨k - 90, by omega⟩
    exact k90 j (by omega)
  omega
