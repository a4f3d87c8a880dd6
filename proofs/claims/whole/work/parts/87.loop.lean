theorem lo_and (v : Int32) : ∃ k : Nat, k < 64 ∧ v &&& 63 = nI k := by
  refine ⟨(v &&& 63).toBitVec.toNat, ?_, ?_⟩
  · have h : (v &&& 63).toBitVec.toNat = v.toBitVec.toNat &&& 63 := by
      rw [Int32.toBitVec_and, BitVec.toNat_and]; rfl
    rw [h]
    exact Nat.lt_succ_of_le Nat.and_le_right
  · apply Int32.toBitVec_inj.mp
    show _ = BitVec.ofNat 32 _
    rw [BitVec.ofNat_toNat, BitVec.setWidth_eq]
theorem lo_cmp {L n : Nat} (hL : L ≤ 3072) (hn : n ≤ L + 6) (h : ¬ nI L - 6 < nI n) : n + 6 ≤ L := by
  by_cases h6 : 6 ≤ L
  · have e : nI L - 6 = nI (L - 6) := by
      obtain ⟨k, rfl⟩ : ∃ k, L = k + 6 := ⟨L - 6, by omega⟩
      rw [Nat.add_sub_cancel, ← nI_add]
      exact Int32.add_sub_cancel _ _
    rw [e, Int32.lt_iff_toInt_lt, nI_toInt (by omega), nI_toInt (by omega)] at h
    omega
  · exfalso
    have h1 : ∀ L : Nat, L < 6 → (nI L - 6).toInt < 0 := by decide +kernel
    apply h
    rw [Int32.lt_iff_toInt_lt, nI_toInt (by omega : n < 2 ^ 31)]
    have := h1 L (by omega)
    omega
section LO
variable {g : kf_G} {x : kf_X} {b L : Nat} {xs : Nat → Int32}
theorem lo_sw {I : HI} {J : HJ} {n : Nat} (C : lo_C g x b L n xs) (hI : Inv I J) {k : Nat} (hk : k < 64) : kf_M g x 4 33 (lo_lv g b (nI n)) [.int (nI k)] I J := by
  have hx := C.1
  by_cases h : k < 36
  · match k, h with
    | 0, _ => exact kf_tabIn (off := 159) hx 192 dL_law_33 (by decide) (by decide) (by decide +kernel) rfl (lo_c0 C hI)
    | 1, _ => exact kf_tabIn (off := 172) hx 205 dL_law_33 (by decide) (by decide) (by decide +kernel) rfl (lo_c1 C hI)
    | 2, _ => exact kf_tabIn (off := 186) hx 219 dL_law_33 (by decide) (by decide) (by decide +kernel) rfl (lo_c2 C hI)
    | 3, _ => exact kf_tabIn (off := 200) hx 233 dL_law_33 (by decide) (by decide) (by decide +kernel) rfl (lo_c3 C hI)
    | 4, _ => exact kf_tabIn (off := 243) hx 276 dL_law_33 (by decide) (by decide) (by decide +kernel) rfl (lo_c4 C hI)
    | 5, _ => exact kf_tabIn (off := 316) hx 349 dL_law_33 (by decide) (by decide) (by decide +kernel) rfl (lo_c5 C hI)
    | 6, _ => exact kf_tabIn (off := 350) hx 383 dL_law_33 (by decide) (by decide) (by decide +kernel) rfl (lo_c6 C hI)
    | 7, _ => exact kf_tabIn (off := 413) hx 446 dL_law_33 (by decide) (by decide) (by decide +kernel) rfl (lo_c7 C hI)
    | 8, _ => exact kf_tabIn (off := 476) hx 509 dL_law_33 (by decide) (by decide) (by decide +kernel) rfl (lo_c8 C hI)
    | 9, _ => exact kf_tabIn (off := 499) hx 532 dL_law_33 (by decide) (by decide) (by decide +kernel) rfl (lo_c9 C hI)
    | 10, _ => exact kf_tabIn (off := 522) hx 555 dL_law_33 (by decide) (by decide) (by decide +kernel) rfl (lo_c10 C hI)
    | 11, _ => exact kf_tabIn (off := 545) hx 578 dL_law_33 (by decide) (by decide) (by decide +kernel) rfl (lo_c11 C hI)
    | 12, _ => exact kf_tabIn (off := 578) hx 611 dL_law_33 (by decide) (by decide) (by decide +kernel) rfl (lo_c12 C hI)
    | 13, _ => exact kf_tabIn (off := 611) hx 644 dL_law_33 (by decide) (by decide) (by decide +kernel) rfl (lo_c13 C hI)
    | 14, _ => exact kf_tabIn (off := 660) hx 693 dL_law_33 (by decide) (by decide) (by decide +kernel) rfl (lo_c14 C hI)
    | 15, _ => exact kf_tabIn (off := 684) hx 717 dL_law_33 (by decide) (by decide) (by decide +kernel) rfl (lo_c15 C hI)
    | 16, _ => exact kf_tabIn (off := 717) hx 750 dL_law_33 (by decide) (by decide) (by decide +kernel) rfl (lo_c16 C hI)
    | 17, _ => exact kf_tabIn (off := 750) hx 783 dL_law_33 (by decide) (by decide) (by decide +kernel) rfl (lo_c17 C hI)
    | 18, _ => exact kf_tabIn (off := 783) hx 816 dL_law_33 (by decide) (by decide) (by decide +kernel) rfl (lo_c18 C hI)
    | 19, _ => exact kf_tabIn (off := 816) hx 849 dL_law_33 (by decide) (by decide) (by decide +kernel) rfl (lo_c19 C hI)
    | 20, _ => exact kf_tabIn (off := 849) hx 882 dL_law_33 (by decide) (by decide) (by decide +kernel) rfl (lo_c20 C hI)
    | 21, _ => exact kf_tabIn (off := 882) hx 915 dL_law_33 (by decide) (by decide) (by decide +kernel) rfl (lo_c21 C hI)
    | 22, _ => exact kf_tabIn (off := 915) hx 948 dL_law_33 (by decide) (by decide) (by decide +kernel) rfl (lo_c22 C hI)
    | 23, _ => exact kf_tabIn (off := 938) hx 971 dL_law_33 (by decide) (by decide) (by decide +kernel) rfl (lo_c23 C hI)
    | 24, _ => exact kf_tabIn (off := 991) hx 1024 dL_law_33 (by decide) (by decide) (by decide +kernel) rfl (lo_c24 C hI)
    | 25, _ => exact kf_tabIn (off := 1024) hx 1057 dL_law_33 (by decide) (by decide) (by decide +kernel) rfl (lo_c25 C hI)
    | 26, _ => exact kf_tabIn (off := 1057) hx 1090 dL_law_33 (by decide) (by decide) (by decide +kernel) rfl (lo_c26 C hI)
    | 27, _ => exact kf_tabIn (off := 1090) hx 1123 dL_law_33 (by decide) (by decide) (by decide +kernel) rfl (lo_c27 C hI)
    | 28, _ => exact kf_tabIn (off := 1133) hx 1166 dL_law_33 (by decide) (by decide) (by decide +kernel) rfl (lo_c28 C hI)
    | 29, _ => exact kf_tabIn (off := 1156) hx 1189 dL_law_33 (by decide) (by decide) (by decide +kernel) rfl (lo_c29 C hI)
    | 30, _ => exact kf_tabIn (off := 1179) hx 1212 dL_law_33 (by decide) (by decide) (by decide +kernel) rfl (lo_c30 C hI)
    | 31, _ => exact kf_tabIn (off := 1192) hx 1225 dL_law_33 (by decide) (by decide) (by decide +kernel) rfl (lo_c31 C hI)
    | 32, _ => exact kf_tabIn (off := 1215) hx 1248 dL_law_33 (by decide) (by decide) (by decide +kernel) rfl (lo_c32 C hI)
    | 33, _ => exact kf_tabIn (off := 1268) hx 1301 dL_law_33 (by decide) (by decide) (by decide +kernel) rfl (lo_c33 C hI)
    | 34, _ => exact kf_tabIn (off := 1311) hx 1344 dL_law_33 (by decide) (by decide) (by decide +kernel) rfl (lo_c34 C hI)
    | 35, _ => exact kf_tabIn (off := 1334) hx 1367 dL_law_33 (by decide) (by decide) (by decide +kernel) rfl (lo_c35 C hI)
    | k + 36, h => omega
  · refine kf_tabOut hx 1400 dL_law_33 (Or.inr ?_) rfl (C.2.2.2.2 _ _ hI)
    rw [nI_toInt (by omega)]
    omega
theorem lo_loop (hx : kf_ok g x "TellFirstLaw" cL_law 4 2048 84000) (hX : lo_X x b L xs) (hL : L ≤ 3072) (hend : ∀ (lv : List (Nat × Value)) (I : HI) (J : HJ), kf_M g x 4 1407 lv [.int 1] I J) : ∀ (f n : Nat) (I : HI) (J : HJ), n ≤ L + 6 → L + 6 ≤ n + f → Inv I J → kf_M g x 4 18 (lo_lv g b (nI n)) [] I J := by
  intro f
  induction f with
  | zero =>
    intro n I J h1 h2 hI
    refine kf_iload_n hx dL_law_18 rfl 0 rfl ?_
    refine kf_aload_n hx dL_law_19 rfl 1 rfl ?_
    refine lo_slen hx hX dL_law_20 ?_
    refine kf_bipush hx dL_law_21 (v := 6) (by decide) ?_
    refine kf_isub hx dL_law_23 ?_
    refine kf_icmp_gt hx 1406 dL_law_24 rfl (fun _ => ?_) (fun h => ?_)
    · refine kf_iconst hx dL_law_1406 (v := 1) (by decide) ?_
      exact hend _ _ _
    · exact absurd (lo_cmp hL h1 h) (by omega)
  | succ f ih =>
    intro n I J h1 h2 hI
    refine kf_iload_n hx dL_law_18 rfl 0 rfl ?_
    refine kf_aload_n hx dL_law_19 rfl 1 rfl ?_
    refine lo_slen hx hX dL_law_20 ?_
    refine kf_bipush hx dL_law_21 (v := 6) (by decide) ?_
    refine kf_isub hx dL_law_23 ?_
    refine kf_icmp_gt hx 1406 dL_law_24 rfl (fun _ => ?_) (fun h => ?_)
    · refine kf_iconst hx dL_law_1406 (v := 1) (by decide) ?_
      exact hend _ _ _
    · have h3 := lo_cmp hL h1 h
      have C : lo_C g x b L n xs := ⟨hx, hX, h3, hL, fun I J hI => by
        refine kf_iinc hx dL_law_1400 0 rfl (w := nI (n + 6)) (by rw [show Int32.ofInt 6 = nI 6 from rfl, nI_add]) (by decide) (lv' := lo_lv g b (nI (n + 6))) rfl ?_
        refine kf_goto hx 18 dL_law_1403 rfl ?_
        exact ih (n + 6) I J (by omega) (by omega) hI⟩
      refine kf_aload_n hx dL_law_27 rfl 1 rfl ?_
      refine kf_iload_n hx dL_law_28 rfl 0 rfl ?_
      refine lo_sld hx hX (nI_in (show n < L by omega) (by omega)) dL_law_29 ?_
      refine kf_bipush hx dL_law_30 (v := 63) (by decide) ?_
      refine kf_iand hx dL_law_32 ?_
      obtain ⟨k, hk, e⟩ := lo_and (xs (nI n).toNatClampNeg)
      rw [e]
      exact lo_sw C hI hk
end LO
