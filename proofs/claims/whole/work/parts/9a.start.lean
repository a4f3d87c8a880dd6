def od (c : Nat) : Nat := if c < 2 then c else if c < 10 then c + 62 else if c < 72 then c - 8 else c
theorem od_inj : ∀ i, i < 100 → ∀ j, j < 100 → od i = od j → i = j := by decide +kernel
def i0t : Nat → Int32 := fun k => if k = 2 then -1 else 0
def I0 : HI := fun c => if c = 0 then (fun k => if k = 14 then -1 else if k = 15 then -1 else 0) else if c = 72 then (fun k => if k = 10 then -1 else if k = 11 then -1 else 0) else if c = 74 then (upd (upd (upd (upd (fun _ => 0) (Int32.toNatClampNeg 0) (-1)) (Int32.toNatClampNeg 1) (-1)) (Int32.toNatClampNeg 2) (-1)) (Int32.toNatClampNeg 3) (-1)) else if c = 2 then i0t else if c = 4 then i0t else if c = 6 then i0t else if c = 8 then i0t else fun _ => 0
def J0f (f : Nat → Int64) : HJ := fun c => if c = 11 then (fun k => if k = 1 then 1 else 0) else if c = 72 then (fun k => if k = 3 then 1 else 0) else if c = 37 then f else if c = 40 then vp_updL (fun _ => 0) (Int32.toNatClampNeg 0) 1 else fun _ => 0
def N0 : NT := ((0, 0, 0), ((fun _ => 0), (fun _ => 0), (fun _ => 0), (fun _ => 0)), ((fun _ => 0), (fun _ => 0), (fun _ => 0), (fun _ => 0)), fun _ => 0)
theorem inv0 (f : Nat → Int64) (hf : ∀ i, i < 13 → f i = lN (wds.getD i 0)) : Inv I0 (J0f f) := by
  have nz : ∀ {a : Nat} {P : Prop}, a < 0 → P := fun h => absurd h (Nat.not_lt_zero _)
  refine ⟨N0, ⟨?_, ?_, ?_, ?_, ?_, ?_, ⟨rfl, rfl⟩, ?_, ?_⟩, rfl, rfl, rfl⟩
  · exact ⟨by decide, by decide, by decide, fun t h => nz h, fun t h => nz h, fun v _ => Nat.zero_le _⟩
  · exact ⟨⟨rfl, rfl, rfl⟩, fun t h => nz h, fun t h => nz h, fun v _ => (show (0 : Int32) = nI 0 from nI_0.symm)⟩
  · exact ⟨⟨rfl, rfl⟩, fun t h => nz h, fun t h => nz h, fun v _ => (show (0 : Int32) = nI 0 from nI_0.symm)⟩
  · intro lot h
    have : lot = 0 := by
      have h : lot < 1 := h
      omega
    subst this
    rfl
  · intro k hk
    match k, hk with
    | 0, _ => exact ⟨rfl, rfl, ⟨0, by decide, rfl⟩, Or.inl rfl⟩
    | 1, _ => exact ⟨rfl, rfl, ⟨0, by decide, rfl⟩, Or.inl rfl⟩
    | 2, _ => exact ⟨rfl, rfl, ⟨0, by decide, rfl⟩, Or.inl rfl⟩
    | 3, _ => exact ⟨rfl, rfl, ⟨0, by decide, rfl⟩, Or.inl rfl⟩
  · exact ⟨0, by decide, rfl, rfl, fun t h => nz h⟩
  · exact ⟨0, by decide, rfl, rfl, fun t h => nz h⟩
  · intro i hi
    exact hf i hi
theorem arrV_eq {cA : ClassId} {N : Nat} {f f' : Nat → Value} (h : ∀ j, j < N → f j = f' j) : arrV cA N f = arrV cA N f' := by
  unfold arrV
  congr 2
  funext j
  exact h j.1 j.2
