/-! ===== the fresh state ===== -/
def sg0 : Sg := fun a k => if a = 0 ∧ k = 2 then -1 else 0
theorem sg0_SI : SI sg0 := by
  refine ⟨by decide, by decide, Or.inl rfl, Or.inl rfl, by decide, by decide, fun k => ?_, fun k _ => rfl, fun h => absurd h (by decide)⟩
  have : sg0 1 k = 0 := if_neg (fun h => by omega)
  omega
def mem0 : Mem := up2 (fun _ _ => 0) 1 (4 : Nat) (-1)
theorem sg0_CI {ρ : Rf} (h1 : ρ 0 8 = 155) (h2 : ρ 0 9 = 171) (h3 : ρ 1 5 = 4) (h4 : ρ 1 6 = 20) (h5 : ∀ j : Nat, j < 10 → ρ 70 (j : Nat) = 71 + 7 * j) : CI ρ mem0 sg0 := by
  have h5' : ∀ i : Int, 0 ≤ i → i < 10 → ρ 70 i = 71 + 7 * i.toNat := fun i i0 i1 => by
    have := h5 i.toNat (by omega)
    rwa [show ((i.toNat : Nat) : Int) = i by omega] at this
  refine ⟨Or.inl ⟨h1, h2, h3, h4⟩, ⟨fun i i0 i1 => ?_, fun i j i0 i1 j0 j1 hij => ?_⟩, by decide, fun k k0 k1 => ?_, by decide, by decide, by decide, by decide, by decide, fun h => absurd h (by decide)⟩
  · have e := h5' i i0 i1
    refine ⟨?_, by omega, by omega⟩
    obtain h | h | h | h | h | h | h | h | h | h : i = 0 ∨ i = 1 ∨ i = 2 ∨ i = 3 ∨ i = 4 ∨ i = 5 ∨ i = 6 ∨ i = 7 ∨ i = 8 ∨ i = 9 := by omega
    all_goals (subst h; rw [e]; rfl)
  · have a := h5' i i0 i1
    have b := h5' j j0 j1
    omega
  · have e : sg0 0 0 = 0 := by decide
    rw [e] at k1
    omega
theorem SH_eq : SH = (7, 0) :: al7 := by rfl
