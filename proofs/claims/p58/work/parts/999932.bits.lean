/-! ===== how many jobs a set has ===== -/
def bc1 (x : Int) : Int := x - (and32 (ushr32 x 1) 1431655765)
def bc2 (x : Int) : Int := (and32 (bc1 x) 858993459) + (and32 (ushr32 (bc1 x) 2) 858993459)
def bc3 (x : Int) : Int := and32 ((bc2 x) + (ushr32 (bc2 x) 4)) 252645135
def bc4 (x : Int) : Int := (bc3 x) + (ushr32 (bc3 x) 8)
def bc5 (x : Int) : Int := (bc4 x) + (ushr32 (bc4 x) 16)
theorem bc_tab : ∀ n, n < 256 → (0 ≤ bc1 (n : Nat) ∧ bc1 (n : Nat) ≤ 100000) ∧ (0 ≤ bc2 (n : Nat) ∧ bc2 (n : Nat) ≤ 100000) ∧ (0 ≤ bc2 (n : Nat) + ushr32 (bc2 (n : Nat)) 4 ∧ bc2 (n : Nat) + ushr32 (bc2 (n : Nat)) 4 ≤ 100000) ∧ (0 ≤ bc4 (n : Nat) ∧ bc4 (n : Nat) ≤ 100000) ∧ (0 ≤ bc5 (n : Nat) ∧ bc5 (n : Nat) ≤ 100000) ∧ and32 (bc5 (n : Nat)) 63 = (pc8 n : Nat) := by decide +kernel
theorem h_bitCount {ρ : Rf} {μ : Mem} {X : List Sh} {n : Nat} (hn : n < 256) : qE mJ6_bitCount_0f7a4 (GX X) (GX X) [qI (n : Int)] ρ μ (fun z ρ' μ' => z = (pc8 n : Int) ∧ ρ' = ρ ∧ μ' = μ) := by
  obtain ⟨h1, h2, h3, h4, h5, h6⟩ := bc_tab n hn
  have r : ∀ {x : Int}, 0 ≤ x ∧ x ≤ 100000 → i32 x := fun h => by unfold i32; omega
  exact e_J6_bitCount_0f7a4 ⟨r h1, r h2, r h3, r h4, r h5, h6, rfl, rfl⟩
