/-! ===== best sets and their orders: the reference ===== -/
def RS (μ0 μ' : Mem) : Prop := (∀ a, a ≠ 178 → (a < 205 ∨ 207 < a) → μ' a = μ0 a) ∧ ∀ k, k ≠ 47 → k ≠ 48 → k ≠ 49 → μ' 178 k = μ0 178 k
theorem RS.refl {μ : Mem} : RS μ μ := ⟨fun _ _ _ => rfl, fun _ _ _ _ => rfl⟩
theorem RS.trans {μ0 μ1 μ2 : Mem} (h1 : RS μ0 μ1) (h2 : RS μ1 μ2) : RS μ0 μ2 := ⟨fun a x y => (h2.1 a x y).trans (h1.1 a x y), fun k x y z => (h2.2 k x y z).trans (h1.2 k x y z)⟩
theorem RS.c {μ0 μ1 : Mem} {c : Nat} {k v : Int} (h : RS μ0 μ1) (hc : 205 ≤ c ∧ c ≤ 207) : RS μ0 (up2 μ1 c k v) := ⟨fun a x y => (up2_c (by omega)).trans (h.1 a x y), fun k x y z => by rw [up2_c (by omega)]; exact h.2 k x y z⟩
theorem RS.k {μ0 μ1 : Mem} {k v : Int} (h : RS μ0 μ1) (hk : k = 47 ∨ k = 48 ∨ k = 49) : RS μ0 (up2 μ1 178 k v) := ⟨fun a x y => (up2_c x).trans (h.1 a x y), fun j x y z => by rw [up2_k (by omega)]; exact h.2 j x y z⟩
theorem RS.ff {μ0 μ1 μ : Mem} (h : RS μ0 μ1) (hf : FR 178 207 μ μ0) : FR 178 207 μ μ1 := fun a ha => (h.1 a (by omega) (by omega)).trans (hf a ha)
/-- the own jobs as the reference holds them -/
def MOW (μ : Mem) (p : Pl) (i : Int) : Prop := μ 178 47 = cnt p i ∧ ∀ k, 0 ≤ k → k < cnt p i → μ 205 k = ow p i k
def ECl (p : Pl) (i v : Int) (s : Nat) (c : Int) (f : Nat → Int) (n : Nat) : Prop :=
  0 ≤ c ∧ c ≤ FA ∧ (∀ k, k < n → s.testBit k = true → c ≤ oEnd p v (ow p i k) (f (s ^^^ 2 ^ k))) ∧ (c = FA ∨ ∃ k, k < n ∧ s.testBit k = true ∧ c = oEnd p v (ow p i k) (f (s ^^^ 2 ^ k)))
section MSo
variable {ρ : Rf} {μ μ0 : Mem} {p : Pl}
end MSo
