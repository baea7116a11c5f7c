/-! ===== a job is moved ===== -/
def mvF (p : Pl) (a : Int) : Nat → Pl
  | 0 => p
  | k + 1 => pSwap (mvF p a k) (a + k) (a + k + 1)
def mvG (p : Pl) (a : Int) : Nat → Pl
  | 0 => p
  | k + 1 => pSwap (mvG p a k) (a - k) (a - k - 1)
def mv (p : Pl) (j to : Int) : Pl := mvG (mvF p j (to - j).toNat) j (j - to).toNat
section MVs
variable {ρ : Rf} {μ μ0 : Mem} {σ : Sg} {p q : Pl}
theorem mvF_ok (ho : OKP p) {a : Int} (a0 : 0 ≤ a) : ∀ k : Nat, a + k < p 87 → OKP (mvF p a k) ∧ FEq p (mvF p a k) ∧ mvF p a k 87 = p 87 := by
  intro k
  induction k with
  | zero => intro _; exact ⟨ho, fun _ _ => rfl, rfl⟩
  | succ k ih =>
    intro h
    obtain ⟨b1, b2, b3⟩ := ih (by omega)
    refine ⟨swap_OKP b1 (by omega) (by omega) (by omega), fun x hx => ?_, ?_⟩
    · exact (swap_FEq (p := mvF p a k) (a := a + k) (b := a + k + 1) (by omega) (by omega) x hx).trans (b2 x hx)
    · exact (swap_o (by omega) (by omega) (by omega)).trans b3
theorem mvG_ok (ho : OKP p) {a : Int} (a1 : a < p 87) : ∀ k : Nat, 0 ≤ a - k → OKP (mvG p a k) ∧ FEq p (mvG p a k) ∧ mvG p a k 87 = p 87 := by
  intro k
  induction k with
  | zero => intro _; exact ⟨ho, fun _ _ => rfl, rfl⟩
  | succ k ih =>
    intro h
    obtain ⟨b1, b2, b3⟩ := ih (by omega)
    refine ⟨swap_OKP b1 (by omega) (by omega) (by omega), fun x hx => ?_, ?_⟩
    · exact (swap_FEq (p := mvG p a k) (a := a - k) (b := a - k - 1) (by omega) (by omega) x hx).trans (b2 x hx)
    · exact (swap_o (by omega) (by omega) (by omega)).trans b3
theorem mv_ok (ho : OKP p) {j to : Int} (hj : 0 ≤ j ∧ j < p 87) (ht : 0 ≤ to ∧ to < p 87) : OKP (mv p j to) ∧ FEq p (mv p j to) := by
  obtain ⟨a1, a2, a3⟩ := mvF_ok ho hj.1 (to - j).toNat (by omega)
  obtain ⟨b1, b2, b3⟩ := mvG_ok a1 (a := j) (by omega) (j - to).toNat (by omega)
  exact ⟨b1, fun k hk => (b2 k hk).trans (a2 k hk)⟩
end MVs
