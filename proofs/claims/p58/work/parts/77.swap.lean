/-! ===== the best swap: the reference; the best trolley ===== -/
section MX
variable {ρ : Rf} {μ μ0 : Mem} {p : Pl} {σ : Sg}
/-! ### the best trolley of a job -/
def btT (p : Pl) (j : Int) (i : Nat) : Int := if (i : Int) ≠ p (88 + 5 * j + 0) ∧ 8 ≤ cnt p i then -5 else tot (u1 p (88 + 5 * j + 0) i)
def btr2 (p : Pl) (j : Int) : Int := fa (-1) (-1) (btT p j) (fun k => (k : Int)) (p 61).toNat
theorem fm_b {a : Int} {T : Nat → Int} : ∀ k, a ≤ fm a T k := by
  intro k
  induction k with
  | zero => exact Int.le_refl _
  | succ k ih =>
    show a ≤ if _ then _ else _
    split <;> omega
theorem SP_by {μ : Mem} {s : Nat} {q : Pl} {j i : Int} (h : SP μ s q) (hn : q 87 ≤ 20) (hj : 0 ≤ j ∧ j < q 87) : SP (up2 μ (s + 1) j i) s (u1 q (88 + 5 * j + 0) i) := by
  have e : ∀ k, k ≠ 88 + 5 * j + 0 → u1 q (88 + 5 * j + 0) i k = q k := fun k h => u1_n h
  refine ⟨fun x x0 x1 => ?_, fun t t0 t1 => ?_, fun k k0 k1 => ?_, ?_⟩
  · rw [e _ (by omega)] at x1
    have a := h.j x0 x1
    rw [e (88 + 5 * x + 1) (by omega), e (88 + 5 * x + 2) (by omega), e (88 + 5 * x + 3) (by omega), e (88 + 5 * x + 4) (by omega), up2_c (a := s + 2) (by omega), up2_c (a := s + 3) (by omega), up2_c (a := s + 4) (by omega), up2_u]
    by_cases q : x = j
    · rw [q, u1_s, u1_s]
      rw [q] at a
      exact ⟨rfl, a.2⟩
    · rw [u1_n q, e _ (by omega)]
      exact a
  · rw [up2_c (by omega), e _ (by omega)]; exact h.t t0 t1
  · rw [up2_c (by omega), e _ (by omega)]; exact h.k k0 k1
  · rw [up2_c (by omega), e _ (by omega)]; exact h.n
end MX
