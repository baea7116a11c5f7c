/-! ===== the class: meals carried, joint shares ===== -/
theorem shI_b {n b : Int} (hn : 1 ≤ n) : ∀ (k : Nat) (f : Fp) (x : Int), (∀ j, 0 ≤ j → j < n → 0 ≤ f.1 j ∧ f.1 j ≤ b + x) → ∀ j, 0 ≤ j → j < n → 0 ≤ (shI n k f).1 j ∧ (shI n k f).1 j ≤ b + x + k := by
  intro k
  induction k with
  | zero => intro f x h j j0 j1; have := h j j0 j1; show 0 ≤ f.1 j ∧ f.1 j ≤ b + x + ((0 : Nat) : Int); omega
  | succ k ih =>
    intro f x h j j0 j1
    have lb := lrg_s (r := f.2) hn
    have q := h _ lb.1 lb.2.1
    have := ih (shS n f) (x + 1) (fun i i0 i1 => by
      have r := h i i0 i1
      unfold shS u1
      dsimp only
      split <;> omega) j j0 j1
    show 0 ≤ (shI n k (shS n f)).1 j ∧ (shI n k (shS n f)).1 j ≤ b + x + ((k + 1 : Nat) : Int)
    omega
theorem lSh_b {n a : Int} {cl : Int → Int} (hn : 1 ≤ n ∧ n ≤ 10) (ha : 0 ≤ a ∧ a ≤ 19800) (hc : ∀ j, 0 ≤ j → j < n → 0 ≤ cl j ∧ cl j ≤ 396) : ∀ j, 0 ≤ j → j < n → 0 ≤ lSh n cl a j ∧ lSh n cl a j ≤ 30000 := fun j j0 j1 => by
  unfold lSh
  split
  · have := hc j j0 j1; omega
  · have qb := q0_b (b := 396) (by omega) ha.1 (by omega) hc
    have ss := s_Ib (f := (q0 n cl a).1) (n := n) (b := 396) (by omega) (fun j j0 j1 => by have := qb j j0 j1; omega)
    have := shI_b (b := 396) hn.1 (a - s_I (q0 n cl a).1 n).toNat (q0 n cl a) 0 (fun j j0 j1 => by have := qb j j0 j1; omega) j j0 j1
    omega
section CY
variable {ρ : Rf} {μ : Mem} {σ : Sg}
def cJo (p : Pl) (m : Int) : Int → Int := fun k => if k < p (4 + 0) then dem p 0 k m else dem p 1 (k - p (4 + 0)) m
def jSh (p : Pl) (u : Int → Int) (t c m : Int) : Int := lSh (p (4 + 0) + p (4 + 1)) (cJo p m) (dlT p u 0 m + dlT p u 1 m) (if t = 0 then c else p (4 + 0) + c)
end CY
