/-! ===== the reference: joint shares ===== -/
section MZ
variable {ρ : Rf} {μ : Mem} {σ : Sg} {p : Pl}
theorem due_e (hv : PV p) {m : Int} : dmT p 0 m + dmT p 1 m = s_I (cJo p m) (p (4 + 0) + p (4 + 1)) := by
  have t0 := hv.t (t := 0) (by omega) (by omega)
  have t1 := hv.t (t := 1) (by omega) (by omega)
  rw [s_Iadd (by omega) (by omega)]
  unfold dmT
  congr 1
  · refine s_Ic (by omega) (fun c c0 c1 => ?_)
    unfold cJo
    rw [if_pos c1]
  · refine s_Ic (by omega) (fun c c0 c1 => ?_)
    unfold cJo
    rw [if_neg (by omega), show p (4 + 0) + c - p (4 + 0) = c by omega]
/-- a sum over the ten places is one over the cars -/
theorem s_10 (hv : PV p) {g F : Int → Int} (h : ∀ k, 0 ≤ k → k < 10 → (isS p k → g k = F (cmpS p k)) ∧ (¬ isS p k → g k = 0)) : s_I g 10 = s_I F (p (4 + 0) + p (4 + 1)) := by
  have t0 := hv.t (t := 0) (by omega) (by omega)
  have t1 := hv.t (t := 1) (by omega) (by omega)
  have i0 : ∀ k, 0 ≤ k → k < 5 → (isS p k ↔ k < p (4 + 0)) := fun k k0 k1 => by
    unfold isS
    rw [show k / 5 = 0 by omega]
    omega
  have i1 : ∀ k, 0 ≤ k → k < 5 → (isS p (5 + k) ↔ k < p (4 + 1)) := fun k k0 k1 => by
    unfold isS
    rw [show (5 + k) / 5 = 1 by omega]
    omega
  have e10 : s_I g 10 = s_I g (5 + 5) := rfl
  rw [e10, s_Iadd (by omega) (by omega), s_Iadd (a := p (4 + 0)) (by omega) (by omega)]
  congr 1
  · rw [s_Ix (n := p (4 + 0)) (by omega) (by omega) (fun k k0 k1 => (h k (by omega) (by omega)).2 (fun q => by have := (i0 k (by omega) k1).mp q; omega))]
    refine s_Ic (by omega) (fun k k0 k1 => ?_)
    rw [(h k k0 (by omega)).1 ((i0 k k0 (by omega)).mpr k1)]
    unfold cmpS
    rw [if_pos (by omega)]
  · rw [s_Ix (f := fun k => g (5 + k)) (n := p (4 + 1)) (by omega) (by omega) (fun k k0 k1 => (h (5 + k) (by omega) (by omega)).2 (fun q => by have := (i1 k (by omega) k1).mp q; omega))]
    refine s_Ic (by omega) (fun k k0 k1 => ?_)
    rw [(h (5 + k) (by omega) (by omega)).1 ((i1 k k0 (by omega)).mpr k1)]
    unfold cmpS
    rw [if_neg (by omega), show p (4 + 0) + (5 + k - 5) = p (4 + 0) + k by omega]
end MZ
