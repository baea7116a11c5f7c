/-! ===== the reference: questions of coverage =====  -/
section CW
variable {ρ : Rf} {μ : Mem} {σ : Sg} {p : Pl}
theorem FR.cv {a b : Int} {μ0 : Mem} (h : FR 178 207 μ0 μ) : FR 178 207 μ0 (cvM μ a b) := FR.up (FR.up h (by omega)) (by omega)
theorem cvM_c {a b : Int} {c : Nat} (h : c ≠ 178) : cvM μ a b c = μ c := by
  unfold cvM
  rw [up2_c h, up2_c h]
theorem cvM_42 {a b : Int} : cvM μ a b 178 42 = a := by unfold cvM; rw [up2_k (by decide), up2_s]
theorem cvM_43 {a b : Int} : cvM μ a b 178 43 = b := up2_s
/-- lowest terms that are not below one are one -/
theorem one_e (hv : PV p) {u : Int → Int} (ub : UB p u) {t m : Int} (ht : 0 ≤ t ∧ t < 2) (hm : 0 ≤ m ∧ m < p 36) (h : ¬ cvA p u t m / cvG p u t m * 1 < 1 * (cvB p t m / cvG p u t m)) : cvA p u t m / cvG p u t m = 1 ∧ cvB p t m / cvG p u t m = 1 := by
  have b := cv_b hv ub ht hm
  have e : cvA p u t m = cvB p t m := by
    have q : cvG p u t m * (cvB p t m / cvG p u t m) ≤ cvG p u t m * (cvA p u t m / cvG p u t m) := Int.mul_le_mul_of_nonneg_left (by omega) (by omega)
    omega
  have g : cvG p u t m = cvB p t m := by
    unfold cvG
    rw [e, Int.gcd_self]
    omega
  rw [e, g]
  have := Int.ediv_self (a := cvB p t m) (by omega)
  exact ⟨this, this⟩
end CW
