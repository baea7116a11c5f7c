/-! ===== the reference: the question of joint shares; parts of demands ===== -/
section MW
variable {ρ : Rf} {μ : Mem} {σ : Sg} {p : Pl}
/-! ### coverage -/
def cvA (p : Pl) (u : Int → Int) (t m : Int) : Int := if dmT p t m = 0 then 1 else min (dmT p t m) (dlT p u t m)
def cvB (p : Pl) (t m : Int) : Int := max 1 (dmT p t m)
def cvG (p : Pl) (u : Int → Int) (t m : Int) : Int := (Int.gcd (cvA p u t m) (cvB p t m) : Int)
theorem cv_b (hv : PV p) {u : Int → Int} (ub : UB p u) {t m : Int} (ht : 0 ≤ t ∧ t < 2) (hm : 0 ≤ m ∧ m < p 36) : 0 ≤ cvA p u t m ∧ cvA p u t m ≤ cvB p t m ∧ 1 ≤ cvB p t m ∧ cvB p t m ≤ 1980 ∧ 1 ≤ cvG p u t m ∧ cvG p u t m ≤ 1980 ∧ cvA p u t m = cvG p u t m * (cvA p u t m / cvG p u t m) ∧ cvB p t m = cvG p u t m * (cvB p t m / cvG p u t m) ∧ 0 ≤ cvA p u t m / cvG p u t m ∧ cvA p u t m / cvG p u t m ≤ 1980 ∧ 1 ≤ cvB p t m / cvG p u t m ∧ cvB p t m / cvG p u t m ≤ 1980 := by
  have n := hv.n
  have tt := hv.t ht.1 ht.2
  have d := dmT_b hv ht.1 ht.2 hm.1 hm.2
  have l := dlT_b (p := p) (u := u) (t := t) (m := m) (by omega) (by omega) ub
  have a : 0 ≤ cvA p u t m ∧ cvA p u t m ≤ cvB p t m ∧ 1 ≤ cvB p t m ∧ cvB p t m ≤ 1980 := by
    unfold cvA cvB
    split <;> omega
  have g1 : (cvG p u t m) ∣ cvB p t m := Int.gcd_dvd_right ..
  have g2 : (cvG p u t m) ∣ cvA p u t m := Int.gcd_dvd_left ..
  have g0 : 0 ≤ cvG p u t m := by unfold cvG; exact Int.natCast_nonneg _
  have g3 : cvG p u t m ≠ 0 := fun e => by
    rw [e] at g1
    have := Int.zero_dvd.mp g1
    omega
  have g4 := Int.le_of_dvd (by omega) g1
  have e1 := Int.mul_ediv_cancel' g2
  have e2 := Int.mul_ediv_cancel' g1
  have q1 := Int.ediv_nonneg (a := cvA p u t m) (b := cvG p u t m) a.1 g0
  have q2 := Int.ediv_le_self (a := cvA p u t m) (cvG p u t m) a.1
  have q3 := Int.ediv_nonneg (a := cvB p t m) (b := cvG p u t m) (by omega) g0
  have q4 := Int.ediv_le_self (a := cvB p t m) (cvG p u t m) (by omega)
  have q5 : cvB p t m / cvG p u t m ≠ 0 := fun e => by rw [e, Int.mul_zero] at e2; omega
  omega
theorem hal {d r : Int} (h0 : 1 ≤ r) (h1 : r ≤ d) : 0 ≤ d % r ∧ d % r < r ∧ 2 * (r * (d % r)) ≤ d * r := by
  have a := Int.emod_nonneg d (show r ≠ 0 by omega)
  have b := Int.emod_lt_of_pos d (show 0 < r by omega)
  have c := Int.mul_ediv_add_emod d r
  have q : 1 ≤ d / r := Int.le_ediv_of_mul_le (by omega) (by omega)
  have e : r * 1 ≤ r * (d / r) := Int.mul_le_mul_of_nonneg_left q (by omega)
  have f : 2 * (d % r) ≤ d := by omega
  have g : r * (2 * (d % r)) ≤ r * d := Int.mul_le_mul_of_nonneg_left f (by omega)
  refine ⟨a, b, ?_⟩
  rw [Int.mul_comm d r]
  have e2 : r * (2 * (d % r)) = 2 * (r * (d % r)) := by rw [Int.mul_left_comm]
  omega
theorem gcd_st {d r : Int} (h0 : 0 ≤ d) (h1 : 0 ≤ r) : Int.gcd r (d % r) = Int.gcd d r := by
  obtain ⟨a, rfl⟩ := Int.eq_ofNat_of_zero_le h0
  obtain ⟨b, rfl⟩ := Int.eq_ofNat_of_zero_le h1
  rw [← Int.natCast_emod]
  show Nat.gcd b (a % b) = Nat.gcd a b
  rw [Nat.gcd_comm b, ← Nat.gcd_rec, Nat.gcd_comm]
theorem gcd_e {d : Int} (h : 0 ≤ d) : (Int.gcd d 0 : Int) = d := by
  rw [Int.gcd_zero_right]
  omega
/-- the smaller of two parts: crosswise, in lowest terms or not -/
theorem crs {g h a b c d : Int} (hg : 1 ≤ g) (hh : 1 ≤ h) : ((g * a) * (h * d) < (h * c) * (g * b) ↔ a * d < c * b) ∧ ((g * a) * (h * d) = (h * c) * (g * b) ↔ a * d = c * b) := by
  have e1 : (g * a) * (h * d) = (g * h) * (a * d) := by ac_rfl
  have e2 : (h * c) * (g * b) = (g * h) * (c * b) := by ac_rfl
  have p : 0 < g * h := Int.mul_pos (by omega) (by omega)
  rw [e1, e2]
  refine ⟨⟨fun q => Int.lt_of_mul_lt_mul_left q (by omega), fun q => Int.mul_lt_mul_of_pos_left q p⟩, ⟨fun q => Int.eq_of_mul_eq_mul_left (by omega) q, fun q => by rw [q]⟩⟩
theorem k_commonDivisor {a b : Int} (ha : 0 ≤ a ∧ a ≤ b) (hb : 1 ≤ b ∧ b ≤ 1980) : qE mX7_commonDivisor GG GG [qI a, qI b] ρ μ (fun (z : Int) (ρ' : Rf) (μ' : Mem) => z = (Int.gcd a b : Int) ∧ ρ' = ρ ∧ μ' = μ) := by
  have L : ∀ (k : Nat) (d r s : Int), 0 ≤ r → r ≤ d → 0 < d → d * r < (2 : Int) ^ k → s + k + 1 ≤ 64 → 0 ≤ s → Int.gcd d r = Int.gcd a b → qX mX7_commonDivisor GG (fun (z : Int) (ρ' : Rf) (μ' : Mem) => z = (Int.gcd a b : Int) ∧ ρ' = ρ ∧ μ' = μ) GG (0, 0) 7 [none, none, some (qI d), some (qI r), some (qI s), none] [] ρ μ := by
    intro k
    induction k with
    | zero =>
      intro d r s h0 h1 h2 h3 h4 h5 hg
      have r0 : r = 0 := by
        by_cases e : r = 0
        · exact e
        · have := Int.mul_pos h2 (show 0 < r by omega)
          rw [Int.pow_zero] at h3
          omega
      subst r0
      have e := gcd_e (show 0 ≤ d by omega)
      refine w_X7_commonDivisor_7 ?_
      refine ⟨fun hc1 => ?_, fun hc1 => ?_⟩
      · omega
      · refine ⟨fun hc3 => ?_, fun hc3 => ?_⟩
        · exact ⟨by rw [← hg, e], rfl, rfl⟩
        · refine ⟨(by omega), ?_⟩
          refine ⟨(by unfold i32; omega), ?_⟩
          omega
    | succ k ih =>
      intro d r s h0 h1 h2 h3 h4 h5 hg
      refine w_X7_commonDivisor_7 ?_
      refine ⟨fun hc1 => ?_, fun hc1 => ?_⟩
      · omega
      · refine ⟨fun hc3 => ?_, fun hc3 => ?_⟩
        · exact ⟨by rw [← hg, hc3, gcd_e (by omega)], rfl, rfl⟩
        · refine ⟨(by omega), ?_⟩
          refine ⟨(by unfold i32; omega), ?_⟩
          have q := hal (d := d) (r := r) (by omega) h1
          refine ih r (d % r) (s + 1) q.1 (by omega) (by omega) ?_ (by omega) (by omega) (by rw [gcd_st (by omega) (by omega)]; exact hg)
          rw [Int.pow_succ] at h3
          omega
  have p22 : (2 : Int) ^ 22 = 4194304 := by decide
  have h7 : qX mX7_commonDivisor GG (fun (z : Int) (ρ' : Rf) (μ' : Mem) => z = (Int.gcd a b : Int) ∧ ρ' = ρ ∧ μ' = μ) GG (0, 0) 7 [none, none, some (qI a), some (qI b), some (qI 0), none] [] ρ μ := by
    by_cases e : a = b
    · subst e
      have m := mulb (a := a) (b := a) (A := 1980) (B := 1980) (by omega) (by omega) (by omega) (by omega)
      exact L 22 a a 0 (by omega) (by omega) (by omega) (by rw [p22]; omega) (by omega) (by omega) rfl
    · have m := Int.emod_nonneg a (show b ≠ 0 by omega)
      have m2 := Int.emod_lt_of_pos a (show 0 < b by omega)
      have m3 := mulb (a := b) (b := a % b) (A := 1980) (B := 1980) (by omega) (by omega) (by omega) (by omega)
      refine w_X7_commonDivisor_7 ?_
      refine ⟨fun hc1 => ?_, fun hc1 => ?_⟩
      · omega
      · refine ⟨fun hc3 => ?_, fun hc3 => ?_⟩
        · omega
        · refine ⟨(by omega), ?_⟩
          refine ⟨(by unfold i32; omega), ?_⟩
          exact L 22 b (a % b) (0 + 1) (by omega) (by omega) (by omega) (by rw [p22]; omega) (by omega) (by omega) (gcd_st (by omega) (by omega))
  refine e_X7_commonDivisor ?_
  exact h7
end MW
