/-! ===== coverage: the class and the reference ===== -/
section CV
variable {ρ : Rf} {μ : Mem} {σ : Sg} {p : Pl}
def cov (p : Pl) (u : Int → Int) (t m d : Int) : Int := if d = 0 then cvA p u t m / cvG p u t m else cvB p t m / cvG p u t m
def lcN (p : Pl) (u : Int → Int) (t : Int) : Nat → Int
  | 0 => 0
  | k + 1 => if cvA p u t (k : Int) * cvB p t (lcN p u t k) < cvA p u t (lcN p u t k) * cvB p t (k : Int) then (k : Int) else lcN p u t k
def btr (p : Pl) (u : Int → Int) (m : Int) : Int := if cvA p u 0 m * cvB p 1 m = cvA p u 1 m * cvB p 0 m then -1 else if cvA p u 1 m * cvB p 0 m < cvA p u 0 m * cvB p 1 m then 0 else 1
theorem cvA_c {u u' : Int → Int} {t m : Int} (hn : 0 ≤ p 87) (ht : 0 ≤ p (4 + t)) (h : ∀ j, 0 ≤ j → j < p 87 → u j = u' j) : cvA p u t m = cvA p u' t m := by
  unfold cvA
  rw [dlT_c hn ht h]
theorem lcN_c {u u' : Int → Int} {t : Int} (hn : 0 ≤ p 87) (ht : 0 ≤ p (4 + t)) (h : ∀ j, 0 ≤ j → j < p 87 → u j = u' j) : ∀ k, lcN p u t k = lcN p u' t k := by
  intro k
  induction k with
  | zero => rfl
  | succ k ih =>
    show (if _ then _ else _) = (if _ then _ else _)
    rw [ih, cvA_c hn ht h, cvA_c (m := lcN p u' t k) hn ht h]
theorem lcN_b {u : Int → Int} {t : Int} : ∀ k : Nat, 0 ≤ lcN p u t k ∧ (0 < k → lcN p u t k < k) := by
  intro k
  induction k with
  | zero => exact ⟨Int.le_refl _, fun h => by omega⟩
  | succ k ih =>
    have e : lcN p u t (k + 1) = if cvA p u t (k : Int) * cvB p t (lcN p u t k) < cvA p u t (lcN p u t k) * cvB p t (k : Int) then (k : Int) else lcN p u t k := rfl
    rw [e]
    split
    · omega
    · by_cases hk : k = 0
      · subst hk
        have : lcN p u t 0 = 0 := rfl
        omega
      · have := ih.2 (by omega)
        omega
theorem k_covAbove {t m : Int} (h : CI ρ μ σ) (hS : SI σ) (hp : σ 0 4 = 1) (ht : 0 ≤ t ∧ t < 2) (hm : 0 ≤ m ∧ m < σ 2 36) : qE mX7_coverageAbove GG GG [qP 0, qI t, qI m] ρ μ (fun z ρ' μ' => z = cvA (σ 2) (μ 34) t m ∧ ρ' = ρ ∧ μ' = μ) := by
  refine e_X7_coverageAbove ?_
  refine ⟨_, k_wantedByTrain h hS hp ht hm, ?_⟩
  rintro z1 ρ2 μ3 ⟨hq1_1, hq1_2, hq1_3⟩
  obtain rfl := hq1_1.symm
  obtain rfl := hq1_2.symm
  obtain rfl := hq1_3.symm
  refine ⟨fun hc2 => ?_, fun hc2 => ?_⟩
  · refine ⟨_, k_handedToTrain h hS hp ht, ?_⟩
    rintro z5 ρ6 μ7 ⟨hq3_1, hq3_2, hq3_3⟩
    obtain rfl := hq3_1.symm
    obtain rfl := hq3_2.symm
    obtain rfl := hq3_3.symm
    exact ⟨by unfold cvA; rw [if_neg hc2], rfl, rfl⟩
  · exact ⟨by unfold cvA; rw [if_pos hc2], rfl, rfl⟩
theorem k_covBelow {t m : Int} (h : CI ρ μ σ) (hS : SI σ) (hp : σ 0 4 = 1) (ht : 0 ≤ t ∧ t < 2) (hm : 0 ≤ m ∧ m < σ 2 36) : qE mX7_coverageBelow GG GG [qP 0, qI t, qI m] ρ μ (fun z ρ' μ' => z = cvB (σ 2) t m ∧ ρ' = ρ ∧ μ' = μ) := by
  refine e_X7_coverageBelow ?_
  refine ⟨_, k_wantedByTrain h hS hp ht hm, ?_⟩
  rintro z1 ρ2 μ3 ⟨hq1_1, hq1_2, hq1_3⟩
  obtain rfl := hq1_1.symm
  obtain rfl := hq1_2.symm
  obtain rfl := hq1_3.symm
  exact ⟨rfl, rfl, rfl⟩
theorem k_lowestTerm {t m d : Int} (h : CI ρ μ σ) (hS : SI σ) (hp : σ 0 4 = 1) (ht : 0 ≤ t ∧ t < 2) (hm : 0 ≤ m ∧ m < σ 2 36) : qE mX7_lowestTerm GG GG [qP 0, qI t, qI m, qI d] ρ μ (fun z ρ' μ' => z = cov (σ 2) (μ 34) t m d ∧ ρ' = ρ ∧ μ' = μ) := by
  have hv := (h.pl hS hp).1
  have b := cv_b hv (h.ub hS hp).1 ht hm
  refine e_X7_lowestTerm ?_
  refine ⟨_, k_covAbove h hS hp (by omega) (by omega), ?_⟩
  rintro z1 ρ2 μ3 ⟨hq1_1, hq1_2, hq1_3⟩
  obtain rfl := hq1_1.symm
  obtain rfl := hq1_2.symm
  obtain rfl := hq1_3.symm
  refine ⟨_, k_covBelow h hS hp (by omega) (by omega), ?_⟩
  rintro z5 ρ6 μ7 ⟨hq2_1, hq2_2, hq2_3⟩
  obtain rfl := hq2_1.symm
  obtain rfl := hq2_2.symm
  obtain rfl := hq2_3.symm
  refine ⟨fun hc3 => ?_, fun hc3 => ?_⟩
  · refine ⟨_, k_commonDivisor (by omega) (by omega), ?_⟩
    rintro z9 ρ10 μ11 ⟨hq4_1, hq4_2, hq4_3⟩
    obtain rfl := hq4_1.symm
    obtain rfl := hq4_2.symm
    obtain rfl := hq4_3.symm
    refine ⟨_, k_wholeParts (by omega) b.2.2.2.2.1, ?_⟩
    rintro z13 ρ14 μ15 ⟨hq5_1, hq5_2, hq5_3⟩
    obtain rfl := hq5_1.symm
    obtain rfl := hq5_2.symm
    obtain rfl := hq5_3.symm
    exact ⟨by unfold cov; rw [if_pos hc3]; rfl, rfl, rfl⟩
  · refine ⟨_, k_commonDivisor (by omega) (by omega), ?_⟩
    rintro z17 ρ18 μ19 ⟨hq7_1, hq7_2, hq7_3⟩
    obtain rfl := hq7_1.symm
    obtain rfl := hq7_2.symm
    obtain rfl := hq7_3.symm
    refine ⟨_, k_wholeParts (by omega) b.2.2.2.2.1, ?_⟩
    rintro z21 ρ22 μ23 ⟨hq8_1, hq8_2, hq8_3⟩
    obtain rfl := hq8_1.symm
    obtain rfl := hq8_2.symm
    obtain rfl := hq8_3.symm
    exact ⟨by unfold cov; rw [if_neg hc3]; rfl, rfl, rfl⟩
theorem k_compareCov {t m s l : Int} (h : CI ρ μ σ) (hS : SI σ) (hp : σ 0 4 = 1) (ht : 0 ≤ t ∧ t < 2) (hm : 0 ≤ m ∧ m < σ 2 36) (hs : 0 ≤ s ∧ s < 2) (hl : 0 ≤ l ∧ l < σ 2 36) : qE mX7_compareCoverage GG GG [qP 0, qI t, qI m, qI s, qI l] ρ μ (fun z ρ' μ' => ((cvA (σ 2) (μ 34) t m * cvB (σ 2) s l < cvA (σ 2) (μ 34) s l * cvB (σ 2) t m ∧ z = -1) ∨ (cvA (σ 2) (μ 34) t m * cvB (σ 2) s l = cvA (σ 2) (μ 34) s l * cvB (σ 2) t m ∧ z = 0) ∨ (cvA (σ 2) (μ 34) s l * cvB (σ 2) t m < cvA (σ 2) (μ 34) t m * cvB (σ 2) s l ∧ z = 1)) ∧ ρ' = ρ ∧ μ' = μ) := by
  have hv := (h.pl hS hp).1
  have b := cv_b hv (h.ub hS hp).1 ht hm
  have c := cv_b hv (h.ub hS hp).1 hs hl
  have m1 := mulb (a := cvA (σ 2) (μ 34) t m) (b := cvB (σ 2) s l) (A := 1980) (B := 1980) (by omega) (by omega) (by omega) (by omega)
  have m2 := mulb (a := cvA (σ 2) (μ 34) s l) (b := cvB (σ 2) t m) (A := 1980) (B := 1980) (by omega) (by omega) (by omega) (by omega)
  refine e_X7_compareCoverage ?_
  refine ⟨_, k_covAbove h hS hp (by omega) (by omega), ?_⟩
  rintro z1 ρ2 μ3 ⟨hq1_1, hq1_2, hq1_3⟩
  obtain rfl := hq1_1.symm
  obtain rfl := hq1_2.symm
  obtain rfl := hq1_3.symm
  refine ⟨_, k_covBelow h hS hp (by omega) (by omega), ?_⟩
  rintro z5 ρ6 μ7 ⟨hq2_1, hq2_2, hq2_3⟩
  obtain rfl := hq2_1.symm
  obtain rfl := hq2_2.symm
  obtain rfl := hq2_3.symm
  refine ⟨(by unfold i32; omega), ?_⟩
  refine ⟨_, k_covAbove h hS hp (by omega) (by omega), ?_⟩
  rintro z9 ρ10 μ11 ⟨hq4_1, hq4_2, hq4_3⟩
  obtain rfl := hq4_1.symm
  obtain rfl := hq4_2.symm
  obtain rfl := hq4_3.symm
  refine ⟨_, k_covBelow h hS hp (by omega) (by omega), ?_⟩
  rintro z13 ρ14 μ15 ⟨hq5_1, hq5_2, hq5_3⟩
  obtain rfl := hq5_1.symm
  obtain rfl := hq5_2.symm
  obtain rfl := hq5_3.symm
  refine ⟨(by unfold i32; omega), ?_⟩
  refine ⟨_, k_compare, ?_⟩
  rintro z17 ρ18 μ19 ⟨hz, hq7_1, hq7_2⟩
  obtain rfl := hq7_1.symm
  obtain rfl := hq7_2.symm
  exact ⟨hz, rfl, rfl⟩
theorem c_coverage {t m d : Int} (h : CI ρ μ σ) (hS : SI σ) : qE mX7_coverage GG GG [qP 0, qI t, qI m, qI d] ρ μ (PC μ ρ (fun J => if σ 0 4 = 1 ∧ 0 ≤ t ∧ t < 2 ∧ 0 ≤ m ∧ m < σ 2 36 then cov (σ 2) (sGo (σ 2) (-1) (-1) J 199) t m d else -9223372036854775808) (sE σ (if σ 0 4 = 1 ∧ 0 ≤ t ∧ t < 2 ∧ 0 ≤ m ∧ m < σ 2 36 then 0 else 1))) := by
  refine e_X7_coverage ?_
  refine ⟨_, k_isTrain h hS, ?_⟩
  rintro z1 ρ2 μ3 ⟨hz, hq1_1, hq1_2⟩
  obtain rfl := hq1_1.symm
  obtain rfl := hq1_2.symm
  refine ⟨fun hc2 => ?_, fun hc2 => ?_⟩
  · refine ⟨_, k_failLong, ?_⟩
    rintro z5 ρ6 μ7 ⟨hq3_1, hq3_2, hq3_3⟩
    obtain rfl := hq3_1.symm
    obtain rfl := hq3_2.symm
    obtain rfl := hq3_3.symm
    exact pc_fin h hS FR.refl (fun J => (if_neg (by omega)).symm) (by rw [if_neg (by omega)])
  · refine ⟨_, k_isMeal h hS, ?_⟩
    rintro z9 ρ10 μ11 ⟨hy, hq5_1, hq5_2⟩
    obtain rfl := hq5_1.symm
    obtain rfl := hq5_2.symm
    refine ⟨fun hc6 => ?_, fun hc6 => ?_⟩
    · refine ⟨_, k_lowestTerm h hS (by omega) (by omega) (by omega), ?_⟩
      rintro z13 ρ14 μ15 ⟨hq7_1, hq7_2, hq7_3⟩
      obtain rfl := hq7_1.symm
      obtain rfl := hq7_2.symm
      obtain rfl := hq7_3.symm
      refine ⟨_, k_answerLong, ?_⟩
      rintro z17 ρ18 μ19 ⟨hq8_1, hq8_2, hq8_3⟩
      obtain rfl := hq8_1.symm
      obtain rfl := hq8_2.symm
      obtain rfl := hq8_3.symm
      have hv := (h.pl hS (by omega)).1
      have n := hv.n
      have tt := hv.t (t := t) (by omega) (by omega)
      refine pc_fin h hS FR.refl (fun J => ?_) (by rw [if_pos (by omega)])
      rw [if_pos (by omega)]
      unfold cov cvG
      rw [cvA_c (by omega) (by omega) ((h.ub hS (by omega)).2 J)]
    · refine ⟨_, k_failLong, ?_⟩
      rintro z21 ρ22 μ23 ⟨hq10_1, hq10_2, hq10_3⟩
      obtain rfl := hq10_1.symm
      obtain rfl := hq10_2.symm
      obtain rfl := hq10_3.symm
      exact pc_fin h hS FR.refl (fun J => (if_neg (by omega)).symm) (by rw [if_neg (by omega)])
theorem c_leastCoverage {t d : Int} (h : CI ρ μ σ) (hS : SI σ) : qE mX7_leastCoverage GG GG [qP 0, qI t, qI d] ρ μ (PC μ ρ (fun J => if σ 0 4 = 1 ∧ 0 ≤ t ∧ t < 2 then cov (σ 2) (sGo (σ 2) (-1) (-1) J 199) t (lcN (σ 2) (sGo (σ 2) (-1) (-1) J 199) t (σ 2 36).toNat) d else -9223372036854775808) (sE σ (if σ 0 4 = 1 ∧ 0 ≤ t ∧ t < 2 then 0 else 1))) := by
  have L : (σ 0 4 = 1 ∧ 0 ≤ t ∧ t < 2) → ∀ (k : Nat) (x : Nat), 10 - x < k → 1 ≤ x → (x : Int) ≤ σ 2 36 → qX mX7_leastCoverage GG (PC μ ρ (fun J => if σ 0 4 = 1 ∧ 0 ≤ t ∧ t < 2 then cov (σ 2) (sGo (σ 2) (-1) (-1) J 199) t (lcN (σ 2) (sGo (σ 2) (-1) (-1) J 199) t (σ 2 36).toNat) d else -9223372036854775808) (sE σ (if σ 0 4 = 1 ∧ 0 ≤ t ∧ t < 2 then 0 else 1))) GG (0, 0) 19 [some (qP 0), some (qI t), some (qI d), some (qI (lcN (σ 2) (μ 34) t x)), some (qI (x : Int))] [] ρ μ := by
    intro hi
    obtain ⟨hv, hf, hs, hr⟩ := h.pl hS hi.1
    have hp := hi.1
    have n := hv.n
    have tt := hv.t hi.2.1 hi.2.2
    intro k
    induction k with
    | zero => intro x h; omega
    | succ k ih =>
      intro x hk h0 h1
      have e1 : ((x : Int) + 1) = ((x + 1 : Nat) : Int) := by omega
      have lb := lcN_b (p := σ 2) (u := μ 34) (t := t) x
      have lb2 := lb.2 (by omega)
      have ef : lcN (σ 2) (μ 34) t (x + 1) = if cvA (σ 2) (μ 34) t (x : Int) * cvB (σ 2) t (lcN (σ 2) (μ 34) t x) < cvA (σ 2) (μ 34) t (lcN (σ 2) (μ 34) t x) * cvB (σ 2) t (x : Int) then (x : Int) else lcN (σ 2) (μ 34) t x := rfl
      refine w_X7_leastCoverage_19 ?_
      refine ⟨(by exact h.1.f), ?_⟩
      rw [hf.n.1]
      refine ⟨fun hc2 => ?_, fun hc2 => ?_⟩
      · refine ⟨_, k_lowestTerm h hS hp (by omega) (by omega), ?_⟩
        rintro z2 ρ3 μ4 ⟨hq3_1, hq3_2, hq3_3⟩
        obtain rfl := hq3_1.symm
        obtain rfl := hq3_2.symm
        obtain rfl := hq3_3.symm
        refine ⟨_, k_answerLong, ?_⟩
        rintro z6 ρ7 μ8 ⟨hq4_1, hq4_2, hq4_3⟩
        obtain rfl := hq4_1.symm
        obtain rfl := hq4_2.symm
        obtain rfl := hq4_3.symm
        refine pc_fin h hS FR.refl (fun J => ?_) (by rw [if_pos hi])
        have uj := (h.ub hS hp).2 J
        rw [if_pos hi, show (σ 2 36).toNat = x by omega, lcN_c (by omega) (by omega) uj]
        unfold cov cvG
        rw [cvA_c (by omega) (by omega) uj]
      · refine ⟨_, k_compareCov h hS hp (by omega) (by omega) (by omega) (by omega), ?_⟩
        rintro z10 ρ11 μ12 ⟨hz, hq6_1, hq6_2⟩
        obtain rfl := hq6_1.symm
        obtain rfl := hq6_2.symm
        refine ⟨fun hc7 => ?_, fun hc7 => ?_⟩
        · refine ⟨(by unfold i32; omega), ?_⟩
          rw [if_neg (by omega)] at ef
          rw [e1, ← ef]
          exact ih _ (by omega) (by omega) (by omega)
        · refine ⟨(by unfold i32; omega), ?_⟩
          rw [if_pos (by omega)] at ef
          have := ih (x + 1) (by omega) (by omega) (by omega)
          rw [ef, ← e1] at this
          exact this
  refine e_X7_leastCoverage ?_
  refine ⟨_, k_isTrain (by assumption) (by assumption), ?_⟩
  rintro z1 ρ2 μ3 ⟨hz, hq1_1, hq1_2⟩
  obtain rfl := hq1_1.symm
  obtain rfl := hq1_2.symm
  refine ⟨fun hc2 => ?_, fun hc2 => ?_⟩
  · have n := (h.pl hS (by omega)).1.n
    have := L (by omega) _ 1 (Nat.lt_succ_self _) (by omega) (by omega)
    have e : lcN (σ 2) (μ 34) t 1 = 0 := by
      show (if _ then ((0 : Nat) : Int) else lcN (σ 2) (μ 34) t 0) = 0
      split <;> rfl
    rw [e] at this
    exact this
  · refine ⟨_, k_failLong, ?_⟩
    rintro z5 ρ6 μ7 ⟨hq4_1, hq4_2, hq4_3⟩
    obtain rfl := hq4_1.symm
    obtain rfl := hq4_2.symm
    obtain rfl := hq4_3.symm
    exact pc_fin h hS FR.refl (fun J => (if_neg (by omega)).symm) (by rw [if_neg (by omega)])
/-! ### the reference -/
def cvM (μ : Mem) (a b : Int) : Mem := up2 (up2 μ 178 42 a) 178 43 b
theorem cvM_2 {ν : Mem} {a b c d : Int} (h : ν = cvM μ a b) : up2 (up2 ν 178 42 c) 178 43 d = cvM μ c d := by
  subst h
  funext x y
  unfold cvM up2
  by_cases hx : x = 178
  · by_cases h2 : y = 42
    · subst h2; simp [hx]
    · by_cases h3 : y = 43
      · subst h3; simp [hx]
      · simp [hx, h2, h3]
  · simp [hx]
end CV
