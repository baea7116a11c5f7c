/-! ===== the reference: questions of coverage =====  -/
section CW
variable {ρ : Rf} {μ : Mem} {σ : Sg} {p : Pl}
theorem MJ.cv {a b : Int} (h : MJ μ σ) : MJ (cvM μ a b) σ := (h.up (by omega)).up (by omega)
theorem FR.cv {a b : Int} {μ0 : Mem} (h : FR 178 207 μ0 μ) : FR 178 207 μ0 (cvM μ a b) := FR.up (FR.up h (by omega)) (by omega)
theorem cvM_c {a b : Int} {c : Nat} (h : c ≠ 178) : cvM μ a b c = μ c := by
  unfold cvM
  rw [up2_c h, up2_c h]
theorem cvM_42 {a b : Int} : cvM μ a b 178 42 = a := by unfold cvM; rw [up2_k (by decide), up2_s]
theorem cvM_43 {a b : Int} : cvM μ a b 178 43 = b := up2_s
/-- lowest terms that are not below one are one -/
theorem one_e (hv : PV p) {u : Int → Int} (ub : UB p u) {t m : Int} (ht : 0 ≤ t ∧ t < 2) (hm : 0 ≤ m ∧ m < p 36) (h : ¬ cvA p u t m / cvG p u t m * 1 < 1 * (cvB p t m / cvG p u t m)) : cvA p u t m / cvG p u t m = 1 ∧ cvB p t m / cvG p u t m = 1 := by
  have b := cv_b hv ub ht hm
  have e : cvA p u t m = cvB p t m := by
    have q : cvG p u t m * (cvB p t m / cvG p u t m) ≤ cvG p u t m * (cvA p u t m / cvG p u t m) := Int.mul_le_mul_of_nonneg_left (by omega) (by omega)
    omega
  have g : cvG p u t m = cvB p t m := by
    unfold cvG
    rw [e, Int.gcd_self]
    omega
  rw [e, g]
  have := Int.ediv_self (a := cvB p t m) (by omega)
  exact ⟨this, this⟩
theorem q_coverage {t m d : Int} (h : MJ μ σ) (hS : SI σ) : qE mX8_coverage GG GG [qP 178, qI t, qI m, qI d] ρ μ (PM μ ρ (fun J => if σ 0 4 = 1 ∧ 0 ≤ t ∧ t < 2 ∧ 0 ≤ m ∧ m < σ 2 36 then cov (σ 2) (sGo (σ 2) (-1) (-1) J 199) t m d else -9223372036854775808) (sE σ (if σ 0 4 = 1 ∧ 0 ≤ t ∧ t < 2 ∧ 0 ≤ m ∧ m < σ 2 36 then 0 else 1))) := by
  have hb := hS.2.2.1
  have h20 := h.2.2.2.2.2.1
  have h180 := h.2.2.2.2.2.2.2.1
  have hn : σ 0 4 = 1 → PV (σ 2) := fun e => (hS.2.2.2.2.2.2.2.2 e).1.1
  have fth : FR 178 207 μ (up2 μ 178 0 0) := FR.up FR.refl (by omega)
  have tth : up2 μ 178 0 0 180 = σ 2 := by rw [up2_c (by decide)]; exact h180
  have g180 := go_180 (p := σ 2) (wo := -1) (out := -1) tth
  have L22 : ∀ x, (x = 1 ∧ σ 0 4 = 1 ∧ 0 ≤ t ∧ t < 2 ∧ 0 ≤ m ∧ m < σ 2 36) ∨ (x = 0 ∧ ¬ (σ 0 4 = 1 ∧ 0 ≤ t ∧ t < 2 ∧ 0 ≤ m ∧ m < σ 2 36)) → qX mX8_coverage GG (PM μ ρ (fun J => if σ 0 4 = 1 ∧ 0 ≤ t ∧ t < 2 ∧ 0 ≤ m ∧ m < σ 2 36 then cov (σ 2) (sGo (σ 2) (-1) (-1) J 199) t m d else -9223372036854775808) (sE σ (if σ 0 4 = 1 ∧ 0 ≤ t ∧ t < 2 ∧ 0 ≤ m ∧ m < σ 2 36 then 0 else 1))) GG (0, 0) 22 [some (qP 178), some (qI t), some (qI m), some (qI d)] [qI x, qP 178] ρ μ := by
    intro x hx
    refine w_X8_coverage_22 ?_
    refine ⟨_, m_goesFor h (by omega) (fun e => hn (by omega)), ?_⟩
    rintro z1 ρ2 μ3 ⟨hq1_1, hq1_2, hg⟩
    obtain rfl := hq1_1.symm
    obtain rfl := hq1_2.symm
    refine ⟨fun hc2 => ?_, fun hc2 => ?_⟩
    · obtain ⟨ha, rfl⟩ : x = 1 ∧ μ3 = sGo (σ 2) (-1) (-1) (up2 μ 178 0 0) := by
        rcases hg with ⟨a, _⟩ | h
        · omega
        · exact h
      have hv := hn (by omega)
      have n := hv.n
      have ub := go_ub (p := σ 2) (wo := -1) (out := -1) (J := up2 μ 178 0 0) hv
      refine ⟨_, m_layCoverage g180 hv ub (t := t) (m := m) (by omega) (by omega), ?_⟩
      rintro z5 ρ6 μ7 ⟨hq3_1, hq3_2⟩
      obtain rfl := hq3_1.symm
      obtain rfl := hq3_2.symm
      refine ⟨fun hc4 => ?_, fun hc4 => ?_⟩
      · refine ⟨_, m_done, ?_⟩
        rintro z9 ρ10 μ11 ⟨hq5_1, hq5_2, hq5_3⟩
        obtain rfl := hq5_1.symm
        obtain rfl := hq5_2.symm
        obtain rfl := hq5_3.symm
        exact pm_fin h.th.go.cv fth.go.cv ⟨up2 μ 178 0 0, by rw [if_pos (by omega)]; unfold cov; rw [if_pos hc4]; exact cvM_42⟩ (by rw [if_pos (by omega)])
      · refine ⟨_, m_done, ?_⟩
        rintro z13 ρ14 μ15 ⟨hq7_1, hq7_2, hq7_3⟩
        obtain rfl := hq7_1.symm
        obtain rfl := hq7_2.symm
        obtain rfl := hq7_3.symm
        exact pm_fin h.th.go.cv fth.go.cv ⟨up2 μ 178 0 0, by rw [if_pos (by omega)]; unfold cov; rw [if_neg hc4]; exact cvM_43⟩ (by rw [if_pos (by omega)])
    · refine ⟨_, m_failedLong, ?_⟩
      rintro z17 ρ18 μ19 ⟨hq9_1, hq9_2, hq9_3⟩
      obtain rfl := hq9_1.symm
      obtain rfl := hq9_2.symm
      obtain rfl := hq9_3.symm
      rcases hg with ⟨a, rfl⟩ | ⟨a, rfl⟩
      · exact pm_fin h.th fth ⟨μ, (if_neg (by omega)).symm⟩ (by rw [if_neg (by omega)])
      · omega
  have L21 : ¬ (σ 0 4 = 1 ∧ 0 ≤ t ∧ t < 2 ∧ 0 ≤ m ∧ m < σ 2 36) → qX mX8_coverage GG (PM μ ρ (fun J => if σ 0 4 = 1 ∧ 0 ≤ t ∧ t < 2 ∧ 0 ≤ m ∧ m < σ 2 36 then cov (σ 2) (sGo (σ 2) (-1) (-1) J 199) t m d else -9223372036854775808) (sE σ (if σ 0 4 = 1 ∧ 0 ≤ t ∧ t < 2 ∧ 0 ≤ m ∧ m < σ 2 36 then 0 else 1))) GG (0, 0) 21 [some (qP 178), some (qI t), some (qI m), some (qI d)] [qP 178] ρ μ := by
    intro hx
    refine w_X8_coverage_21 ?_
    exact L22 0 (Or.inr ⟨rfl, hx⟩)
  refine e_X8_coverage ?_
  refine ⟨_, m_isTrainNow h hS, ?_⟩
  rintro z1 ρ2 μ3 ⟨hz, hq1_1, hq1_2⟩
  obtain rfl := hq1_1.symm
  obtain rfl := hq1_2.symm
  refine ⟨fun hc2 => ?_, fun hc2 => ?_⟩
  · exact L21 (by omega)
  · refine ⟨_, m_isMeal h hS, ?_⟩
    rintro z5 ρ6 μ7 ⟨hy, hq4_1, hq4_2⟩
    obtain rfl := hq4_1.symm
    obtain rfl := hq4_2.symm
    refine ⟨fun hc5 => ?_, fun hc5 => ?_⟩
    · exact L21 (by omega)
    · exact L22 1 (by omega)
theorem q_leastCoverage {t d : Int} (h : MJ μ σ) (hS : SI σ) : qE mX8_leastCoverage GG GG [qP 178, qI t, qI d] ρ μ (PM μ ρ (fun J => if σ 0 4 = 1 ∧ 0 ≤ t ∧ t < 2 then cov (σ 2) (sGo (σ 2) (-1) (-1) J 199) t (lcN (σ 2) (sGo (σ 2) (-1) (-1) J 199) t (σ 2 36).toNat) d else -9223372036854775808) (sE σ (if σ 0 4 = 1 ∧ 0 ≤ t ∧ t < 2 then 0 else 1))) := by
  have hb := hS.2.2.1
  have h20 := h.2.2.2.2.2.1
  have h180 := h.2.2.2.2.2.2.2.1
  have hn : σ 0 4 = 1 → PV (σ 2) := fun e => (hS.2.2.2.2.2.2.2.2 e).1.1
  have fth : FR 178 207 μ (up2 μ 178 0 0) := FR.up FR.refl (by omega)
  have tth : up2 μ 178 0 0 180 = σ 2 := by rw [up2_c (by decide)]; exact h180
  have g180 := go_180 (p := σ 2) (wo := -1) (out := -1) tth
  have L26 : (σ 0 4 = 1 ∧ 0 ≤ t ∧ t < 2) → ∀ (k : Nat) (x : Nat) (a b : Int) (ν : Mem), 10 - x < k → (x : Int) ≤ σ 2 36 → MJ ν σ → FR 178 207 μ ν → ν 180 = σ 2 → ν 199 = (sGo (σ 2) (-1) (-1) (up2 μ 178 0 0)) 199 → ((x = 0 ∧ a = 1 ∧ b = 1) ∨ (0 < x ∧ a = cvA (σ 2) ((sGo (σ 2) (-1) (-1) (up2 μ 178 0 0)) 199) t (lcN (σ 2) ((sGo (σ 2) (-1) (-1) (up2 μ 178 0 0)) 199) t x) / cvG (σ 2) ((sGo (σ 2) (-1) (-1) (up2 μ 178 0 0)) 199) t (lcN (σ 2) ((sGo (σ 2) (-1) (-1) (up2 μ 178 0 0)) 199) t x) ∧ b = cvB (σ 2) t (lcN (σ 2) ((sGo (σ 2) (-1) (-1) (up2 μ 178 0 0)) 199) t x) / cvG (σ 2) ((sGo (σ 2) (-1) (-1) (up2 μ 178 0 0)) 199) t (lcN (σ 2) ((sGo (σ 2) (-1) (-1) (up2 μ 178 0 0)) 199) t x))) → qX mX8_leastCoverage GG (PM μ ρ (fun J => if σ 0 4 = 1 ∧ 0 ≤ t ∧ t < 2 then cov (σ 2) (sGo (σ 2) (-1) (-1) J 199) t (lcN (σ 2) (sGo (σ 2) (-1) (-1) J 199) t (σ 2 36).toNat) d else -9223372036854775808) (sE σ (if σ 0 4 = 1 ∧ 0 ≤ t ∧ t < 2 then 0 else 1))) GG (0, 0) 26 [some (qP 178), some (qI t), some (qI d), some (qI a), some (qI b), some (qI (x : Int))] [] ρ ν := by
    intro hi
    have hv := hn hi.1
    have n := hv.n
    have tt := hv.t hi.2.1 hi.2.2
    have ub := go_ub (p := σ 2) (wo := -1) (out := -1) (J := up2 μ 178 0 0) hv
    intro k
    induction k with
    | zero => intro x a b ν h; omega
    | succ k ih =>
      intro x a b ν hk h1 hJ hF e180 e199 hab
      have e1 : ((x : Int) + 1) = ((x + 1 : Nat) : Int) := by omega
      have lb := lcN_b (p := σ 2) (u := ((sGo (σ 2) (-1) (-1) (up2 μ 178 0 0)) 199)) (t := t) x
      have ef : lcN (σ 2) ((sGo (σ 2) (-1) (-1) (up2 μ 178 0 0)) 199) t (x + 1) = if cvA (σ 2) ((sGo (σ 2) (-1) (-1) (up2 μ 178 0 0)) 199) t (x : Int) * cvB (σ 2) t (lcN (σ 2) ((sGo (σ 2) (-1) (-1) (up2 μ 178 0 0)) 199) t x) < cvA (σ 2) ((sGo (σ 2) (-1) (-1) (up2 μ 178 0 0)) 199) t (lcN (σ 2) ((sGo (σ 2) (-1) (-1) (up2 μ 178 0 0)) 199) t x) * cvB (σ 2) t (x : Int) then (x : Int) else (lcN (σ 2) ((sGo (σ 2) (-1) (-1) (up2 μ 178 0 0)) 199) t x) := rfl
      refine w_X8_leastCoverage_26 ?_
      rw [e180]
      refine ⟨fun hc1 => ?_, fun hc1 => ?_⟩
      · refine ⟨fun hc2 => ?_, fun hc2 => ?_⟩
        · refine ⟨_, m_done, ?_⟩
          rintro z1 ρ2 μ3 ⟨hq3_1, hq3_2, hq3_3⟩
          obtain rfl := hq3_1.symm
          obtain rfl := hq3_2.symm
          obtain rfl := hq3_3.symm
          refine pm_fin hJ hF ⟨up2 μ 178 0 0, ?_⟩ (by rw [if_pos hi])
          rw [if_pos hi, show (σ 2 36).toNat = x by omega]
          unfold cov
          rw [if_pos hc2]
          omega
        · refine ⟨_, m_done, ?_⟩
          rintro z5 ρ6 μ7 ⟨hq5_1, hq5_2, hq5_3⟩
          obtain rfl := hq5_1.symm
          obtain rfl := hq5_2.symm
          obtain rfl := hq5_3.symm
          refine pm_fin hJ hF ⟨up2 μ 178 0 0, ?_⟩ (by rw [if_pos hi])
          rw [if_pos hi, show (σ 2 36).toNat = x by omega]
          unfold cov
          rw [if_neg hc2]
          omega
      · refine ⟨_, m_layCoverage (p := σ 2) e180 hv (by rw [e199]; exact ub) (t := t) (m := (x : Int)) hi.2 (by omega), ?_⟩
        rintro z9 ρ10 μ11 ⟨hq7_1, hq7_2⟩
        obtain rfl := hq7_1.symm
        obtain rfl := hq7_2.symm
        rw [cvM_42, cvM_43, e199]
        have bx := cv_b hv ub (t := t) (m := (x : Int)) hi.2 (by omega)
        have bab : 0 ≤ a ∧ a ≤ 1980 ∧ 0 ≤ b ∧ b ≤ 1980 := by
          rcases hab with h | ⟨h0, ha, hb'⟩
          · omega
          · have bl := cv_b hv ub (t := t) (m := (lcN (σ 2) ((sGo (σ 2) (-1) (-1) (up2 μ 178 0 0)) 199) t x)) hi.2 (by have := lb.2 h0; omega)
            omega
        have m1 := mulb (a := cvA (σ 2) ((sGo (σ 2) (-1) (-1) (up2 μ 178 0 0)) 199) t (x : Int) / cvG (σ 2) ((sGo (σ 2) (-1) (-1) (up2 μ 178 0 0)) 199) t (x : Int)) (b := b) (A := 1980) (B := 1980) (by omega) (by omega) (by omega) (by omega)
        have m2 := mulb (a := a) (b := cvB (σ 2) t (x : Int) / cvG (σ 2) ((sGo (σ 2) (-1) (-1) (up2 μ 178 0 0)) 199) t (x : Int)) (A := 1980) (B := 1980) (by omega) (by omega) (by omega) (by omega)
        have dec : 0 < x → (cvA (σ 2) ((sGo (σ 2) (-1) (-1) (up2 μ 178 0 0)) 199) t (x : Int) / cvG (σ 2) ((sGo (σ 2) (-1) (-1) (up2 μ 178 0 0)) 199) t (x : Int) * b < a * (cvB (σ 2) t (x : Int) / cvG (σ 2) ((sGo (σ 2) (-1) (-1) (up2 μ 178 0 0)) 199) t (x : Int)) ↔ cvA (σ 2) ((sGo (σ 2) (-1) (-1) (up2 μ 178 0 0)) 199) t (x : Int) * cvB (σ 2) t (lcN (σ 2) ((sGo (σ 2) (-1) (-1) (up2 μ 178 0 0)) 199) t x) < cvA (σ 2) ((sGo (σ 2) (-1) (-1) (up2 μ 178 0 0)) 199) t (lcN (σ 2) ((sGo (σ 2) (-1) (-1) (up2 μ 178 0 0)) 199) t x) * cvB (σ 2) t (x : Int)) := fun h0 => by
          rcases hab with h | ⟨_, ha, hb'⟩
          · omega
          · have bl := cv_b hv ub (t := t) (m := (lcN (σ 2) ((sGo (σ 2) (-1) (-1) (up2 μ 178 0 0)) 199) t x)) hi.2 (by have := lb.2 h0; omega)
            have c := (crs (g := cvG (σ 2) ((sGo (σ 2) (-1) (-1) (up2 μ 178 0 0)) 199) t (x : Int)) (h := cvG (σ 2) ((sGo (σ 2) (-1) (-1) (up2 μ 178 0 0)) 199) t (lcN (σ 2) ((sGo (σ 2) (-1) (-1) (up2 μ 178 0 0)) 199) t x)) (a := cvA (σ 2) ((sGo (σ 2) (-1) (-1) (up2 μ 178 0 0)) 199) t (x : Int) / cvG (σ 2) ((sGo (σ 2) (-1) (-1) (up2 μ 178 0 0)) 199) t (x : Int)) (b := cvB (σ 2) t (x : Int) / cvG (σ 2) ((sGo (σ 2) (-1) (-1) (up2 μ 178 0 0)) 199) t (x : Int)) (c := a) (d := b) bx.2.2.2.2.1 bl.2.2.2.2.1).1
            rw [← bx.2.2.2.2.2.2.1, ← bx.2.2.2.2.2.2.2.1, ha, hb', ← bl.2.2.2.2.2.2.1, ← bl.2.2.2.2.2.2.2.1] at c
            rw [ha, hb']
            exact c.symm
        refine ⟨(by unfold i32; omega), ?_⟩
        refine ⟨(by unfold i32; omega), ?_⟩
        refine ⟨fun hc10 => ?_, fun hc10 => ?_⟩
        · refine ⟨(by unfold i32; omega), ?_⟩
          rw [e1]
          have el : lcN (σ 2) ((sGo (σ 2) (-1) (-1) (up2 μ 178 0 0)) 199) t (x + 1) = (x : Int) := by
            by_cases h0 : 0 < x
            · rw [ef, if_pos ((dec h0).mp hc10)]
            · rw [ef]
              have z : x = 0 := by omega
              subst z
              split <;> rfl
          exact ih _ _ _ _ (by omega) (by omega) hJ.cv hF.cv (by rw [cvM_c (by decide)]; exact e180) (by rw [cvM_c (by decide)]; exact e199) (Or.inr ⟨by omega, by rw [el], by rw [el]⟩)
        · refine ⟨(by unfold i32; omega), ?_⟩
          rw [e1]
          refine ih _ _ _ _ (by omega) (by omega) hJ.cv hF.cv (by rw [cvM_c (by decide)]; exact e180) (by rw [cvM_c (by decide)]; exact e199) (Or.inr ⟨by omega, ?_⟩)
          by_cases h0 : 0 < x
          · have el : lcN (σ 2) ((sGo (σ 2) (-1) (-1) (up2 μ 178 0 0)) 199) t (x + 1) = (lcN (σ 2) ((sGo (σ 2) (-1) (-1) (up2 μ 178 0 0)) 199) t x) := by
              rw [ef, if_neg (fun q => by have := (dec h0).mpr q; omega)]
            rw [el]
            rcases hab with h | h
            · omega
            · exact h.2
          · have z : x = 0 := by omega
            subst z
            have el : lcN (σ 2) ((sGo (σ 2) (-1) (-1) (up2 μ 178 0 0)) 199) t (0 + 1) = 0 := by
              rw [ef]
              split <;> rfl
            have o := one_e hv ub (t := t) (m := 0) hi.2 (by omega) (by
              rcases hab with ⟨_, ha, hb'⟩ | h
              · rw [ha, hb'] at hc10
                have z2 : ((0 : Nat) : Int) = 0 := rfl
                rw [z2] at hc10
                omega
              · omega)
            rw [el, o.1, o.2]
            omega
  refine e_X8_leastCoverage ?_
  refine ⟨_, m_isTrainNow h hS, ?_⟩
  rintro z1 ρ2 μ3 ⟨hz, hq1_1, hq1_2⟩
  obtain rfl := hq1_1.symm
  obtain rfl := hq1_2.symm
  refine ⟨_, m_goesFor h (by omega) (fun e => hn (by omega)), ?_⟩
  rintro z5 ρ6 μ7 ⟨hq2_1, hq2_2, hg⟩
  obtain rfl := hq2_1.symm
  obtain rfl := hq2_2.symm
  refine ⟨fun hc3 => ?_, fun hc3 => ?_⟩
  · obtain ⟨ha, rfl⟩ : z1 = 1 ∧ μ7 = sGo (σ 2) (-1) (-1) (up2 μ 178 0 0) := by
      rcases hg with ⟨a, _⟩ | h
      · omega
      · exact h
    have hv := hn (by omega)
    have n := hv.n
    have ub := go_ub (p := σ 2) (wo := -1) (out := -1) (J := up2 μ 178 0 0) hv
    exact L26 (by omega) _ 0 1 1 _ (Nat.lt_succ_self _) (by omega) h.th.go fth.go g180 rfl (Or.inl ⟨rfl, rfl, rfl⟩)
  · refine ⟨_, m_failedLong, ?_⟩
    rintro z9 ρ10 μ11 ⟨hq5_1, hq5_2, hq5_3⟩
    obtain rfl := hq5_1.symm
    obtain rfl := hq5_2.symm
    obtain rfl := hq5_3.symm
    rcases hg with ⟨a, rfl⟩ | ⟨a, rfl⟩
    · exact pm_fin h.th fth ⟨μ, (if_neg (by omega)).symm⟩ (by rw [if_neg (by omega)])
    · omega
theorem q_betterServed {m : Int} (h : MJ μ σ) (hS : SI σ) : qE mX8_betterServed GG GG [qP 178, qI m] ρ μ (PM μ ρ (fun J => if σ 0 4 = 1 ∧ 0 ≤ m ∧ m < σ 2 36 then btr (σ 2) (sGo (σ 2) (-1) (-1) J 199) m else -2147483648) (sE σ (if σ 0 4 = 1 ∧ 0 ≤ m ∧ m < σ 2 36 then 0 else 1))) := by
  have hb := hS.2.2.1
  have h20 := h.2.2.2.2.2.1
  have h180 := h.2.2.2.2.2.2.2.1
  have hn : σ 0 4 = 1 → PV (σ 2) := fun e => (hS.2.2.2.2.2.2.2.2 e).1.1
  have fth : FR 178 207 μ (up2 μ 178 0 0) := FR.up FR.refl (by omega)
  have tth : up2 μ 178 0 0 180 = σ 2 := by rw [up2_c (by decide)]; exact h180
  have g180 := go_180 (p := σ 2) (wo := -1) (out := -1) tth
  refine e_X8_betterServed ?_
  refine ⟨_, m_isMeal h hS, ?_⟩
  rintro z1 ρ2 μ3 ⟨hz, hq1_1, hq1_2⟩
  obtain rfl := hq1_1.symm
  obtain rfl := hq1_2.symm
  refine ⟨_, m_goesFor h (by omega) (fun e => hn (by omega)), ?_⟩
  rintro z5 ρ6 μ7 ⟨hq2_1, hq2_2, hg⟩
  obtain rfl := hq2_1.symm
  obtain rfl := hq2_2.symm
  refine ⟨fun hc3 => ?_, fun hc3 => ?_⟩
  · obtain ⟨ha, rfl⟩ : z1 = 1 ∧ μ7 = sGo (σ 2) (-1) (-1) (up2 μ 178 0 0) := by
      rcases hg with ⟨a, _⟩ | h
      · omega
      · exact h
    have hv := hn (by omega)
    have n := hv.n
    have ub := go_ub (p := σ 2) (wo := -1) (out := -1) (J := up2 μ 178 0 0) hv
    have b0 := cv_b hv ub (t := 0) (m := m) (by omega) (by omega)
    have b1 := cv_b hv ub (t := 1) (m := m) (by omega) (by omega)
    have c := crs (g := cvG (σ 2) ((sGo (σ 2) (-1) (-1) (up2 μ 178 0 0)) 199) 0 m) (h := cvG (σ 2) ((sGo (σ 2) (-1) (-1) (up2 μ 178 0 0)) 199) 1 m) (a := cvA (σ 2) ((sGo (σ 2) (-1) (-1) (up2 μ 178 0 0)) 199) 0 m / cvG (σ 2) ((sGo (σ 2) (-1) (-1) (up2 μ 178 0 0)) 199) 0 m) (b := cvB (σ 2) 0 m / cvG (σ 2) ((sGo (σ 2) (-1) (-1) (up2 μ 178 0 0)) 199) 0 m) (c := cvA (σ 2) ((sGo (σ 2) (-1) (-1) (up2 μ 178 0 0)) 199) 1 m / cvG (σ 2) ((sGo (σ 2) (-1) (-1) (up2 μ 178 0 0)) 199) 1 m) (d := cvB (σ 2) 1 m / cvG (σ 2) ((sGo (σ 2) (-1) (-1) (up2 μ 178 0 0)) 199) 1 m) b0.2.2.2.2.1 b1.2.2.2.2.1
    have c' := crs (g := cvG (σ 2) ((sGo (σ 2) (-1) (-1) (up2 μ 178 0 0)) 199) 1 m) (h := cvG (σ 2) ((sGo (σ 2) (-1) (-1) (up2 μ 178 0 0)) 199) 0 m) (a := cvA (σ 2) ((sGo (σ 2) (-1) (-1) (up2 μ 178 0 0)) 199) 1 m / cvG (σ 2) ((sGo (σ 2) (-1) (-1) (up2 μ 178 0 0)) 199) 1 m) (b := cvB (σ 2) 1 m / cvG (σ 2) ((sGo (σ 2) (-1) (-1) (up2 μ 178 0 0)) 199) 1 m) (c := cvA (σ 2) ((sGo (σ 2) (-1) (-1) (up2 μ 178 0 0)) 199) 0 m / cvG (σ 2) ((sGo (σ 2) (-1) (-1) (up2 μ 178 0 0)) 199) 0 m) (d := cvB (σ 2) 0 m / cvG (σ 2) ((sGo (σ 2) (-1) (-1) (up2 μ 178 0 0)) 199) 0 m) b1.2.2.2.2.1 b0.2.2.2.2.1
    rw [← b0.2.2.2.2.2.2.1, ← b0.2.2.2.2.2.2.2.1, ← b1.2.2.2.2.2.2.1, ← b1.2.2.2.2.2.2.2.1] at c c'
    have m1 := mulb (a := cvA (σ 2) ((sGo (σ 2) (-1) (-1) (up2 μ 178 0 0)) 199) 0 m / cvG (σ 2) ((sGo (σ 2) (-1) (-1) (up2 μ 178 0 0)) 199) 0 m) (b := cvB (σ 2) 1 m / cvG (σ 2) ((sGo (σ 2) (-1) (-1) (up2 μ 178 0 0)) 199) 1 m) (A := 1980) (B := 1980) (by omega) (by omega) (by omega) (by omega)
    have m2 := mulb (a := cvA (σ 2) ((sGo (σ 2) (-1) (-1) (up2 μ 178 0 0)) 199) 1 m / cvG (σ 2) ((sGo (σ 2) (-1) (-1) (up2 μ 178 0 0)) 199) 1 m) (b := cvB (σ 2) 0 m / cvG (σ 2) ((sGo (σ 2) (-1) (-1) (up2 μ 178 0 0)) 199) 0 m) (A := 1980) (B := 1980) (by omega) (by omega) (by omega) (by omega)
    refine ⟨_, m_layCoverage g180 hv ub (t := 0) (m := m) (by omega) (by omega), ?_⟩
    rintro z9 ρ10 μ11 ⟨hq4_1, hq4_2⟩
    obtain rfl := hq4_1.symm
    obtain rfl := hq4_2.symm
    refine ⟨_, m_layCoverage (p := σ 2) (by rw [cvM_c (by decide)]; exact g180) hv (by rw [cvM_c (by decide)]; exact ub) (t := 1) (m := m) (by omega) (by omega), ?_⟩
    rintro z13 ρ14 μ15 ⟨hq5_1, hq5_2⟩
    obtain rfl := hq5_1.symm
    obtain rfl := hq5_2.symm
    rw [cvM_42, cvM_43, cvM_42, cvM_43, cvM_c (show 199 ≠ 178 by decide)]
    refine ⟨(by unfold i32; omega), ?_⟩
    refine ⟨(by unfold i32; omega), ?_⟩
    refine ⟨fun hc8 => ?_, fun hc8 => ?_⟩
    · refine ⟨(by unfold i32; omega), ?_⟩
      refine ⟨(by unfold i32; omega), ?_⟩
      refine ⟨fun hc11 => ?_, fun hc11 => ?_⟩
      · refine ⟨_, m_done, ?_⟩
        rintro z17 ρ18 μ19 ⟨hq12_1, hq12_2, hq12_3⟩
        obtain rfl := hq12_1.symm
        obtain rfl := hq12_2.symm
        obtain rfl := hq12_3.symm
        exact pm_fin h.th.go.cv.cv fth.go.cv.cv ⟨up2 μ 178 0 0, by rw [if_pos (by omega)]; unfold btr; rw [if_neg (fun q => hc8 (c.2.mp q)), if_neg (fun q => by have := c'.1.mp q; omega)]⟩ (by rw [if_pos (by omega)])
      · refine ⟨_, m_done, ?_⟩
        rintro z21 ρ22 μ23 ⟨hq14_1, hq14_2, hq14_3⟩
        obtain rfl := hq14_1.symm
        obtain rfl := hq14_2.symm
        obtain rfl := hq14_3.symm
        exact pm_fin h.th.go.cv.cv fth.go.cv.cv ⟨up2 μ 178 0 0, by rw [if_pos (by omega)]; unfold btr; rw [if_neg (fun q => hc8 (c.2.mp q)), if_pos (c'.1.mpr (by omega))]⟩ (by rw [if_pos (by omega)])
    · refine ⟨_, m_done, ?_⟩
      rintro z25 ρ26 μ27 ⟨hq16_1, hq16_2, hq16_3⟩
      obtain rfl := hq16_1.symm
      obtain rfl := hq16_2.symm
      obtain rfl := hq16_3.symm
      exact pm_fin h.th.go.cv.cv fth.go.cv.cv ⟨up2 μ 178 0 0, by rw [if_pos (by omega)]; unfold btr; rw [if_pos (c.2.mpr hc8)]⟩ (by rw [if_pos (by omega)])
  · refine ⟨_, m_failed, ?_⟩
    rintro z29 ρ30 μ31 ⟨hq18_1, hq18_2, hq18_3⟩
    obtain rfl := hq18_1.symm
    obtain rfl := hq18_2.symm
    obtain rfl := hq18_3.symm
    rcases hg with ⟨a, rfl⟩ | ⟨a, rfl⟩
    · exact pm_fin h.th fth ⟨μ, (if_neg (by omega)).symm⟩ (by rw [if_neg (by omega)])
    · omega
end CW
