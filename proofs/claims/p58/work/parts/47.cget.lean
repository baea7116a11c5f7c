/-! ===== the class's plain questions ===== -/
section CG
variable {ρ : Rf} {μ : Mem} {σ : Sg}
theorem c_jobCount (h : CI ρ μ σ) (hS : SI σ) : qE mX7_jobCount GG GG [qP 0] ρ μ (PC μ ρ (fun J => if σ 0 4 = 1 then σ 2 87 else -2147483648) (sE σ (if σ 0 4 = 1 then 0 else 1))) := by
  have h8 := h.2.2.2.2.2.2.2.1
  have hb := hS.2.2.1
  refine e_X7_jobCount ?_
  refine ⟨fun hc1 => ?_, fun hc1 => ?_⟩
  · refine ⟨(by exact h.1.s), ?_⟩
    refine ⟨_, k_answer, ?_⟩
    rintro z2 ρ3 μ4 ⟨hq3_1, hq3_2, hq3_3⟩
    obtain rfl := hq3_1.symm
    obtain rfl := hq3_2.symm
    obtain rfl := hq3_3.symm
    exact pc_fin h hS FR.refl (fun J => by rw [if_pos (by omega)]; exact (h.pl hS (by omega)).2.2.1.n) (by rw [if_pos (by omega)])
  · refine ⟨_, k_fail, ?_⟩
    rintro z6 ρ7 μ8 ⟨hq5_1, hq5_2, hq5_3⟩
    obtain rfl := hq5_1.symm
    obtain rfl := hq5_2.symm
    obtain rfl := hq5_3.symm
    exact pc_fin h hS FR.refl (fun J => (if_neg (by omega)).symm) (by rw [if_neg (by omega)])
theorem c_departure {t : Int} (h : CI ρ μ σ) (hS : SI σ) : qE mX7_departure GG GG [qP 0, qI t] ρ μ (PC μ ρ (fun J => if σ 0 4 = 1 ∧ 0 ≤ t ∧ t < 2 then σ 2 (2 + t) else -2147483648) (sE σ (if σ 0 4 = 1 ∧ 0 ≤ t ∧ t < 2 then 0 else 1))) := by
  refine e_X7_departure ?_
  refine ⟨_, k_isTrain (by assumption) (by assumption), ?_⟩
  rintro z1 ρ2 μ3 ⟨hz, hq1_1, hq1_2⟩
  obtain rfl := hq1_1.symm
  obtain rfl := hq1_2.symm
  refine ⟨fun hc2 => ?_, fun hc2 => ?_⟩
  · refine ⟨(by exact h.1.s), ?_⟩
    refine ⟨(by omega), ?_⟩
    refine ⟨_, k_answer, ?_⟩
    rintro z6 ρ7 μ8 ⟨hq5_1, hq5_2, hq5_3⟩
    obtain rfl := hq5_1.symm
    obtain rfl := hq5_2.symm
    obtain rfl := hq5_3.symm
    exact pc_fin h hS FR.refl (fun J => by rw [if_pos (by omega)]; exact (h.pl hS (by omega)).2.2.1.t (t := t) (by omega) (by omega)) (by rw [if_pos (by omega)])
  · refine ⟨_, k_fail, ?_⟩
    rintro z10 ρ11 μ12 ⟨hq7_1, hq7_2, hq7_3⟩
    obtain rfl := hq7_1.symm
    obtain rfl := hq7_2.symm
    obtain rfl := hq7_3.symm
    exact pc_fin h hS FR.refl (fun J => (if_neg (by omega)).symm) (by rw [if_neg (by omega)])
theorem c_stock {k m : Int} (h : CI ρ μ σ) (hS : SI σ) : qE mX7_stock GG GG [qP 0, qI k, qI m] ρ μ (PC μ ρ (fun J => if σ 0 4 = 1 ∧ 0 ≤ k ∧ k < σ 2 45 ∧ 0 ≤ m ∧ m < σ 2 36 then σ 2 (49 + 4 * k + m) else -2147483648) (sE σ (if σ 0 4 = 1 ∧ 0 ≤ k ∧ k < σ 2 45 ∧ 0 ≤ m ∧ m < σ 2 36 then 0 else 1))) := by
  refine e_X7_stock ?_
  refine ⟨_, k_isStock (by assumption) (by assumption), ?_⟩
  rintro z1 ρ2 μ3 ⟨hz, hq1_1, hq1_2⟩
  obtain rfl := hq1_1.symm
  obtain rfl := hq1_2.symm
  refine ⟨fun hc2 => ?_, fun hc2 => ?_⟩
  · refine ⟨(by exact h.1.s), ?_⟩
    have hn := (h.pl hS (by omega)).1.n
    refine ⟨_, k_stockIndex (by omega) (by omega), ?_⟩
    rintro z6 ρ7 μ8 ⟨hq4_1, hq4_2, hq4_3⟩
    obtain rfl := hq4_1.symm
    obtain rfl := hq4_2.symm
    obtain rfl := hq4_3.symm
    refine ⟨(by omega), ?_⟩
    refine ⟨_, k_answer, ?_⟩
    rintro z10 ρ11 μ12 ⟨hq6_1, hq6_2, hq6_3⟩
    obtain rfl := hq6_1.symm
    obtain rfl := hq6_2.symm
    obtain rfl := hq6_3.symm
    exact pc_fin h hS FR.refl (fun J => by rw [if_pos (by omega)]; exact ((h.pl hS (by omega)).2.2.1.k (k := 4 * k + m) (by omega) (by omega)).trans (by rw [Int.add_assoc])) (by rw [if_pos (by omega)])
  · refine ⟨_, k_fail, ?_⟩
    rintro z14 ρ15 μ16 ⟨hq8_1, hq8_2, hq8_3⟩
    obtain rfl := hq8_1.symm
    obtain rfl := hq8_2.symm
    obtain rfl := hq8_3.symm
    exact pc_fin h hS FR.refl (fun J => (if_neg (by omega)).symm) (by rw [if_neg (by omega)])
theorem c_demand {t c m : Int} (h : CI ρ μ σ) (hS : SI σ) : qE mX7_demand GG GG [qP 0, qI t, qI c, qI m] ρ μ (PC μ ρ (fun J => if σ 0 4 = 1 ∧ 0 ≤ t ∧ t < 2 ∧ 0 ≤ c ∧ c < σ 2 (4 + t) ∧ 0 ≤ m ∧ m < σ 2 36 then dem (σ 2) t c m else -2147483648) (sE σ (if σ 0 4 = 1 ∧ 0 ≤ t ∧ t < 2 ∧ 0 ≤ c ∧ c < σ 2 (4 + t) ∧ 0 ≤ m ∧ m < σ 2 36 then 0 else 1))) := by
  refine e_X7_demand ?_
  refine ⟨_, k_isCarMeal (by assumption) (by assumption), ?_⟩
  rintro z1 ρ2 μ3 ⟨hz, hq1_1, hq1_2⟩
  obtain rfl := hq1_1.symm
  obtain rfl := hq1_2.symm
  refine ⟨fun hc2 => ?_, fun hc2 => ?_⟩
  · obtain ⟨hv, hf, hs, hr⟩ := h.pl hS (by omega)
    have ht := hv.t (t := t) (by omega) (by omega)
    refine ⟨_, k_doorIndex (by omega) (by omega), ?_⟩
    rintro z5 ρ6 μ7 ⟨hq3_1, hq3_2, hq3_3⟩
    obtain rfl := hq3_1.symm
    obtain rfl := hq3_2.symm
    obtain rfl := hq3_3.symm
    refine ⟨(by exact h.1.f), ?_⟩
    refine ⟨_, k_wanted h.1.f hf hv (t := t) (c := c) (by omega) (by omega) (by omega) (by omega) (by omega) (by omega) rfl, ?_⟩
    rintro z10 ρ11 μ12 ⟨hq5_1, hq5_2, hq5_3⟩
    obtain rfl := hq5_1.symm
    obtain rfl := hq5_2.symm
    obtain rfl := hq5_3.symm
    refine ⟨_, k_answer, ?_⟩
    rintro z14 ρ15 μ16 ⟨hq6_1, hq6_2, hq6_3⟩
    obtain rfl := hq6_1.symm
    obtain rfl := hq6_2.symm
    obtain rfl := hq6_3.symm
    exact pc_fin h hS FR.refl (fun J => (if_pos (by omega)).symm) (by rw [if_pos (by omega)])
  · refine ⟨_, k_fail, ?_⟩
    rintro z18 ρ19 μ20 ⟨hq8_1, hq8_2, hq8_3⟩
    obtain rfl := hq8_1.symm
    obtain rfl := hq8_2.symm
    obtain rfl := hq8_3.symm
    exact pc_fin h hS FR.refl (fun J => (if_neg (by omega)).symm) (by rw [if_neg (by omega)])
theorem c_jobTrolley {j : Int} (h : CI ρ μ σ) (hS : SI σ) : qE mX7_jobTrolley GG GG [qP 0, qI j] ρ μ (PC μ ρ (fun J => if σ 0 4 = 1 ∧ 0 ≤ j ∧ j < σ 2 87 then σ 2 (88 + 5 * j + 0) else -2147483648) (sE σ (if σ 0 4 = 1 ∧ 0 ≤ j ∧ j < σ 2 87 then 0 else 1))) := by
  refine e_X7_jobTrolley ?_
  refine ⟨_, k_isJob (by assumption) (by assumption), ?_⟩
  rintro z1 ρ2 μ3 ⟨hz, hq1_1, hq1_2⟩
  obtain rfl := hq1_1.symm
  obtain rfl := hq1_2.symm
  refine ⟨fun hc2 => ?_, fun hc2 => ?_⟩
  · have hn := (h.pl hS (by omega)).1.n
    refine ⟨(by exact h.1.s), ?_⟩
    refine ⟨(by omega), ?_⟩
    refine ⟨_, k_answer, ?_⟩
    rintro z6 ρ7 μ8 ⟨hq5_1, hq5_2, hq5_3⟩
    obtain rfl := hq5_1.symm
    obtain rfl := hq5_2.symm
    obtain rfl := hq5_3.symm
    exact pc_fin h hS FR.refl (fun J => by rw [if_pos (by omega)]; exact ((h.pl hS (by omega)).2.2.1.j (j := j) (by omega) (by omega)).1) (by rw [if_pos (by omega)])
  · refine ⟨_, k_fail, ?_⟩
    rintro z10 ρ11 μ12 ⟨hq7_1, hq7_2, hq7_3⟩
    obtain rfl := hq7_1.symm
    obtain rfl := hq7_2.symm
    obtain rfl := hq7_3.symm
    exact pc_fin h hS FR.refl (fun J => (if_neg (by omega)).symm) (by rw [if_neg (by omega)])
theorem c_jobQuantity {j : Int} (h : CI ρ μ σ) (hS : SI σ) : qE mX7_jobQuantity GG GG [qP 0, qI j] ρ μ (PC μ ρ (fun J => if σ 0 4 = 1 ∧ 0 ≤ j ∧ j < σ 2 87 then σ 2 (88 + 5 * j + 4) else -2147483648) (sE σ (if σ 0 4 = 1 ∧ 0 ≤ j ∧ j < σ 2 87 then 0 else 1))) := by
  refine e_X7_jobQuantity ?_
  refine ⟨_, k_isJob (by assumption) (by assumption), ?_⟩
  rintro z1 ρ2 μ3 ⟨hz, hq1_1, hq1_2⟩
  obtain rfl := hq1_1.symm
  obtain rfl := hq1_2.symm
  refine ⟨fun hc2 => ?_, fun hc2 => ?_⟩
  · have hn := (h.pl hS (by omega)).1.n
    refine ⟨(by exact h.1.s), ?_⟩
    refine ⟨(by omega), ?_⟩
    refine ⟨_, k_answer, ?_⟩
    rintro z6 ρ7 μ8 ⟨hq5_1, hq5_2, hq5_3⟩
    obtain rfl := hq5_1.symm
    obtain rfl := hq5_2.symm
    obtain rfl := hq5_3.symm
    exact pc_fin h hS FR.refl (fun J => by rw [if_pos (by omega)]; exact ((h.pl hS (by omega)).2.2.1.j (j := j) (by omega) (by omega)).2.2.2) (by rw [if_pos (by omega)])
  · refine ⟨_, k_fail, ?_⟩
    rintro z10 ρ11 μ12 ⟨hq7_1, hq7_2, hq7_3⟩
    obtain rfl := hq7_1.symm
    obtain rfl := hq7_2.symm
    obtain rfl := hq7_3.symm
    exact pc_fin h hS FR.refl (fun J => (if_neg (by omega)).symm) (by rw [if_neg (by omega)])
theorem c_startTime {j : Int} (h : CI ρ μ σ) (hS : SI σ) : qE mX7_startTime GG GG [qP 0, qI j] ρ μ (PC μ ρ (fun J => if σ 0 4 = 1 ∧ 0 ≤ j ∧ j < σ 2 87 then sGo (σ 2) (-1) (-1) J 195 j else -2147483648) (sE σ (if σ 0 4 = 1 ∧ 0 ≤ j ∧ j < σ 2 87 then 0 else 1))) := by
  refine e_X7_startTime ?_
  refine ⟨_, k_isJob (by assumption) (by assumption), ?_⟩
  rintro z1 ρ2 μ3 ⟨hz, hq1_1, hq1_2⟩
  obtain rfl := hq1_1.symm
  obtain rfl := hq1_2.symm
  refine ⟨fun hc2 => ?_, fun hc2 => ?_⟩
  · have hn := (h.pl hS (by omega)).1.n
    refine ⟨(by omega), ?_⟩
    refine ⟨_, k_answer, ?_⟩
    rintro z5 ρ6 μ7 ⟨hq4_1, hq4_2, hq4_3⟩
    obtain rfl := hq4_1.symm
    obtain rfl := hq4_2.symm
    obtain rfl := hq4_3.symm
    exact pc_fin h hS FR.refl (fun J => by rw [if_pos (by omega)]; exact (((h.pl hS (by omega)).2.2.2 J).1 j (by omega) (by omega)).1.1) (by rw [if_pos (by omega)])
  · refine ⟨_, k_fail, ?_⟩
    rintro z9 ρ10 μ11 ⟨hq6_1, hq6_2, hq6_3⟩
    obtain rfl := hq6_1.symm
    obtain rfl := hq6_2.symm
    obtain rfl := hq6_3.symm
    exact pc_fin h hS FR.refl (fun J => (if_neg (by omega)).symm) (by rw [if_neg (by omega)])
theorem c_loaded {j : Int} (h : CI ρ μ σ) (hS : SI σ) : qE mX7_loaded GG GG [qP 0, qI j] ρ μ (PC μ ρ (fun J => if σ 0 4 = 1 ∧ 0 ≤ j ∧ j < σ 2 87 then sGo (σ 2) (-1) (-1) J 196 j else -2147483648) (sE σ (if σ 0 4 = 1 ∧ 0 ≤ j ∧ j < σ 2 87 then 0 else 1))) := by
  refine e_X7_loaded ?_
  refine ⟨_, k_isJob (by assumption) (by assumption), ?_⟩
  rintro z1 ρ2 μ3 ⟨hz, hq1_1, hq1_2⟩
  obtain rfl := hq1_1.symm
  obtain rfl := hq1_2.symm
  refine ⟨fun hc2 => ?_, fun hc2 => ?_⟩
  · have hn := (h.pl hS (by omega)).1.n
    refine ⟨(by omega), ?_⟩
    refine ⟨_, k_answer, ?_⟩
    rintro z5 ρ6 μ7 ⟨hq4_1, hq4_2, hq4_3⟩
    obtain rfl := hq4_1.symm
    obtain rfl := hq4_2.symm
    obtain rfl := hq4_3.symm
    exact pc_fin h hS FR.refl (fun J => by rw [if_pos (by omega)]; exact (((h.pl hS (by omega)).2.2.2 J).1 j (by omega) (by omega)).1.2.1) (by rw [if_pos (by omega)])
  · refine ⟨_, k_fail, ?_⟩
    rintro z9 ρ10 μ11 ⟨hq6_1, hq6_2, hq6_3⟩
    obtain rfl := hq6_1.symm
    obtain rfl := hq6_2.symm
    obtain rfl := hq6_3.symm
    exact pc_fin h hS FR.refl (fun J => (if_neg (by omega)).symm) (by rw [if_neg (by omega)])
theorem c_unloaded {j : Int} (h : CI ρ μ σ) (hS : SI σ) : qE mX7_unloaded GG GG [qP 0, qI j] ρ μ (PC μ ρ (fun J => if σ 0 4 = 1 ∧ 0 ≤ j ∧ j < σ 2 87 then sGo (σ 2) (-1) (-1) J 199 j else -2147483648) (sE σ (if σ 0 4 = 1 ∧ 0 ≤ j ∧ j < σ 2 87 then 0 else 1))) := by
  refine e_X7_unloaded ?_
  refine ⟨_, k_isJob (by assumption) (by assumption), ?_⟩
  rintro z1 ρ2 μ3 ⟨hz, hq1_1, hq1_2⟩
  obtain rfl := hq1_1.symm
  obtain rfl := hq1_2.symm
  refine ⟨fun hc2 => ?_, fun hc2 => ?_⟩
  · have hn := (h.pl hS (by omega)).1.n
    refine ⟨(by omega), ?_⟩
    refine ⟨_, k_answer, ?_⟩
    rintro z5 ρ6 μ7 ⟨hq4_1, hq4_2, hq4_3⟩
    obtain rfl := hq4_1.symm
    obtain rfl := hq4_2.symm
    obtain rfl := hq4_3.symm
    exact pc_fin h hS FR.refl (fun J => by rw [if_pos (by omega)]; exact (((h.pl hS (by omega)).2.2.2 J).1 j (by omega) (by omega)).1.2.2.2.1) (by rw [if_pos (by omega)])
  · refine ⟨_, k_fail, ?_⟩
    rintro z9 ρ10 μ11 ⟨hq6_1, hq6_2, hq6_3⟩
    obtain rfl := hq6_1.symm
    obtain rfl := hq6_2.symm
    obtain rfl := hq6_3.symm
    exact pc_fin h hS FR.refl (fun J => (if_neg (by omega)).symm) (by rw [if_neg (by omega)])
theorem c_finishTime {j : Int} (h : CI ρ μ σ) (hS : SI σ) : qE mX7_finishTime GG GG [qP 0, qI j] ρ μ (PC μ ρ (fun J => if σ 0 4 = 1 ∧ 0 ≤ j ∧ j < σ 2 87 then sGo (σ 2) (-1) (-1) J 200 j else -2147483648) (sE σ (if σ 0 4 = 1 ∧ 0 ≤ j ∧ j < σ 2 87 then 0 else 1))) := by
  refine e_X7_finishTime ?_
  refine ⟨_, k_isJob (by assumption) (by assumption), ?_⟩
  rintro z1 ρ2 μ3 ⟨hz, hq1_1, hq1_2⟩
  obtain rfl := hq1_1.symm
  obtain rfl := hq1_2.symm
  refine ⟨fun hc2 => ?_, fun hc2 => ?_⟩
  · have hn := (h.pl hS (by omega)).1.n
    refine ⟨(by omega), ?_⟩
    refine ⟨_, k_answer, ?_⟩
    rintro z5 ρ6 μ7 ⟨hq4_1, hq4_2, hq4_3⟩
    obtain rfl := hq4_1.symm
    obtain rfl := hq4_2.symm
    obtain rfl := hq4_3.symm
    exact pc_fin h hS FR.refl (fun J => by rw [if_pos (by omega)]; exact (((h.pl hS (by omega)).2.2.2 J).1 j (by omega) (by omega)).1.2.2.2.2.1) (by rw [if_pos (by omega)])
  · refine ⟨_, k_fail, ?_⟩
    rintro z9 ρ10 μ11 ⟨hq6_1, hq6_2, hq6_3⟩
    obtain rfl := hq6_1.symm
    obtain rfl := hq6_2.symm
    obtain rfl := hq6_3.symm
    exact pc_fin h hS FR.refl (fun J => (if_neg (by omega)).symm) (by rw [if_neg (by omega)])
theorem c_deliveredTotal (h : CI ρ μ σ) (hS : SI σ) : qE mX7_deliveredTotal GG GG [qP 0] ρ μ (PC μ ρ (fun J => if σ 0 4 = 1 then s_I (sGo (σ 2) (-1) (-1) J 199) (σ 2 87) else -2147483648) (sE σ (if σ 0 4 = 1 then 0 else 1))) := by
  have h8 := h.2.2.2.2.2.2.2.1
  have hb := hS.2.2.1
  refine e_X7_deliveredTotal ?_
  refine ⟨fun hc1 => ?_, fun hc1 => ?_⟩
  · refine ⟨_, k_answer, ?_⟩
    rintro z1 ρ2 μ3 ⟨hq2_1, hq2_2, hq2_3⟩
    obtain rfl := hq2_1.symm
    obtain rfl := hq2_2.symm
    obtain rfl := hq2_3.symm
    exact pc_fin h hS FR.refl (fun J => by rw [if_pos (by omega)]; exact ((h.pl hS (by omega)).2.2.2 J).2.2) (by rw [if_pos (by omega)])
  · refine ⟨_, k_fail, ?_⟩
    rintro z5 ρ6 μ7 ⟨hq4_1, hq4_2, hq4_3⟩
    obtain rfl := hq4_1.symm
    obtain rfl := hq4_2.symm
    obtain rfl := hq4_3.symm
    exact pc_fin h hS FR.refl (fun J => (if_neg (by omega)).symm) (by rw [if_neg (by omega)])
theorem c_finalStock {k m : Int} (h : CI ρ μ σ) (hS : SI σ) : qE mX7_finalStock GG GG [qP 0, qI k, qI m] ρ μ (PC μ ρ (fun J => if σ 0 4 = 1 ∧ 0 ≤ k ∧ k < σ 2 45 ∧ 0 ≤ m ∧ m < σ 2 36 then sGo (σ 2) (-1) (-1) J 193 (4 * k + m) else -2147483648) (sE σ (if σ 0 4 = 1 ∧ 0 ≤ k ∧ k < σ 2 45 ∧ 0 ≤ m ∧ m < σ 2 36 then 0 else 1))) := by
  refine e_X7_finalStock ?_
  refine ⟨_, k_isStock (by assumption) (by assumption), ?_⟩
  rintro z1 ρ2 μ3 ⟨hz, hq1_1, hq1_2⟩
  obtain rfl := hq1_1.symm
  obtain rfl := hq1_2.symm
  refine ⟨fun hc2 => ?_, fun hc2 => ?_⟩
  · have hn := (h.pl hS (by omega)).1.n
    refine ⟨_, k_stockIndex (by omega) (by omega), ?_⟩
    rintro z5 ρ6 μ7 ⟨hq3_1, hq3_2, hq3_3⟩
    obtain rfl := hq3_1.symm
    obtain rfl := hq3_2.symm
    obtain rfl := hq3_3.symm
    refine ⟨(by omega), ?_⟩
    refine ⟨_, k_answer, ?_⟩
    rintro z9 ρ10 μ11 ⟨hq5_1, hq5_2, hq5_3⟩
    obtain rfl := hq5_1.symm
    obtain rfl := hq5_2.symm
    obtain rfl := hq5_3.symm
    exact pc_fin h hS FR.refl (fun J => by rw [if_pos (by omega)]; exact ((h.pl hS (by omega)).2.2.2 J).2.1 _ (by omega) (by omega)) (by rw [if_pos (by omega)])
  · refine ⟨_, k_fail, ?_⟩
    rintro z13 ρ14 μ15 ⟨hq7_1, hq7_2, hq7_3⟩
    obtain rfl := hq7_1.symm
    obtain rfl := hq7_2.symm
    obtain rfl := hq7_3.symm
    exact pc_fin h hS FR.refl (fun J => (if_neg (by omega)).symm) (by rw [if_neg (by omega)])
end CG
