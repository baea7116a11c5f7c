/-! ===== the reference's plain questions ===== -/
section MG
variable {ρ : Rf} {μ : Mem} {σ : Sg}
theorem MJ.fr {μ' : Mem} (h : MJ μ σ) (h9 : μ' 179 = μ 179) (h0 : μ' 180 = μ 180) (h2 : μ' 182 = μ 182) (h3 : μ' 183 = μ 183) (hs : ∀ k, k ≠ 0 → k ≠ 8 → k ≠ 9 → k ≠ 10 → k ≠ 36 → k ≠ 37 → k ≠ 42 → k ≠ 43 → k ≠ 47 → k ≠ 48 → k ≠ 49 → μ' 178 k = μ 178 k) : MJ μ' σ := by
  unfold MJ
  rw [h9, h0, h2, h3, hs 3 (by decide) (by decide) (by decide) (by decide) (by decide) (by decide) (by decide) (by decide) (by decide) (by decide) (by decide), hs 6 (by decide) (by decide) (by decide) (by decide) (by decide) (by decide) (by decide) (by decide) (by decide) (by decide) (by decide), hs 7 (by decide) (by decide) (by decide) (by decide) (by decide) (by decide) (by decide) (by decide) (by decide) (by decide) (by decide), hs 1 (by decide) (by decide) (by decide) (by decide) (by decide) (by decide) (by decide) (by decide) (by decide) (by decide) (by decide), hs 20 (by decide) (by decide) (by decide) (by decide) (by decide) (by decide) (by decide) (by decide) (by decide) (by decide) (by decide), hs 21 (by decide) (by decide) (by decide) (by decide) (by decide) (by decide) (by decide) (by decide) (by decide) (by decide) (by decide), hs 19 (by decide) (by decide) (by decide) (by decide) (by decide) (by decide) (by decide) (by decide) (by decide) (by decide) (by decide)]
  exact h
/-- a field of the reference that is no part of what holds between calls -/
theorem MJ.up {k v : Int} (h : MJ μ σ) (hk : k = 0 ∨ k = 8 ∨ k = 9 ∨ k = 10 ∨ k = 36 ∨ k = 37 ∨ k = 42 ∨ k = 43 ∨ k = 47 ∨ k = 48 ∨ k = 49) : MJ (up2 μ 178 k v) σ := by
  refine h.fr (up2_c (by decide)) (up2_c (by decide)) (up2_c (by decide)) (up2_c (by decide)) (fun j a b c d e f g i l m n => up2_k (by omega))
theorem MJ.th {v : Int} (h : MJ μ σ) : MJ (up2 μ 178 0 v) σ := h.up (Or.inl rfl)
theorem MJ.cell {c : Nat} {k v : Int} (h : MJ μ σ) (hc : 184 ≤ c ∨ c = 181) : MJ (up2 μ c k v) σ :=
  h.fr (up2_c (by omega)) (up2_c (by omega)) (up2_c (by omega)) (up2_c (by omega)) (fun j _ _ _ _ _ _ _ _ _ _ _ => by rw [up2_c (by omega)])
theorem MJ.go {p : Pl} {wo out : Int} (h : MJ μ σ) : MJ (sGo p wo out μ) σ :=
  h.fr (sGo_o (by omega)) (sGo_o (by omega)) (sGo_o (by omega)) (sGo_o (by omega)) (fun j _ _ _ _ _ _ _ _ _ _ _ => by rw [sGo_o (by omega)])
theorem FR.go {p : Pl} {wo out : Int} {μ0 : Mem} (h : FR 178 207 μ0 μ) : FR 178 207 μ0 (sGo p wo out μ) := fun a ha => (sGo_o (by omega)).trans (h a ha)
theorem MJ.e {c : Int} (h : MJ μ σ) : MJ (up2 μ 178 1 c) (sE σ c) := by
  obtain ⟨h1, h2, h3, h4, h5, h6, h7, h8, h9⟩ := h
  unfold MJ
  have e : ∀ i : Int, sE σ c (4 + i.toNat) = σ (4 + i.toNat) := fun i => sE_c (by omega)
  simp (disch := omega) only [sE_k, sE_c, sE_3, e, up2_c, up2_k, up2_s]
  exact ⟨h1, h2, h3, h4, by trivial, h6, h7, h8, h9⟩
theorem pm_fin {v : Mem → Int} {σ' : Sg} {z c : Int} {μ0 : Mem} (h : MJ μ σ) (hf : FR 178 207 μ0 μ) (hz : ∃ J, z = v J) (hs : σ' = sE σ c) : PM μ0 ρ v σ' z ρ (up2 μ 178 1 c) := by
  subst hs
  exact ⟨hz, rfl, h.e, FR.up hf (by omega)⟩
theorem m_done {x : Int} : qE mX8_done GG GG [qP 178, qI x] ρ μ (fun z ρ' μ' => z = x ∧ ρ' = ρ ∧ μ' = up2 μ 178 1 0) := by
  refine e_X8_done ?_
  intro μ1 eμ1; subst eμ1
  exact ⟨rfl, rfl, rfl⟩
theorem m_failed {x : Int} : qE mX8_failed GG GG [qP 178, qI x] ρ μ (fun z ρ' μ' => z = -2147483648 ∧ ρ' = ρ ∧ μ' = up2 μ 178 1 x) := by
  refine e_X8_failed ?_
  intro μ1 eμ1; subst eμ1
  exact ⟨rfl, rfl, rfl⟩
theorem m_failedLong {x : Int} : qE mX8_failedLong GG GG [qP 178, qI x] ρ μ (fun z ρ' μ' => z = -9223372036854775808 ∧ ρ' = ρ ∧ μ' = up2 μ 178 1 x) := by
  refine e_X8_failedLong ?_
  intro μ1 eμ1; subst eμ1
  exact ⟨rfl, rfl, rfl⟩
theorem m_in {a b c : Int} : qE mX8_in GG GG [qI a, qI b, qI c] ρ μ (fun z ρ' μ' => ((z = 1 ∧ b ≤ a ∧ a ≤ c) ∨ (z = 0 ∧ ¬ (b ≤ a ∧ a ≤ c))) ∧ ρ' = ρ ∧ μ' = μ) := by
  refine e_X8_in ?_
  refine ⟨fun hc1 => ?_, fun hc1 => ?_⟩
  · exact ⟨by omega, rfl, rfl⟩
  · refine ⟨fun hc3 => ?_, fun hc3 => ?_⟩
    · exact ⟨by omega, rfl, rfl⟩
    · exact ⟨by omega, rfl, rfl⟩

theorem m_isTrainNow {t : Int} (h : MJ μ σ) (hS : SI σ) : qE mX8_isTrainNow GG GG [qP 178, qI t] ρ μ (fun z ρ' μ' => ((z = 1 ∧ σ 0 4 = 1 ∧ 0 ≤ t ∧ t < 2) ∨ (z = 0 ∧ ¬ (σ 0 4 = 1 ∧ 0 ≤ t ∧ t < 2))) ∧ ρ' = ρ ∧ μ' = μ) := by
  have hb := hS.2.2.1
  have h20 := h.2.2.2.2.2.1
  have h180 := h.2.2.2.2.2.2.2.1
  have hn : σ 0 4 = 1 → PV (σ 2) := fun e => (hS.2.2.2.2.2.2.2.2 e).1.1
  refine e_X8_isTrainNow ?_
  refine ⟨fun hc1 => ?_, fun hc1 => ?_⟩
  · exact ⟨by omega, rfl, rfl⟩
  · refine ⟨_, m_in, ?_⟩
    rintro z1 ρ2 μ3 ⟨hin, hq3_1, hq3_2⟩
    obtain rfl := hq3_1.symm
    obtain rfl := hq3_2.symm
    refine ⟨fun hc4 => ?_, fun hc4 => ?_⟩
    · exact ⟨by omega, rfl, rfl⟩
    · exact ⟨by omega, rfl, rfl⟩
theorem m_isMeal {m : Int} (h : MJ μ σ) (hS : SI σ) : qE mX8_isMeal GG GG [qP 178, qI m] ρ μ (fun z ρ' μ' => ((z = 1 ∧ σ 0 4 = 1 ∧ 0 ≤ m ∧ m < σ 2 36) ∨ (z = 0 ∧ ¬ (σ 0 4 = 1 ∧ 0 ≤ m ∧ m < σ 2 36))) ∧ ρ' = ρ ∧ μ' = μ) := by
  have hb := hS.2.2.1
  have h20 := h.2.2.2.2.2.1
  have h180 := h.2.2.2.2.2.2.2.1
  have hn : σ 0 4 = 1 → PV (σ 2) := fun e => (hS.2.2.2.2.2.2.2.2 e).1.1
  refine e_X8_isMeal ?_
  refine ⟨fun hc1 => ?_, fun hc1 => ?_⟩
  · exact ⟨by omega, rfl, rfl⟩
  · rw [h180]
    have hv := (hn (by omega)).n
    refine ⟨(by unfold i32; omega), ?_⟩
    refine ⟨_, m_in, ?_⟩
    rintro z1 ρ2 μ3 ⟨hin, hq4_1, hq4_2⟩
    obtain rfl := hq4_1.symm
    obtain rfl := hq4_2.symm
    refine ⟨fun hc5 => ?_, fun hc5 => ?_⟩
    · exact ⟨by omega, rfl, rfl⟩
    · exact ⟨by omega, rfl, rfl⟩
theorem m_isKitchen {k : Int} (h : MJ μ σ) (hS : SI σ) : qE mX8_isKitchen GG GG [qP 178, qI k] ρ μ (fun z ρ' μ' => ((z = 1 ∧ σ 0 4 = 1 ∧ 0 ≤ k ∧ k < σ 2 45) ∨ (z = 0 ∧ ¬ (σ 0 4 = 1 ∧ 0 ≤ k ∧ k < σ 2 45))) ∧ ρ' = ρ ∧ μ' = μ) := by
  have hb := hS.2.2.1
  have h20 := h.2.2.2.2.2.1
  have h180 := h.2.2.2.2.2.2.2.1
  have hn : σ 0 4 = 1 → PV (σ 2) := fun e => (hS.2.2.2.2.2.2.2.2 e).1.1
  refine e_X8_isKitchen ?_
  refine ⟨fun hc1 => ?_, fun hc1 => ?_⟩
  · exact ⟨by omega, rfl, rfl⟩
  · rw [h180]
    have hv := (hn (by omega)).n
    refine ⟨(by unfold i32; omega), ?_⟩
    refine ⟨_, m_in, ?_⟩
    rintro z1 ρ2 μ3 ⟨hin, hq4_1, hq4_2⟩
    obtain rfl := hq4_1.symm
    obtain rfl := hq4_2.symm
    refine ⟨fun hc5 => ?_, fun hc5 => ?_⟩
    · exact ⟨by omega, rfl, rfl⟩
    · exact ⟨by omega, rfl, rfl⟩
theorem m_isTrolley {i : Int} (h : MJ μ σ) (hS : SI σ) : qE mX8_isTrolley GG GG [qP 178, qI i] ρ μ (fun z ρ' μ' => ((z = 1 ∧ σ 0 4 = 1 ∧ 0 ≤ i ∧ i < σ 2 61) ∨ (z = 0 ∧ ¬ (σ 0 4 = 1 ∧ 0 ≤ i ∧ i < σ 2 61))) ∧ ρ' = ρ ∧ μ' = μ) := by
  have hb := hS.2.2.1
  have h20 := h.2.2.2.2.2.1
  have h180 := h.2.2.2.2.2.2.2.1
  have hn : σ 0 4 = 1 → PV (σ 2) := fun e => (hS.2.2.2.2.2.2.2.2 e).1.1
  refine e_X8_isTrolley ?_
  refine ⟨fun hc1 => ?_, fun hc1 => ?_⟩
  · exact ⟨by omega, rfl, rfl⟩
  · rw [h180]
    have hv := (hn (by omega)).n
    refine ⟨(by unfold i32; omega), ?_⟩
    refine ⟨_, m_in, ?_⟩
    rintro z1 ρ2 μ3 ⟨hin, hq4_1, hq4_2⟩
    obtain rfl := hq4_1.symm
    obtain rfl := hq4_2.symm
    refine ⟨fun hc5 => ?_, fun hc5 => ?_⟩
    · exact ⟨by omega, rfl, rfl⟩
    · exact ⟨by omega, rfl, rfl⟩
theorem m_isJob {j : Int} (h : MJ μ σ) (hS : SI σ) : qE mX8_isJob GG GG [qP 178, qI j] ρ μ (fun z ρ' μ' => ((z = 1 ∧ σ 0 4 = 1 ∧ 0 ≤ j ∧ j < σ 2 87) ∨ (z = 0 ∧ ¬ (σ 0 4 = 1 ∧ 0 ≤ j ∧ j < σ 2 87))) ∧ ρ' = ρ ∧ μ' = μ) := by
  have hb := hS.2.2.1
  have h20 := h.2.2.2.2.2.1
  have h180 := h.2.2.2.2.2.2.2.1
  have hn : σ 0 4 = 1 → PV (σ 2) := fun e => (hS.2.2.2.2.2.2.2.2 e).1.1
  refine e_X8_isJob ?_
  refine ⟨fun hc1 => ?_, fun hc1 => ?_⟩
  · exact ⟨by omega, rfl, rfl⟩
  · rw [h180]
    have hv := (hn (by omega)).n
    refine ⟨(by unfold i32; omega), ?_⟩
    refine ⟨_, m_in, ?_⟩
    rintro z1 ρ2 μ3 ⟨hin, hq4_1, hq4_2⟩
    obtain rfl := hq4_1.symm
    obtain rfl := hq4_2.symm
    refine ⟨fun hc5 => ?_, fun hc5 => ?_⟩
    · exact ⟨by omega, rfl, rfl⟩
    · exact ⟨by omega, rfl, rfl⟩
theorem m_isCar {t c : Int} (h : MJ μ σ) (hS : SI σ) : qE mX8_isCar GG GG [qP 178, qI t, qI c] ρ μ (fun z ρ' μ' => ((z = 1 ∧ σ 0 4 = 1 ∧ 0 ≤ t ∧ t < 2 ∧ 0 ≤ c ∧ c < σ 2 (4 + t)) ∨ (z = 0 ∧ ¬ (σ 0 4 = 1 ∧ 0 ≤ t ∧ t < 2 ∧ 0 ≤ c ∧ c < σ 2 (4 + t)))) ∧ ρ' = ρ ∧ μ' = μ) := by
  have hb := hS.2.2.1
  have h20 := h.2.2.2.2.2.1
  have h180 := h.2.2.2.2.2.2.2.1
  have hn : σ 0 4 = 1 → PV (σ 2) := fun e => (hS.2.2.2.2.2.2.2.2 e).1.1
  refine e_X8_isCar ?_
  refine ⟨_, m_isTrainNow (σ := σ) (by assumption) (by assumption), ?_⟩
  rintro z1 ρ2 μ3 ⟨hz, hq1_1, hq1_2⟩
  obtain rfl := hq1_1.symm
  obtain rfl := hq1_2.symm
  refine ⟨fun hc2 => ?_, fun hc2 => ?_⟩
  · exact ⟨by omega, rfl, rfl⟩
  · rw [h180]
    have hv := (hn (by omega)).t (t := t) (by omega) (by omega)
    refine ⟨(by unfold i32; omega), ?_⟩
    refine ⟨(by omega), ?_⟩
    refine ⟨(by unfold i32; omega), ?_⟩
    refine ⟨_, m_in, ?_⟩
    rintro z5 ρ6 μ7 ⟨hin, hq7_1, hq7_2⟩
    obtain rfl := hq7_1.symm
    obtain rfl := hq7_2.symm
    refine ⟨fun hc8 => ?_, fun hc8 => ?_⟩
    · exact ⟨by omega, rfl, rfl⟩
    · exact ⟨by omega, rfl, rfl⟩
theorem m_tell {x k : Int} (h : MJ μ σ) (hk : x = 0 ∨ (0 ≤ k ∧ k < 188)) : qE mX8_tell GG GG [qP 178, qI x, qI k] ρ μ (fun z ρ' μ' => ((x ≠ 0 ∧ z = σ 2 k ∧ μ' = up2 (up2 μ 178 0 0) 178 1 0) ∨ (x = 0 ∧ z = -2147483648 ∧ μ' = up2 (up2 μ 178 0 0) 178 1 1)) ∧ ρ' = ρ) := by
  have h180 := h.2.2.2.2.2.2.2.1
  refine e_X8_tell ?_
  intro μ1 eμ1; subst eμ1
  refine ⟨fun hc2 => ?_, fun hc2 => ?_⟩
  · refine ⟨_, m_failed, ?_⟩
    rintro z2 ρ3 μ4 ⟨hq3_1, hq3_2, hq3_3⟩
    obtain rfl := hq3_1.symm
    obtain rfl := hq3_2.symm
    obtain rfl := hq3_3.symm
    exact ⟨Or.inr ⟨hc2, rfl, rfl⟩, rfl⟩
  · refine ⟨(by omega), ?_⟩
    refine ⟨_, m_done, ?_⟩
    rintro z6 ρ7 μ8 ⟨hq6_1, hq6_2, hq6_3⟩
    obtain rfl := hq6_1.symm
    obtain rfl := hq6_2.symm
    obtain rfl := hq6_3.symm
    exact ⟨Or.inl ⟨hc2, by rw [up2_c (by decide), h180], rfl⟩, rfl⟩
theorem m_goAll {p : Pl} (hp : μ 180 = p) (hv : PV p) : qE mX8_goAll GG GG [qP 178] ρ μ (fun _ ρ' μ' => ρ' = ρ ∧ μ' = sGo p (-1) (-1) μ) := by
  refine e_X8_goAll ?_
  refine ⟨_, m_go hp hv, ?_⟩
  rintro z1 ρ2 μ3 ⟨hq1_1, hq1_2⟩
  obtain rfl := hq1_1.symm
  obtain rfl := hq1_2.symm
  exact ⟨rfl, rfl⟩
theorem m_goesFor {x : Int} (h : MJ μ σ) (hx : x = 0 ∨ x = 1) (hv : x = 1 → PV (σ 2)) : qE mX8_goesFor GG GG [qP 178, qI x] ρ μ (fun z ρ' μ' => z = x ∧ ρ' = ρ ∧ ((x = 0 ∧ μ' = up2 μ 178 0 0) ∨ (x = 1 ∧ μ' = sGo (σ 2) (-1) (-1) (up2 μ 178 0 0)))) := by
  have h180 := h.2.2.2.2.2.2.2.1
  refine e_X8_goesFor ?_
  intro μ1 eμ1; subst eμ1
  refine ⟨fun hc2 => ?_, fun hc2 => ?_⟩
  · refine ⟨(by omega), ?_⟩
    exact ⟨rfl, rfl, Or.inl ⟨hc2, rfl⟩⟩
  · refine ⟨_, m_goAll (by rw [up2_c (by decide)]; exact h180) (hv (by omega)), ?_⟩
    rintro z2 ρ3 μ4 ⟨hq5_1, hq5_2⟩
    obtain rfl := hq5_1.symm
    obtain rfl := hq5_2.symm
    refine ⟨(by omega), ?_⟩
    exact ⟨rfl, rfl, Or.inr ⟨by omega, rfl⟩⟩
theorem q_carCount {t : Int} (h : MJ μ σ) (hS : SI σ) : qE mX8_carCount GG GG [qP 178, qI t] ρ μ (PM μ ρ (fun J => if σ 0 4 = 1 ∧ 0 ≤ t ∧ t < 2 then σ 2 (4 + t) else -2147483648) (sE σ (if σ 0 4 = 1 ∧ 0 ≤ t ∧ t < 2 then 0 else 1))) := by
  have hb := hS.2.2.1
  have h20 := h.2.2.2.2.2.1
  have hn : σ 0 4 = 1 → PV (σ 2) := fun e => (hS.2.2.2.2.2.2.2.2 e).1.1
  have fth : FR 178 207 μ (up2 μ 178 0 0) := FR.up FR.refl (by omega)
  refine e_X8_carCount ?_
  refine ⟨_, m_isTrainNow (σ := σ) (by assumption) (by assumption), ?_⟩
  rintro z1 ρ2 μ3 ⟨hz, hq1_1, hq1_2⟩
  obtain rfl := hq1_1.symm
  obtain rfl := hq1_2.symm
  refine ⟨_, m_isTrainNow (σ := σ) (by assumption) (by assumption), ?_⟩
  rintro z5 ρ6 μ7 ⟨hz, hq2_1, hq2_2⟩
  obtain rfl := hq2_1.symm
  obtain rfl := hq2_2.symm
  refine ⟨fun hc3 => ?_, fun hc3 => ?_⟩
  · refine ⟨_, m_tell h (Or.inl (by omega)), ?_⟩
    rintro z9 ρ10 μ11 ⟨ht, hq4_1⟩
    obtain rfl := hq4_1.symm
    rcases ht with ⟨a, rfl, rfl⟩ | ⟨a, rfl, rfl⟩
    · omega
    · exact pm_fin h.th fth ⟨μ, (if_neg (by omega)).symm⟩ (by rw [if_neg (by omega)])
  · refine ⟨(by unfold i32; omega), ?_⟩
    refine ⟨_, m_tell h (Or.inr (by omega)), ?_⟩
    rintro z13 ρ14 μ15 ⟨ht, hq7_1⟩
    obtain rfl := hq7_1.symm
    rcases ht with ⟨a, rfl, rfl⟩ | ⟨a, rfl, rfl⟩
    · exact pm_fin h.th fth ⟨μ, (if_pos (by omega)).symm⟩ (by rw [if_pos (by omega)])
    · omega
theorem q_departure {t : Int} (h : MJ μ σ) (hS : SI σ) : qE mX8_departure GG GG [qP 178, qI t] ρ μ (PM μ ρ (fun J => if σ 0 4 = 1 ∧ 0 ≤ t ∧ t < 2 then σ 2 (2 + t) else -2147483648) (sE σ (if σ 0 4 = 1 ∧ 0 ≤ t ∧ t < 2 then 0 else 1))) := by
  have hb := hS.2.2.1
  have h20 := h.2.2.2.2.2.1
  have hn : σ 0 4 = 1 → PV (σ 2) := fun e => (hS.2.2.2.2.2.2.2.2 e).1.1
  have fth : FR 178 207 μ (up2 μ 178 0 0) := FR.up FR.refl (by omega)
  refine e_X8_departure ?_
  refine ⟨_, m_isTrainNow (σ := σ) (by assumption) (by assumption), ?_⟩
  rintro z1 ρ2 μ3 ⟨hz, hq1_1, hq1_2⟩
  obtain rfl := hq1_1.symm
  obtain rfl := hq1_2.symm
  refine ⟨_, m_isTrainNow (σ := σ) (by assumption) (by assumption), ?_⟩
  rintro z5 ρ6 μ7 ⟨hz, hq2_1, hq2_2⟩
  obtain rfl := hq2_1.symm
  obtain rfl := hq2_2.symm
  refine ⟨fun hc3 => ?_, fun hc3 => ?_⟩
  · refine ⟨_, m_tell h (Or.inl (by omega)), ?_⟩
    rintro z9 ρ10 μ11 ⟨ht, hq4_1⟩
    obtain rfl := hq4_1.symm
    rcases ht with ⟨a, rfl, rfl⟩ | ⟨a, rfl, rfl⟩
    · omega
    · exact pm_fin h.th fth ⟨μ, (if_neg (by omega)).symm⟩ (by rw [if_neg (by omega)])
  · refine ⟨(by unfold i32; omega), ?_⟩
    refine ⟨_, m_tell h (Or.inr (by omega)), ?_⟩
    rintro z13 ρ14 μ15 ⟨ht, hq7_1⟩
    obtain rfl := hq7_1.symm
    rcases ht with ⟨a, rfl, rfl⟩ | ⟨a, rfl, rfl⟩
    · exact pm_fin h.th fth ⟨μ, (if_pos (by omega)).symm⟩ (by rw [if_pos (by omega)])
    · omega
theorem q_jobTrolley {j : Int} (h : MJ μ σ) (hS : SI σ) : qE mX8_jobTrolley GG GG [qP 178, qI j] ρ μ (PM μ ρ (fun J => if σ 0 4 = 1 ∧ 0 ≤ j ∧ j < σ 2 87 then σ 2 (88 + 5 * j + 0) else -2147483648) (sE σ (if σ 0 4 = 1 ∧ 0 ≤ j ∧ j < σ 2 87 then 0 else 1))) := by
  have hb := hS.2.2.1
  have h20 := h.2.2.2.2.2.1
  have hn : σ 0 4 = 1 → PV (σ 2) := fun e => (hS.2.2.2.2.2.2.2.2 e).1.1
  have fth : FR 178 207 μ (up2 μ 178 0 0) := FR.up FR.refl (by omega)
  refine e_X8_jobTrolley ?_
  refine ⟨_, m_isJob (σ := σ) (by assumption) (by assumption), ?_⟩
  rintro z1 ρ2 μ3 ⟨hz, hq1_1, hq1_2⟩
  obtain rfl := hq1_1.symm
  obtain rfl := hq1_2.symm
  refine ⟨_, m_isJob (σ := σ) (by assumption) (by assumption), ?_⟩
  rintro z5 ρ6 μ7 ⟨hz, hq2_1, hq2_2⟩
  obtain rfl := hq2_1.symm
  obtain rfl := hq2_2.symm
  refine ⟨fun hc3 => ?_, fun hc3 => ?_⟩
  · refine ⟨_, m_tell h (Or.inl (by omega)), ?_⟩
    rintro z9 ρ10 μ11 ⟨ht, hq4_1⟩
    obtain rfl := hq4_1.symm
    rcases ht with ⟨a, rfl, rfl⟩ | ⟨a, rfl, rfl⟩
    · omega
    · exact pm_fin h.th fth ⟨μ, (if_neg (by omega)).symm⟩ (by rw [if_neg (by omega)])
  · have hv := (hn (by omega)).n
    refine ⟨(by unfold i32; omega), ?_⟩
    refine ⟨(by unfold i32; omega), ?_⟩
    refine ⟨(by unfold i32; omega), ?_⟩
    refine ⟨_, m_tell h (Or.inr (by have hv := (hn (by omega)).n; omega)), ?_⟩
    rintro z13 ρ14 μ15 ⟨ht, hq9_1⟩
    obtain rfl := hq9_1.symm
    rcases ht with ⟨a, rfl, rfl⟩ | ⟨a, rfl, rfl⟩
    · exact pm_fin h.th fth ⟨μ, (if_pos (by omega)).symm⟩ (by rw [if_pos (by omega)])
    · omega
theorem q_jobQuantity {j : Int} (h : MJ μ σ) (hS : SI σ) : qE mX8_jobQuantity GG GG [qP 178, qI j] ρ μ (PM μ ρ (fun J => if σ 0 4 = 1 ∧ 0 ≤ j ∧ j < σ 2 87 then σ 2 (88 + 5 * j + 4) else -2147483648) (sE σ (if σ 0 4 = 1 ∧ 0 ≤ j ∧ j < σ 2 87 then 0 else 1))) := by
  have hb := hS.2.2.1
  have h20 := h.2.2.2.2.2.1
  have hn : σ 0 4 = 1 → PV (σ 2) := fun e => (hS.2.2.2.2.2.2.2.2 e).1.1
  have fth : FR 178 207 μ (up2 μ 178 0 0) := FR.up FR.refl (by omega)
  refine e_X8_jobQuantity ?_
  refine ⟨_, m_isJob (σ := σ) (by assumption) (by assumption), ?_⟩
  rintro z1 ρ2 μ3 ⟨hz, hq1_1, hq1_2⟩
  obtain rfl := hq1_1.symm
  obtain rfl := hq1_2.symm
  refine ⟨_, m_isJob (σ := σ) (by assumption) (by assumption), ?_⟩
  rintro z5 ρ6 μ7 ⟨hz, hq2_1, hq2_2⟩
  obtain rfl := hq2_1.symm
  obtain rfl := hq2_2.symm
  refine ⟨fun hc3 => ?_, fun hc3 => ?_⟩
  · refine ⟨_, m_tell h (Or.inl (by omega)), ?_⟩
    rintro z9 ρ10 μ11 ⟨ht, hq4_1⟩
    obtain rfl := hq4_1.symm
    rcases ht with ⟨a, rfl, rfl⟩ | ⟨a, rfl, rfl⟩
    · omega
    · exact pm_fin h.th fth ⟨μ, (if_neg (by omega)).symm⟩ (by rw [if_neg (by omega)])
  · have hv := (hn (by omega)).n
    refine ⟨(by unfold i32; omega), ?_⟩
    refine ⟨(by unfold i32; omega), ?_⟩
    refine ⟨(by unfold i32; omega), ?_⟩
    refine ⟨_, m_tell h (Or.inr (by have hv := (hn (by omega)).n; omega)), ?_⟩
    rintro z13 ρ14 μ15 ⟨ht, hq9_1⟩
    obtain rfl := hq9_1.symm
    rcases ht with ⟨a, rfl, rfl⟩ | ⟨a, rfl, rfl⟩
    · exact pm_fin h.th fth ⟨μ, (if_pos (by omega)).symm⟩ (by rw [if_pos (by omega)])
    · omega
theorem q_mealCount (h : MJ μ σ) (hS : SI σ) : qE mX8_mealCount GG GG [qP 178] ρ μ (PM μ ρ (fun J => if σ 0 4 = 1 then σ 2 36 else -2147483648) (sE σ (if σ 0 4 = 1 then 0 else 1))) := by
  have hb := hS.2.2.1
  have h20 := h.2.2.2.2.2.1
  have hn : σ 0 4 = 1 → PV (σ 2) := fun e => (hS.2.2.2.2.2.2.2.2 e).1.1
  have fth : FR 178 207 μ (up2 μ 178 0 0) := FR.up FR.refl (by omega)
  refine e_X8_mealCount ?_
  refine ⟨_, m_tell h (Or.inr (by omega)), ?_⟩
  rintro z1 ρ2 μ3 ⟨ht, hq1_1⟩
  obtain rfl := hq1_1.symm
  rcases ht with ⟨a, rfl, rfl⟩ | ⟨a, rfl, rfl⟩
  · exact pm_fin h.th fth ⟨μ, (if_pos (by omega)).symm⟩ (by rw [if_pos (by omega)])
  · exact pm_fin h.th fth ⟨μ, (if_neg (by omega)).symm⟩ (by rw [if_neg (by omega)])
theorem q_trolleyCount (h : MJ μ σ) (hS : SI σ) : qE mX8_trolleyCount GG GG [qP 178] ρ μ (PM μ ρ (fun J => if σ 0 4 = 1 then σ 2 61 else -2147483648) (sE σ (if σ 0 4 = 1 then 0 else 1))) := by
  have hb := hS.2.2.1
  have h20 := h.2.2.2.2.2.1
  have hn : σ 0 4 = 1 → PV (σ 2) := fun e => (hS.2.2.2.2.2.2.2.2 e).1.1
  have fth : FR 178 207 μ (up2 μ 178 0 0) := FR.up FR.refl (by omega)
  refine e_X8_trolleyCount ?_
  refine ⟨_, m_tell h (Or.inr (by omega)), ?_⟩
  rintro z1 ρ2 μ3 ⟨ht, hq1_1⟩
  obtain rfl := hq1_1.symm
  rcases ht with ⟨a, rfl, rfl⟩ | ⟨a, rfl, rfl⟩
  · exact pm_fin h.th fth ⟨μ, (if_pos (by omega)).symm⟩ (by rw [if_pos (by omega)])
  · exact pm_fin h.th fth ⟨μ, (if_neg (by omega)).symm⟩ (by rw [if_neg (by omega)])
theorem q_jobCount (h : MJ μ σ) (hS : SI σ) : qE mX8_jobCount GG GG [qP 178] ρ μ (PM μ ρ (fun J => if σ 0 4 = 1 then σ 2 87 else -2147483648) (sE σ (if σ 0 4 = 1 then 0 else 1))) := by
  have hb := hS.2.2.1
  have h20 := h.2.2.2.2.2.1
  have hn : σ 0 4 = 1 → PV (σ 2) := fun e => (hS.2.2.2.2.2.2.2.2 e).1.1
  have fth : FR 178 207 μ (up2 μ 178 0 0) := FR.up FR.refl (by omega)
  refine e_X8_jobCount ?_
  refine ⟨_, m_tell h (Or.inr (by omega)), ?_⟩
  rintro z1 ρ2 μ3 ⟨ht, hq1_1⟩
  obtain rfl := hq1_1.symm
  rcases ht with ⟨a, rfl, rfl⟩ | ⟨a, rfl, rfl⟩
  · exact pm_fin h.th fth ⟨μ, (if_pos (by omega)).symm⟩ (by rw [if_pos (by omega)])
  · exact pm_fin h.th fth ⟨μ, (if_neg (by omega)).symm⟩ (by rw [if_neg (by omega)])
end MG
