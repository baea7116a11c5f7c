/-! ===== the reference's questions about its run ===== -/
section MH
variable {ρ : Rf} {μ : Mem} {σ : Sg}
theorem m_demandOf {p : Pl} {t c m : Int} (hp : μ 180 = p) (hv : PV p) (h0 : 0 ≤ t) (h1 : t < 2) (h2 : 0 ≤ c) (h3 : c < p (4 + t)) (h4 : 0 ≤ m) (h5 : m < p 36) : qE mX8_demandOf GG GG [qP 178, qI t, qI c, qI m] ρ μ (fun z ρ' μ' => z = dem p t c m ∧ ρ' = ρ ∧ μ' = μ) := by
  have a := hv.c h0 h1 h2 h3
  have b := hv.m h4 h5
  have c1 := mulb a.2.2.1 a.2.2.2.1 b.1 b.2.1
  have c2 := mulb a.2.2.2.2.1 a.2.2.2.2.2 b.2.2.1 b.2.2.2
  have n := hv.n
  have tt := hv.t h0 h1
  refine e_X8_demandOf ?_
  rw [hp]
  refine ⟨(by unfold i32; omega), ?_⟩
  refine ⟨(by unfold i32; omega), ?_⟩
  refine ⟨(by unfold i32; omega), ?_⟩
  refine ⟨(by omega), ?_⟩
  refine ⟨(by unfold i32; omega), ?_⟩
  refine ⟨(by omega), ?_⟩
  refine ⟨(by unfold i32; omega), ?_⟩
  refine ⟨(by unfold i32; omega), ?_⟩
  refine ⟨(by omega), ?_⟩
  refine ⟨(by unfold i32; omega), ?_⟩
  refine ⟨(by omega), ?_⟩
  refine ⟨(by unfold i32; omega), ?_⟩
  refine ⟨(by unfold i32; omega), ?_⟩
  refine ⟨(by unfold i32; omega), ?_⟩
  refine ⟨(by omega), ?_⟩
  exact ⟨rfl, rfl, rfl⟩
theorem m_total {p : Pl} (hp : μ 180 = p) (hn : 0 ≤ p 87 ∧ p 87 ≤ 20) (hb : ∀ j, 0 ≤ j → j < p 87 → 0 ≤ μ 199 j ∧ μ 199 j ≤ 99) : qE mX8_total GG GG [qP 178] ρ μ (fun z ρ' μ' => z = s_I (μ 199) (p 87) ∧ ρ' = ρ ∧ μ' = μ) := by
  have L : ∀ (k : Nat) (x : Int), (p 87 - x).toNat < k → 0 ≤ x → x ≤ p 87 → qX mX8_total GG (fun z ρ' μ' => z = s_I (μ 199) (p 87) ∧ ρ' = ρ ∧ μ' = μ) GG (0, 0) 4 [some (qP 178), some (qI (s_I (μ 199) x)), some (qI x)] [] ρ μ := by
    intro k
    induction k with
    | zero => intro x h; omega
    | succ k ih =>
      intro x hk h0 h1
      have sb := s_Ib (f := μ 199) (n := x) (b := 99) h0 (fun j j0 j1 => hb j j0 (by omega))
      refine w_X8_total_4 ?_
      rw [hp]
      refine ⟨fun hc1 => ?_, fun hc1 => ?_⟩
      · exact ⟨by rw [show x = p 87 by omega], rfl, rfl⟩
      · refine ⟨(by omega), ?_⟩
        have hbx := hb x h0 hc1
        refine ⟨(by unfold i32; omega), ?_⟩
        refine ⟨(by unfold i32; omega), ?_⟩
        rw [← s_Is h0]
        exact ih _ (by omega) (by omega) (by omega)
  refine e_X8_total ?_
  exact L _ 0 (Nat.lt_succ_self _) (by omega) (by omega)
/-- the run of a plan keeps its ranges -/
theorem SV_go {p : Pl} {wo out : Int} {J : Mem} (hv : PV p) : SV p (sGo p wo out J) := by
  have a := SV_ini (p := p) (wo := wo) (out := out) (J := J) hv
  exact SV_bb (sRun_e (out := out) hv 300 _ a.1 a.2).1
theorem go_180 {p : Pl} {wo out : Int} (h : μ 180 = p) : sGo p wo out μ 180 = p := by rw [sGo_o (by omega)]; exact h
theorem q_startTime {j : Int} (h : MJ μ σ) (hS : SI σ) : qE mX8_startTime GG GG [qP 178, qI j] ρ μ (PM μ ρ (fun J => if σ 0 4 = 1 ∧ 0 ≤ j ∧ j < σ 2 87 then sGo (σ 2) (-1) (-1) J 195 j else -2147483648) (sE σ (if σ 0 4 = 1 ∧ 0 ≤ j ∧ j < σ 2 87 then 0 else 1))) := by
  have hb := hS.2.2.1
  have h20 := h.2.2.2.2.2.1
  have h180 := h.2.2.2.2.2.2.2.1
  have hn : σ 0 4 = 1 → PV (σ 2) := fun e => (hS.2.2.2.2.2.2.2.2 e).1.1
  have fth : FR 178 207 μ (up2 μ 178 0 0) := FR.up FR.refl (by omega)
  have tth : up2 μ 178 0 0 180 = σ 2 := by rw [up2_c (by decide)]; exact h180
  refine e_X8_startTime ?_
  refine ⟨_, m_isJob (σ := σ) (by assumption) (by assumption), ?_⟩
  rintro z1 ρ2 μ3 ⟨hz, hq1_1, hq1_2⟩
  obtain rfl := hq1_1.symm
  obtain rfl := hq1_2.symm
  refine ⟨_, m_goesFor h (by omega) (fun e => hn (by omega)), ?_⟩
  rintro z5 ρ6 μ7 ⟨hq2_1, hq2_2, hg⟩
  obtain rfl := hq2_1.symm
  obtain rfl := hq2_2.symm
  refine ⟨fun hc3 => ?_, fun hc3 => ?_⟩
  · try skip
    refine ⟨_, m_failed, ?_⟩
    rintro z9 ρ10 μ11 ⟨hq4_1, hq4_2, hq4_3⟩
    obtain rfl := hq4_1.symm
    obtain rfl := hq4_2.symm
    obtain rfl := hq4_3.symm
    rcases hg with ⟨a, rfl⟩ | ⟨a, rfl⟩
    · exact pm_fin h.th fth ⟨μ, (if_neg (by omega)).symm⟩ (by rw [if_neg (by omega)])
    · omega
  · have hv := (hn (by omega)).n
    refine ⟨(by omega), ?_⟩
    refine ⟨_, m_done, ?_⟩
    rintro z13 ρ14 μ15 ⟨hq7_1, hq7_2, hq7_3⟩
    obtain rfl := hq7_1.symm
    obtain rfl := hq7_2.symm
    obtain rfl := hq7_3.symm
    rcases hg with ⟨a, rfl⟩ | ⟨a, rfl⟩
    · omega
    · exact pm_fin h.th.go fth.go ⟨up2 μ 178 0 0, (if_pos (by omega)).symm⟩ (by rw [if_pos (by omega)])
theorem q_loaded {j : Int} (h : MJ μ σ) (hS : SI σ) : qE mX8_loaded GG GG [qP 178, qI j] ρ μ (PM μ ρ (fun J => if σ 0 4 = 1 ∧ 0 ≤ j ∧ j < σ 2 87 then sGo (σ 2) (-1) (-1) J 196 j else -2147483648) (sE σ (if σ 0 4 = 1 ∧ 0 ≤ j ∧ j < σ 2 87 then 0 else 1))) := by
  have hb := hS.2.2.1
  have h20 := h.2.2.2.2.2.1
  have h180 := h.2.2.2.2.2.2.2.1
  have hn : σ 0 4 = 1 → PV (σ 2) := fun e => (hS.2.2.2.2.2.2.2.2 e).1.1
  have fth : FR 178 207 μ (up2 μ 178 0 0) := FR.up FR.refl (by omega)
  have tth : up2 μ 178 0 0 180 = σ 2 := by rw [up2_c (by decide)]; exact h180
  refine e_X8_loaded ?_
  refine ⟨_, m_isJob (σ := σ) (by assumption) (by assumption), ?_⟩
  rintro z1 ρ2 μ3 ⟨hz, hq1_1, hq1_2⟩
  obtain rfl := hq1_1.symm
  obtain rfl := hq1_2.symm
  refine ⟨_, m_goesFor h (by omega) (fun e => hn (by omega)), ?_⟩
  rintro z5 ρ6 μ7 ⟨hq2_1, hq2_2, hg⟩
  obtain rfl := hq2_1.symm
  obtain rfl := hq2_2.symm
  refine ⟨fun hc3 => ?_, fun hc3 => ?_⟩
  · try skip
    refine ⟨_, m_failed, ?_⟩
    rintro z9 ρ10 μ11 ⟨hq4_1, hq4_2, hq4_3⟩
    obtain rfl := hq4_1.symm
    obtain rfl := hq4_2.symm
    obtain rfl := hq4_3.symm
    rcases hg with ⟨a, rfl⟩ | ⟨a, rfl⟩
    · exact pm_fin h.th fth ⟨μ, (if_neg (by omega)).symm⟩ (by rw [if_neg (by omega)])
    · omega
  · have hv := (hn (by omega)).n
    refine ⟨(by omega), ?_⟩
    refine ⟨_, m_done, ?_⟩
    rintro z13 ρ14 μ15 ⟨hq7_1, hq7_2, hq7_3⟩
    obtain rfl := hq7_1.symm
    obtain rfl := hq7_2.symm
    obtain rfl := hq7_3.symm
    rcases hg with ⟨a, rfl⟩ | ⟨a, rfl⟩
    · omega
    · exact pm_fin h.th.go fth.go ⟨up2 μ 178 0 0, (if_pos (by omega)).symm⟩ (by rw [if_pos (by omega)])
theorem q_unloaded {j : Int} (h : MJ μ σ) (hS : SI σ) : qE mX8_unloaded GG GG [qP 178, qI j] ρ μ (PM μ ρ (fun J => if σ 0 4 = 1 ∧ 0 ≤ j ∧ j < σ 2 87 then sGo (σ 2) (-1) (-1) J 199 j else -2147483648) (sE σ (if σ 0 4 = 1 ∧ 0 ≤ j ∧ j < σ 2 87 then 0 else 1))) := by
  have hb := hS.2.2.1
  have h20 := h.2.2.2.2.2.1
  have h180 := h.2.2.2.2.2.2.2.1
  have hn : σ 0 4 = 1 → PV (σ 2) := fun e => (hS.2.2.2.2.2.2.2.2 e).1.1
  have fth : FR 178 207 μ (up2 μ 178 0 0) := FR.up FR.refl (by omega)
  have tth : up2 μ 178 0 0 180 = σ 2 := by rw [up2_c (by decide)]; exact h180
  refine e_X8_unloaded ?_
  refine ⟨_, m_isJob (σ := σ) (by assumption) (by assumption), ?_⟩
  rintro z1 ρ2 μ3 ⟨hz, hq1_1, hq1_2⟩
  obtain rfl := hq1_1.symm
  obtain rfl := hq1_2.symm
  refine ⟨_, m_goesFor h (by omega) (fun e => hn (by omega)), ?_⟩
  rintro z5 ρ6 μ7 ⟨hq2_1, hq2_2, hg⟩
  obtain rfl := hq2_1.symm
  obtain rfl := hq2_2.symm
  refine ⟨fun hc3 => ?_, fun hc3 => ?_⟩
  · try skip
    refine ⟨_, m_failed, ?_⟩
    rintro z9 ρ10 μ11 ⟨hq4_1, hq4_2, hq4_3⟩
    obtain rfl := hq4_1.symm
    obtain rfl := hq4_2.symm
    obtain rfl := hq4_3.symm
    rcases hg with ⟨a, rfl⟩ | ⟨a, rfl⟩
    · exact pm_fin h.th fth ⟨μ, (if_neg (by omega)).symm⟩ (by rw [if_neg (by omega)])
    · omega
  · have hv := (hn (by omega)).n
    refine ⟨(by omega), ?_⟩
    refine ⟨_, m_done, ?_⟩
    rintro z13 ρ14 μ15 ⟨hq7_1, hq7_2, hq7_3⟩
    obtain rfl := hq7_1.symm
    obtain rfl := hq7_2.symm
    obtain rfl := hq7_3.symm
    rcases hg with ⟨a, rfl⟩ | ⟨a, rfl⟩
    · omega
    · exact pm_fin h.th.go fth.go ⟨up2 μ 178 0 0, (if_pos (by omega)).symm⟩ (by rw [if_pos (by omega)])
theorem q_finishTime {j : Int} (h : MJ μ σ) (hS : SI σ) : qE mX8_finishTime GG GG [qP 178, qI j] ρ μ (PM μ ρ (fun J => if σ 0 4 = 1 ∧ 0 ≤ j ∧ j < σ 2 87 then sGo (σ 2) (-1) (-1) J 200 j else -2147483648) (sE σ (if σ 0 4 = 1 ∧ 0 ≤ j ∧ j < σ 2 87 then 0 else 1))) := by
  have hb := hS.2.2.1
  have h20 := h.2.2.2.2.2.1
  have h180 := h.2.2.2.2.2.2.2.1
  have hn : σ 0 4 = 1 → PV (σ 2) := fun e => (hS.2.2.2.2.2.2.2.2 e).1.1
  have fth : FR 178 207 μ (up2 μ 178 0 0) := FR.up FR.refl (by omega)
  have tth : up2 μ 178 0 0 180 = σ 2 := by rw [up2_c (by decide)]; exact h180
  refine e_X8_finishTime ?_
  refine ⟨_, m_isJob (σ := σ) (by assumption) (by assumption), ?_⟩
  rintro z1 ρ2 μ3 ⟨hz, hq1_1, hq1_2⟩
  obtain rfl := hq1_1.symm
  obtain rfl := hq1_2.symm
  refine ⟨_, m_goesFor h (by omega) (fun e => hn (by omega)), ?_⟩
  rintro z5 ρ6 μ7 ⟨hq2_1, hq2_2, hg⟩
  obtain rfl := hq2_1.symm
  obtain rfl := hq2_2.symm
  refine ⟨fun hc3 => ?_, fun hc3 => ?_⟩
  · try skip
    refine ⟨_, m_failed, ?_⟩
    rintro z9 ρ10 μ11 ⟨hq4_1, hq4_2, hq4_3⟩
    obtain rfl := hq4_1.symm
    obtain rfl := hq4_2.symm
    obtain rfl := hq4_3.symm
    rcases hg with ⟨a, rfl⟩ | ⟨a, rfl⟩
    · exact pm_fin h.th fth ⟨μ, (if_neg (by omega)).symm⟩ (by rw [if_neg (by omega)])
    · omega
  · have hv := (hn (by omega)).n
    refine ⟨(by omega), ?_⟩
    refine ⟨_, m_done, ?_⟩
    rintro z13 ρ14 μ15 ⟨hq7_1, hq7_2, hq7_3⟩
    obtain rfl := hq7_1.symm
    obtain rfl := hq7_2.symm
    obtain rfl := hq7_3.symm
    rcases hg with ⟨a, rfl⟩ | ⟨a, rfl⟩
    · omega
    · exact pm_fin h.th.go fth.go ⟨up2 μ 178 0 0, (if_pos (by omega)).symm⟩ (by rw [if_pos (by omega)])
theorem q_finalStock {k m : Int} (h : MJ μ σ) (hS : SI σ) : qE mX8_finalStock GG GG [qP 178, qI k, qI m] ρ μ (PM μ ρ (fun J => if σ 0 4 = 1 ∧ 0 ≤ k ∧ k < σ 2 45 ∧ 0 ≤ m ∧ m < σ 2 36 then sGo (σ 2) (-1) (-1) J 193 (4 * k + m) else -2147483648) (sE σ (if σ 0 4 = 1 ∧ 0 ≤ k ∧ k < σ 2 45 ∧ 0 ≤ m ∧ m < σ 2 36 then 0 else 1))) := by
  have hb := hS.2.2.1
  have h20 := h.2.2.2.2.2.1
  have h180 := h.2.2.2.2.2.2.2.1
  have hn : σ 0 4 = 1 → PV (σ 2) := fun e => (hS.2.2.2.2.2.2.2.2 e).1.1
  have fth : FR 178 207 μ (up2 μ 178 0 0) := FR.up FR.refl (by omega)
  have tth : up2 μ 178 0 0 180 = σ 2 := by rw [up2_c (by decide)]; exact h180
  have L22 : ∀ x, (x = 1 ∧ σ 0 4 = 1 ∧ 0 ≤ k ∧ k < σ 2 45 ∧ 0 ≤ m ∧ m < σ 2 36) ∨ (x = 0 ∧ ¬ (σ 0 4 = 1 ∧ 0 ≤ k ∧ k < σ 2 45 ∧ 0 ≤ m ∧ m < σ 2 36)) → qX mX8_finalStock GG (PM μ ρ (fun J => if σ 0 4 = 1 ∧ 0 ≤ k ∧ k < σ 2 45 ∧ 0 ≤ m ∧ m < σ 2 36 then sGo (σ 2) (-1) (-1) J 193 (4 * k + m) else -2147483648) (sE σ (if σ 0 4 = 1 ∧ 0 ≤ k ∧ k < σ 2 45 ∧ 0 ≤ m ∧ m < σ 2 36 then 0 else 1))) GG (0, 0) 22 [some (qP 178), some (qI k), some (qI m)] [qI x, qP 178] ρ μ := by
    intro x hx
    refine w_X8_finalStock_22 ?_
    refine ⟨_, m_goesFor h (by omega) (fun e => hn (by omega)), ?_⟩
    rintro z1 ρ2 μ3 ⟨hq1_1, hq1_2, hg⟩
    obtain rfl := hq1_1.symm
    obtain rfl := hq1_2.symm
    refine ⟨fun hc2 => ?_, fun hc2 => ?_⟩
    · refine ⟨_, m_failed, ?_⟩
      rintro z5 ρ6 μ7 ⟨hq3_1, hq3_2, hq3_3⟩
      obtain rfl := hq3_1.symm
      obtain rfl := hq3_2.symm
      obtain rfl := hq3_3.symm
      rcases hg with ⟨a, rfl⟩ | ⟨a, rfl⟩
      · exact pm_fin h.th fth ⟨μ, (if_neg (by omega)).symm⟩ (by rw [if_neg (by omega)])
      · omega
    · have hv := (hn (by omega)).n
      refine ⟨(by unfold i32; omega), ?_⟩
      refine ⟨(by unfold i32; omega), ?_⟩
      refine ⟨(by omega), ?_⟩
      refine ⟨_, m_done, ?_⟩
      rintro z9 ρ10 μ11 ⟨hq8_1, hq8_2, hq8_3⟩
      obtain rfl := hq8_1.symm
      obtain rfl := hq8_2.symm
      obtain rfl := hq8_3.symm
      rcases hg with ⟨a, rfl⟩ | ⟨a, rfl⟩
      · omega
      · exact pm_fin h.th.go fth.go ⟨up2 μ 178 0 0, (if_pos (by omega)).symm⟩ (by rw [if_pos (by omega)])
  have L21 : ¬ (σ 0 4 = 1 ∧ 0 ≤ k ∧ k < σ 2 45 ∧ 0 ≤ m ∧ m < σ 2 36) → qX mX8_finalStock GG (PM μ ρ (fun J => if σ 0 4 = 1 ∧ 0 ≤ k ∧ k < σ 2 45 ∧ 0 ≤ m ∧ m < σ 2 36 then sGo (σ 2) (-1) (-1) J 193 (4 * k + m) else -2147483648) (sE σ (if σ 0 4 = 1 ∧ 0 ≤ k ∧ k < σ 2 45 ∧ 0 ≤ m ∧ m < σ 2 36 then 0 else 1))) GG (0, 0) 21 [some (qP 178), some (qI k), some (qI m)] [qP 178] ρ μ := by
    intro hx
    refine w_X8_finalStock_21 ?_
    exact L22 0 (Or.inr ⟨rfl, hx⟩)
  refine e_X8_finalStock ?_
  refine ⟨_, m_isKitchen (σ := σ) (by assumption) (by assumption), ?_⟩
  rintro z1 ρ2 μ3 ⟨hz, hq1_1, hq1_2⟩
  obtain rfl := hq1_1.symm
  obtain rfl := hq1_2.symm
  refine ⟨fun hc2 => ?_, fun hc2 => ?_⟩
  · exact L21 (by omega)
  · refine ⟨_, m_isMeal (σ := σ) (by assumption) (by assumption), ?_⟩
    rintro z5 ρ6 μ7 ⟨hz, hq4_1, hq4_2⟩
    obtain rfl := hq4_1.symm
    obtain rfl := hq4_2.symm
    refine ⟨fun hc5 => ?_, fun hc5 => ?_⟩
    · exact L21 (by omega)
    · exact L22 1 (by omega)
theorem q_deliveredTotal (h : MJ μ σ) (hS : SI σ) : qE mX8_deliveredTotal GG GG [qP 178] ρ μ (PM μ ρ (fun J => if σ 0 4 = 1 then s_I (sGo (σ 2) (-1) (-1) J 199) (σ 2 87) else -2147483648) (sE σ (if σ 0 4 = 1 then 0 else 1))) := by
  have hb := hS.2.2.1
  have h20 := h.2.2.2.2.2.1
  have h180 := h.2.2.2.2.2.2.2.1
  have hn : σ 0 4 = 1 → PV (σ 2) := fun e => (hS.2.2.2.2.2.2.2.2 e).1.1
  have fth : FR 178 207 μ (up2 μ 178 0 0) := FR.up FR.refl (by omega)
  have tth : up2 μ 178 0 0 180 = σ 2 := by rw [up2_c (by decide)]; exact h180
  refine e_X8_deliveredTotal ?_
  refine ⟨_, m_goesFor (x := μ 178 20) h (by omega) (fun e => hn (by omega)), ?_⟩
  rintro z1 ρ2 μ3 ⟨hq1_1, hq1_2, hg⟩
  obtain rfl := hq1_1.symm
  obtain rfl := hq1_2.symm
  refine ⟨fun hc2 => ?_, fun hc2 => ?_⟩
  · refine ⟨_, m_failed, ?_⟩
    rintro z5 ρ6 μ7 ⟨hq3_1, hq3_2, hq3_3⟩
    obtain rfl := hq3_1.symm
    obtain rfl := hq3_2.symm
    obtain rfl := hq3_3.symm
    rcases hg with ⟨a, rfl⟩ | ⟨a, rfl⟩
    · exact pm_fin h.th fth ⟨μ, (if_neg (by omega)).symm⟩ (by rw [if_neg (by omega)])
    · omega
  · obtain ⟨a, rfl⟩ : μ 178 20 = 1 ∧ μ3 = sGo (σ 2) (-1) (-1) (up2 μ 178 0 0) := by
      rcases hg with ⟨a, _⟩ | h
      · omega
      · exact h
    have hv := hn (by omega)
    have n := hv.n
    have sv := SV_go (p := σ 2) (wo := -1) (out := -1) (J := up2 μ 178 0 0) hv
    refine ⟨_, m_total (go_180 tth) (by omega) (fun j j0 j1 => by have := sv.2.2.2 j j0 (by omega); omega), ?_⟩
    rintro z9 ρ10 μ11 ⟨hq5_1, hq5_2, hq5_3⟩
    obtain rfl := hq5_1.symm
    obtain rfl := hq5_2.symm
    obtain rfl := hq5_3.symm
    refine ⟨_, m_done, ?_⟩
    rintro z13 ρ14 μ15 ⟨hq6_1, hq6_2, hq6_3⟩
    obtain rfl := hq6_1.symm
    obtain rfl := hq6_2.symm
    obtain rfl := hq6_3.symm
    exact pm_fin h.th.go fth.go ⟨up2 μ 178 0 0, (if_pos (by omega)).symm⟩ (by rw [if_pos (by omega)])
theorem q_demand {t c m : Int} (h : MJ μ σ) (hS : SI σ) : qE mX8_demand GG GG [qP 178, qI t, qI c, qI m] ρ μ (PM μ ρ (fun J => if σ 0 4 = 1 ∧ 0 ≤ t ∧ t < 2 ∧ 0 ≤ c ∧ c < σ 2 (4 + t) ∧ 0 ≤ m ∧ m < σ 2 36 then dem (σ 2) t c m else -2147483648) (sE σ (if σ 0 4 = 1 ∧ 0 ≤ t ∧ t < 2 ∧ 0 ≤ c ∧ c < σ 2 (4 + t) ∧ 0 ≤ m ∧ m < σ 2 36 then 0 else 1))) := by
  have hb := hS.2.2.1
  have h20 := h.2.2.2.2.2.1
  have h180 := h.2.2.2.2.2.2.2.1
  have hn : σ 0 4 = 1 → PV (σ 2) := fun e => (hS.2.2.2.2.2.2.2.2 e).1.1
  have fth : FR 178 207 μ (up2 μ 178 0 0) := FR.up FR.refl (by omega)
  have tth : up2 μ 178 0 0 180 = σ 2 := by rw [up2_c (by decide)]; exact h180
  refine e_X8_demand ?_
  intro μ1 eμ1; subst eμ1
  refine ⟨_, m_isCar h.th hS, ?_⟩
  rintro z2 ρ3 μ4 ⟨hz, hq2_1, hq2_2⟩
  obtain rfl := hq2_1.symm
  obtain rfl := hq2_2.symm
  refine ⟨fun hc3 => ?_, fun hc3 => ?_⟩
  · refine ⟨_, m_failed, ?_⟩
    rintro z6 ρ7 μ8 ⟨hq4_1, hq4_2, hq4_3⟩
    obtain rfl := hq4_1.symm
    obtain rfl := hq4_2.symm
    obtain rfl := hq4_3.symm
    exact pm_fin h.th fth ⟨μ, (if_neg (by omega)).symm⟩ (by rw [if_neg (by omega)])
  · refine ⟨_, m_isMeal h.th hS, ?_⟩
    rintro z10 ρ11 μ12 ⟨hy, hq6_1, hq6_2⟩
    obtain rfl := hq6_1.symm
    obtain rfl := hq6_2.symm
    refine ⟨fun hc7 => ?_, fun hc7 => ?_⟩
    · refine ⟨_, m_failed, ?_⟩
      rintro z14 ρ15 μ16 ⟨hq8_1, hq8_2, hq8_3⟩
      obtain rfl := hq8_1.symm
      obtain rfl := hq8_2.symm
      obtain rfl := hq8_3.symm
      exact pm_fin h.th fth ⟨μ, (if_neg (by omega)).symm⟩ (by rw [if_neg (by omega)])
    · refine ⟨_, m_demandOf tth (hn (by omega)) (by omega) (by omega) (by omega) (by omega) (by omega) (by omega), ?_⟩
      rintro z18 ρ19 μ20 ⟨hq10_1, hq10_2, hq10_3⟩
      obtain rfl := hq10_1.symm
      obtain rfl := hq10_2.symm
      obtain rfl := hq10_3.symm
      refine ⟨_, m_done, ?_⟩
      rintro z22 ρ23 μ24 ⟨hq11_1, hq11_2, hq11_3⟩
      obtain rfl := hq11_1.symm
      obtain rfl := hq11_2.symm
      obtain rfl := hq11_3.symm
      exact pm_fin h.th fth ⟨μ, (if_pos (by omega)).symm⟩ (by rw [if_pos (by omega)])
theorem q_stock {k m : Int} (h : MJ μ σ) (hS : SI σ) : qE mX8_stock GG GG [qP 178, qI k, qI m] ρ μ (PM μ ρ (fun J => if σ 0 4 = 1 ∧ 0 ≤ k ∧ k < σ 2 45 ∧ 0 ≤ m ∧ m < σ 2 36 then σ 2 (49 + 4 * k + m) else -2147483648) (sE σ (if σ 0 4 = 1 ∧ 0 ≤ k ∧ k < σ 2 45 ∧ 0 ≤ m ∧ m < σ 2 36 then 0 else 1))) := by
  have hb := hS.2.2.1
  have h20 := h.2.2.2.2.2.1
  have h180 := h.2.2.2.2.2.2.2.1
  have hn : σ 0 4 = 1 → PV (σ 2) := fun e => (hS.2.2.2.2.2.2.2.2 e).1.1
  have fth : FR 178 207 μ (up2 μ 178 0 0) := FR.up FR.refl (by omega)
  have tth : up2 μ 178 0 0 180 = σ 2 := by rw [up2_c (by decide)]; exact h180
  have L21 : ∀ x, (x = 1 ∧ σ 0 4 = 1 ∧ 0 ≤ k ∧ k < σ 2 45 ∧ 0 ≤ m ∧ m < σ 2 36) ∨ (x = 0 ∧ ¬ (σ 0 4 = 1 ∧ 0 ≤ k ∧ k < σ 2 45 ∧ 0 ≤ m ∧ m < σ 2 36)) → qX mX8_stock GG (PM μ ρ (fun J => if σ 0 4 = 1 ∧ 0 ≤ k ∧ k < σ 2 45 ∧ 0 ≤ m ∧ m < σ 2 36 then σ 2 (49 + 4 * k + m) else -2147483648) (sE σ (if σ 0 4 = 1 ∧ 0 ≤ k ∧ k < σ 2 45 ∧ 0 ≤ m ∧ m < σ 2 36 then 0 else 1))) GG (0, 0) 21 [some (qP 178), some (qI k), some (qI m), none] [qI x] ρ μ := by
    intro x hx
    refine w_X8_stock_21 ?_
    refine ⟨fun hc1 => ?_, fun hc1 => ?_⟩
    · refine ⟨_, m_tell h (Or.inl (by omega)), ?_⟩
      rintro z1 ρ2 μ3 ⟨ht, hq2_1⟩
      obtain rfl := hq2_1.symm
      rcases ht with ⟨a, rfl, rfl⟩ | ⟨a, rfl, rfl⟩
      · omega
      · exact pm_fin h.th fth ⟨μ, (if_neg (by omega)).symm⟩ (by rw [if_neg (by omega)])
    · have hv := (hn (by omega)).n
      refine ⟨(by unfold i32; omega), ?_⟩
      refine ⟨(by unfold i32; omega), ?_⟩
      refine ⟨(by unfold i32; omega), ?_⟩
      refine ⟨_, m_tell h (Or.inr (by omega)), ?_⟩
      rintro z5 ρ6 μ7 ⟨ht, hq7_1⟩
      obtain rfl := hq7_1.symm
      rcases ht with ⟨a, rfl, rfl⟩ | ⟨a, rfl, rfl⟩
      · exact pm_fin h.th fth ⟨μ, (if_pos (by omega)).symm⟩ (by rw [if_pos (by omega)])
      · omega
  have L20 : ¬ (σ 0 4 = 1 ∧ 0 ≤ k ∧ k < σ 2 45 ∧ 0 ≤ m ∧ m < σ 2 36) → qX mX8_stock GG (PM μ ρ (fun J => if σ 0 4 = 1 ∧ 0 ≤ k ∧ k < σ 2 45 ∧ 0 ≤ m ∧ m < σ 2 36 then σ 2 (49 + 4 * k + m) else -2147483648) (sE σ (if σ 0 4 = 1 ∧ 0 ≤ k ∧ k < σ 2 45 ∧ 0 ≤ m ∧ m < σ 2 36 then 0 else 1))) GG (0, 0) 20 [some (qP 178), some (qI k), some (qI m), none] [] ρ μ := by
    intro hx
    refine w_X8_stock_20 ?_
    exact L21 0 (Or.inr ⟨rfl, hx⟩)
  refine e_X8_stock ?_
  refine ⟨_, m_isKitchen (σ := σ) (by assumption) (by assumption), ?_⟩
  rintro z1 ρ2 μ3 ⟨hz, hq1_1, hq1_2⟩
  obtain rfl := hq1_1.symm
  obtain rfl := hq1_2.symm
  refine ⟨fun hc2 => ?_, fun hc2 => ?_⟩
  · exact L20 (by omega)
  · refine ⟨_, m_isMeal (σ := σ) (by assumption) (by assumption), ?_⟩
    rintro z5 ρ6 μ7 ⟨hz, hq4_1, hq4_2⟩
    obtain rfl := hq4_1.symm
    obtain rfl := hq4_2.symm
    refine ⟨fun hc5 => ?_, fun hc5 => ?_⟩
    · exact L20 (by omega)
    · exact L21 1 (by omega)
end MH
