/-! ===== the reference's stateAt and mealsOn ===== -/
section DM
variable {ρ : Rf} {μ : Mem} {σ : Sg}
theorem MJ.fd {w k : Int} (h : MJ μ σ) : MJ (fdM μ w k) σ := by
  unfold fdM
  split
  · exact h.up (by omega)
  · exact ((h.up (by omega)).up (by omega)).up (by omega)
theorem FR.fd {w k : Int} {μ0 : Mem} (h : FR 178 207 μ0 μ) : FR 178 207 μ0 (fdM μ w k) := by
  unfold fdM
  split
  · exact FR.up h (by omega)
  · exact FR.up (FR.up (FR.up h (by omega)) (by omega)) (by omega)
theorem fd_c {w k : Int} {c : Nat} (h : c ≠ 178) : fdM μ w k c = μ c := by
  unfold fdM
  split
  · rw [up2_c h]
  · rw [up2_c h, up2_c h, up2_c h]
theorem fd_36 {w k : Int} (hw : k < 0 → w = 0) : fdM μ w k 178 36 = w := by
  unfold fdM
  split
  · rename_i h
    rw [up2_s, hw h]
  · rw [up2_k (by decide), up2_s]
theorem fd_37 {w k : Int} (h : 0 ≤ k) : fdM μ w k 178 37 = k := by
  unfold fdM
  rw [if_neg (by omega), up2_s]
theorem act_0 {p : Pl} {S : Mem} {i k tm : Int} (h : act p S i k tm = 0) : k < 0 := by
  unfold act at h
  split at h
  · assumption
  · split at h
    · omega
    · split at h
      · omega
      · split at h
        · omega
        · split at h <;> omega
theorem q_stateAt {i tm : Int} (h : MJ μ σ) (hS : SI σ) : qE mX8_stateAt GG GG [qP 178, qI i, qI tm] ρ μ (PM μ ρ (fun J => if σ 0 4 = 1 ∧ 0 ≤ i ∧ i < σ 2 61 then (if 0 ≤ tm ∧ tm ≤ 9999 then act (σ 2) (sGo (σ 2) (-1) (-1) J) i (fj (σ 2) (sGo (σ 2) (-1) (-1) J 200) i tm) tm else -2147483648) else -2147483648) (sE σ (if σ 0 4 = 1 ∧ 0 ≤ i ∧ i < σ 2 61 then (if 0 ≤ tm ∧ tm ≤ 9999 then 0 else 2) else 1))) := by
  have hb := hS.2.2.1
  have h180 := h.2.2.2.2.2.2.2.1
  have hn : σ 0 4 = 1 → PV (σ 2) := fun e => (hS.2.2.2.2.2.2.2.2 e).1.1
  have fth : FR 178 207 μ (up2 μ 178 0 0) := FR.up FR.refl (by omega)
  have tth : up2 μ 178 0 0 180 = σ 2 := by rw [up2_c (by decide)]; exact h180
  have g180 := go_180 (p := σ 2) (wo := -1) (out := -1) tth
  refine e_X8_stateAt ?_
  intro μ1 eμ1; subst eμ1
  refine ⟨_, m_isTrolley h.th hS, ?_⟩
  rintro z2 ρ3 μ4 ⟨hz, hq2_1, hq2_2⟩
  obtain rfl := hq2_1.symm
  obtain rfl := hq2_2.symm
  refine ⟨fun hc3 => ?_, fun hc3 => ?_⟩
  · refine ⟨_, m_in, ?_⟩
    rintro z6 ρ7 μ8 ⟨hin, hq4_1, hq4_2⟩
    obtain rfl := hq4_1.symm
    obtain rfl := hq4_2.symm
    refine ⟨fun hc5 => ?_, fun hc5 => ?_⟩
    · refine ⟨_, m_goAll tth (hn (by omega)), ?_⟩
      rintro z10 ρ11 μ12 ⟨hq6_1, hq6_2⟩
      obtain rfl := hq6_1.symm
      obtain rfl := hq6_2.symm
      have ga := go_all (J := up2 μ 178 0 0) (hn (by omega))
      refine ⟨_, m_findDoing g180 (hn (by omega)) ga.1 ga.2 ⟨by omega, by omega⟩ (by omega), ?_⟩
      rintro z14 ρ15 μ16 ⟨hq7_1, hq7_2⟩
      obtain rfl := hq7_1.symm
      obtain rfl := hq7_2.symm
      refine ⟨_, m_done, ?_⟩
      rintro z18 ρ19 μ20 ⟨hq8_1, hq8_2, hq8_3⟩
      obtain rfl := hq8_1.symm
      obtain rfl := hq8_2.symm
      obtain rfl := hq8_3.symm
      exact pm_fin h.th.go.fd fth.go.fd ⟨up2 μ 178 0 0, by rw [if_pos (by omega), if_pos (by omega)]; exact fd_36 (fun hk => by unfold act; rw [if_pos hk])⟩ (by rw [if_pos (by omega), if_pos (by omega)])
    · refine ⟨_, m_failed, ?_⟩
      rintro z22 ρ23 μ24 ⟨hq10_1, hq10_2, hq10_3⟩
      obtain rfl := hq10_1.symm
      obtain rfl := hq10_2.symm
      obtain rfl := hq10_3.symm
      exact pm_fin h.th fth ⟨μ, by rw [if_pos (by omega), if_neg (by omega)]⟩ (by rw [if_pos (by omega), if_neg (by omega)])
  · refine ⟨_, m_failed, ?_⟩
    rintro z26 ρ27 μ28 ⟨hq12_1, hq12_2, hq12_3⟩
    obtain rfl := hq12_1.symm
    obtain rfl := hq12_2.symm
    obtain rfl := hq12_3.symm
    exact pm_fin h.th fth ⟨μ, (if_neg (by omega)).symm⟩ (by rw [if_neg (by omega)])
theorem q_mealsOn {i tm : Int} (h : MJ μ σ) (hS : SI σ) : qE mX8_mealsOn GG GG [qP 178, qI i, qI tm] ρ μ (PM μ ρ (fun J => if σ 0 4 = 1 ∧ 0 ≤ i ∧ i < σ 2 61 then (if 0 ≤ tm ∧ tm ≤ 9999 then mlo (σ 2) (sGo (σ 2) (-1) (-1) J) i (fj (σ 2) (sGo (σ 2) (-1) (-1) J 200) i tm) tm else -2147483648) else -2147483648) (sE σ (if σ 0 4 = 1 ∧ 0 ≤ i ∧ i < σ 2 61 then (if 0 ≤ tm ∧ tm ≤ 9999 then 0 else 2) else 1))) := by
  have hb := hS.2.2.1
  have h180 := h.2.2.2.2.2.2.2.1
  have hn : σ 0 4 = 1 → PV (σ 2) := fun e => (hS.2.2.2.2.2.2.2.2 e).1.1
  have fth : FR 178 207 μ (up2 μ 178 0 0) := FR.up FR.refl (by omega)
  have tth : up2 μ 178 0 0 180 = σ 2 := by rw [up2_c (by decide)]; exact h180
  have g180 := go_180 (p := σ 2) (wo := -1) (out := -1) tth
  refine e_X8_mealsOn ?_
  intro μ1 eμ1; subst eμ1
  refine ⟨_, m_isTrolley h.th hS, ?_⟩
  rintro z2 ρ3 μ4 ⟨hz, hq2_1, hq2_2⟩
  obtain rfl := hq2_1.symm
  obtain rfl := hq2_2.symm
  refine ⟨fun hc3 => ?_, fun hc3 => ?_⟩
  · refine ⟨_, m_in, ?_⟩
    rintro z6 ρ7 μ8 ⟨hin, hq4_1, hq4_2⟩
    obtain rfl := hq4_1.symm
    obtain rfl := hq4_2.symm
    refine ⟨fun hc5 => ?_, fun hc5 => ?_⟩
    · refine ⟨_, m_goAll tth (hn (by omega)), ?_⟩
      rintro z10 ρ11 μ12 ⟨hq6_1, hq6_2⟩
      obtain rfl := hq6_1.symm
      obtain rfl := hq6_2.symm
      have hv := hn (by omega)
      have n := hv.n
      have ga := go_all (J := up2 μ 178 0 0) hv
      generalize hG : sGo (σ 2) (-1) (-1) (up2 μ 178 0 0) = G at *
      have bi := hv.i (i := i) (by omega) (by omega)
      have fin : ∀ z, z = mlo (σ 2) G i (fj (σ 2) (G 200) i tm) tm → PM μ ρ (fun J => if σ 0 4 = 1 ∧ 0 ≤ i ∧ i < σ 2 61 then (if 0 ≤ tm ∧ tm ≤ 9999 then mlo (σ 2) (sGo (σ 2) (-1) (-1) J) i (fj (σ 2) (sGo (σ 2) (-1) (-1) J 200) i tm) tm else -2147483648) else -2147483648) (sE σ (if σ 0 4 = 1 ∧ 0 ≤ i ∧ i < σ 2 61 then (if 0 ≤ tm ∧ tm ≤ 9999 then 0 else 2) else 1)) z ρ (up2 (fdM G (act (σ 2) G i (fj (σ 2) (G 200) i tm) tm) (fj (σ 2) (G 200) i tm)) 178 1 0) := by
        intro z hz2
        rw [← hG] at hz2 ⊢
        exact pm_fin h.th.go.fd fth.go.fd ⟨up2 μ 178 0 0, by rw [if_pos (by omega), if_pos (by omega)]; exact hz2⟩ (by rw [if_pos (by omega), if_pos (by omega)])
      refine ⟨_, m_findDoing g180 hv ga.1 ga.2 ⟨by omega, by omega⟩ (by omega), ?_⟩
      rintro z14 ρ15 μ16 ⟨hq7_1, hq7_2⟩
      obtain rfl := hq7_1.symm
      obtain rfl := hq7_2.symm
      rw [fd_36 (fun hk => by unfold act; rw [if_pos hk])]
      have e5 : fdM G (act (σ 2) G i (fj (σ 2) (G 200) i tm) tm) (fj (σ 2) (G 200) i tm) 195 = G 195 := fd_c (by decide)
      have e6 : fdM G (act (σ 2) G i (fj (σ 2) (G 200) i tm) tm) (fj (σ 2) (G 200) i tm) 196 = G 196 := fd_c (by decide)
      have e8 : fdM G (act (σ 2) G i (fj (σ 2) (G 200) i tm) tm) (fj (σ 2) (G 200) i tm) 198 = G 198 := fd_c (by decide)
      have e9 : fdM G (act (σ 2) G i (fj (σ 2) (G 200) i tm) tm) (fj (σ 2) (G 200) i tm) 199 = G 199 := fd_c (by decide)
      have ab := act_b (p := σ 2) (S := G) (i := i) (k := fj (σ 2) (G 200) i tm) (tm := tm)
      have pos : act (σ 2) G i (fj (σ 2) (G 200) i tm) tm ≠ 0 → 0 ≤ fj (σ 2) (G 200) i tm := fun hne => by
        by_cases hk : fj (σ 2) (G 200) i tm < 0
        · exfalso; unfold act at hne; rw [if_pos hk] at hne; exact hne rfl
        · omega
      have more : 0 ≤ fj (σ 2) (G 200) i tm → fj (σ 2) (G 200) i tm < σ 2 87 ∧ G 195 (fj (σ 2) (G 200) i tm) ≤ tm ∧ G 196 (fj (σ 2) (G 200) i tm) ≤ 99 ∧ 0 ≤ G 196 (fj (σ 2) (G 200) i tm) ∧ 0 ≤ G 199 (fj (σ 2) (G 200) i tm) ∧ G 199 (fj (σ 2) (G 200) i tm) ≤ 99 ∧ 0 ≤ G 195 (fj (σ 2) (G 200) i tm) ∧ (0 < G 199 (fj (σ 2) (G 200) i tm) → 0 ≤ G 198 (fj (σ 2) (G 200) i tm)) := fun h0 => by
        rcases fj_s (p := σ 2) (f := G 200) (i := i) (tm := tm) with ⟨a, b⟩ | ⟨a, b, c, d, e⟩
        · omega
        · have bj := hv.j a b
          have ro := ga.1.2.2.2.1 _ a b (by rw [ga.2 _ bj.1 (by omega)]; exact b)
          have pt := ga.1.2.2.2.2.2.2 _ a b (Or.inl (by rw [ga.2 _ bj.1 (by omega)]; exact b))
          have sv := ga.1.1.2.2.2 _ a (by omega)
          rw [c] at pt
          have ok := fj_ok rfl a (by omega) pt ro
          unfold ROk at ro
          rw [c] at ro
          have x1 : 0 ≤ G 196 (fj (σ 2) (G 200) i tm) * σ 2 (62 + 5 * i + 3) := Int.mul_nonneg (by omega) (by omega)
          refine ⟨b, ok.1, by omega, by omega, by omega, by omega, by omega, fun h9 => by omega⟩
      refine ⟨fun hc8 => ?_, fun hc8 => ?_, fun hc8 => ?_, fun hc8 => ?_, fun hc8 => ?_, fun hc8 => ?_, fun hc8 => ?_⟩
      · exfalso
        omega
      · refine ⟨_, m_done, ?_⟩
        rintro z22 ρ23 μ24 ⟨hq12_1, hq12_2, hq12_3⟩
        obtain rfl := hq12_1.symm
        obtain rfl := hq12_2.symm
        obtain rfl := hq12_3.symm
        exact fin 0 (by unfold mlo; rw [if_pos (act_0 hc8)])
      · have p0 := pos (by omega)
        have m := more p0
        rw [fd_37 p0, e5]
        refine ⟨(by omega), ?_⟩
        refine ⟨(by unfold i32; omega), ?_⟩
        refine ⟨_, m_trolley (p := σ 2) ((fd_c (by decide)).trans g180) (by omega) (by omega), ?_⟩
        rintro z26 ρ27 μ28 ⟨hq16_1, hq16_2, hq16_3⟩
        obtain rfl := hq16_1.symm
        obtain rfl := hq16_2.symm
        obtain rfl := hq16_3.symm
        refine ⟨(by omega), ?_⟩
        refine ⟨_, m_done, ?_⟩
        rintro z30 ρ31 μ32 ⟨hq18_1, hq18_2, hq18_3⟩
        obtain rfl := hq18_1.symm
        obtain rfl := hq18_2.symm
        obtain rfl := hq18_3.symm
        exact fin _ (by unfold mlo; rw [if_neg (by omega), if_pos hc8])
      · have p0 := pos (by omega)
        have m := more p0
        rw [fd_37 p0, e6]
        refine ⟨(by omega), ?_⟩
        refine ⟨_, m_done, ?_⟩
        rintro z34 ρ35 μ36 ⟨hq21_1, hq21_2, hq21_3⟩
        obtain rfl := hq21_1.symm
        obtain rfl := hq21_2.symm
        obtain rfl := hq21_3.symm
        exact fin _ (by unfold mlo; rw [if_neg (by omega), if_neg (by omega), if_neg (by omega), if_neg (by omega)])
      · have p0 := pos (by omega)
        have m := more p0
        rw [fd_37 p0, e6]
        refine ⟨(by omega), ?_⟩
        refine ⟨_, m_done, ?_⟩
        rintro z38 ρ39 μ40 ⟨hq24_1, hq24_2, hq24_3⟩
        obtain rfl := hq24_1.symm
        obtain rfl := hq24_2.symm
        obtain rfl := hq24_3.symm
        exact fin _ (by unfold mlo; rw [if_neg (by omega), if_neg (by omega), if_neg (by omega), if_neg (by omega)])
      · have p0 := pos (by omega)
        have m := more p0
        rw [fd_37 p0, e6, e8]
        have a4 := act_4 hc8
        have d0 := Int.ediv_nonneg (a := tm - G 198 (fj (σ 2) (G 200) i tm)) (b := σ 2 (62 + 5 * i + 4)) (by omega) (by omega)
        have d1 := Int.ediv_le_self (a := tm - G 198 (fj (σ 2) (G 200) i tm)) (σ 2 (62 + 5 * i + 4)) (by omega)
        refine ⟨(by omega), ?_⟩
        refine ⟨(by omega), ?_⟩
        refine ⟨(by unfold i32; omega), ?_⟩
        refine ⟨_, m_trolley (p := σ 2) ((fd_c (by decide)).trans g180) (by omega) (by omega), ?_⟩
        rintro z42 ρ43 μ44 ⟨hq29_1, hq29_2, hq29_3⟩
        obtain rfl := hq29_1.symm
        obtain rfl := hq29_2.symm
        obtain rfl := hq29_3.symm
        refine ⟨(by omega), ?_⟩
        refine ⟨(by unfold i32; omega), ?_⟩
        refine ⟨_, m_done, ?_⟩
        rintro z46 ρ47 μ48 ⟨hq32_1, hq32_2, hq32_3⟩
        obtain rfl := hq32_1.symm
        obtain rfl := hq32_2.symm
        obtain rfl := hq32_3.symm
        exact fin _ (by unfold mlo; rw [if_neg (by omega), if_neg (by omega), if_pos hc8])
      · have p0 := pos (by omega)
        have m := more p0
        rw [fd_37 p0, e6, e9]
        refine ⟨(by omega), ?_⟩
        refine ⟨(by omega), ?_⟩
        refine ⟨(by unfold i32; omega), ?_⟩
        refine ⟨_, m_done, ?_⟩
        rintro z50 ρ51 μ52 ⟨hq37_1, hq37_2, hq37_3⟩
        obtain rfl := hq37_1.symm
        obtain rfl := hq37_2.symm
        obtain rfl := hq37_3.symm
        exact fin _ (by unfold mlo; rw [if_neg (by omega), if_neg (by omega), if_neg (by omega), if_pos hc8])
    · refine ⟨_, m_failed, ?_⟩
      rintro z54 ρ55 μ56 ⟨hq39_1, hq39_2, hq39_3⟩
      obtain rfl := hq39_1.symm
      obtain rfl := hq39_2.symm
      obtain rfl := hq39_3.symm
      exact pm_fin h.th fth ⟨μ, by rw [if_pos (by omega), if_neg (by omega)]⟩ (by rw [if_pos (by omega), if_neg (by omega)])
  · refine ⟨_, m_failed, ?_⟩
    rintro z58 ρ59 μ60 ⟨hq41_1, hq41_2, hq41_3⟩
    obtain rfl := hq41_1.symm
    obtain rfl := hq41_2.symm
    obtain rfl := hq41_3.symm
    exact pm_fin h.th fth ⟨μ, (if_neg (by omega)).symm⟩ (by rw [if_neg (by omega)])
end DM
