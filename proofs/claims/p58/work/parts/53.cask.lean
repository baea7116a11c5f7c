/-! ===== the class's questions about waits and doors ===== -/
section CT
variable {ρ : Rf} {μ : Mem} {σ : Sg}
theorem bsy_b {p : Pl} {t c : Int} {J : Mem} (hv : PV p) : ∀ j, 0 ≤ j → j < p 87 → 0 ≤ bsy p (sGo p (-1) (-1) J) t c j ∧ bsy p (sGo p (-1) (-1) J) t c j ≤ 495 := fun j j0 j1 => by
  have n := hv.n
  have b := (SV_go (p := p) (wo := -1) (out := -1) (J := J) hv).2.2.2 j j0 (by omega)
  have bj := hv.j j0 j1
  have bi := hv.i bj.1 bj.2.1
  have x := mulb b.1 b.2.1 (show 0 ≤ p (62 + 5 * p (88 + 5 * j + 0) + 4) by omega) (show p (62 + 5 * p (88 + 5 * j + 0) + 4) ≤ 5 by omega)
  unfold bsy
  split <;> omega
/-- the memory that is nothing but 0 -/
def Z0 : Mem := fun _ _ => 0
theorem c_unloadTime {j : Int} (h : CI ρ μ σ) (hS : SI σ) : qE mX7_unloadTime GG GG [qP 0, qI j] ρ μ (PC μ ρ (fun J => if σ 0 4 = 1 ∧ 0 ≤ j ∧ j < σ 2 87 then (if sGo (σ 2) (-1) (-1) Z0 199 j = 0 then -2147483648 else sGo (σ 2) (-1) (-1) J 198 j) else -2147483648) (sE σ (if σ 0 4 = 1 ∧ 0 ≤ j ∧ j < σ 2 87 then (if sGo (σ 2) (-1) (-1) Z0 199 j = 0 then 6 else 0) else 1))) := by
  refine e_X7_unloadTime ?_
  refine ⟨_, k_isJob (by assumption) (by assumption), ?_⟩
  rintro z1 ρ2 μ3 ⟨hz, hq1_1, hq1_2⟩
  obtain rfl := hq1_1.symm
  obtain rfl := hq1_2.symm
  refine ⟨fun hc2 => ?_, fun hc2 => ?_⟩
  · obtain ⟨hv, hf, hs, hr⟩ := h.pl hS (by omega)
    have n := hv.n
    have cj : μ 34 j = sGo (σ 2) (-1) (-1) Z0 199 j := ((hr Z0).1 j (by omega) (by omega)).1.2.2.2.1
    refine ⟨(by omega), ?_⟩
    refine ⟨fun hc4 => ?_, fun hc4 => ?_⟩
    · refine ⟨(by omega), ?_⟩
      refine ⟨_, k_answer, ?_⟩
      rintro z5 ρ6 μ7 ⟨hq6_1, hq6_2, hq6_3⟩
      obtain rfl := hq6_1.symm
      obtain rfl := hq6_2.symm
      obtain rfl := hq6_3.symm
      exact pc_fin h hS FR.refl (fun J => by rw [if_pos (by omega), if_neg (by omega)]; exact ((hr J).1 j (by omega) (by omega)).1.2.2.2.2.2.2.2.2.1 (by rw [← ((hr J).1 j (by omega) (by omega)).1.2.2.2.1]; exact hc4)) (by rw [if_pos (by omega), if_neg (by omega)])
    · refine ⟨_, k_fail, ?_⟩
      rintro z9 ρ10 μ11 ⟨hq8_1, hq8_2, hq8_3⟩
      obtain rfl := hq8_1.symm
      obtain rfl := hq8_2.symm
      obtain rfl := hq8_3.symm
      exact pc_fin h hS FR.refl (fun J => by rw [if_pos (by omega), if_pos (by omega)]) (by rw [if_pos (by omega), if_pos (by omega)])
  · refine ⟨_, k_fail, ?_⟩
    rintro z13 ρ14 μ15 ⟨hq10_1, hq10_2, hq10_3⟩
    obtain rfl := hq10_1.symm
    obtain rfl := hq10_2.symm
    obtain rfl := hq10_3.symm
    exact pc_fin h hS FR.refl (fun J => (if_neg (by omega)).symm) (by rw [if_neg (by omega)])
end CT
