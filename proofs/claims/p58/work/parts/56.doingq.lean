/-! ===== stateAt and mealsOn ===== -/
theorem act_b {p : Pl} {S : Mem} {i k tm : Int} : 0 ≤ act p S i k tm ∧ act p S i k tm ≤ 5 := by
  unfold act
  split
  · omega
  · split
    · omega
    · split
      · omega
      · split
        · omega
        · split <;> omega
theorem act_4 {p : Pl} {S : Mem} {i k tm : Int} (h : act p S i k tm = 4) : 0 < S 199 k ∧ S 198 k ≤ tm ∧ tm < S 198 k + S 199 k * p (62 + 5 * i + 4) := by
  unfold act at h
  split at h
  · omega
  · split at h
    · omega
    · split at h
      · omega
      · split at h
        · omega
        · split at h
          · omega
          · omega
section DQ
variable {ρ : Rf} {μ : Mem} {σ : Sg}
theorem k_mealsAboard {o f : Nat} {p : Pl} {S : Mem} {i k tm : Int} (ho : isO 3 o) (hf0 : isO 0 f) (hf : FP μ f p) (hv : PV p) (hi : 0 ≤ i ∧ i < p 61) (h0 : 0 ≤ k) (hk : k < 20 ∧ CJ p o μ S k ∧ ROk p S k ∧ p (88 + 5 * k + 0) = i ∧ S 196 k ≠ 0) (hb : S 195 k ≤ tm) (ht : tm ≤ 9999) (hl : S 196 k ≤ 99) : qE mX3_mealsAboard GG GG [qP o, qP f, qI i, qI k, qI tm] ρ μ (fun z ρ' μ' => z = mlo p S i k tm ∧ ρ' = ρ ∧ μ' = μ) := by
  have n := hv.n
  have bi := hv.i hi.1 hi.2
  have q := hf.i hi.1 hi.2
  obtain ⟨k1, k2, k3, k4, k5⟩ := hk
  have k2' := k2
  have k3' := k3
  unfold CJ at k2'
  unfold ROk at k3'
  have ab := act_b (p := p) (S := S) (i := i) (k := k) (tm := tm)
  have m0 : ¬ k < 0 := by omega
  refine e_X3_mealsAboard ho hf0 ?_
  refine ⟨_, k_activity ho (Or.inr ⟨k1, k2, k3, k4, k5⟩) (by omega), ?_⟩
  rintro z1 ρ2 μ3 ⟨hq1_1, hq1_2, hq1_3⟩
  obtain rfl := hq1_1.symm
  obtain rfl := hq1_2.symm
  obtain rfl := hq1_3.symm
  refine ⟨fun hc2 => ?_, fun hc2 => ?_, fun hc2 => ?_, fun hc2 => ?_, fun hc2 => ?_, fun hc2 => ?_⟩
  · refine ⟨(by omega), ?_⟩
    exact ⟨by unfold mlo; rw [if_neg m0, if_neg (by omega), if_neg (by omega), if_neg (by omega)]; exact k2'.2.1, rfl, rfl⟩
  · refine ⟨(by omega), ?_⟩
    refine ⟨(by unfold i32; omega), ?_⟩
    rw [q.2.2.2.1, k2'.1]
    refine ⟨(by omega), ?_⟩
    refine ⟨_, k_wholeParts (by omega) (by omega), ?_⟩
    rintro z5 ρ6 μ7 ⟨hq8_1, hq8_2, hq8_3⟩
    obtain rfl := hq8_1.symm
    obtain rfl := hq8_2.symm
    obtain rfl := hq8_3.symm
    exact ⟨by unfold mlo; rw [if_neg m0, if_pos hc2], rfl, rfl⟩
  · refine ⟨(by omega), ?_⟩
    exact ⟨by unfold mlo; rw [if_neg m0, if_neg (by omega), if_neg (by omega), if_neg (by omega)]; exact k2'.2.1, rfl, rfl⟩
  · refine ⟨(by omega), ?_⟩
    exact ⟨by unfold mlo; rw [if_neg m0, if_neg (by omega), if_neg (by omega), if_neg (by omega)]; exact k2'.2.1, rfl, rfl⟩
  · have a4 := act_4 hc2
    have e5 : μ (o + 5) k = S 198 k := k2'.2.2.2.2.2.2.2.2.1 (by omega)
    rw [e5, k2'.2.1, q.2.2.2.2]
    have d0 := Int.ediv_nonneg (a := tm - S 198 k) (b := p (62 + 5 * i + 4)) (by omega) (by omega)
    have d1 := Int.ediv_le_self (a := tm - S 198 k) (p (62 + 5 * i + 4)) (by omega)
    have x1 : 0 ≤ S 196 k * p (62 + 5 * p (88 + 5 * k + 0) + 3) := Int.mul_nonneg (by omega) (by rw [k4]; omega)
    refine ⟨(by omega), ?_⟩
    refine ⟨(by omega), ?_⟩
    refine ⟨(by unfold i32; omega), ?_⟩
    refine ⟨(by omega), ?_⟩
    refine ⟨_, k_wholeParts (by omega) (by omega), ?_⟩
    rintro z9 ρ10 μ11 ⟨hq18_1, hq18_2, hq18_3⟩
    obtain rfl := hq18_1.symm
    obtain rfl := hq18_2.symm
    obtain rfl := hq18_3.symm
    refine ⟨(by unfold i32; omega), ?_⟩
    exact ⟨by unfold mlo; rw [if_neg m0, if_neg (by omega), if_pos hc2], rfl, rfl⟩
  · refine ⟨(by omega), ?_⟩
    refine ⟨(by omega), ?_⟩
    refine ⟨(by unfold i32; omega), ?_⟩
    exact ⟨by unfold mlo; rw [if_neg m0, if_neg (by omega), if_neg (by omega), if_pos hc2, k2'.2.1, k2'.2.2.2.1], rfl, rfl⟩
theorem act_cg {p : Pl} {o : Nat} {S S' : Mem} {i k tm : Int} (h : CJ p o μ S k) (h' : CJ p o μ S' k) (hz : S 196 k ≠ 0) : act p S i k tm = act p S' i k tm ∧ mlo p S i k tm = mlo p S' i k tm := by
  unfold CJ at h h'
  have e5 : S' 195 k = S 195 k := by omega
  have e6 : S' 196 k = S 196 k := by omega
  have e7 : S' 197 k = S 197 k := by omega
  have e9 : S' 199 k = S 199 k := by omega
  by_cases h9 : S 199 k = 0
  · have ea : act p S i k tm = act p S' i k tm := by
      unfold act
      rw [e5, e6, e7, e9, if_neg (show ¬ (0 < S 199 k ∧ tm < S 198 k) by omega), if_neg (show ¬ (0 < S 199 k ∧ tm < S 198 k + S 199 k * p (62 + 5 * i + 4)) by omega), if_neg (show ¬ (0 < S 199 k ∧ tm < S' 198 k) by omega), if_neg (show ¬ (0 < S 199 k ∧ tm < S' 198 k + S 199 k * p (62 + 5 * i + 4)) by omega)]
    refine ⟨ea, ?_⟩
    unfold mlo
    rw [← ea, e5, e6, e9]
    by_cases h4 : act p S i k tm = 4
    · have := act_4 h4; omega
    · rw [if_neg h4, if_neg h4]
  · have e8 : S' 198 k = S 198 k := by omega
    have ea : act p S i k tm = act p S' i k tm := by
      unfold act
      rw [e5, e6, e7, e8, e9]
    refine ⟨ea, ?_⟩
    unfold mlo
    rw [← ea, e5, e6, e8, e9]
/-- what is known of the job that is found -/
theorem fj_all {p : Pl} {o : Nat} {i tm : Int} (hv : PV p) (hr : RP p o μ) (ht : 0 ≤ tm) : ∀ J : Mem, fj p (μ (o + 8)) i tm = fj p (sGo p (-1) (-1) J 200) i tm ∧ (0 ≤ fj p (μ (o + 8)) i tm → fj p (μ (o + 8)) i tm < p 87 ∧ CJ p o μ (sGo p (-1) (-1) J) (fj p (μ (o + 8)) i tm) ∧ ROk p (sGo p (-1) (-1) J) (fj p (μ (o + 8)) i tm) ∧ p (88 + 5 * fj p (μ (o + 8)) i tm + 0) = i ∧ sGo p (-1) (-1) J 196 (fj p (μ (o + 8)) i tm) ≠ 0 ∧ sGo p (-1) (-1) J 195 (fj p (μ (o + 8)) i tm) ≤ tm ∧ sGo p (-1) (-1) J 196 (fj p (μ (o + 8)) i tm) ≤ 99) := by
  intro J
  have n := hv.n
  have e8 : ∀ j, 0 ≤ j → j < p 87 → μ (o + 8) j = sGo p (-1) (-1) J 200 j := fun j j0 j1 => ((hr J).1 j j0 j1).1.2.2.2.2.1
  have s := fj_s (p := p) (f := μ (o + 8)) (i := i) (tm := tm)
  have e : fj p (μ (o + 8)) i tm = fj p (sGo p (-1) (-1) J 200) i tm := by
    refine fj_u ?_
    rcases s with ⟨a, b⟩ | ⟨a, b, c, d, g⟩
    · exact Or.inl ⟨a, fun j j0 j1 j2 => by rw [← e8 j j0 j1]; exact b j j0 j1 j2⟩
    · exact Or.inr ⟨a, b, c, by rw [← e8 _ a b]; exact d, fun j j0 j1 j2 => by rw [← e8 j j0 (by omega)]; exact g j j0 j1 j2⟩
  refine ⟨e, fun h0 => ?_⟩
  rcases s with ⟨a, b⟩ | ⟨a, b, c, d, g⟩
  · omega
  · have q := (hr J).1 _ a b
    have l := (SV_go (p := p) (wo := -1) (out := -1) (J := J) hv).2.2.2 _ a (by omega)
    have ok := fj_ok (S := sGo p (-1) (-1) J) e h0 ht (by rw [← c]; rw [c]; exact (by have := q.2.2; rw [c] at this; exact this)) q.2.1
    exact ⟨b, q.1, q.2.1, c, ok.2.1, ok.1, l.2.2.2⟩
theorem c_stateAt {i tm : Int} (h : CI ρ μ σ) (hS : SI σ) : qE mX7_stateAt GG GG [qP 0, qI i, qI tm] ρ μ (PC μ ρ (fun J => if σ 0 4 = 1 ∧ 0 ≤ i ∧ i < σ 2 61 then (if 0 ≤ tm ∧ tm ≤ 9999 then act (σ 2) (sGo (σ 2) (-1) (-1) J) i (fj (σ 2) (sGo (σ 2) (-1) (-1) J 200) i tm) tm else -2147483648) else -2147483648) (sE σ (if σ 0 4 = 1 ∧ 0 ≤ i ∧ i < σ 2 61 then (if 0 ≤ tm ∧ tm ≤ 9999 then 0 else 2) else 1))) := by
  refine e_X7_stateAt ?_
  refine ⟨_, k_isTrolley (by assumption) (by assumption), ?_⟩
  rintro z1 ρ2 μ3 ⟨hz, hq1_1, hq1_2⟩
  obtain rfl := hq1_1.symm
  obtain rfl := hq1_2.symm
  refine ⟨fun hc2 => ?_, fun hc2 => ?_⟩
  · obtain ⟨hv, hf, hs, hr⟩ := h.pl hS (by omega)
    have n := hv.n
    have bi := hv.i (i := i) (by omega) (by omega)
    refine ⟨fun hc3 => ?_, fun hc3 => ?_⟩
    · refine ⟨_, k_fail, ?_⟩
      rintro z5 ρ6 μ7 ⟨hq4_1, hq4_2, hq4_3⟩
      obtain rfl := hq4_1.symm
      obtain rfl := hq4_2.symm
      obtain rfl := hq4_3.symm
      exact pc_fin h hS FR.refl (fun J => by rw [if_pos (by omega), if_neg (by omega)]) (by rw [if_pos (by omega), if_neg (by omega)])
    · refine ⟨fun hc6 => ?_, fun hc6 => ?_⟩
      · refine ⟨(by exact h.1.s), ?_⟩
        refine ⟨_, k_jobAt (o := 27) rfl h.1.s hs (by omega), ?_⟩
        rintro z10 ρ11 μ12 ⟨hq8_1, hq8_2, hq8_3⟩
        obtain rfl := hq8_1.symm
        obtain rfl := hq8_2.symm
        obtain rfl := hq8_3.symm
        have fa := fj_all (o := 27) (i := i) hv hr (show 0 ≤ tm by omega)
        have fk : fj (σ 2) (μ (27 + 8)) i tm < 0 ∨ (fj (σ 2) (μ (27 + 8)) i tm < 20 ∧ CJ (σ 2) 27 μ (sGo (σ 2) (-1) (-1) μ) (fj (σ 2) (μ (27 + 8)) i tm) ∧ ROk (σ 2) (sGo (σ 2) (-1) (-1) μ) (fj (σ 2) (μ (27 + 8)) i tm) ∧ σ 2 (88 + 5 * fj (σ 2) (μ (27 + 8)) i tm + 0) = i ∧ sGo (σ 2) (-1) (-1) μ 196 (fj (σ 2) (μ (27 + 8)) i tm) ≠ 0) := by
          by_cases hk : fj (σ 2) (μ (27 + 8)) i tm < 0
          · exact Or.inl hk
          · have q := (fa μ).2 (by omega)
            exact Or.inr ⟨by omega, q.2.1, q.2.2.1, q.2.2.2.1, q.2.2.2.2.1⟩
        refine ⟨_, k_activity (S := sGo (σ 2) (-1) (-1) μ) (p := σ 2) (i := i) (o := 27) rfl fk (by omega), ?_⟩
        rintro z14 ρ15 μ16 ⟨hza, hq9_1, hq9_2⟩
        obtain rfl := hq9_1.symm
        obtain rfl := hq9_2.symm
        refine ⟨_, k_answer, ?_⟩
        rintro z18 ρ19 μ20 ⟨hq10_1, hq10_2, hq10_3⟩
        obtain rfl := hq10_1.symm
        obtain rfl := hq10_2.symm
        obtain rfl := hq10_3.symm
        refine pc_fin h hS FR.refl (fun J => ?_) (by rw [if_pos (by omega), if_pos (by omega)])
        rw [if_pos (by omega), if_pos (by omega), ← (fa J).1, hza]
        by_cases hk : fj (σ 2) (μ (27 + 8)) i tm < 0
        · unfold act
          rw [if_pos hk, if_pos hk]
        · have q := (fa μ).2 (by omega)
          have q' := (fa J).2 (by omega)
          exact (act_cg q.2.1 q'.2.1 q.2.2.2.2.1).1
      · refine ⟨_, k_fail, ?_⟩
        rintro z22 ρ23 μ24 ⟨hq12_1, hq12_2, hq12_3⟩
        obtain rfl := hq12_1.symm
        obtain rfl := hq12_2.symm
        obtain rfl := hq12_3.symm
        exact pc_fin h hS FR.refl (fun J => by rw [if_pos (by omega), if_neg (by omega)]) (by rw [if_pos (by omega), if_neg (by omega)])
  · refine ⟨_, k_fail, ?_⟩
    rintro z26 ρ27 μ28 ⟨hq14_1, hq14_2, hq14_3⟩
    obtain rfl := hq14_1.symm
    obtain rfl := hq14_2.symm
    obtain rfl := hq14_3.symm
    exact pc_fin h hS FR.refl (fun J => (if_neg (by omega)).symm) (by rw [if_neg (by omega)])
theorem c_mealsOn {i tm : Int} (h : CI ρ μ σ) (hS : SI σ) : qE mX7_mealsOn GG GG [qP 0, qI i, qI tm] ρ μ (PC μ ρ (fun J => if σ 0 4 = 1 ∧ 0 ≤ i ∧ i < σ 2 61 then (if 0 ≤ tm ∧ tm ≤ 9999 then mlo (σ 2) (sGo (σ 2) (-1) (-1) J) i (fj (σ 2) (sGo (σ 2) (-1) (-1) J 200) i tm) tm else -2147483648) else -2147483648) (sE σ (if σ 0 4 = 1 ∧ 0 ≤ i ∧ i < σ 2 61 then (if 0 ≤ tm ∧ tm ≤ 9999 then 0 else 2) else 1))) := by
  refine e_X7_mealsOn ?_
  refine ⟨_, k_isTrolley (by assumption) (by assumption), ?_⟩
  rintro z1 ρ2 μ3 ⟨hz, hq1_1, hq1_2⟩
  obtain rfl := hq1_1.symm
  obtain rfl := hq1_2.symm
  refine ⟨fun hc2 => ?_, fun hc2 => ?_⟩
  · obtain ⟨hv, hf, hs, hr⟩ := h.pl hS (by omega)
    have n := hv.n
    refine ⟨fun hc3 => ?_, fun hc3 => ?_⟩
    · refine ⟨_, k_fail, ?_⟩
      rintro z5 ρ6 μ7 ⟨hq4_1, hq4_2, hq4_3⟩
      obtain rfl := hq4_1.symm
      obtain rfl := hq4_2.symm
      obtain rfl := hq4_3.symm
      exact pc_fin h hS FR.refl (fun J => by rw [if_pos (by omega), if_neg (by omega)]) (by rw [if_pos (by omega), if_neg (by omega)])
    · refine ⟨fun hc6 => ?_, fun hc6 => ?_⟩
      · refine ⟨(by first | exact h.1.s | exact h.1.f), ?_⟩
        refine ⟨_, k_jobAt (o := 27) rfl h.1.s hs (by omega), ?_⟩
        rintro z10 ρ11 μ12 ⟨hq8_1, hq8_2, hq8_3⟩
        obtain rfl := hq8_1.symm
        obtain rfl := hq8_2.symm
        obtain rfl := hq8_3.symm
        have fa := fj_all (o := 27) (i := i) hv hr (show 0 ≤ tm by omega)
        refine ⟨fun hc9 => ?_, fun hc9 => ?_⟩
        · refine ⟨(by first | exact h.1.s | exact h.1.f), ?_⟩
          have q := (fa μ).2 (by omega)
          refine ⟨_, k_mealsAboard (S := sGo (σ 2) (-1) (-1) μ) (o := 27) rfl h.1.f hf hv ⟨by omega, by omega⟩ (by omega) ⟨by omega, q.2.1, q.2.2.1, q.2.2.2.1, q.2.2.2.2.1⟩ q.2.2.2.2.2.1 (by omega) q.2.2.2.2.2.2, ?_⟩
          rintro z15 ρ16 μ17 ⟨hza, hq11_1, hq11_2⟩
          obtain rfl := hq11_1.symm
          obtain rfl := hq11_2.symm
          refine ⟨_, k_answer, ?_⟩
          rintro z19 ρ20 μ21 ⟨hq12_1, hq12_2, hq12_3⟩
          obtain rfl := hq12_1.symm
          obtain rfl := hq12_2.symm
          obtain rfl := hq12_3.symm
          refine pc_fin h hS FR.refl (fun J => ?_) (by rw [if_pos (by omega), if_pos (by omega)])
          rw [if_pos (by omega), if_pos (by omega), ← (fa J).1, hza]
          have q' := (fa J).2 (by omega)
          exact (act_cg q.2.1 q'.2.1 q.2.2.2.2.1).2
        · refine ⟨_, k_answer, ?_⟩
          rintro z23 ρ24 μ25 ⟨hq14_1, hq14_2, hq14_3⟩
          obtain rfl := hq14_1.symm
          obtain rfl := hq14_2.symm
          obtain rfl := hq14_3.symm
          refine pc_fin h hS FR.refl (fun J => ?_) (by rw [if_pos (by omega), if_pos (by omega)])
          rw [if_pos (by omega), if_pos (by omega), ← (fa J).1]
          unfold mlo
          rw [if_pos (by omega)]
      · refine ⟨_, k_fail, ?_⟩
        rintro z27 ρ28 μ29 ⟨hq16_1, hq16_2, hq16_3⟩
        obtain rfl := hq16_1.symm
        obtain rfl := hq16_2.symm
        obtain rfl := hq16_3.symm
        exact pc_fin h hS FR.refl (fun J => by rw [if_pos (by omega), if_neg (by omega)]) (by rw [if_pos (by omega), if_neg (by omega)])
  · refine ⟨_, k_fail, ?_⟩
    rintro z31 ρ32 μ33 ⟨hq18_1, hq18_2, hq18_3⟩
    obtain rfl := hq18_1.symm
    obtain rfl := hq18_2.symm
    obtain rfl := hq18_3.symm
    exact pc_fin h hS FR.refl (fun J => (if_neg (by omega)).symm) (by rw [if_neg (by omega)])
def fdM (μ : Mem) (w k : Int) : Mem := if k < 0 then up2 μ 178 36 0 else up2 (up2 (up2 μ 178 36 0) 178 36 w) 178 37 k
end DQ
