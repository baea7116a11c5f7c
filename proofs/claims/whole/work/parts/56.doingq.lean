/-! ===== stateAt and mealsOn ===== -/
theorem act_b {p : Pl} {S : Mem} {i k tm : Int} : 0 ≤ act p S i k tm ∧ act p S i k tm ≤ 5 := by
  unfold act
  split
  · omega
  · split
    · omega
    · split
      · omega
      · split
        · omega
        · split <;> omega
theorem act_4 {p : Pl} {S : Mem} {i k tm : Int} (h : act p S i k tm = 4) : 0 < S 199 k ∧ S 198 k ≤ tm ∧ tm < S 198 k + S 199 k * p (62 + 5 * i + 4) := by
  unfold act at h
  split at h
  · omega
  · split at h
    · omega
    · split at h
      · omega
      · split at h
        · omega
        · split at h
          · omega
          · omega
section DQ
variable {ρ : Rf} {μ : Mem} {σ : Sg}
theorem k_mealsAboard {o f : Nat} {p : Pl} {S : Mem} {i k tm : Int} (ho : isO 3 o) (hf0 : isO 0 f) (hf : FP μ f p) (hv : PV p) (hi : 0 ≤ i ∧ i < p 61) (h0 : 0 ≤ k) (hk : k < 20 ∧ CJ p o μ S k ∧ ROk p S k ∧ p (88 + 5 * k + 0) = i ∧ S 196 k ≠ 0) (hb : S 195 k ≤ tm) (ht : tm ≤ 9999) (hl : S 196 k ≤ 99) : qE mX3_mealsAboard GG GG [qP o, qP f, qI i, qI k, qI tm] ρ μ (fun z ρ' μ' => z = mlo p S i k tm ∧ ρ' = ρ ∧ μ' = μ) := by
  have n := hv.n
  have bi := hv.i hi.1 hi.2
  have q := hf.i hi.1 hi.2
  obtain ⟨k1, k2, k3, k4, k5⟩ := hk
  have k2' := k2
  have k3' := k3
  unfold CJ at k2'
  unfold ROk at k3'
  have ab := act_b (p := p) (S := S) (i := i) (k := k) (tm := tm)
  have m0 : ¬ k < 0 := by omega
  refine e_X3_mealsAboard ho hf0 ?_
  refine ⟨_, k_activity ho (Or.inr ⟨k1, k2, k3, k4, k5⟩) (by omega), ?_⟩
  rintro z1 ρ2 μ3 ⟨hq1_1, hq1_2, hq1_3⟩
  obtain rfl := hq1_1.symm
  obtain rfl := hq1_2.symm
  obtain rfl := hq1_3.symm
  refine ⟨fun hc2 => ?_, fun hc2 => ?_, fun hc2 => ?_, fun hc2 => ?_, fun hc2 => ?_, fun hc2 => ?_⟩
  · refine ⟨(by omega), ?_⟩
    exact ⟨by unfold mlo; rw [if_neg m0, if_neg (by omega), if_neg (by omega), if_neg (by omega)]; exact k2'.2.1, rfl, rfl⟩
  · refine ⟨(by omega), ?_⟩
    refine ⟨(by unfold i32; omega), ?_⟩
    rw [q.2.2.2.1, k2'.1]
    refine ⟨(by omega), ?_⟩
    refine ⟨_, k_wholeParts (by omega) (by omega), ?_⟩
    rintro z5 ρ6 μ7 ⟨hq8_1, hq8_2, hq8_3⟩
    obtain rfl := hq8_1.symm
    obtain rfl := hq8_2.symm
    obtain rfl := hq8_3.symm
    exact ⟨by unfold mlo; rw [if_neg m0, if_pos hc2], rfl, rfl⟩
  · refine ⟨(by omega), ?_⟩
    exact ⟨by unfold mlo; rw [if_neg m0, if_neg (by omega), if_neg (by omega), if_neg (by omega)]; exact k2'.2.1, rfl, rfl⟩
  · refine ⟨(by omega), ?_⟩
    exact ⟨by unfold mlo; rw [if_neg m0, if_neg (by omega), if_neg (by omega), if_neg (by omega)]; exact k2'.2.1, rfl, rfl⟩
  · have a4 := act_4 hc2
    have e5 : μ (o + 5) k = S 198 k := k2'.2.2.2.2.2.2.2.2.1 (by omega)
    rw [e5, k2'.2.1, q.2.2.2.2]
    have d0 := Int.ediv_nonneg (a := tm - S 198 k) (b := p (62 + 5 * i + 4)) (by omega) (by omega)
    have d1 := Int.ediv_le_self (a := tm - S 198 k) (p (62 + 5 * i + 4)) (by omega)
    have x1 : 0 ≤ S 196 k * p (62 + 5 * p (88 + 5 * k + 0) + 3) := Int.mul_nonneg (by omega) (by rw [k4]; omega)
    refine ⟨(by omega), ?_⟩
    refine ⟨(by omega), ?_⟩
    refine ⟨(by unfold i32; omega), ?_⟩
    refine ⟨(by omega), ?_⟩
    refine ⟨_, k_wholeParts (by omega) (by omega), ?_⟩
    rintro z9 ρ10 μ11 ⟨hq18_1, hq18_2, hq18_3⟩
    obtain rfl := hq18_1.symm
    obtain rfl := hq18_2.symm
    obtain rfl := hq18_3.symm
    refine ⟨(by unfold i32; omega), ?_⟩
    exact ⟨by unfold mlo; rw [if_neg m0, if_neg (by omega), if_pos hc2], rfl, rfl⟩
  · refine ⟨(by omega), ?_⟩
    refine ⟨(by omega), ?_⟩
    refine ⟨(by unfold i32; omega), ?_⟩
    exact ⟨by unfold mlo; rw [if_neg m0, if_neg (by omega), if_neg (by omega), if_pos hc2, k2'.2.1, k2'.2.2.2.1], rfl, rfl⟩
theorem act_cg {p : Pl} {o : Nat} {S S' : Mem} {i k tm : Int} (h : CJ p o μ S k) (h' : CJ p o μ S' k) (hz : S 196 k ≠ 0) : act p S i k tm = act p S' i k tm ∧ mlo p S i k tm = mlo p S' i k tm := by
  unfold CJ at h h'
  have e5 : S' 195 k = S 195 k := by omega
  have e6 : S' 196 k = S 196 k := by omega
  have e7 : S' 197 k = S 197 k := by omega
  have e9 : S' 199 k = S 199 k := by omega
  by_cases h9 : S 199 k = 0
  · have ea : act p S i k tm = act p S' i k tm := by
      unfold act
      rw [e5, e6, e7, e9, if_neg (show ¬ (0 < S 199 k ∧ tm < S 198 k) by omega), if_neg (show ¬ (0 < S 199 k ∧ tm < S 198 k + S 199 k * p (62 + 5 * i + 4)) by omega), if_neg (show ¬ (0 < S 199 k ∧ tm < S' 198 k) by omega), if_neg (show ¬ (0 < S 199 k ∧ tm < S' 198 k + S 199 k * p (62 + 5 * i + 4)) by omega)]
    refine ⟨ea, ?_⟩
    unfold mlo
    rw [← ea, e5, e6, e9]
    by_cases h4 : act p S i k tm = 4
    · have := act_4 h4; omega
    · rw [if_neg h4, if_neg h4]
  · have e8 : S' 198 k = S 198 k := by omega
    have ea : act p S i k tm = act p S' i k tm := by
      unfold act
      rw [e5, e6, e7, e8, e9]
    refine ⟨ea, ?_⟩
    unfold mlo
    rw [← ea, e5, e6, e8, e9]
/-- what is known of the job that is found -/
theorem fj_all {p : Pl} {o : Nat} {i tm : Int} (hv : PV p) (hr : RP p o μ) (ht : 0 ≤ tm) : ∀ J : Mem, fj p (μ (o + 8)) i tm = fj p (sGo p (-1) (-1) J 200) i tm ∧ (0 ≤ fj p (μ (o + 8)) i tm → fj p (μ (o + 8)) i tm < p 87 ∧ CJ p o μ (sGo p (-1) (-1) J) (fj p (μ (o + 8)) i tm) ∧ ROk p (sGo p (-1) (-1) J) (fj p (μ (o + 8)) i tm) ∧ p (88 + 5 * fj p (μ (o + 8)) i tm + 0) = i ∧ sGo p (-1) (-1) J 196 (fj p (μ (o + 8)) i tm) ≠ 0 ∧ sGo p (-1) (-1) J 195 (fj p (μ (o + 8)) i tm) ≤ tm ∧ sGo p (-1) (-1) J 196 (fj p (μ (o + 8)) i tm) ≤ 99) := by
  intro J
  have n := hv.n
  have e8 : ∀ j, 0 ≤ j → j < p 87 → μ (o + 8) j = sGo p (-1) (-1) J 200 j := fun j j0 j1 => ((hr J).1 j j0 j1).1.2.2.2.2.1
  have s := fj_s (p := p) (f := μ (o + 8)) (i := i) (tm := tm)
  have e : fj p (μ (o + 8)) i tm = fj p (sGo p (-1) (-1) J 200) i tm := by
    refine fj_u ?_
    rcases s with ⟨a, b⟩ | ⟨a, b, c, d, g⟩
    · exact Or.inl ⟨a, fun j j0 j1 j2 => by rw [← e8 j j0 j1]; exact b j j0 j1 j2⟩
    · exact Or.inr ⟨a, b, c, by rw [← e8 _ a b]; exact d, fun j j0 j1 j2 => by rw [← e8 j j0 (by omega)]; exact g j j0 j1 j2⟩
  refine ⟨e, fun h0 => ?_⟩
  rcases s with ⟨a, b⟩ | ⟨a, b, c, d, g⟩
  · omega
  · have q := (hr J).1 _ a b
    have l := (SV_go (p := p) (wo := -1) (out := -1) (J := J) hv).2.2.2 _ a (by omega)
    have ok := fj_ok (S := sGo p (-1) (-1) J) e h0 ht (by rw [← c]; rw [c]; exact (by have := q.2.2; rw [c] at this; exact this)) q.2.1
    exact ⟨b, q.1, q.2.1, c, ok.2.1, ok.1, l.2.2.2⟩
theorem c_stateAt {i tm : Int} (h : CI ρ μ σ) (hS : SI σ) : qE mX7_stateAt GG GG [qP 0, qI i, qI tm] ρ μ (PC μ ρ (fun J => if σ 0 4 = 1 ∧ 0 ≤ i ∧ i < σ 2 61 then (if 0 ≤ tm ∧ tm ≤ 9999 then act (σ 2) (sGo (σ 2) (-1) (-1) J) i (fj (σ 2) (sGo (σ 2) (-1) (-1) J 200) i tm) tm else -2147483648) else -2147483648) (sE σ (if σ 0 4 = 1 ∧ 0 ≤ i ∧ i < σ 2 61 then (if 0 ≤ tm ∧ tm ≤ 9999 then 0 else 2) else 1))) := by
  refine e_X7_stateAt ?_
  refine ⟨_, k_isTrolley (by assumption) (by assumption), ?_⟩
  rintro z1 ρ2 μ3 ⟨hz, hq1_1, hq1_2⟩
  obtain rfl := hq1_1.symm
  obtain rfl := hq1_2.symm
  refine ⟨fun hc2 => ?_, fun hc2 => ?_⟩
  · obtain ⟨hv, hf, hs, hr⟩ := h.pl hS (by omega)
    have n := hv.n
    have bi := hv.i (i := i) (by omega) (by omega)
    refine ⟨fun hc3 => ?_, fun hc3 => ?_⟩
    · refine ⟨_, k_fail, ?_⟩
      rintro z5 ρ6 μ7 ⟨hq4_1, hq4_2, hq4_3⟩
      obtain rfl := hq4_1.symm
      obtain rfl := hq4_2.symm
      obtain rfl := hq4_3.symm
      exact pc_fin h hS FR.refl (fun J => by rw [if_pos (by omega), if_neg (by omega)]) (by rw [if_pos (by omega), if_neg (by omega)])
    · refine ⟨fun hc6 => ?_, fun hc6 => ?_⟩
      · refine ⟨(by exact h.1.s), ?_⟩
        refine ⟨_, k_jobAt (o := 27) rfl h.1.s hs (by omega), ?_⟩
        rintro z10 ρ11 μ12 ⟨hq8_1, hq8_2, hq8_3⟩
        obtain rfl := hq8_1.symm
        obtain rfl := hq8_2.symm
        obtain rfl := hq8_3.symm
        have fa := fj_all (o := 27) (i := i) hv hr (show 0 ≤ tm by omega)
        have fk : fj (σ 2) (μ (27 + 8)) i tm < 0 ∨ (fj (σ 2) (μ (27 + 8)) i tm < 20 ∧ CJ (σ 2) 27 μ (sGo (σ 2) (-1) (-1) μ) (fj (σ 2) (μ (27 + 8)) i tm) ∧ ROk (σ 2) (sGo (σ 2) (-1) (-1) μ) (fj (σ 2) (μ (27 + 8)) i tm) ∧ σ 2 (88 + 5 * fj (σ 2) (μ (27 + 8)) i tm + 0) = i ∧ sGo (σ 2) (-1) (-1) μ 196 (fj (σ 2) (μ (27 + 8)) i tm) ≠ 0) := by
          by_cases hk : fj (σ 2) (μ (27 + 8)) i tm < 0
          · exact Or.inl hk
          · have q := (fa μ).2 (by omega)
            exact Or.inr ⟨by omega, q.2.1, q.2.2.1, q.2.2.2.1, q.2.2.2.2.1⟩
        refine ⟨_, k_activity (S := sGo (σ 2) (-1) (-1) μ) (p := σ 2) (i := i) (o := 27) rfl fk (by omega), ?_⟩
        rintro z14 ρ15 μ16 ⟨hza, hq9_1, hq9_2⟩
        obtain rfl := hq9_1.symm
        obtain rfl := hq9_2.symm
        refine ⟨_, k_answer, ?_⟩
        rintro z18 ρ19 μ20 ⟨hq10_1, hq10_2, hq10_3⟩
        obtain rfl := hq10_1.symm
        obtain rfl := hq10_2.symm
        obtain rfl := hq10_3.symm
        refine pc_fin h hS FR.refl (fun J => ?_) (by rw [if_pos (by omega), if_pos (by omega)])
        rw [if_pos (by omega), if_pos (by omega), ← (fa J).1, hza]
        by_cases hk : fj (σ 2) (μ (27 + 8)) i tm < 0
        · unfold act
          rw [if_pos hk, if_pos hk]
        · have q := (fa μ).2 (by omega)
          have q' := (fa J).2 (by omega)
          exact (act_cg q.2.1 q'.2.1 q.2.2.2.2.1).1
      · refine ⟨_, k_fail, ?_⟩
        rintro z22 ρ23 μ24 ⟨hq12_1, hq12_2, hq12_3⟩
        obtain rfl := hq12_1.symm
        obtain rfl := hq12_2.symm
        obtain rfl := hq12_3.symm
        exact pc_fin h hS FR.refl (fun J => by rw [if_pos (by omega), if_neg (by omega)]) (by rw [if_pos (by omega), if_neg (by omega)])
  · refine ⟨_, k_fail, ?_⟩
    rintro z26 ρ27 μ28 ⟨hq14_1, hq14_2, hq14_3⟩
    obtain rfl := hq14_1.symm
    obtain rfl := hq14_2.symm
    obtain rfl := hq14_3.symm
    exact pc_fin h hS FR.refl (fun J => (if_neg (by omega)).symm) (by rw [if_neg (by omega)])
theorem c_mealsOn {i tm : Int} (h : CI ρ μ σ) (hS : SI σ) : qE mX7_mealsOn GG GG [qP 0, qI i, qI tm] ρ μ (PC μ ρ (fun J => if σ 0 4 = 1 ∧ 0 ≤ i ∧ i < σ 2 61 then (if 0 ≤ tm ∧ tm ≤ 9999 then mlo (σ 2) (sGo (σ 2) (-1) (-1) J) i (fj (σ 2) (sGo (σ 2) (-1) (-1) J 200) i tm) tm else -2147483648) else -2147483648) (sE σ (if σ 0 4 = 1 ∧ 0 ≤ i ∧ i < σ 2 61 then (if 0 ≤ tm ∧ tm ≤ 9999 then 0 else 2) else 1))) := by
  refine e_X7_mealsOn ?_
  refine ⟨_, k_isTrolley (by assumption) (by assumption), ?_⟩
  rintro z1 ρ2 μ3 ⟨hz, hq1_1, hq1_2⟩
  obtain rfl := hq1_1.symm
  obtain rfl := hq1_2.symm
  refine ⟨fun hc2 => ?_, fun hc2 => ?_⟩
  · obtain ⟨hv, hf, hs, hr⟩ := h.pl hS (by omega)
    have n := hv.n
    refine ⟨fun hc3 => ?_, fun hc3 => ?_⟩
    · refine ⟨_, k_fail, ?_⟩
      rintro z5 ρ6 μ7 ⟨hq4_1, hq4_2, hq4_3⟩
      obtain rfl := hq4_1.symm
      obtain rfl := hq4_2.symm
      obtain rfl := hq4_3.symm
      exact pc_fin h hS FR.refl (fun J => by rw [if_pos (by omega), if_neg (by omega)]) (by rw [if_pos (by omega), if_neg (by omega)])
    · refine ⟨fun hc6 => ?_, fun hc6 => ?_⟩
      · refine ⟨(by first | exact h.1.s | exact h.1.f), ?_⟩
        refine ⟨_, k_jobAt (o := 27) rfl h.1.s hs (by omega), ?_⟩
        rintro z10 ρ11 μ12 ⟨hq8_1, hq8_2, hq8_3⟩
        obtain rfl := hq8_1.symm
        obtain rfl := hq8_2.symm
        obtain rfl := hq8_3.symm
        have fa := fj_all (o := 27) (i := i) hv hr (show 0 ≤ tm by omega)
        refine ⟨fun hc9 => ?_, fun hc9 => ?_⟩
        · refine ⟨(by first | exact h.1.s | exact h.1.f), ?_⟩
          have q := (fa μ).2 (by omega)
          refine ⟨_, k_mealsAboard (S := sGo (σ 2) (-1) (-1) μ) (o := 27) rfl h.1.f hf hv ⟨by omega, by omega⟩ (by omega) ⟨by omega, q.2.1, q.2.2.1, q.2.2.2.1, q.2.2.2.2.1⟩ q.2.2.2.2.2.1 (by omega) q.2.2.2.2.2.2, ?_⟩
          rintro z15 ρ16 μ17 ⟨hza, hq11_1, hq11_2⟩
          obtain rfl := hq11_1.symm
          obtain rfl := hq11_2.symm
          refine ⟨_, k_answer, ?_⟩
          rintro z19 ρ20 μ21 ⟨hq12_1, hq12_2, hq12_3⟩
          obtain rfl := hq12_1.symm
          obtain rfl := hq12_2.symm
          obtain rfl := hq12_3.symm
          refine pc_fin h hS FR.refl (fun J => ?_) (by rw [if_pos (by omega), if_pos (by omega)])
          rw [if_pos (by omega), if_pos (by omega), ← (fa J).1, hza]
          have q' := (fa J).2 (by omega)
          exact (act_cg q.2.1 q'.2.1 q.2.2.2.2.1).2
        · refine ⟨_, k_answer, ?_⟩
          rintro z23 ρ24 μ25 ⟨hq14_1, hq14_2, hq14_3⟩
          obtain rfl := hq14_1.symm
          obtain rfl := hq14_2.symm
          obtain rfl := hq14_3.symm
          refine pc_fin h hS FR.refl (fun J => ?_) (by rw [if_pos (by omega), if_pos (by omega)])
          rw [if_pos (by omega), if_pos (by omega), ← (fa J).1]
          unfold mlo
          rw [if_pos (by omega)]
      · refine ⟨_, k_fail, ?_⟩
        rintro z27 ρ28 μ29 ⟨hq16_1, hq16_2, hq16_3⟩
        obtain rfl := hq16_1.symm
        obtain rfl := hq16_2.symm
        obtain rfl := hq16_3.symm
        exact pc_fin h hS FR.refl (fun J => by rw [if_pos (by omega), if_neg (by omega)]) (by rw [if_pos (by omega), if_neg (by omega)])
  · refine ⟨_, k_fail, ?_⟩
    rintro z31 ρ32 μ33 ⟨hq18_1, hq18_2, hq18_3⟩
    obtain rfl := hq18_1.symm
    obtain rfl := hq18_2.symm
    obtain rfl := hq18_3.symm
    exact pc_fin h hS FR.refl (fun J => (if_neg (by omega)).symm) (by rw [if_neg (by omega)])
theorem m_isDoing {w j u tm : Int} : qE mX8_isDoing GG GG [qP 178, qI w, qI j, qI u, qI tm] ρ μ (fun z ρ' μ' => ((tm < u ∧ z = 1 ∧ μ' = up2 (up2 μ 178 36 w) 178 37 j) ∨ (u ≤ tm ∧ z = 0 ∧ μ' = μ)) ∧ ρ' = ρ) := by
  refine e_X8_isDoing ?_
  refine ⟨fun hc1 => ?_, fun hc1 => ?_⟩
  · intro μ1 eμ1; subst eμ1
    intro μ2 eμ2; subst eμ2
    exact ⟨Or.inl ⟨hc1, rfl, rfl⟩, rfl⟩
  · exact ⟨Or.inr ⟨hc1, rfl, rfl⟩, rfl⟩
def fdM (μ : Mem) (w k : Int) : Mem := if k < 0 then up2 μ 178 36 0 else up2 (up2 (up2 μ 178 36 0) 178 36 w) 178 37 k
theorem m_findDoing {p : Pl} {i tm : Int} (hp : μ 180 = p) (hv : PV p) (hP : PI p μ) (h7 : ∀ i, 0 ≤ i → i < 5 → μ 187 i = p 87) (hi : 0 ≤ i ∧ i < p 61) (ht : 0 ≤ tm) : qE mX8_findDoing GG GG [qP 178, qI i, qI tm] ρ μ (fun (_ : Int) (ρ' : Rf) (μ' : Mem) => ρ' = ρ ∧ μ' = fdM μ (act p μ i (fj p (μ 200) i tm) tm) (fj p (μ 200) i tm)) := by
  have n := hv.n
  have L : ∀ (k : Nat) (x : Int), (p 87 - x).toNat < k → 0 ≤ x → (∀ j, 0 ≤ j → j < x → p (88 + 5 * j + 0) = i → μ 200 j ≤ tm) → qX mX8_findDoing GG (fun (_ : Int) (ρ' : Rf) (μ' : Mem) => ρ' = ρ ∧ μ' = fdM μ (act p μ i (fj p (μ 200) i tm) tm) (fj p (μ 200) i tm)) GG (0, 0) 7 [some (qP 178), some (qI i), some (qI tm), some (qI x)] [] ρ (up2 μ 178 36 0) := by
    intro k
    induction k with
    | zero => intro x h; omega
    | succ k ih =>
      intro x hk h0 h1
      have L160 : x < p 87 → (p (88 + 5 * x + 0) = i → μ 200 x ≤ tm) → qX mX8_findDoing GG (fun (_ : Int) (ρ' : Rf) (μ' : Mem) => ρ' = ρ ∧ μ' = fdM μ (act p μ i (fj p (μ 200) i tm) tm) (fj p (μ 200) i tm)) GG (0, 0) 160 [some (qP 178), some (qI i), some (qI tm), some (qI x)] [] ρ (up2 μ 178 36 0) := by
        intro hx hq
        refine w_X8_findDoing_160 ?_
        refine ⟨(by unfold i32; omega), ?_⟩
        refine ih _ (by omega) (by omega) (fun j j0 j1 j2 => ?_)
        by_cases hj : j = x
        · rw [hj] at j2 ⊢; exact hq j2
        · exact h1 j j0 (by omega) j2
      have fin : ∀ w, x < p 87 → p (88 + 5 * x + 0) = i → tm < μ 200 x → act p μ i x tm = w → up2 (up2 (up2 μ 178 36 0) 178 36 w) 178 37 x = fdM μ (act p μ i (fj p (μ 200) i tm) tm) (fj p (μ 200) i tm) := by
        intro w hx hb hf ha
        have e : x = fj p (μ 200) i tm := fj_u (Or.inr ⟨h0, hx, hb, hf, h1⟩)
        unfold fdM
        rw [← e, ha, if_neg (by omega)]
      have facts : x < p 87 → p (88 + 5 * x + 0) = i → ROk p μ x ∧ μ 195 x ≤ tm ∧ μ 196 x ≤ 99 := fun hx hb => by
        have bj := hv.j h0 hx
        have ro := hP.2.2.2.1 x h0 hx (by rw [h7 _ bj.1 (by omega)]; exact hx)
        have pt := hP.2.2.2.2.2.2 x h0 hx (Or.inl (by rw [h7 _ bj.1 (by omega)]; exact hx))
        have sv := hP.1.2.2.2 x h0 (by omega)
        rw [hb] at pt
        refine ⟨ro, ?_, sv.2.2.2⟩
        rcases last_e (p := p) (i := i) x h0 with q | ⟨j, j0, j1, j2, j3⟩
        · have := pt.2 q; omega
        · have r1 := pt.1 j j0 j1 j2 j3
          have r2 := h1 j j0 j1 j2
          omega
      have L143 : x < p 87 → p (88 + 5 * x + 0) = i → (tm < μ 200 x → act p μ i x tm = 5) → qX mX8_findDoing GG (fun (_ : Int) (ρ' : Rf) (μ' : Mem) => ρ' = ρ ∧ μ' = fdM μ (act p μ i (fj p (μ 200) i tm) tm) (fj p (μ 200) i tm)) GG (0, 0) 143 [some (qP 178), some (qI i), some (qI tm), some (qI x)] [] ρ (up2 μ 178 36 0) := by
        intro hx hb ha
        refine w_X8_findDoing_143 ?_
        refine ⟨(by omega), ?_⟩
        rw [up2_c (by decide)]
        refine ⟨_, m_isDoing, ?_⟩
        rintro z1 ρ2 μ3 ⟨hd, hq2_1⟩
        obtain rfl := hq2_1.symm
        refine ⟨fun hc3 => ?_, fun hc3 => ?_⟩
        · rcases hd with ⟨a, b, rfl⟩ | ⟨a, b, rfl⟩
          · omega
          · exact L160 hx (fun _ => a)
        · rcases hd with ⟨a, b, rfl⟩ | ⟨a, b, rfl⟩
          · exact ⟨by trivial, fin 5 hx hb a (ha a)⟩
          · omega
      refine w_X8_findDoing_7 ?_
      rw [up2_c (by decide), hp]
      refine ⟨fun hc1 => ?_, fun hc1 => ?_⟩
      · have e : -1 = fj p (μ 200) i tm := fj_u (Or.inl ⟨rfl, fun j j0 j1 j2 => h1 j j0 (by omega) j2⟩)
        refine ⟨by trivial, ?_⟩
        unfold fdM
        rw [if_pos (by omega)]
      · refine ⟨_, m_job (p := p) (by (repeat rw [up2_c (by decide)]); assumption) (by omega) (by omega), ?_⟩
        rintro z1 ρ2 μ3 ⟨hq3_1, hq3_2, hq3_3⟩
        obtain rfl := hq3_1.symm
        obtain rfl := hq3_2.symm
        obtain rfl := hq3_3.symm
        try simp (disch := decide) only [up2_c]
        refine ⟨fun hc4 => ?_, fun hc4 => ?_⟩
        · exact L160 hc1 (fun h => absurd h hc4)
        · obtain ⟨ro, s195, s196⟩ := facts hc1 hc4
          have ro' := ro
          unfold ROk at ro'
          rw [hc4] at ro'
          have bi := hv.i hi.1 hi.2
          have sv := hP.1.2.2.2 x h0 (by omega)
          have x1 := mulb (a := μ 196 x) (b := p (62 + 5 * i + 3)) (A := 99) (B := 5) (by omega) (by omega) (by omega) (by omega)
          have x2 := mulb (a := μ 199 x) (b := p (62 + 5 * i + 4)) (A := 99) (B := 5) (by omega) (by omega) (by omega) (by omega)
          refine ⟨(by omega), ?_⟩
          refine ⟨fun hc7 => ?_, fun hc7 => ?_⟩
          · refine ⟨(by omega), ?_⟩
            refine ⟨(by omega), ?_⟩
            refine ⟨_, m_trolley (p := p) (by (repeat rw [up2_c (by decide)]); assumption) (by omega) (by omega), ?_⟩
            rintro z5 ρ6 μ7 ⟨hq10_1, hq10_2, hq10_3⟩
            obtain rfl := hq10_1.symm
            obtain rfl := hq10_2.symm
            obtain rfl := hq10_3.symm
            try simp (disch := decide) only [up2_c]
            refine ⟨(by unfold i32; omega), ?_⟩
            refine ⟨(by unfold i32; omega), ?_⟩
            refine ⟨_, m_isDoing, ?_⟩
            rintro z9 ρ10 μ11 ⟨hd1, hq13_1⟩
            obtain rfl := hq13_1.symm
            try simp (disch := decide) only [up2_c]
            refine ⟨fun hc14 => ?_, fun hc14 => ?_⟩
            · rcases hd1 with ⟨a, b, rfl⟩ | ⟨a, b, rfl⟩
              · exact ⟨by trivial, fin 1 hc1 hc4 (by omega) (by unfold act; rw [if_neg (by omega), if_pos a])⟩
              · omega
            · rcases hd1 with ⟨a, b, rfl⟩ | ⟨d1, b, rfl⟩
              · omega
              simp (disch := decide) only [up2_c]
              refine ⟨(by omega), ?_⟩
              refine ⟨_, m_isDoing, ?_⟩
              rintro z13 ρ14 μ15 ⟨hd2, hq17_1⟩
              obtain rfl := hq17_1.symm
              try simp (disch := decide) only [up2_c]
              refine ⟨fun hc18 => ?_, fun hc18 => ?_⟩
              · rcases hd2 with ⟨a, b, rfl⟩ | ⟨d2, b, rfl⟩
                · omega
                simp (disch := decide) only [up2_c]
                refine ⟨(by omega), ?_⟩
                refine ⟨fun hc20 => ?_, fun hc20 => ?_⟩
                · exact L143 hc1 hc4 (fun _ => by unfold act; rw [if_neg (by omega), if_neg (by omega), if_neg (by omega), if_neg (by omega), if_neg (by omega)])
                · refine ⟨(by omega), ?_⟩
                  refine ⟨_, m_isDoing, ?_⟩
                  rintro z17 ρ18 μ19 ⟨hd3, hq23_1⟩
                  obtain rfl := hq23_1.symm
                  try simp (disch := decide) only [up2_c]
                  refine ⟨fun hc24 => ?_, fun hc24 => ?_⟩
                  · rcases hd3 with ⟨a, b, rfl⟩ | ⟨a, b, rfl⟩
                    · exact ⟨by trivial, fin 3 hc1 hc4 (by omega) (by unfold act; rw [if_neg (by omega), if_neg (by omega), if_neg (by omega), if_pos (by omega)])⟩
                    · omega
                  · rcases hd3 with ⟨a, b, rfl⟩ | ⟨d3, b, rfl⟩
                    · omega
                    simp (disch := decide) only [up2_c]
                    refine ⟨(by omega), ?_⟩
                    refine ⟨(by omega), ?_⟩
                    refine ⟨_, m_trolley (p := p) (by (repeat rw [up2_c (by decide)]); assumption) (by omega) (by omega), ?_⟩
                    rintro z21 ρ22 μ23 ⟨hq28_1, hq28_2, hq28_3⟩
                    obtain rfl := hq28_1.symm
                    obtain rfl := hq28_2.symm
                    obtain rfl := hq28_3.symm
                    try simp (disch := decide) only [up2_c]
                    refine ⟨(by unfold i32; omega), ?_⟩
                    refine ⟨(by unfold i32; omega), ?_⟩
                    refine ⟨_, m_isDoing, ?_⟩
                    rintro z25 ρ26 μ27 ⟨hd4, hq31_1⟩
                    obtain rfl := hq31_1.symm
                    try simp (disch := decide) only [up2_c]
                    refine ⟨fun hc32 => ?_, fun hc32 => ?_⟩
                    · rcases hd4 with ⟨a, b, rfl⟩ | ⟨a, b, rfl⟩
                      · omega
                      · exact L143 hc1 hc4 (fun _ => by unfold act; rw [if_neg (by omega), if_neg (by omega), if_neg (by omega), if_neg (by omega), if_neg (by omega)])
                    · rcases hd4 with ⟨a, b, rfl⟩ | ⟨a, b, rfl⟩
                      · exact ⟨by trivial, fin 4 hc1 hc4 (by omega) (by unfold act; rw [if_neg (by omega), if_neg (by omega), if_neg (by omega), if_neg (by omega), if_pos (by omega)])⟩
                      · omega
              · rcases hd2 with ⟨a, b, rfl⟩ | ⟨a, b, rfl⟩
                · exact ⟨by trivial, fin 2 hc1 hc4 (by omega) (by unfold act; rw [if_neg (by omega), if_neg (by omega), if_pos a])⟩
                · omega
          · obtain ⟨ro, s195, s196⟩ := facts hc1 hc4
            unfold ROk at ro
            refine L160 hc1 (fun _ => ?_)
            omega
  refine e_X8_findDoing ?_
  intro μ1 eμ1; subst eμ1
  exact L _ 0 (Nat.lt_succ_self _) (by omega) (fun j a b _ => by omega)
end DQ
