/-! ===== questions about best sets: the class ===== -/
def lsF (p : Pl) (i : Int) : Nat → Int → Int
  | 0, _ => -1
  | m + 1, v => if 0 ≤ gT p i v (2 ^ (cnt p i).toNat - 1) then v else lsF p i m (v + 1)
def lsp (p : Pl) (i : Int) : Int := lsF p i 9 1
section CBq
variable {ρ : Rf} {μ μ0 : Mem} {p : Pl} {σ : Sg}
theorem bst_b {i : Int} (hc0 : 0 ≤ cnt p i) : bst p i < 2 ^ (cnt p i).toNat ∧ 0 ≤ gT p i (spd p i) (bst p i) := by
  have b := bs_b (p := p) (i := i) (v := spd p i) (2 ^ (cnt p i).toNat - 1)
  have w := Nat.two_pow_pos (cnt p i).toNat
  refine ⟨?_, ?_⟩
  · unfold bst
    omega
  · unfold bst
    rcases b.2 with z | z
    · rw [z, gT_0]; decide
    · exact z
theorem k_chooseBest {f s : Nat} {i : Int} (hf : isO 0 f) (hs : isO 6 s) (ff : (f = 155 ∧ s = 171) ∨ (f = 4 ∧ s = 20)) (F : FP μ0 f p) (S : SP μ0 s p) (hv : PV p) (hc : cnt p i ≤ 8) (i0 : 0 ≤ i) (i1 : i < p 61) : qE mX5_chooseBest GG GG [qP 141, qP f, qP s, qI i] ρ μ0 (fun _ ρ' μ' => ρ' = ρ ∧ FR 141 150 μ0 μ' ∧ SLO μ' p i (spd p i) ∧ SLT μ' p i (spd p i) (2 ^ (cnt p i).toNat) ∧ μ' 141 3 = (bst p i : Int) ∧ ORD p i (spd p i) (bst p i) (μ' 141 4) (μ' 143)) := by
  have n := hv.n
  have c0 : 0 ≤ cnt p i := (owC_b (p := p) (i := i) hv.n.2.2.2.2.2.2.1).1
  have b := hv.i i0 i1
  have v0 : 1 ≤ spd p i := b.2.2.2.2.1
  have v1 : spd p i ≤ 9 := b.2.2.2.2.2.1
  have lt := bw_lt (cnt p i).toNat (by omega)
  have w := Nat.two_pow_pos (cnt p i).toNat
  have sd : μ0 (f + 13) i = spd p i := (F.i i0 i1).2.2.1
  have bb := bst_b (p := p) (i := i) c0
  have L : ∀ (m : Nat) (x : Nat) (μ : Mem), 2 ^ (cnt p i).toNat - x < m → x + 1 ≤ 2 ^ (cnt p i).toNat → SLO μ p i (spd p i) → SLT μ p i (spd p i) (2 ^ (cnt p i).toNat) → μ 141 3 = (bs p i (spd p i) x : Int) → FR 141 150 μ0 μ → qX mX5_chooseBest GG (fun _ ρ' μ' => ρ' = ρ ∧ FR 141 150 μ0 μ' ∧ SLO μ' p i (spd p i) ∧ SLT μ' p i (spd p i) (2 ^ (cnt p i).toNat) ∧ μ' 141 3 = (bst p i : Int) ∧ ORD p i (spd p i) (bst p i) (μ' 141 4) (μ' 143)) GG (0, 0) 24 [some (qP 141), none, none, none, some (qI (sm p i (bs p i (spd p i) x))), some (qI ((x : Int) + 1))] [] ρ μ := by
    intro m
    induction m with
    | zero => intro x μ h; omega
    | succ m ih =>
      intro x μ hm hx So Ta h3 hfr
      have e1 : ((x : Int) + 1) = ((x + 1 : Nat) : Int) := by omega
      have eb : bs p i (spd p i) (x + 1) = if 0 ≤ gT p i (spd p i) (x + 1) ∧ sm p i (bs p i (spd p i) x) < sm p i (x + 1) then x + 1 else bs p i (spd p i) x := rfl
      refine w_X5_chooseBest_24 ?_
      refine ⟨_, k_wholeSet (n := (cnt p i).toNat) (by rw [So.1]; omega) (by omega), ?_⟩
      rintro z1 ρ2 μ3 ⟨hq1_1, hq1_2, hq1_3⟩
      obtain rfl := hq1_1.symm
      obtain rfl := hq1_2.symm
      obtain rfl := hq1_3.symm
      have w2 : ((2 ^ (cnt p i).toNat : Nat) : Int) = ((2 ^ (cnt p i).toNat - 1 : Nat) : Int) + 1 := by omega
      refine ⟨fun hc2 => ?_, fun hc2 => ?_⟩
      · have xe : x = 2 ^ (cnt p i).toNat - 1 := by omega
        refine ⟨_, k_layOrder (s := bst p i) hv hc v0 So Ta (by rw [h3, xe]; rfl) bb.1 bb.2, ?_⟩
        rintro z5 ρ6 μ7 ⟨hq3_1, od, ha, hk⟩
        obtain rfl := hq3_1.symm
        refine ⟨rfl, hfr.trans (fun a h => ha a (by omega) (by omega)), So.fr (hk 2 (by decide)) (fun a h1 h2 h3 => ha a (by omega) h2), fun s h => ?_, ?_, od⟩
        · rw [ha 150 (by decide) (by decide)]; exact Ta s h
        · rw [hk 3 (by decide), h3, xe]; rfl
      · rw [e1]
        refine ⟨_, k_canDo (s := x + 1) (by omega) (Ta (x + 1) (by omega)), ?_⟩
        rintro z9 ρ10 μ11 ⟨hz, hq5_1, hq5_2⟩
        obtain rfl := hq5_1.symm
        obtain rfl := hq5_2.symm
        refine ⟨fun hc6 => ?_, fun hc6 => ?_⟩
        · refine ⟨(by unfold i32; omega), ?_⟩
          rw [if_neg (by omega)] at eb
          rw [← eb]
          exact ih (x + 1) _ (by omega) (by omega) So Ta (by rw [eb]; exact h3) hfr
        · refine ⟨_, k_mealsOf (s := x + 1) hv hc (by omega) So, ?_⟩
          rintro z13 ρ14 μ15 ⟨hq9_1, hq9_2, hq9_3⟩
          obtain rfl := hq9_1.symm
          obtain rfl := hq9_2.symm
          obtain rfl := hq9_3.symm
          refine ⟨fun hc10 => ?_, fun hc10 => ?_⟩
          · refine ⟨(by unfold i32; omega), ?_⟩
            rw [if_neg (by omega)] at eb
            rw [← eb]
            exact ih (x + 1) _ (by omega) (by omega) So Ta (by rw [eb]; exact h3) hfr
          · refine ⟨_, k_mealsOf (s := x + 1) hv hc (by omega) So, ?_⟩
            rintro z17 ρ18 μ19 ⟨hq13_1, hq13_2, hq13_3⟩
            obtain rfl := hq13_1.symm
            obtain rfl := hq13_2.symm
            obtain rfl := hq13_3.symm
            intro μ21 eμ21; subst eμ21
            refine ⟨(by unfold i32; omega), ?_⟩
            rw [if_pos ⟨by omega, by omega⟩] at eb
            have := ih (x + 1) (up2 μ 141 3 ((x + 1 : Nat) : Int)) (by omega) (by omega) (So.fr (up2_k (by decide)) (fun a h1 h2 h3 => up2_c (by omega))) (fun s h => by rw [up2_c (by decide)]; exact Ta s h) (by rw [eb, up2_s]) (FR.up hfr (by omega))
            rw [eb] at this
            exact this
  refine e_X5_chooseBest hf hs ?_
  rw [sd]
  refine ⟨(by omega), ?_⟩
  refine ⟨_, k_study hf hs ff F S hv hc v0 v1, ?_⟩
  rintro z1 ρ2 μ3 ⟨hq2_1, So, Ta, hfr⟩
  obtain rfl := hq2_1.symm
  intro μ5 eμ5; subst eμ5
  have := L _ 0 _ (Nat.lt_succ_self _) (by omega) (So.fr (μ' := up2 μ3 141 3 0) (up2_k (by decide)) (fun a h1 h2 h3 => up2_c (by omega))) (fun s h => by rw [up2_c (by decide)]; exact Ta s h) up2_s (FR.up hfr (by omega))
  rw [show sm p i (bs p i (spd p i) 0) = 0 from sm_0] at this
  exact this
theorem CI.cn (hS : SI σ) (hp : σ 0 4 = 1) {i : Int} : cnt (σ 2) i ≤ 8 := (hS.2.2.2.2.2.2.2.2 hp).1.2.2.2.1 i
theorem c_bestSet {i : Int} (h : CI ρ μ σ) (hS : SI σ) : qE mX7_bestSet GG GG [qP 0, qI i] ρ μ (PC μ ρ (fun J => if σ 0 4 = 1 ∧ 0 ≤ i ∧ i < σ 2 61 then (bst (σ 2) i : Int) else -2147483648) (sE σ (if σ 0 4 = 1 ∧ 0 ≤ i ∧ i < σ 2 61 then 0 else 1))) := by
  refine e_X7_bestSet ?_
  refine ⟨_, k_isTrolley (by assumption) (by assumption), ?_⟩
  rintro z1 ρ2 μ3 ⟨hz, hq1_1, hq1_2⟩
  obtain rfl := hq1_1.symm
  obtain rfl := hq1_2.symm
  refine ⟨fun hc2 => ?_, fun hc2 => ?_⟩
  · refine ⟨(by exact h.1.f), ?_⟩
    refine ⟨(by exact h.1.s), ?_⟩
    obtain ⟨hv, hf, hs, hr⟩ := h.pl hS (by omega)
    refine ⟨_, k_chooseBest h.1.f h.1.s h.1.fn hf hs hv (CI.cn hS (by omega)) (by omega) (by omega), ?_⟩
    rintro z7 ρ8 μ9 ⟨hq5_1, fr1, So, Ta, e3, od⟩
    obtain rfl := hq5_1.symm
    refine ⟨_, k_answer, ?_⟩
    rintro z11 ρ12 μ13 ⟨hq6_1, hq6_2, hq6_3⟩
    obtain rfl := hq6_1.symm
    obtain rfl := hq6_2.symm
    obtain rfl := hq6_3.symm
    exact pc_fin (h.scr hS (fun a ha => fr1 a (by omega))) hS (fr1.mono (by omega) (by omega)) (fun J => by rw [if_pos (by omega)]; exact e3) (by rw [if_pos (by omega)])
  · refine ⟨_, k_fail, ?_⟩
    rintro z15 ρ16 μ17 ⟨hq8_1, hq8_2, hq8_3⟩
    obtain rfl := hq8_1.symm
    obtain rfl := hq8_2.symm
    obtain rfl := hq8_3.symm
    exact pc_fin h hS FR.refl (fun J => (if_neg (by omega)).symm) (by rw [if_neg (by omega)])
theorem c_bestMeals {i : Int} (h : CI ρ μ σ) (hS : SI σ) : qE mX7_bestMeals GG GG [qP 0, qI i] ρ μ (PC μ ρ (fun J => if σ 0 4 = 1 ∧ 0 ≤ i ∧ i < σ 2 61 then sm (σ 2) i (bst (σ 2) i) else -2147483648) (sE σ (if σ 0 4 = 1 ∧ 0 ≤ i ∧ i < σ 2 61 then 0 else 1))) := by
  refine e_X7_bestMeals ?_
  refine ⟨_, k_isTrolley (by assumption) (by assumption), ?_⟩
  rintro z1 ρ2 μ3 ⟨hz, hq1_1, hq1_2⟩
  obtain rfl := hq1_1.symm
  obtain rfl := hq1_2.symm
  refine ⟨fun hc2 => ?_, fun hc2 => ?_⟩
  · refine ⟨(by exact h.1.f), ?_⟩
    refine ⟨(by exact h.1.s), ?_⟩
    obtain ⟨hv, hf, hs, hr⟩ := h.pl hS (by omega)
    refine ⟨_, k_chooseBest h.1.f h.1.s h.1.fn hf hs hv (CI.cn hS (by omega)) (by omega) (by omega), ?_⟩
    rintro z7 ρ8 μ9 ⟨hq5_1, fr1, So, Ta, e3, od⟩
    obtain rfl := hq5_1.symm
    rw [e3]
    have cn := CI.cn hS (by omega) (i := i)
    have bb := bst_b (p := σ 2) (i := i) ((owC_b (p := σ 2) (i := i) hv.n.2.2.2.2.2.2.1).1)
    have lt := bw_lt (cnt (σ 2) i).toNat (by omega)
    refine ⟨_, k_mealsOf (s := bst (σ 2) i) hv cn (by omega) So, ?_⟩
    rintro z11 ρ12 μ13 ⟨hq6_1, hq6_2, hq6_3⟩
    obtain rfl := hq6_1.symm
    obtain rfl := hq6_2.symm
    obtain rfl := hq6_3.symm
    refine ⟨_, k_answer, ?_⟩
    rintro z15 ρ16 μ17 ⟨hq7_1, hq7_2, hq7_3⟩
    obtain rfl := hq7_1.symm
    obtain rfl := hq7_2.symm
    obtain rfl := hq7_3.symm
    exact pc_fin (h.scr hS (fun a ha => fr1 a (by omega))) hS (fr1.mono (by omega) (by omega)) (fun J => by rw [if_pos (by omega)]) (by rw [if_pos (by omega)])
  · refine ⟨_, k_fail, ?_⟩
    rintro z19 ρ20 μ21 ⟨hq9_1, hq9_2, hq9_3⟩
    obtain rfl := hq9_1.symm
    obtain rfl := hq9_2.symm
    obtain rfl := hq9_3.symm
    exact pc_fin h hS FR.refl (fun J => (if_neg (by omega)).symm) (by rw [if_neg (by omega)])
theorem c_bestOrder {i x : Int} (h : CI ρ μ σ) (hS : SI σ) : qE mX7_bestOrder GG GG [qP 0, qI i, qI x] ρ μ (PC μ ρ (fun J => if (σ 0 4 = 1 ∧ 0 ≤ i ∧ i < σ 2 61) ∧ (0 ≤ x ∧ (oS (σ 2) i (spd (σ 2) i) (bst (σ 2) i) x.toNat).1 ≠ 0) then oK (σ 2) i (spd (σ 2) i) (bst (σ 2) i) x.toNat else -2147483648) (sE σ (if σ 0 4 = 1 ∧ 0 ≤ i ∧ i < σ 2 61 then (if (0 ≤ x ∧ (oS (σ 2) i (spd (σ 2) i) (bst (σ 2) i) x.toNat).1 ≠ 0) then 0 else 6) else 1))) := by
  refine e_X7_bestOrder ?_
  refine ⟨_, k_isTrolley (by assumption) (by assumption), ?_⟩
  rintro z1 ρ2 μ3 ⟨hz, hq1_1, hq1_2⟩
  obtain rfl := hq1_1.symm
  obtain rfl := hq1_2.symm
  refine ⟨fun hc2 => ?_, fun hc2 => ?_⟩
  · refine ⟨(by exact h.1.f), ?_⟩
    refine ⟨(by exact h.1.s), ?_⟩
    obtain ⟨hv, hf, hs, hr⟩ := h.pl hS (by omega)
    refine ⟨_, k_chooseBest h.1.f h.1.s h.1.fn hf hs hv (CI.cn hS (by omega)) (by omega) (by omega), ?_⟩
    rintro z7 ρ8 μ9 ⟨hq5_1, fr1, So, Ta, e3, od⟩
    obtain rfl := hq5_1.symm
    have cn := CI.cn hS (by omega) (i := i)
    have h' := h.scr hS (μ' := μ9) (fun a ha => fr1 a (by omega))
    have ob := od.2.1
    refine ⟨fun hc6 => ?_, fun hc6 => ?_⟩
    · refine ⟨_, k_fail, ?_⟩
      rintro z11 ρ12 μ13 ⟨hq7_1, hq7_2, hq7_3⟩
      obtain rfl := hq7_1.symm
      obtain rfl := hq7_2.symm
      obtain rfl := hq7_3.symm
      exact pc_fin h' hS (fr1.mono (by omega) (by omega)) (fun J => (if_neg (fun q => by have := q.2.1; omega)).symm) (by rw [if_pos (by omega), if_neg (fun q => by have := q.1; omega)])
    · refine ⟨fun hc9 => ?_, fun hc9 => ?_⟩
      · refine ⟨(by omega), ?_⟩
        refine ⟨_, k_answer, ?_⟩
        rintro z15 ρ16 μ17 ⟨hq11_1, hq11_2, hq11_3⟩
        obtain rfl := hq11_1.symm
        obtain rfl := hq11_2.symm
        obtain rfl := hq11_3.symm
        have lt := (od.lt (x := x) (by omega)).mp (by omega)
        exact pc_fin h' hS (fr1.mono (by omega) (by omega)) (fun J => by rw [if_pos ⟨by omega, by omega, lt⟩]; exact od.v (by omega) (by omega)) (by rw [if_pos (by omega), if_pos ⟨by omega, lt⟩])
      · refine ⟨_, k_fail, ?_⟩
        rintro z19 ρ20 μ21 ⟨hq13_1, hq13_2, hq13_3⟩
        obtain rfl := hq13_1.symm
        obtain rfl := hq13_2.symm
        obtain rfl := hq13_3.symm
        have lt : ¬ (0 ≤ x ∧ (oS (σ 2) i (spd (σ 2) i) (bst (σ 2) i) x.toNat).1 ≠ 0) := fun q => by have := (od.lt q.1).mpr q.2; omega
        exact pc_fin h' hS (fr1.mono (by omega) (by omega)) (fun J => (if_neg (fun q => lt q.2)).symm) (by rw [if_pos (by omega), if_neg lt])
  · refine ⟨_, k_fail, ?_⟩
    rintro z23 ρ24 μ25 ⟨hq15_1, hq15_2, hq15_3⟩
    obtain rfl := hq15_1.symm
    obtain rfl := hq15_2.symm
    obtain rfl := hq15_3.symm
    exact pc_fin h hS FR.refl (fun J => (if_neg (fun q => by have := q.1; omega)).symm) (by rw [if_neg (by omega)])
end CBq
