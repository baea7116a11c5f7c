section MBq
variable {ρ : Rf} {μ μ0 : Mem} {p : Pl} {σ : Sg}
theorem PV.v (hv : PV p) {i : Int} (i0 : 0 ≤ i) (i1 : i < p 61) : 1 ≤ spd p i := (hv.i i0 i1).2.2.2.2.1
theorem q_bestSet {i : Int} (h : MJ μ σ) (hS : SI σ) : qE mX8_bestSet GG GG [qP 178, qI i] ρ μ (PM μ ρ (fun J => if σ 0 4 = 1 ∧ 0 ≤ i ∧ i < σ 2 61 then (bst (σ 2) i : Int) else -2147483648) (sE σ (if σ 0 4 = 1 ∧ 0 ≤ i ∧ i < σ 2 61 then 0 else 1))) := by
  have hb := hS.2.2.1
  have hn : σ 0 4 = 1 → PV (σ 2) := fun e => (hS.2.2.2.2.2.2.2.2 e).1.1
  have fth : FR 178 207 μ (up2 μ 178 0 0) := FR.up FR.refl (by omega)
  have hth : MJ (up2 μ 178 0 0) σ := h.th
  have tth : up2 μ 178 0 0 180 = σ 2 := hth.2.2.2.2.2.2.2.1
  refine e_X8_bestSet ?_
  intro μ1 eμ1; subst eμ1
  refine ⟨_, m_isTrolley (σ := σ) hth hS, ?_⟩
  rintro z2 ρ3 μ4 ⟨hz, hq2_1, hq2_2⟩
  obtain rfl := hq2_1.symm
  obtain rfl := hq2_2.symm
  refine ⟨fun hc3 => ?_, fun hc3 => ?_⟩
  · refine ⟨_, m_failed, ?_⟩
    rintro z6 ρ7 μ8 ⟨hq4_1, hq4_2, hq4_3⟩
    obtain rfl := hq4_1.symm
    obtain rfl := hq4_2.symm
    obtain rfl := hq4_3.symm
    exact pm_fin hth fth ⟨μ, (if_neg (by omega)).symm⟩ (by rw [if_neg (by omega)])
  · refine ⟨_, m_bestOf tth (hn (by omega)) (CI.cn hS (by omega)) ((hn (by omega)).v (by omega) (by omega)), ?_⟩
    rintro z10 ρ11 μ12 ⟨hq6_1, hq6_2, hR, hO, h49⟩
    obtain rfl := hq6_1.symm
    obtain rfl := hq6_2.symm
    refine ⟨_, m_done, ?_⟩
    rintro z14 ρ15 μ16 ⟨hq7_1, hq7_2, hq7_3⟩
    obtain rfl := hq7_1.symm
    obtain rfl := hq7_2.symm
    obtain rfl := hq7_3.symm
    exact pm_fin (hR.mj hth) (hR.ff fth) ⟨μ, by rw [if_pos (by omega)]⟩ (by rw [if_pos (by omega)])
theorem q_bestMeals {i : Int} (h : MJ μ σ) (hS : SI σ) : qE mX8_bestMeals GG GG [qP 178, qI i] ρ μ (PM μ ρ (fun J => if σ 0 4 = 1 ∧ 0 ≤ i ∧ i < σ 2 61 then sm (σ 2) i (bst (σ 2) i) else -2147483648) (sE σ (if σ 0 4 = 1 ∧ 0 ≤ i ∧ i < σ 2 61 then 0 else 1))) := by
  have hb := hS.2.2.1
  have hn : σ 0 4 = 1 → PV (σ 2) := fun e => (hS.2.2.2.2.2.2.2.2 e).1.1
  have fth : FR 178 207 μ (up2 μ 178 0 0) := FR.up FR.refl (by omega)
  have hth : MJ (up2 μ 178 0 0) σ := h.th
  have tth : up2 μ 178 0 0 180 = σ 2 := hth.2.2.2.2.2.2.2.1
  refine e_X8_bestMeals ?_
  intro μ1 eμ1; subst eμ1
  refine ⟨_, m_isTrolley (σ := σ) hth hS, ?_⟩
  rintro z2 ρ3 μ4 ⟨hz, hq2_1, hq2_2⟩
  obtain rfl := hq2_1.symm
  obtain rfl := hq2_2.symm
  refine ⟨fun hc3 => ?_, fun hc3 => ?_⟩
  · refine ⟨_, m_bestOf tth (hn (by omega)) (CI.cn hS (by omega)) ((hn (by omega)).v (by omega) (by omega)), ?_⟩
    rintro z6 ρ7 μ8 ⟨hq4_1, hq4_2, hR, hO, h49⟩
    obtain rfl := hq4_1.symm
    obtain rfl := hq4_2.symm
    refine ⟨fun hc5 => ?_, fun hc5 => ?_⟩
    · refine ⟨_, m_done, ?_⟩
      rintro z10 ρ11 μ12 ⟨hq6_1, hq6_2, hq6_3⟩
      obtain rfl := hq6_1.symm
      obtain rfl := hq6_2.symm
      obtain rfl := hq6_3.symm
      exact pm_fin (hR.mj hth) (hR.ff fth) ⟨μ, by rw [if_pos (by omega)]; exact h49⟩ (by rw [if_pos (by omega)])
    · refine ⟨_, m_done, ?_⟩
      rintro z14 ρ15 μ16 ⟨hq8_1, hq8_2, hq8_3⟩
      obtain rfl := hq8_1.symm
      obtain rfl := hq8_2.symm
      obtain rfl := hq8_3.symm
      have z : bst (σ 2) i = 0 := by omega
      exact pm_fin (hR.mj hth) (hR.ff fth) ⟨μ, by rw [if_pos (by omega), z]; exact sm_0.symm⟩ (by rw [if_pos (by omega)])
  · refine ⟨_, m_failed, ?_⟩
    rintro z18 ρ19 μ20 ⟨hq10_1, hq10_2, hq10_3⟩
    obtain rfl := hq10_1.symm
    obtain rfl := hq10_2.symm
    obtain rfl := hq10_3.symm
    exact pm_fin hth fth ⟨μ, (if_neg (by omega)).symm⟩ (by rw [if_neg (by omega)])
theorem q_bestOrder {i x : Int} (h : MJ μ σ) (hS : SI σ) : qE mX8_bestOrder GG GG [qP 178, qI i, qI x] ρ μ (PM μ ρ (fun J => if (σ 0 4 = 1 ∧ 0 ≤ i ∧ i < σ 2 61) ∧ (0 ≤ x ∧ (oS (σ 2) i (spd (σ 2) i) (bst (σ 2) i) x.toNat).1 ≠ 0) then oK (σ 2) i (spd (σ 2) i) (bst (σ 2) i) x.toNat else -2147483648) (sE σ (if σ 0 4 = 1 ∧ 0 ≤ i ∧ i < σ 2 61 then (if (0 ≤ x ∧ (oS (σ 2) i (spd (σ 2) i) (bst (σ 2) i) x.toNat).1 ≠ 0) then 0 else 6) else 1))) := by
  have hb := hS.2.2.1
  have hn : σ 0 4 = 1 → PV (σ 2) := fun e => (hS.2.2.2.2.2.2.2.2 e).1.1
  have fth : FR 178 207 μ (up2 μ 178 0 0) := FR.up FR.refl (by omega)
  have hth : MJ (up2 μ 178 0 0) σ := h.th
  have tth : up2 μ 178 0 0 180 = σ 2 := hth.2.2.2.2.2.2.2.1
  refine e_X8_bestOrder ?_
  intro μ1 eμ1; subst eμ1
  refine ⟨_, m_isTrolley (σ := σ) hth hS, ?_⟩
  rintro z2 ρ3 μ4 ⟨hz, hq2_1, hq2_2⟩
  obtain rfl := hq2_1.symm
  obtain rfl := hq2_2.symm
  refine ⟨fun hc3 => ?_, fun hc3 => ?_⟩
  · refine ⟨_, m_layOrder tth (hn (by omega)) (CI.cn hS (by omega)) ((hn (by omega)).v (by omega) (by omega)), ?_⟩
    rintro z6 ρ7 μ8 ⟨hq4_1, hR, hO, od⟩
    obtain rfl := hq4_1.symm
    have cn := CI.cn hS (by omega) (i := i)
    have od1 := od.1
    have od2 := od.2.1
    refine ⟨(by unfold i32; omega), ?_⟩
    refine ⟨_, m_in, ?_⟩
    rintro z10 ρ11 μ12 ⟨hin, hq6_1, hq6_2⟩
    obtain rfl := hq6_1.symm
    obtain rfl := hq6_2.symm
    refine ⟨fun hc7 => ?_, fun hc7 => ?_⟩
    · refine ⟨_, m_failed, ?_⟩
      rintro z14 ρ15 μ16 ⟨hq8_1, hq8_2, hq8_3⟩
      obtain rfl := hq8_1.symm
      obtain rfl := hq8_2.symm
      obtain rfl := hq8_3.symm
      have lt : ¬ (0 ≤ x ∧ (oS (σ 2) i (spd (σ 2) i) (bst (σ 2) i) x.toNat).1 ≠ 0) := fun q => by have := (od.lt q.1).mpr q.2; omega
      exact pm_fin (hR.mj hth) (hR.ff fth) ⟨μ, (if_neg (fun q => lt q.2)).symm⟩ (by rw [if_pos (by omega), if_neg lt])
    · refine ⟨(by omega), ?_⟩
      refine ⟨_, m_done, ?_⟩
      rintro z18 ρ19 μ20 ⟨hq11_1, hq11_2, hq11_3⟩
      obtain rfl := hq11_1.symm
      obtain rfl := hq11_2.symm
      obtain rfl := hq11_3.symm
      have lt := (od.lt (x := x) (by omega)).mp (by omega)
      exact pm_fin (hR.mj hth) (hR.ff fth) ⟨μ, by rw [if_pos ⟨by omega, by omega, lt⟩]; exact od.v (by omega) (by omega)⟩ (by rw [if_pos (by omega), if_pos ⟨by omega, lt⟩])
  · refine ⟨_, m_failed, ?_⟩
    rintro z22 ρ23 μ24 ⟨hq13_1, hq13_2, hq13_3⟩
    obtain rfl := hq13_1.symm
    obtain rfl := hq13_2.symm
    obtain rfl := hq13_3.symm
    exact pm_fin hth fth ⟨μ, (if_neg (fun q => by have := q.1; omega)).symm⟩ (by rw [if_neg (by omega)])
/-! ### another speed -/
theorem sp_k {i v k : Int} (h : k ≠ 62 + 5 * i + 2) : u1 p (62 + 5 * i + 2) v k = p k := u1_n h
theorem sp_PV (hv : PV p) {i v : Int} (i0 : 0 ≤ i) (i1 : i < p 61) (v0 : 1 ≤ v) (v1 : v ≤ 9) : PV (u1 p (62 + 5 * i + 2) v) := by
  have n := hv.n
  have e : ∀ k, k ≠ 62 + 5 * i + 2 → u1 p (62 + 5 * i + 2) v k = p k := fun k h => u1_n h
  refine ⟨fun t t0 t1 => ?_, fun t t0 t1 c c0 c1 => ?_, fun m m0 m1 => ?_, fun k k0 k1 => ?_, fun k k0 k1 => ?_, fun j j0 j1 => ?_, fun j j0 j1 => ?_, ?_⟩
  · rw [e _ (by omega), e _ (by omega), e _ (by omega)]; exact hv.t t0 t1
  · rw [e _ (by omega)] at c1
    have := hv.t t0 t1
    rw [e _ (by omega), e _ (by omega), e _ (by omega)]; exact hv.c t0 t1 c0 c1
  · rw [e _ (by omega)] at m1
    rw [e _ (by omega), e _ (by omega)]; exact hv.m m0 m1
  · rw [e _ (by omega)] at k1
    rw [e _ (by omega)]; exact hv.k k0 k1
  · rw [e _ (by omega)]; exact hv.s k0 k1
  · rw [e _ (by omega)] at j1
    have := hv.i j0 j1
    rw [e (62 + 5 * j + 0) (by omega), e (62 + 5 * j + 1) (by omega), e (62 + 5 * j + 3) (by omega), e (62 + 5 * j + 4) (by omega), e 45 (by omega)]
    by_cases q : j = i
    · subst q
      rw [u1_s]
      omega
    · rw [e (62 + 5 * j + 2) (by omega)]; exact this
  · rw [e _ (by omega)] at j1
    have := hv.j j0 j1
    rw [e (88 + 5 * j + 0) (by omega), e (88 + 5 * j + 1) (by omega), e (88 + 5 * j + 2) (by omega), e (88 + 5 * j + 3) (by omega), e (88 + 5 * j + 4) (by omega), e 61 (by omega), e 36 (by omega), e (4 + p (88 + 5 * j + 1)) (by omega)]
    exact this
  · rw [e 36 (by omega), e 45 (by omega), e 61 (by omega), e 87 (by omega)]; exact n
theorem sp_cnt {i v k : Int} {m : Nat} (i1 : i < 5) (hm : (m : Int) ≤ 20) : owC (u1 p (62 + 5 * i + 2) v) k m = owC p k m ∧ owA (u1 p (62 + 5 * i + 2) v) k m = owA p k m := by
  induction m with
  | zero => exact ⟨rfl, rfl⟩
  | succ m ih =>
    have ih := ih (by omega)
    have ee : ((m + 1 : Nat) : Int) = (m : Int) + 1 := by omega
    have e1 := owC_s (p := p) (i := k) (m := (m : Int)) (by omega)
    have e2 := owC_s (p := u1 p (62 + 5 * i + 2) v) (i := k) (m := (m : Int)) (by omega)
    rw [u1_n (by omega)] at e2
    refine ⟨by rw [ee, e1, e2, ih.1], ?_⟩
    have d1 : owA p k (m + 1) = if p (88 + 5 * (m : Int) + 0) = k then u1 (owA p k m) (owC p k m) m else owA p k m := rfl
    have d2 : owA (u1 p (62 + 5 * i + 2) v) k (m + 1) = if (u1 p (62 + 5 * i + 2) v) (88 + 5 * (m : Int) + 0) = k then u1 (owA (u1 p (62 + 5 * i + 2) v) k m) (owC (u1 p (62 + 5 * i + 2) v) k m) m else owA (u1 p (62 + 5 * i + 2) v) k m := rfl
    rw [d1, d2, ih.1, ih.2, u1_n (by omega)]
theorem sp_own (hv : PV p) {i v : Int} (i0 : 0 ≤ i) (i1 : i < p 61) : cnt (u1 p (62 + 5 * i + 2) v) i = cnt p i ∧ ∀ k, ow (u1 p (62 + 5 * i + 2) v) i k = ow p i k := by
  have n := hv.n
  have e87 : u1 p (62 + 5 * i + 2) v 87 = p 87 := u1_n (by omega)
  have a := sp_cnt (p := p) (i := i) (by omega) (v := v) (k := i) (m := (p 87).toNat) (by omega)
  have en : (((p 87).toNat : Nat) : Int) = p 87 := Int.toNat_of_nonneg (by omega)
  refine ⟨?_, fun k => ?_⟩
  · show owC _ i (u1 p (62 + 5 * i + 2) v 87) = owC p i (p 87)
    rw [e87, ← en]
    exact a.1
  · unfold ow
    rw [e87, a.2]
theorem sp_end (hv : PV p) {i v w j t : Int} (i0 : 0 ≤ i) (i1 : i < p 61) (j0 : 0 ≤ j) (j1 : j < p 87) : oEnd (u1 p (62 + 5 * i + 2) v) w j t = oEnd p w j t := by
  have n := hv.n
  have a := hv.j j0 j1
  have b := hv.i a.1 a.2.1
  have tt := hv.t a.2.2.1 a.2.2.2.1
  have e : ∀ k, k ≠ 62 + 5 * i + 2 → u1 p (62 + 5 * i + 2) v k = p k := fun k h => u1_n h
  unfold oEnd oTd oUn oAr oDe oMe oWb wkG
  rw [e (88 + 5 * j + 0) (by omega), e (88 + 5 * j + 1) (by omega), e (88 + 5 * j + 2) (by omega), e (88 + 5 * j + 4) (by omega), e (62 + 5 * p (88 + 5 * j + 0) + 0) (by omega), e (62 + 5 * p (88 + 5 * j + 0) + 1) (by omega), e (62 + 5 * p (88 + 5 * j + 0) + 3) (by omega), e (62 + 5 * p (88 + 5 * j + 0) + 4) (by omega), e (46 + p (62 + 5 * p (88 + 5 * j + 0) + 0)) (by omega), e (6 + 5 * p (88 + 5 * j + 1) + p (88 + 5 * j + 2)) (by omega), e (0 + p (88 + 5 * j + 1)) (by omega), e (2 + p (88 + 5 * j + 1)) (by omega)]
theorem u1_u1 {g : Int → Int} {k a b : Int} : u1 (u1 g k a) k b = u1 g k b := by
  funext x
  unfold u1
  split <;> rfl
theorem u1_id {g : Int → Int} {k : Int} : u1 g k (g k) = g := by
  funext x
  unfold u1
  split
  · rename_i h; rw [h]
  · rfl
theorem q_leastSpeed {i : Int} (h : MJ μ σ) (hS : SI σ) : qE mX8_leastSpeed GG GG [qP 178, qI i] ρ μ (PM μ ρ (fun J => if (σ 0 4 = 1 ∧ 0 ≤ i ∧ i < σ 2 61) ∧ 0 ≤ lsp (σ 2) i then lsp (σ 2) i else -2147483648) (sE σ (if σ 0 4 = 1 ∧ 0 ≤ i ∧ i < σ 2 61 then (if 0 ≤ lsp (σ 2) i then 0 else 6) else 1))) := by
  have hb := hS.2.2.1
  have hn : σ 0 4 = 1 → PV (σ 2) := fun e => (hS.2.2.2.2.2.2.2.2 e).1.1
  have fth : FR 178 207 μ (up2 μ 178 0 0) := FR.up FR.refl (by omega)
  have hth : MJ (up2 μ 178 0 0) σ := h.th
  have tth : up2 μ 178 0 0 180 = σ 2 := hth.2.2.2.2.2.2.2.1
  have E : (σ 0 4 = 1 ∧ 0 ≤ i ∧ i < σ 2 61) → ∀ (f : Int) (ν : Mem), f = lsp (σ 2) i → RS (up2 μ 178 0 0) (up2 ν 180 (62 + 5 * i + 2) (spd (σ 2) i)) → qX mX8_leastSpeed GG (PM μ ρ (fun J => if (σ 0 4 = 1 ∧ 0 ≤ i ∧ i < σ 2 61) ∧ 0 ≤ lsp (σ 2) i then lsp (σ 2) i else -2147483648) (sE σ (if σ 0 4 = 1 ∧ 0 ≤ i ∧ i < σ 2 61 then (if 0 ≤ lsp (σ 2) i then 0 else 6) else 1))) GG (0, 0) 104 [some (qP 178), none, some (qI (62 + 5 * i + 2)), some (qI (spd (σ 2) i)), some (qI f), none] [] ρ ν := by
    intro hi f ν hf hR
    have n := (hn hi.1).n
    refine w_X8_leastSpeed_104 ?_
    refine ⟨(by omega), ?_⟩
    intro μ1 eμ1; subst eμ1
    refine ⟨fun hc3 => ?_, fun hc3 => ?_⟩
    · refine ⟨_, m_done, ?_⟩
      rintro z2 ρ3 μ4 ⟨hq4_1, hq4_2, hq4_3⟩
      obtain rfl := hq4_1.symm
      obtain rfl := hq4_2.symm
      obtain rfl := hq4_3.symm
      exact pm_fin (hR.mj hth) (hR.ff fth) ⟨μ, by rw [if_pos ⟨hi, by omega⟩]; omega⟩ (by rw [if_pos hi, if_pos (by omega)])
    · refine ⟨_, m_failed, ?_⟩
      rintro z6 ρ7 μ8 ⟨hq6_1, hq6_2, hq6_3⟩
      obtain rfl := hq6_1.symm
      obtain rfl := hq6_2.symm
      obtain rfl := hq6_3.symm
      exact pm_fin (hR.mj hth) (hR.ff fth) ⟨μ, (if_neg (by omega)).symm⟩ (by rw [if_pos hi, if_neg (by omega)])
  have L : (σ 0 4 = 1 ∧ 0 ≤ i ∧ i < σ 2 61) → ∀ (m : Nat) (v f : Int) (ν : Mem), m = (10 - v).toNat → 1 ≤ v → v ≤ 10 → ((f = -1 ∧ lsp (σ 2) i = lsF (σ 2) i m v) ∨ (0 ≤ f ∧ f = lsp (σ 2) i)) → RS (up2 μ 178 0 0) (up2 ν 180 (62 + 5 * i + 2) (spd (σ 2) i)) → MOW ν (σ 2) i → qX mX8_leastSpeed GG (PM μ ρ (fun J => if (σ 0 4 = 1 ∧ 0 ≤ i ∧ i < σ 2 61) ∧ 0 ≤ lsp (σ 2) i then lsp (σ 2) i else -2147483648) (sE σ (if σ 0 4 = 1 ∧ 0 ≤ i ∧ i < σ 2 61 then (if 0 ≤ lsp (σ 2) i then 0 else 6) else 1))) GG (0, 0) 46 [some (qP 178), none, some (qI (62 + 5 * i + 2)), some (qI (spd (σ 2) i)), some (qI f), some (qI v)] [] ρ ν := by
    intro hi m
    induction m with
    | zero =>
      intro v f ν hm v0 v1 he hR hO
      have z : f = lsp (σ 2) i := by
        rcases he with ⟨a, b⟩ | ⟨a, b⟩
        · rw [a, b]; rfl
        · exact b
      refine w_X8_leastSpeed_46 ?_
      refine ⟨fun hc1 => ?_, fun hc1 => ?_⟩
      · exact E hi f ν z hR
      · omega
    | succ m ih =>
      intro v f ν hm v0 v1 he hR hO
      have hv := hn hi.1
      have n := hv.n
      have cn := CI.cn hS hi.1 (i := i)
      have c0 : 0 ≤ cnt (σ 2) i := (owC_b (p := σ 2) (i := i) hv.n.2.2.2.2.2.2.1).1
      have lt := bw_lt (cnt (σ 2) i).toNat (by omega)
      have w := Nat.two_pow_pos (cnt (σ 2) i).toNat
      have cnn : ((cnt (σ 2) i).toNat : Int) = cnt (σ 2) i := Int.toNat_of_nonneg c0
      have b1 := bw_one (cnt (σ 2) i).toNat (by omega)
      rw [cnn] at b1
      have e : lsF (σ 2) i (m + 1) v = if 0 ≤ gT (σ 2) i v (2 ^ (cnt (σ 2) i).toNat - 1) then v else lsF (σ 2) i m (v + 1) := rfl
      have p180 : u1 (ν 180) (62 + 5 * i + 2) (spd (σ 2) i) = σ 2 := by
        have := hR.1 180 (by decide) (by decide)
        rw [up2_u, tth] at this
        exact this
      have q180 : up2 ν 180 (62 + 5 * i + 2) v 180 = u1 (σ 2) (62 + 5 * i + 2) v := by
        rw [up2_u, ← p180, u1_u1]
      have own := sp_own hv (v := v) hi.2.1 hi.2.2
      have s0 : spd (u1 (σ 2) (62 + 5 * i + 2) v) i = v := u1_s
      have R2 : ∀ ν', (∀ a, a ≠ 206 → ν' a = up2 ν 180 (62 + 5 * i + 2) v a) → RS (up2 μ 178 0 0) (up2 ν' 180 (62 + 5 * i + 2) (spd (σ 2) i)) ∧ MOW ν' (σ 2) i := fun ν' ha => by
        refine ⟨⟨fun a x y => ?_, fun k x y z => ?_⟩, by rw [ha 178 (by decide), up2_c (by decide)]; exact hO.1, fun k k0 k1 => by rw [ha 205 (by decide), up2_c (by decide)]; exact hO.2 k k0 k1⟩
        · have := hR.1 a x y
          by_cases q : a = 180
          · subst q
            rw [up2_u, ha 180 (by decide), up2_u, u1_u1]
            rw [up2_u] at this
            exact this
          · rw [up2_c q] at this ⊢
            rw [ha a (by omega), up2_c q]
            exact this
        · have := hR.2 k x y z
          rw [up2_c (by decide)] at this ⊢
          rw [ha 178 (by decide), up2_c (by decide)]
          exact this
      have N : ∀ (s0 : Int) (ν' : Mem), ((s0 = -1 ∧ lsp (σ 2) i = lsF (σ 2) i m (v + 1)) ∨ (0 ≤ s0 ∧ s0 = lsp (σ 2) i)) → RS (up2 μ 178 0 0) (up2 ν' 180 (62 + 5 * i + 2) (spd (σ 2) i)) → MOW ν' (σ 2) i → qX mX8_leastSpeed GG (PM μ ρ (fun J => if (σ 0 4 = 1 ∧ 0 ≤ i ∧ i < σ 2 61) ∧ 0 ≤ lsp (σ 2) i then lsp (σ 2) i else -2147483648) (sE σ (if σ 0 4 = 1 ∧ 0 ≤ i ∧ i < σ 2 61 then (if 0 ≤ lsp (σ 2) i then 0 else 6) else 1))) GG (0, 0) 96 [some (qP 178), none, some (qI (62 + 5 * i + 2)), some (qI (spd (σ 2) i)), none, some (qI v)] [qI s0] ρ ν' := by
        intro s0 ν' a b c
        refine w_X8_leastSpeed_96 ?_
        refine ⟨(by unfold i32; omega), ?_⟩
        exact ih (v + 1) s0 ν' (by omega) (by omega) (by omega) a b c
      refine w_X8_leastSpeed_46 ?_
      refine ⟨fun hc1 => ?_, fun hc1 => ?_⟩
      · omega
      · refine ⟨fun hc3 => ?_, fun hc3 => ?_⟩
        · rcases he with ⟨a, b⟩ | ⟨a, b⟩
          · omega
          · exact E hi f ν b hR
        · refine ⟨(by omega), ?_⟩
          intro μ1 eμ1; subst eμ1
          refine ⟨_, m_layEnds (i := i) (p := u1 (σ 2) (62 + 5 * i + 2) v) q180 (sp_PV hv hi.2.1 hi.2.2 (by omega) (by omega)) (by rw [own.1]; exact cn) ⟨by rw [own.1, up2_c (by decide)]; exact hO.1, fun k k0 k1 => by rw [own.1] at k1; rw [own.2, up2_c (by decide)]; exact hO.2 k k0 k1⟩ (Int.le_refl _) (by decide) (by rw [s0]; omega), ?_⟩
          rintro z2 ρ3 μ4 ⟨hq7_1, hE, ha⟩
          obtain rfl := hq7_1.symm
          have r2 := R2 _ ha
          rw [r2.2.1, b1]
          rw [s0, own.1] at hE
          have hE2 : EPt (σ 2) i v 0 (cnt (σ 2) i).toNat (fun s => μ4 206 (s : Int)) := by
            refine ⟨hE.1, fun s s0 s1 => ?_⟩
            have q := hE.2 s s0 s1
            have oj : ∀ k : Nat, k < (cnt (σ 2) i).toNat → 0 ≤ ow (σ 2) i k ∧ ow (σ 2) i k < σ 2 87 := fun k hk => by
              have := ow_j (p := σ 2) (i := i) (k := (k : Int)) hv.n.2.2.2.2.2.2.1 (by omega) (by omega)
              exact ⟨this.1, this.2.1⟩
            refine ⟨q.1, q.2.1, fun k hk hb => ?_, ?_⟩
            · have z := q.2.2.1 k hk hb
              rw [own.2, sp_end hv hi.2.1 hi.2.2 (oj k hk).1 (oj k hk).2] at z
              exact z
            · rcases q.2.2.2 with z | ⟨k, hk, hb, z⟩
              · exact Or.inl z
              · rw [own.2, sp_end hv hi.2.1 hi.2.2 (oj k hk).1 (oj k hk).2] at z
                exact Or.inr ⟨k, hk, hb, z⟩
          have g := EP_g hv (w := 2 ^ (cnt (σ 2) i).toNat - 1) cnn cn (by omega) hE2 (Int.le_refl _) (by decide) (by omega)
          have l2 : ((2 ^ (cnt (σ 2) i).toNat : Nat) : Int) ≤ 256 := Int.ofNat_le.mpr lt
          have we : ((2 ^ (cnt (σ 2) i).toNat : Nat) : Int) - 1 = ((2 ^ (cnt (σ 2) i).toNat - 1 : Nat) : Int) := by omega
          rw [we]
          unfold FA at g
          refine ⟨(by unfold i32; omega), ?_⟩
          refine ⟨(by omega), ?_⟩
          refine ⟨fun hc10 => ?_, fun hc10 => ?_⟩
          · rw [if_neg (fun q => by have := g.mpr q; omega)] at e
            refine N _ _ (Or.inl ⟨rfl, ?_⟩) r2.1 r2.2
            rcases he with ⟨a, b⟩ | ⟨a, b⟩
            · rw [b, e]
            · omega
          · rw [if_pos (g.mp (by omega))] at e
            refine N _ _ (Or.inr ⟨by omega, ?_⟩) r2.1 r2.2
            rcases he with ⟨a, b⟩ | ⟨a, b⟩
            · rw [b, e]
            · omega
  refine e_X8_leastSpeed ?_
  intro μ1 eμ1; subst eμ1
  refine ⟨_, m_isTrolley (σ := σ) hth hS, ?_⟩
  rintro z2 ρ3 μ4 ⟨hz, hq2_1, hq2_2⟩
  obtain rfl := hq2_1.symm
  obtain rfl := hq2_2.symm
  refine ⟨fun hc3 => ?_, fun hc3 => ?_⟩
  · have n := (hn (by omega)).n
    refine ⟨(by unfold i32; omega), ?_⟩
    refine ⟨(by unfold i32; omega), ?_⟩
    refine ⟨(by unfold i32; omega), ?_⟩
    refine ⟨(by omega), ?_⟩
    refine ⟨_, m_layOwn tth (hn (by omega)) (CI.cn hS (by omega)), ?_⟩
    rintro z6 ρ7 μ8 ⟨hq8_1, hO, ha, hk⟩
    obtain rfl := hq8_1.symm
    have e : up2 μ 178 0 0 180 (62 + 5 * i + 2) = spd (σ 2) i := by rw [tth]; rfl
    rw [e]
    refine L (by omega) _ 1 (-1) _ rfl (by omega) (by omega) (Or.inl ⟨rfl, rfl⟩) ⟨fun a x y => ?_, fun k x y z => ?_⟩ hO
    · by_cases q : a = 180
      · subst q
        rw [up2_u, ha 180 (by decide) (by decide), ← e, u1_id]
      · rw [up2_c q]; exact ha a x (by omega)
    · rw [up2_c (by decide)]; exact hk k x
  · refine ⟨_, m_failed, ?_⟩
    rintro z10 ρ11 μ12 ⟨hq10_1, hq10_2, hq10_3⟩
    obtain rfl := hq10_1.symm
    obtain rfl := hq10_2.symm
    obtain rfl := hq10_3.symm
    exact pm_fin hth fth ⟨μ, (if_neg (fun q => by have := q.1; omega)).symm⟩ (by rw [if_neg (by omega)])
end MBq
