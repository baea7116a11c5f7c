/-! ===== applyBest: the class ===== -/
section APc
variable {ρ : Rf} {μ μ0 : Mem} {σ : Sg} {p q : Pl}
theorem c_applyBest {i : Int} (h : CI ρ μ0 σ) (hS : SI σ) : qE mX7_applyBest GG GG [qP 0, qI i] ρ μ0 (PC μ0 ρ (fun J => if σ 0 4 = 1 ∧ 0 ≤ i ∧ i < σ 2 61 then cnt (σ 2) i - ((oN (σ 2) i (spd (σ 2) i) (bst (σ 2) i)) : Nat) else -2147483648) (if σ 0 4 = 1 ∧ 0 ≤ i ∧ i < σ 2 61 then sCh σ (apB (σ 2) i) else sE σ 1)) := by
  have fn := h.1.fn
  have D : (σ 0 4 = 1 ∧ 0 ≤ i ∧ i < σ 2 61) → ∀ (ρ1 : Rf) (μb μ1 : Mem), CI ρ μb σ → FR 0 177 μ0 μb → (∀ a, a ≠ 70 → ρ1 a = ρ a) → HPm ρ1 → FR 69 140 μb μ1 → HS ρ1 μ1 (hN (σ 0 6)) (hPush (σ 0 6) (hs σ) (σ 2)) → μ1 141 2 = cnt (σ 2) i → ORD (σ 2) i (spd (σ 2) i) (bst (σ 2) i) (μ1 141 4) (μ1 143) → (∀ k, 0 ≤ k → k < cnt (σ 2) i → μ1 142 k = ow (σ 2) i k) → ∀ (m d : Nat) (μ : Mem), (cnt (σ 2) i).toNat - (oN (σ 2) i (spd (σ 2) i) (bst (σ 2) i)) - d < m → d ≤ (cnt (σ 2) i).toNat - (oN (σ 2) i (spd (σ 2) i) (bst (σ 2) i)) → SP μ (ρ 0 9) (aD (aT (σ 2) i (spd (σ 2) i) (bst (σ 2) i) (oN (σ 2) i (spd (σ 2) i) (bst (σ 2) i))) (σ 2) i d) → FR (ρ 0 9) (ρ 0 9 + 6) μ1 μ → qX mX7_applyBest GG (PC μ0 ρ (fun J => if σ 0 4 = 1 ∧ 0 ≤ i ∧ i < σ 2 61 then cnt (σ 2) i - ((oN (σ 2) i (spd (σ 2) i) (bst (σ 2) i)) : Nat) else -2147483648) (if σ 0 4 = 1 ∧ 0 ≤ i ∧ i < σ 2 61 then sCh σ (apB (σ 2) i) else sE σ 1)) GG (0, 0) 110 [some (qP 0), none, some (qI (cnt (σ 2) i - 1 - d))] [] ρ1 μ := by
    intro hi ρ1 μb μ1 hb fb r1 r2 f1 h1 e2 od e3 m
    have pl := hb.pl hS hi.1
    have n := pl.1.n
    have ok := (hS.2.2.2.2.2.2.2.2 hi.1).1
    have cn := CI.cn hS hi.1 (i := i)
    have c0 : 0 ≤ cnt (σ 2) i := (owC_b (p := σ 2) (i := i) n.2.2.2.2.2.2.1).1
    have bb := bst_b (p := σ 2) (i := i) c0
    have ob := oN_b (p := σ 2) (i := i) (v := spd (σ 2) i) (s := bst (σ 2) i)
    have aok := aT_ok ok (pl.1.v hi.2.1 hi.2.2) bb.1 bb.2 (oN (σ 2) i (spd (σ 2) i) (bst (σ 2) i)) (by omega) ob.2
    have e0 : ρ1 0 = ρ 0 := r1 0 (by decide)
    induction m with
    | zero => intro d μ h; omega
    | succ m ih =>
      intro d μ hm hd s2 f2
      have dok := aD_ok ok aok.1 aok.2.1 aok.2.2 d (i := i) (by omega)
      have g2 : μ 141 2 = cnt (σ 2) i := by rw [f2 141 (by omega)]; exact e2
      have g4 : μ 141 4 = ((oN (σ 2) i (spd (σ 2) i) (bst (σ 2) i)) : Nat) := by rw [f2 141 (by omega)]; exact od.n
      have ek : cnt (σ 2) i - 1 - (d : Int) + (-1) = cnt (σ 2) i - 1 - ((d + 1 : Nat) : Int) := by omega
      refine w_X7_applyBest_110 ?_
      rw [g2, g4]
      refine ⟨fun hc1 => ?_, fun hc1 => ?_⟩
      · refine ⟨(by unfold i32; omega), ?_⟩
        have F1 : FP μ (ρ 0 8) (σ 2) := (pl.2.1.ag (f1.ag (by omega))).ag (f2.ag (by omega))
        refine ⟨_, k_changed (by rw [e0]) (by rw [e0]) h.1.f h.1.s fn (F1.eq pl.1 dok.2.1) s2 dok.1.1, ?_⟩
        rintro z1 ρ2 μ3 ⟨hq3_1, hq3_2, μ3, f3, r3, hq3_3⟩
        obtain rfl := hq3_1.symm
        obtain rfl := hq3_2.symm
        obtain rfl := hq3_3.symm
        have ke : d = (cnt (σ 2) i).toNat - (oN (σ 2) i (spd (σ 2) i) (bst (σ 2) i)) := by omega
        subst ke
        exact pc_ok (fun J => by rw [if_pos hi]) (by rw [if_pos hi]; rfl) (hb.ch hS hi.1 dok.1.1 dok.2.1 r1 r2 f1 h1 f2 s2 f3 r3) (FR.up (((fb.trans (f1.mono (by omega) (by omega))).trans (f2.mono (by omega) (by omega))).trans (f3.mono (by omega) (by omega))) (by omega)) (fun a ha => r1 a (by omega))
      · refine ⟨(by omega), ?_⟩
        refine ⟨(by rw [e0]; exact h.1.s), ?_⟩
        have g3 : μ 142 (cnt (σ 2) i - 1 - d) = ow (σ 2) i (cnt (σ 2) i - 1 - d) := by rw [f2 142 (by omega)]; exact e3 _ (by omega) (by omega)
        have oj := ow_j (p := σ 2) (i := i) (k := cnt (σ 2) i - 1 - d) (by omega) (by omega) (by omega)
        have og := ow_g (p := σ 2) (i := i) (k := cnt (σ 2) i - 1 - d) (by omega) (by omega) (by omega)
        rw [e0, g3]
        refine ⟨_, k_removeAt h.1.s s2 (by omega) (by omega), ?_⟩
        rintro z6 ρ7 μ8 ⟨hq7_1, f4, s4⟩
        obtain rfl := hq7_1.symm
        refine ⟨(by unfold i32; omega), ?_⟩
        rw [ek]
        exact ih (d + 1) _ (by omega) (by omega) s4 (f2.trans (f4.mono (by omega) (by omega)))
  have F : (σ 0 4 = 1 ∧ 0 ≤ i ∧ i < σ 2 61) → ∀ (ρ1 : Rf) (μb μ1 : Mem), CI ρ μb σ → FR 0 177 μ0 μb → (∀ a, a ≠ 70 → ρ1 a = ρ a) → HPm ρ1 → FR 69 140 μb μ1 → HS ρ1 μ1 (hN (σ 0 6)) (hPush (σ 0 6) (hs σ) (σ 2)) → μ1 141 2 = cnt (σ 2) i → ORD (σ 2) i (spd (σ 2) i) (bst (σ 2) i) (μ1 141 4) (μ1 143) → (∀ k, 0 ≤ k → k < cnt (σ 2) i → μ1 142 k = ow (σ 2) i k) → SP μ1 55 (σ 2) → ∀ (m k : Nat) (μ : Mem), (oN (σ 2) i (spd (σ 2) i) (bst (σ 2) i)) - k < m → k ≤ (oN (σ 2) i (spd (σ 2) i) (bst (σ 2) i)) → SP μ (ρ 0 9) (aT (σ 2) i (spd (σ 2) i) (bst (σ 2) i) k) → FR (ρ 0 9) (ρ 0 9 + 6) μ1 μ → qX mX7_applyBest GG (PC μ0 ρ (fun J => if σ 0 4 = 1 ∧ 0 ≤ i ∧ i < σ 2 61 then cnt (σ 2) i - ((oN (σ 2) i (spd (σ 2) i) (bst (σ 2) i)) : Nat) else -2147483648) (if σ 0 4 = 1 ∧ 0 ≤ i ∧ i < σ 2 61 then sCh σ (apB (σ 2) i) else sE σ 1)) GG (0, 0) 54 [some (qP 0), none, some (qI (k : Int))] [] ρ1 μ := by
    intro hi ρ1 μb μ1 hb fb r1 r2 f1 h1 e2 od e3 st m
    have pl := hb.pl hS hi.1
    have n := pl.1.n
    have ok := (hS.2.2.2.2.2.2.2.2 hi.1).1
    have cn := CI.cn hS hi.1 (i := i)
    have c0 : 0 ≤ cnt (σ 2) i := (owC_b (p := σ 2) (i := i) n.2.2.2.2.2.2.1).1
    have bb := bst_b (p := σ 2) (i := i) c0
    have ob := oN_b (p := σ 2) (i := i) (v := spd (σ 2) i) (s := bst (σ 2) i)
    have e0 : ρ1 0 = ρ 0 := r1 0 (by decide)
    induction m with
    | zero => intro k μ h; omega
    | succ m ih =>
      intro k μ hm hk s2 f2
      have g2 : μ 141 2 = cnt (σ 2) i := by rw [f2 141 (by omega)]; exact e2
      have g4 : μ 141 4 = ((oN (σ 2) i (spd (σ 2) i) (bst (σ 2) i)) : Nat) := by rw [f2 141 (by omega)]; exact od.n
      have on := od.n
      have ek : (k : Int) + 1 = ((k + 1 : Nat) : Int) := by omega
      refine w_X7_applyBest_54 ?_
      rw [g2, g4]
      refine ⟨fun hc1 => ?_, fun hc1 => ?_⟩
      · refine ⟨(by unfold i32; omega), ?_⟩
        have ke : k = (oN (σ 2) i (spd (σ 2) i) (bst (σ 2) i)) := by omega
        subst ke
        have := D hi ρ1 μb μ1 hb fb r1 r2 f1 h1 e2 od e3 _ 0 μ (Nat.lt_succ_self _) (by omega) s2 f2
        rw [show cnt (σ 2) i - 1 - ((0 : Nat) : Int) = cnt (σ 2) i - 1 by omega] at this
        exact this
      · refine ⟨(by omega), ?_⟩
        refine ⟨(by omega), ?_⟩
        refine ⟨(by rw [e0]; exact h.1.s), ?_⟩
        have g3 : μ 142 (k : Int) = ow (σ 2) i k := by rw [f2 142 (by omega)]; exact e3 _ (by omega) (by omega)
        have g5 : μ 143 (k : Int) = oK (σ 2) i (spd (σ 2) i) (bst (σ 2) i) k := by
          rw [f2 143 (by omega)]
          exact (od.2.2.2 k (by omega)).2
        have oj := ow_j (p := σ 2) (i := i) (k := (k : Int)) (by omega) (by omega) (by omega)
        have okb := oK_b pl.1 cn (pl.1.v hi.2.1 hi.2.2) bb.1 bb.2 (ob.2 k (by omega))
        rw [e0, g3, g5]
        refine ⟨_, k_takeJob h.1.s (x := 55) rfl (by omega) (by omega) (by omega), ?_⟩
        rintro z2 ρ3 μ4 ⟨hq7_1, f4, w4⟩
        obtain rfl := hq7_1.symm
        refine ⟨(by unfold i32; omega), ?_⟩
        rw [ek]
        have s5 : SP μ 55 (σ 2) := st.ag (f2.ag (by omega))
        exact ih (k + 1) _ (by omega) (by omega) (SP_take s2 s5 ⟨okb.1, okb.2.1⟩ oj.1 f4 w4) (f2.trans (f4.mono (by omega) (by omega)))
  refine e_X7_applyBest ?_
  refine ⟨_, k_isTrolley h hS, ?_⟩
  rintro z1 ρ2 μ3 ⟨hz, hq1_1, hq1_2⟩
  obtain rfl := hq1_1.symm
  obtain rfl := hq1_2.symm
  refine ⟨fun hc2 => ?_, fun hc2 => ?_⟩
  · refine ⟨(by exact h.1.f), ?_⟩
    refine ⟨(by exact h.1.s), ?_⟩
    obtain ⟨hv, hf, hs, hr⟩ := h.pl hS (by omega)
    refine ⟨_, k_chooseBest h.1.f h.1.s h.1.fn hf hs hv (CI.cn hS (by omega)) (by omega) (by omega), ?_⟩
    rintro z7 ρ8 μ9 ⟨hq5_1, fr1, So, Ta, e3, od⟩
    obtain rfl := hq5_1.symm
    refine ⟨(by exact h.1.s), ?_⟩
    have h' := h.scr hS (μ' := μ9) (fun a ha => fr1 a (by omega))
    refine ⟨_, k_pushS h' hS (by omega), ?_⟩
    rintro z12 ρ13 μ14 ⟨r1, r2, f1, h1⟩
    refine ⟨(by rw [r1 0 (by decide)]; exact h.1.s), ?_⟩
    rw [r1 0 (by decide)]
    have s1 : SP μ14 (ρ 0 9) (σ 2) := (h'.pl hS (by omega)).2.2.1.ag (f1.ag (by omega))
    refine ⟨_, k_copyFrom (o := 55) rfl h.1.s (by omega), ?_⟩
    rintro z17 ρ18 μ19 ⟨hq9_1, f2, c2⟩
    obtain rfl := hq9_1.symm
    have e141 : ∀ a, 141 ≤ a → μ19 a = μ9 a := fun a ha => by rw [f2 a (by omega), f1 a (by omega)]
    have hN10 : hN (σ 0 6) ≤ 10 := by have := hS.2.2.2.2.2.1; unfold hN; split <;> omega
    have nn := hv.n
    refine F (by omega) ρ13 (fun a => if 55 ≤ a ∧ a ≤ 61 then μ19 a else μ9 a) μ19 (h'.scr hS (fun a ha => if_neg (by omega))) (fun a ha => (if_neg (by omega)).trans (fr1 a (by omega))) r1 r2 (fun a ha => ?_) ⟨by rw [f2 69 (by omega)]; exact h1.1, fun j j0 j1 => (h1.2 j j0 j1).ag (f2.ag (by have := r2.1 j j0 (by omega); omega))⟩ (by rw [e141 141 (by omega)]; exact So.1) (by rw [e141 141 (by omega), e141 143 (by omega)]; exact od) (fun k k0 k1 => by rw [e141 142 (by omega)]; exact (So.2 k k0 k1).1) (c2.sp s1 (by omega)) _ 0 μ19 (Nat.lt_succ_self _) (Nat.zero_le _) (s1.ag (f2.ag (by omega))) FR.refl
    show μ19 a = if 55 ≤ a ∧ a ≤ 61 then μ19 a else μ9 a
    by_cases c : 55 ≤ a ∧ a ≤ 61
    · rw [if_pos c]
    · rw [if_neg c, f2 a (by omega), f1 a (by omega)]
  · refine ⟨_, k_fail, ?_⟩
    rintro z21 ρ22 μ23 ⟨hq11_1, hq11_2, hq11_3⟩
    obtain rfl := hq11_1.symm
    obtain rfl := hq11_2.symm
    obtain rfl := hq11_3.symm
    exact pc_fin h hS FR.refl (fun J => (if_neg (by omega)).symm) (by rw [if_neg (by omega)])
end APc
