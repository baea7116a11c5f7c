/-! ===== applyBest: the reference ===== -/
section APm
variable {ρ : Rf} {μ μ0 : Mem} {σ : Sg} {p q : Pl}
def pTk (q p : Pl) (a b w : Int) : Pl := fun x => if 88 + 5 * b ≤ x ∧ x < 88 + 5 * b + w then p (x - 5 * b + 5 * a) else q x
theorem pTk_s {q p : Pl} {a b w : Int} (hw : 0 ≤ w) : u1 (pTk q p a b w) (88 + 5 * b + w) (p (88 + 5 * a + w)) = pTk q p a b (w + 1) := by
  funext x
  unfold u1 pTk
  by_cases c : x = 88 + 5 * b + w
  · rw [if_pos c, if_pos (by omega)]
    congr 1
    omega
  · rw [if_neg c]
    by_cases d : 88 + 5 * b ≤ x ∧ x < 88 + 5 * b + w
    · rw [if_pos d, if_pos (by omega)]
    · rw [if_neg d, if_neg (by omega)]
theorem q_applyBest {i : Int} (h0 : MJ μ0 σ) (hS : SI σ) : qE mX8_applyBest GG GG [qP 178, qI i] ρ μ0 (PM μ0 ρ (fun J => if σ 0 4 = 1 ∧ 0 ≤ i ∧ i < σ 2 61 then cnt (σ 2) i - ((oN (σ 2) i (spd (σ 2) i) (bst (σ 2) i)) : Nat) else -2147483648) (if σ 0 4 = 1 ∧ 0 ≤ i ∧ i < σ 2 61 then sCh σ (apB (σ 2) i) else sE σ 1)) := by
  have hn : σ 0 4 = 1 → PV (σ 2) := fun e => (hS.2.2.2.2.2.2.2.2 e).1.1; have fth : FR 178 207 μ0 (up2 μ0 178 0 0) := FR.up FR.refl (by omega); have hth : MJ (up2 μ0 178 0 0) σ := h0.th; have tth : up2 μ0 178 0 0 180 = σ 2 := hth.2.2.2.2.2.2.2.1
  have D : (σ 0 4 = 1 ∧ 0 ≤ i ∧ i < σ 2 61) → ∀ (μb μ1 : Mem), MJ μb σ → FR 178 207 μ0 μb → (∀ c, c ≠ 178 → c ≠ 183 → μ1 c = μb c) → (∀ k, k ≠ 19 → μ1 178 k = μb 178 k) → μ1 178 19 = hN (σ 0 6) → (∀ i b, 0 ≤ i → i < hN (σ 0 6) → 0 ≤ b → b < 188 → μ1 183 (188 * i + b) = hPush (σ 0 6) (hs σ) (μb 180) i b) → MOW μ1 (σ 2) i → ORD (σ 2) i (spd (σ 2) i) (bst (σ 2) i) (μ1 178 48) (μ1 207) → ∀ (m d : Nat) (μ : Mem), (cnt (σ 2) i).toNat - (oN (σ 2) i (spd (σ 2) i) (bst (σ 2) i)) - d < m → d ≤ (cnt (σ 2) i).toNat - (oN (σ 2) i (spd (σ 2) i) (bst (σ 2) i)) → μ 180 = aD (aT (σ 2) i (spd (σ 2) i) (bst (σ 2) i) (oN (σ 2) i (spd (σ 2) i) (bst (σ 2) i))) (σ 2) i d → (∀ c, c ≠ 180 → μ c = μ1 c) → qX mX8_applyBest GG (PM μ0 ρ (fun J => if σ 0 4 = 1 ∧ 0 ≤ i ∧ i < σ 2 61 then cnt (σ 2) i - ((oN (σ 2) i (spd (σ 2) i) (bst (σ 2) i)) : Nat) else -2147483648) (if σ 0 4 = 1 ∧ 0 ≤ i ∧ i < σ 2 61 then sCh σ (apB (σ 2) i) else sE σ 1)) GG (0, 0) 117 [some (qP 178), none, none, some (qI (cnt (σ 2) i - 1 - d)), none] [] ρ μ := by
    intro hi μb μ1 hb fb c1 c2 c3 c4 mow od m
    have n := (hn hi.1).n
    have ok := (hS.2.2.2.2.2.2.2.2 hi.1).1
    have cn := CI.cn hS hi.1 (i := i)
    have cc0 : 0 ≤ cnt (σ 2) i := (owC_b (p := σ 2) (i := i) n.2.2.2.2.2.2.1).1
    have bb := bst_b (p := σ 2) (i := i) cc0
    have ob := oN_b (p := σ 2) (i := i) (v := spd (σ 2) i) (s := bst (σ 2) i)
    have aok := aT_ok ok ((hn hi.1).v hi.2.1 hi.2.2) bb.1 bb.2 (oN (σ 2) i (spd (σ 2) i) (bst (σ 2) i)) (by omega) ob.2
    induction m with
    | zero => intro d μ h; omega
    | succ m ih =>
      intro d μ hm hd s2 f2
      have dok := aD_ok ok aok.1 aok.2.1 aok.2.2 d (i := i) (by omega)
      have g2 : μ 178 47 = cnt (σ 2) i := by rw [f2 178 (by omega)]; exact mow.1
      have g4 : μ 178 48 = ((oN (σ 2) i (spd (σ 2) i) (bst (σ 2) i)) : Nat) := by rw [f2 178 (by omega)]; exact od.n
      have ek : cnt (σ 2) i - 1 - (d : Int) + (-1) = cnt (σ 2) i - 1 - ((d + 1 : Nat) : Int) := by omega
      refine w_X8_applyBest_117 ?_
      rw [g2, g4]
      refine ⟨fun hc1 => ?_, fun hc1 => ?_⟩
      · refine ⟨(by unfold i32; omega), ?_⟩
        refine ⟨_, m_done, ?_⟩
        rintro z1 ρ2 μ3 ⟨hq3_1, hq3_2, hq3_3⟩
        obtain rfl := hq3_1.symm
        obtain rfl := hq3_2.symm
        obtain rfl := hq3_3.symm
        have ke : d = (cnt (σ 2) i).toNat - (oN (σ 2) i (spd (σ 2) i) (bst (σ 2) i)) := by omega
        subst ke
        refine pm_ok ⟨μ0, by rw [if_pos hi]⟩ (by rw [if_pos hi]; rfl) rfl (hb.ch hS hi.1 c1 c2 c3 c4 f2 s2) (fb.trans (fun a ha => ?_))
        rw [up2_c (by omega), f2 a (by omega)]
        exact c1 a (by omega) (by omega)
      · refine ⟨(by omega), ?_⟩
        have g3 : μ 205 (cnt (σ 2) i - 1 - d) = ow (σ 2) i (cnt (σ 2) i - 1 - d) := by rw [f2 205 (by omega)]; exact mow.2 _ (by omega) (by omega)
        have oj := ow_j (p := σ 2) (i := i) (k := cnt (σ 2) i - 1 - d) (by omega) (by omega) (by omega)
        have og := ow_g (p := σ 2) (i := i) (k := cnt (σ 2) i - 1 - d) (by omega) (by omega) (by omega)
        rw [g3]
        refine ⟨_, m_dropJob s2 (by omega) (by omega), ?_⟩
        rintro z5 ρ6 μ7 ⟨hq6_1, s4, f4⟩
        obtain rfl := hq6_1.symm
        refine ⟨(by unfold i32; omega), ?_⟩
        rw [ek]
        exact ih (d + 1) _ (by omega) (by omega) s4 (fun c hc => (f4 c hc).trans (f2 c hc))
  have F : (σ 0 4 = 1 ∧ 0 ≤ i ∧ i < σ 2 61) → ∀ (μb μ1 : Mem), MJ μb σ → FR 178 207 μ0 μb → (∀ c, c ≠ 178 → c ≠ 183 → μ1 c = μb c) → (∀ k, k ≠ 19 → μ1 178 k = μb 178 k) → μ1 178 19 = hN (σ 0 6) → (∀ i b, 0 ≤ i → i < hN (σ 0 6) → 0 ≤ b → b < 188 → μ1 183 (188 * i + b) = hPush (σ 0 6) (hs σ) (μb 180) i b) → MOW μ1 (σ 2) i → ORD (σ 2) i (spd (σ 2) i) (bst (σ 2) i) (μ1 178 48) (μ1 207) → ∀ (m k : Nat) (μ : Mem), (oN (σ 2) i (spd (σ 2) i) (bst (σ 2) i)) - k < m → k ≤ (oN (σ 2) i (spd (σ 2) i) (bst (σ 2) i)) → μ 180 = aT (σ 2) i (spd (σ 2) i) (bst (σ 2) i) k → (∀ c, c ≠ 180 → μ c = μ1 c) → qX mX8_applyBest GG (PM μ0 ρ (fun J => if σ 0 4 = 1 ∧ 0 ≤ i ∧ i < σ 2 61 then cnt (σ 2) i - ((oN (σ 2) i (spd (σ 2) i) (bst (σ 2) i)) : Nat) else -2147483648) (if σ 0 4 = 1 ∧ 0 ≤ i ∧ i < σ 2 61 then sCh σ (apB (σ 2) i) else sE σ 1)) GG (0, 0) 41 [some (qP 178), none, some (qI (188 * (hN (σ 0 6) - 1))), some (qI (k : Int)), none] [] ρ μ := by
    intro hi μb μ1 hb fb c1 c2 c3 c4 mow od m
    have n := (hn hi.1).n
    have ok := (hS.2.2.2.2.2.2.2.2 hi.1).1
    have cn := CI.cn hS hi.1 (i := i)
    have cc0 : 0 ≤ cnt (σ 2) i := (owC_b (p := σ 2) (i := i) n.2.2.2.2.2.2.1).1
    have bb := bst_b (p := σ 2) (i := i) cc0
    have ob := oN_b (p := σ 2) (i := i) (v := spd (σ 2) i) (s := bst (σ 2) i)
    have hN1 : 1 ≤ hN (σ 0 6) ∧ hN (σ 0 6) ≤ 10 := by have := hS.2.2.2.2.1; have := hS.2.2.2.2.2.1; unfold hN; split <;> omega
    induction m with
    | zero => intro k μ h; omega
    | succ m ih =>
      intro k μ hm hk s2 f2
      have g2 : μ 178 47 = cnt (σ 2) i := by rw [f2 178 (by omega)]; exact mow.1
      have g4 : μ 178 48 = ((oN (σ 2) i (spd (σ 2) i) (bst (σ 2) i)) : Nat) := by rw [f2 178 (by omega)]; exact od.n
      have on := od.n
      have ek : (k : Int) + 1 = ((k + 1 : Nat) : Int) := by omega
      have I : k < (oN (σ 2) i (spd (σ 2) i) (bst (σ 2) i)) → ∀ (l : Nat) (w : Int) (ν : Mem), (5 - w).toNat < l → 0 ≤ w → w ≤ 5 → ν 180 = pTk (aT (σ 2) i (spd (σ 2) i) (bst (σ 2) i) k) (σ 2) (oK (σ 2) i (spd (σ 2) i) (bst (σ 2) i) k) (ow (σ 2) i k) w → (∀ c, c ≠ 180 → ν c = μ1 c) → qX mX8_applyBest GG (PM μ0 ρ (fun J => if σ 0 4 = 1 ∧ 0 ≤ i ∧ i < σ 2 61 then cnt (σ 2) i - ((oN (σ 2) i (spd (σ 2) i) (bst (σ 2) i)) : Nat) else -2147483648) (if σ 0 4 = 1 ∧ 0 ≤ i ∧ i < σ 2 61 then sCh σ (apB (σ 2) i) else sE σ 1)) GG (0, 0) 52 [some (qP 178), none, some (qI (188 * (hN (σ 0 6) - 1))), some (qI (k : Int)), some (qI w)] [] ρ ν := by
        intro hkn l
        have oj := ow_j (p := σ 2) (i := i) (k := (k : Int)) (by omega) (by omega) (by omega)
        have okb := oK_b (hn hi.1) cn ((hn hi.1).v hi.2.1 hi.2.2) bb.1 bb.2 (ob.2 k (by omega))
        induction l with
        | zero => intro w ν h; omega
        | succ l ihl =>
          intro w ν hl w0 w1 e180 fo
          have g3 : ν 205 (k : Int) = ow (σ 2) i k := by rw [fo 205 (by omega)]; exact mow.2 _ (by omega) (by omega)
          have g5 : ν 207 (k : Int) = oK (σ 2) i (spd (σ 2) i) (bst (σ 2) i) k := by
            rw [fo 207 (by omega)]
            exact (od.2.2.2 k (by omega)).2
          refine w_X8_applyBest_52 ?_
          rw [g3, g5]
          refine ⟨fun hc1 => ?_, fun hc1 => ?_⟩
          · refine ⟨(by unfold i32; omega), ?_⟩
            rw [ek]
            have w5 : w = 5 := by omega
            subst w5
            exact ih (k + 1) ν (by omega) (by omega) e180 fo
          · refine ⟨(by omega), ?_⟩
            refine ⟨(by unfold i32; omega), ?_⟩
            refine ⟨(by unfold i32; omega), ?_⟩
            refine ⟨(by unfold i32; omega), ?_⟩
            refine ⟨(by unfold i32; omega), ?_⟩
            refine ⟨(by omega), ?_⟩
            refine ⟨(by unfold i32; omega), ?_⟩
            refine ⟨(by unfold i32; omega), ?_⟩
            refine ⟨(by unfold i32; omega), ?_⟩
            refine ⟨(by omega), ?_⟩
            refine ⟨(by omega), ?_⟩
            intro μ1 eμ1; subst eμ1
            refine ⟨(by unfold i32; omega), ?_⟩
            have hp : ν 183 (188 * (hN (σ 0 6) - 1) + 88 + 5 * oK (σ 2) i (spd (σ 2) i) (bst (σ 2) i) k + w) = σ 2 (88 + 5 * oK (σ 2) i (spd (σ 2) i) (bst (σ 2) i) k + w) := by
              rw [fo 183 (by decide)]
              have := c4 (hN (σ 0 6) - 1) (88 + 5 * oK (σ 2) i (spd (σ 2) i) (bst (σ 2) i) k + w) (by omega) (by omega) (by omega) (by omega)
              rw [show 188 * (hN (σ 0 6) - 1) + 88 + 5 * oK (σ 2) i (spd (σ 2) i) (bst (σ 2) i) k + w = 188 * (hN (σ 0 6) - 1) + (88 + 5 * oK (σ 2) i (spd (σ 2) i) (bst (σ 2) i) k + w) by omega, this]
              unfold hPush
              rw [if_pos rfl, hb.2.2.2.2.2.2.2.1]
            rw [hp]
            refine ihl (w + 1) _ (by omega) (by omega) (by omega) ?_ (fun c hc => by rw [up2_c hc]; exact fo c hc)
            rw [up2_u, e180]
            exact pTk_s w0
      refine w_X8_applyBest_41 ?_
      rw [g2, g4]
      refine ⟨fun hc1 => ?_, fun hc1 => ?_⟩
      · refine ⟨(by unfold i32; omega), ?_⟩
        have ke : k = (oN (σ 2) i (spd (σ 2) i) (bst (σ 2) i)) := by omega
        subst ke
        have := D hi μb μ1 hb fb c1 c2 c3 c4 mow od _ 0 μ (Nat.lt_succ_self _) (by omega) s2 f2
        rw [show cnt (σ 2) i - 1 - ((0 : Nat) : Int) = cnt (σ 2) i - 1 by omega] at this
        exact this
      · refine I (by omega) _ 0 μ (Nat.lt_succ_self _) (by omega) (by omega) ?_ f2
        rw [s2]
        funext x
        unfold pTk
        rw [if_neg (by omega)]
  refine e_X8_applyBest ?_
  intro μ1 eμ1; subst eμ1
  refine ⟨_, m_isTrolley (σ := σ) hth hS, ?_⟩
  rintro z2 ρ3 μ4 ⟨hz, hq2_1, hq2_2⟩
  obtain rfl := hq2_1.symm
  obtain rfl := hq2_2.symm
  refine ⟨fun hc3 => ?_, fun hc3 => ?_⟩
  · refine ⟨_, m_layOrder tth (hn (by omega)) (CI.cn hS (by omega)) ((hn (by omega)).v (by omega) (by omega)), ?_⟩
    rintro z6 ρ7 μ8 ⟨hq4_1, hR, hO, od⟩
    obtain rfl := hq4_1.symm
    refine ⟨_, m_rem (hR.mj hth) hS (by omega), ?_⟩
    rintro z10 ρ11 μ12 ⟨hq5_1, c1, c2, c3, c4⟩
    obtain rfl := hq5_1.symm
    rw [c3]
    refine ⟨(by have := hS.2.2.2.2.1; have := hS.2.2.2.2.2.1; unfold hN i32; split <;> omega), ?_⟩
    refine ⟨(by have := hS.2.2.2.2.1; have := hS.2.2.2.2.2.1; unfold hN i32; split <;> omega), ?_⟩
    exact F (by omega) μ8 μ12 (hR.mj hth) (hR.ff fth) c1 c2 c3 c4 ⟨by rw [c2 47 (by decide)]; exact hO.1, fun k k0 k1 => by rw [c1 205 (by decide) (by decide)]; exact hO.2 k k0 k1⟩ (by rw [c2 48 (by decide), c1 207 (by decide) (by decide)]; exact od) _ 0 μ12 (Nat.lt_succ_self _) (Nat.zero_le _) (by rw [c1 180 (by decide) (by decide), hR.1 180 (by decide) (by decide)]; exact tth) (fun _ _ => rfl)
  · refine ⟨_, m_failed, ?_⟩
    rintro z14 ρ15 μ16 ⟨hq9_1, hq9_2, hq9_3⟩
    obtain rfl := hq9_1.symm
    obtain rfl := hq9_2.symm
    obtain rfl := hq9_3.symm
    exact pm_fin hth fth ⟨μ0, (if_neg (by omega)).symm⟩ (by rw [if_neg (by omega)])
end APm
