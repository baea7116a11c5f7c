/-! ===== changes: the reference's jobs added, undo, save, restore ===== -/
section MUn
variable {ρ : Rf} {μ μ0 : Mem} {σ : Sg} {p q : Pl}
theorem m_layJob {j i t c m v : Int} (hj : 0 ≤ j ∧ j < 20) : qE mX8_layJob GG GG [qP 180, qI j, qI i, qI t, qI c, qI m, qI v] ρ μ (fun _ ρ' μ' => ρ' = ρ ∧ μ' = up2 (up2 (up2 (up2 (up2 μ 180 (88 + 5 * j + 0) i) 180 (88 + 5 * j + 1) t) 180 (88 + 5 * j + 2) c) 180 (88 + 5 * j + 3) m) 180 (88 + 5 * j + 4) v) := by
  refine e_X8_layJob (nx0 := 188) rfl ?_
  refine ⟨(by unfold i32; omega), ?_⟩
  refine ⟨(by unfold i32; omega), ?_⟩
  refine ⟨(by unfold i32; omega), ?_⟩
  refine ⟨(by omega), ?_⟩
  intro μ1 eμ1; subst eμ1
  refine ⟨(by unfold i32; omega), ?_⟩
  refine ⟨(by omega), ?_⟩
  intro μ2 eμ2; subst eμ2
  refine ⟨(by unfold i32; omega), ?_⟩
  refine ⟨(by omega), ?_⟩
  intro μ3 eμ3; subst eμ3
  refine ⟨(by unfold i32; omega), ?_⟩
  refine ⟨(by omega), ?_⟩
  intro μ4 eμ4; subst eμ4
  refine ⟨(by unfold i32; omega), ?_⟩
  refine ⟨(by omega), ?_⟩
  intro μ5 eμ5; subst eμ5
  exact ⟨rfl, rfl⟩
theorem q_addJob {i t c m v : Int} (h0 : MJ μ0 σ) (hS : SI σ) : qE mX8_addJob GG GG [qP 178, qI i, qI t, qI c, qI m, qI v] ρ μ0 (PM μ0 ρ (fun J => if (σ 0 4 = 1 ∧ 0 ≤ i ∧ i < σ 2 61 ∧ 0 ≤ t ∧ t < 2 ∧ 0 ≤ c ∧ c < σ 2 (4 + t) ∧ 0 ≤ m ∧ m < σ 2 36) ∧ (1 ≤ v ∧ v ≤ 99) ∧ (σ 2 87 < 20 ∧ cnt (σ 2) i < 8) then σ 2 87 + 1 else -2147483648) (if (σ 0 4 = 1 ∧ 0 ≤ i ∧ i < σ 2 61 ∧ 0 ≤ t ∧ t < 2 ∧ 0 ≤ c ∧ c < σ 2 (4 + t) ∧ 0 ≤ m ∧ m < σ 2 36) ∧ (1 ≤ v ∧ v ≤ 99) ∧ (σ 2 87 < 20 ∧ cnt (σ 2) i < 8) then sCh σ (pAdd (σ 2) i t c m v) else sE σ (if σ 0 4 = 1 ∧ 0 ≤ i ∧ i < σ 2 61 ∧ 0 ≤ t ∧ t < 2 ∧ 0 ≤ c ∧ c < σ 2 (4 + t) ∧ 0 ≤ m ∧ m < σ 2 36 then (if (1 ≤ v ∧ v ≤ 99) then 3 else 2) else 1))) := by
  have hn : σ 0 4 = 1 → PV (σ 2) := fun e => (hS.2.2.2.2.2.2.2.2 e).1.1; have fth : FR 178 207 μ0 (up2 μ0 178 0 0) := FR.up FR.refl (by omega); have hth : MJ (up2 μ0 178 0 0) σ := h0.th; have tth : up2 μ0 178 0 0 180 = σ 2 := hth.2.2.2.2.2.2.2.1
  refine e_X8_addJob ?_
  intro μ1 eμ1; subst eμ1
  refine ⟨_, m_isTrolley (σ := σ) hth hS, ?_⟩
  rintro z2 ρ3 μ4 ⟨hz, hq2_1, hq2_2⟩
  obtain rfl := hq2_1.symm
  obtain rfl := hq2_2.symm
  refine ⟨fun hc3 => ?_, fun hc3 => ?_⟩
  · refine ⟨_, m_failed, ?_⟩
    rintro z6 ρ7 μ8 ⟨hq4_1, hq4_2, hq4_3⟩
    obtain rfl := hq4_1.symm
    obtain rfl := hq4_2.symm
    obtain rfl := hq4_3.symm
    exact pm_fin hth fth ⟨μ0, (if_neg (fun q => by have := q.1; omega)).symm⟩ (by rw [if_neg (fun q => by have := q.1; omega), if_neg (by omega)])
  · refine ⟨_, m_isCar (σ := σ) hth hS, ?_⟩
    rintro z10 ρ11 μ12 ⟨hy, hq6_1, hq6_2⟩
    obtain rfl := hq6_1.symm
    obtain rfl := hq6_2.symm
    refine ⟨fun hc7 => ?_, fun hc7 => ?_⟩
    · refine ⟨_, m_failed, ?_⟩
      rintro z14 ρ15 μ16 ⟨hq8_1, hq8_2, hq8_3⟩
      obtain rfl := hq8_1.symm
      obtain rfl := hq8_2.symm
      obtain rfl := hq8_3.symm
      exact pm_fin hth fth ⟨μ0, (if_neg (fun q => by have := q.1; omega)).symm⟩ (by rw [if_neg (fun q => by have := q.1; omega), if_neg (by omega)])
    · refine ⟨_, m_isMeal (σ := σ) hth hS, ?_⟩
      rintro z18 ρ19 μ20 ⟨hx, hq10_1, hq10_2⟩
      obtain rfl := hq10_1.symm
      obtain rfl := hq10_2.symm
      refine ⟨fun hc11 => ?_, fun hc11 => ?_⟩
      · refine ⟨_, m_in, ?_⟩
        rintro z22 ρ23 μ24 ⟨hin, hq12_1, hq12_2⟩
        obtain rfl := hq12_1.symm
        obtain rfl := hq12_2.symm
        refine ⟨fun hc13 => ?_, fun hc13 => ?_⟩
        · have n := (hn (by omega)).n
          have cn := CI.cn hS (by omega) (i := i)
          rw [tth]
          refine ⟨fun hc14 => ?_, fun hc14 => ?_⟩
          · refine ⟨_, m_failed, ?_⟩
            rintro z26 ρ27 μ28 ⟨hq15_1, hq15_2, hq15_3⟩
            obtain rfl := hq15_1.symm
            obtain rfl := hq15_2.symm
            obtain rfl := hq15_3.symm
            exact pm_fin hth fth ⟨μ0, (if_neg (fun q => by have := q.2.2.1; omega)).symm⟩ (by rw [if_neg (fun q => by have := q.2.2.1; omega), if_pos (by omega), if_pos (by omega)])
          · refine ⟨_, m_jobsOf tth (by omega), ?_⟩
            rintro z30 ρ31 μ32 ⟨hq17_1, hq17_2, hq17_3⟩
            obtain rfl := hq17_1.symm
            obtain rfl := hq17_2.symm
            obtain rfl := hq17_3.symm
            refine ⟨fun hc18 => ?_, fun hc18 => ?_⟩
            · refine ⟨_, m_rem hth hS (by omega), ?_⟩
              rintro z34 ρ35 μ36 ⟨hq19_1, c1, c2, c3, c4⟩
              obtain rfl := hq19_1.symm
              have e180 : μ36 180 = σ 2 := by rw [c1 180 (by decide) (by decide)]; exact tth
              rw [e180]
              refine ⟨_, m_layJob (by omega), ?_⟩
              rintro z38 ρ39 μ40 ⟨hq20_1, hq20_2⟩
              obtain rfl := hq20_1.symm
              obtain rfl := hq20_2.symm
              rw [up2_k (by omega), up2_k (by omega), up2_k (by omega), up2_k (by omega), up2_k (by omega), e180]
              refine ⟨(by unfold i32; omega), ?_⟩
              intro μ42 eμ42; subst eμ42
              rw [up2_s]
              refine ⟨_, m_done, ?_⟩
              rintro z43 ρ44 μ45 ⟨hq23_1, hq23_2, hq23_3⟩
              obtain rfl := hq23_1.symm
              obtain rfl := hq23_2.symm
              obtain rfl := hq23_3.symm
              refine pm_ok ⟨μ0, by rw [if_pos ⟨by omega, by omega, by omega⟩]⟩ (by rw [if_pos ⟨by omega, by omega, by omega⟩]) rfl (hth.ch hS (by omega) c1 c2 c3 c4 (fun c hc => by rw [up2_c hc, up2_c hc, up2_c hc, up2_c hc, up2_c hc, up2_c hc]) (by rw [up2_u, up2_u, up2_u, up2_u, up2_u, up2_u, e180]; rfl)) (fth.trans (fun a ha => ?_))
              rw [up2_c (by omega), up2_c (by omega), up2_c (by omega), up2_c (by omega), up2_c (by omega), up2_c (by omega), up2_c (by omega)]
              exact c1 a (by omega) (by omega)
            · refine ⟨_, m_failed, ?_⟩
              rintro z47 ρ48 μ49 ⟨hq25_1, hq25_2, hq25_3⟩
              obtain rfl := hq25_1.symm
              obtain rfl := hq25_2.symm
              obtain rfl := hq25_3.symm
              exact pm_fin hth fth ⟨μ0, (if_neg (fun q => by have := q.2.2.2; omega)).symm⟩ (by rw [if_neg (fun q => by have := q.2.2.2; omega), if_pos (by omega), if_pos (by omega)])
        · refine ⟨_, m_failed, ?_⟩
          rintro z51 ρ52 μ53 ⟨hq27_1, hq27_2, hq27_3⟩
          obtain rfl := hq27_1.symm
          obtain rfl := hq27_2.symm
          obtain rfl := hq27_3.symm
          exact pm_fin hth fth ⟨μ0, (if_neg (fun q => by have := q.2.1; omega)).symm⟩ (by rw [if_neg (fun q => by have := q.2.1; omega), if_pos (by omega), if_neg (by omega)])
      · refine ⟨_, m_failed, ?_⟩
        rintro z55 ρ56 μ57 ⟨hq29_1, hq29_2, hq29_3⟩
        obtain rfl := hq29_1.symm
        obtain rfl := hq29_2.symm
        obtain rfl := hq29_3.symm
        exact pm_fin hth fth ⟨μ0, (if_neg (fun q => by have := q.1; omega)).symm⟩ (by rw [if_neg (fun q => by have := q.1; omega), if_neg (by omega)])
theorem MJ.pl2 {μ1 : Mem} {τ : Sg} {n' : Int} (h : MJ μ0 σ) (hp : σ 0 4 = 1) (t0 : ∀ k, k ≠ 3 → k ≠ 6 → τ 0 k = σ 0 k) (t3 : τ 0 3 = 0) (t6 : τ 0 6 = n') (tb : τ 1 = σ 1) (t2 : τ 2 = q) (ts : τ 3 = σ 3) (th : ∀ i : Int, τ (4 + i.toNat) = σ (4 + i.toNat)) (hn : n' ≤ σ 0 6) (f1 : ∀ c, c ≠ 178 → c ≠ 180 → μ1 c = μ0 c) (f2 : ∀ k, k ≠ 19 → μ1 178 k = μ0 178 k) (f3 : μ1 178 19 = n') (f4 : μ1 180 = q) : MJ (up2 μ1 178 1 0) τ := by
  obtain ⟨g1, g2, g3, g4, g5, g6, g7, g8, g9⟩ := h
  obtain ⟨k1, k2, k3⟩ := g9 hp
  unfold MJ
  rw [t3, t6, tb, t2, ts]
  simp (disch := omega) only [t0, up2_c, up2_k, up2_s]
  rw [f1 179 (by decide) (by decide), f1 182 (by decide) (by decide), f1 183 (by decide) (by decide), f2 3 (by decide), f2 6 (by decide), f2 7 (by decide), f2 20 (by decide), f2 21 (by decide)]
  refine ⟨g1, g2, g3, g4, by trivial, g6, g7, f4, fun _ => ⟨f3, fun i b i0 i1 b0 b1 => ?_, k3⟩⟩
  rw [th]
  exact k2 i b i0 (by omega) b0 b1
theorem q_undo (h0 : MJ μ0 σ) (hS : SI σ) : qE mX8_undo GG GG [qP 178] ρ μ0 (PM μ0 ρ (fun J => if σ 0 4 = 1 ∧ 0 < σ 0 6 then σ 0 6 - 1 else -2147483648) (if σ 0 4 = 1 ∧ 0 < σ 0 6 then sUn σ else sE σ (if σ 0 4 = 1 then 6 else 1))) := by
  have hn : σ 0 4 = 1 → PV (σ 2) := fun e => (hS.2.2.2.2.2.2.2.2 e).1.1; have fth : FR 178 207 μ0 (up2 μ0 178 0 0) := FR.up FR.refl (by omega); have hth : MJ (up2 μ0 178 0 0) σ := h0.th; have tth : up2 μ0 178 0 0 180 = σ 2 := hth.2.2.2.2.2.2.2.1
  have h20 := hth.2.2.2.2.2.1
  have hb := hS.2.2.1
  have n0 := hS.2.2.2.2.1
  have n1 := hS.2.2.2.2.2.1
  refine e_X8_undo ?_
  intro μ1 eμ1; subst eμ1
  refine ⟨fun hc2 => ?_, fun hc2 => ?_⟩
  · have hp : σ 0 4 = 1 := by omega
    have k := hth.2.2.2.2.2.2.2.2 hp
    rw [k.1]
    refine ⟨fun hc3 => ?_, fun hc3 => ?_⟩
    · refine ⟨(by unfold i32; omega), ?_⟩
      intro μ2 eμ2; subst eμ2
      have ok := ((hS.2.2.2.2.2.2.2.2 hp).2.1 (σ 0 6 - 1) (by omega) (by omega))
      rw [up2_s]
      refine ⟨(by unfold i32; omega), ?_⟩
      refine ⟨_, m_copy (a := 183) (b := 180) (na := 1880) (nb := 188) rfl rfl (by decide) (by omega) (by omega) (by omega) (by omega) (by omega) (by omega), ?_⟩
      rintro z3 ρ4 μ5 ⟨hq7_1, c1, c2, c3⟩
      obtain rfl := hq7_1.symm
      rw [c1 178 (by decide), up2_s]
      refine ⟨_, m_done, ?_⟩
      rintro z7 ρ8 μ9 ⟨hq8_1, hq8_2, hq8_3⟩
      obtain rfl := hq8_1.symm
      obtain rfl := hq8_2.symm
      obtain rfl := hq8_3.symm
      have eh : ∀ i : Int, sUn σ (4 + i.toNat) = σ (4 + i.toNat) := fun i => by
        funext k
        unfold sUn
        rw [if_neg (by omega), if_neg (by omega)]
      have e180 : μ5 180 = hs σ (σ 0 6 - 1) := by
        funext b
        by_cases cb : 0 ≤ b ∧ b < 188
        · have := c2 b cb.1 cb.2
          rw [Int.zero_add] at this
          rw [this, up2_c (by decide)]
          exact k.2.1 (σ 0 6 - 1) b (by omega) (by omega) cb.1 cb.2
        · rw [c3 b (by omega), up2_c (by decide), tth, hS.2.2.2.2.2.2.2.1 b (by omega)]
          exact (ok.1.2.2.2.2 b (by omega)).symm
      refine pm_ok ⟨μ0, by rw [if_pos ⟨by omega, by omega⟩]⟩ (by rw [if_pos ⟨by omega, by omega⟩]) rfl (hth.pl2 (τ := sUn σ) (n' := σ 0 6 - 1) hp (fun k k3 k6 => by unfold sUn; rw [if_pos rfl, if_neg k3, if_neg k6]) rfl rfl rfl rfl rfl eh (by omega) (fun c a b => by rw [c1 c b, up2_c a]) (fun k hk => by rw [c1 178 (by decide), up2_k hk]) (by rw [c1 178 (by decide), up2_s]) e180) (fth.trans (fun a ha => ?_))
      rw [up2_c (by omega), c1 a (by omega), up2_c (by omega)]
    · refine ⟨_, m_failed, ?_⟩
      rintro z11 ρ12 μ13 ⟨hq10_1, hq10_2, hq10_3⟩
      obtain rfl := hq10_1.symm
      obtain rfl := hq10_2.symm
      obtain rfl := hq10_3.symm
      exact pm_fin hth fth ⟨μ0, (if_neg (fun q => by have := q.2; omega)).symm⟩ (by rw [if_neg (fun q => by have := q.2; omega), if_pos (by omega)])
  · refine ⟨_, m_failed, ?_⟩
    rintro z15 ρ16 μ17 ⟨hq12_1, hq12_2, hq12_3⟩
    obtain rfl := hq12_1.symm
    obtain rfl := hq12_2.symm
    obtain rfl := hq12_3.symm
    exact pm_fin hth fth ⟨μ0, (if_neg (fun q => by have := q.1; omega)).symm⟩ (by rw [if_neg (fun q => by have := q.1; omega), if_neg (by omega)])
theorem q_restore (h0 : MJ μ0 σ) (hS : SI σ) : qE mX8_restore GG GG [qP 178] ρ μ0 (PM μ0 ρ (fun J => if σ 0 4 = 1 ∧ σ 0 5 = 1 then σ 3 87 else -2147483648) (if σ 0 4 = 1 ∧ σ 0 5 = 1 then sRe σ else sE σ (if σ 0 4 = 1 then 6 else 1))) := by
  have hn : σ 0 4 = 1 → PV (σ 2) := fun e => (hS.2.2.2.2.2.2.2.2 e).1.1; have fth : FR 178 207 μ0 (up2 μ0 178 0 0) := FR.up FR.refl (by omega); have hth : MJ (up2 μ0 178 0 0) σ := h0.th; have tth : up2 μ0 178 0 0 180 = σ 2 := hth.2.2.2.2.2.2.2.1
  have h20 := hth.2.2.2.2.2.1
  have h21 := hth.2.2.2.2.2.2.1
  have hb := hS.2.2.1
  have hb2 := hS.2.2.2.1
  have n0 := hS.2.2.2.2.1
  refine e_X8_restore ?_
  intro μ1 eμ1; subst eμ1
  refine ⟨fun hc2 => ?_, fun hc2 => ?_⟩
  · refine ⟨fun hc3 => ?_, fun hc3 => ?_⟩
    · have hp : σ 0 4 = 1 := by omega
      have k := hth.2.2.2.2.2.2.2.2 hp
      have ok := (hS.2.2.2.2.2.2.2.2 hp).2.2 (by omega)
      refine ⟨_, m_copy (a := 182) (b := 180) (na := 188) (nb := 188) rfl rfl (by decide) (by omega) (by omega) (by omega) (by omega) (by omega) (by omega), ?_⟩
      rintro z2 ρ3 μ4 ⟨hq4_1, c1, c2, c3⟩
      obtain rfl := hq4_1.symm
      intro μ6 eμ6; subst eμ6
      have e180 : μ4 180 = σ 3 := by
        funext b
        by_cases cb : 0 ≤ b ∧ b < 188
        · have := c2 b cb.1 cb.2
          rw [Int.zero_add] at this
          rw [this]
          exact k.2.2 (by omega) b cb.1 cb.2
        · rw [c3 b (by omega), tth, hS.2.2.2.2.2.2.2.1 b (by omega)]
          exact (ok.1.2.2.2.2 b (by omega)).symm
      rw [up2_c (by decide), e180]
      refine ⟨_, m_done, ?_⟩
      rintro z7 ρ8 μ9 ⟨hq6_1, hq6_2, hq6_3⟩
      obtain rfl := hq6_1.symm
      obtain rfl := hq6_2.symm
      obtain rfl := hq6_3.symm
      have eh : ∀ i : Int, sRe σ (4 + i.toNat) = σ (4 + i.toNat) := fun i => by
        funext k
        unfold sRe
        rw [if_neg (by omega), if_neg (by omega)]
      refine pm_ok ⟨μ0, by rw [if_pos ⟨by omega, by omega⟩]⟩ (by rw [if_pos ⟨by omega, by omega⟩]) rfl (hth.pl2 (τ := sRe σ) (n' := 0) hp (fun k k3 k6 => by unfold sRe; rw [if_pos rfl, if_neg k3, if_neg k6]) rfl rfl rfl rfl rfl eh (by omega) (fun c a b => by rw [up2_c a]; exact c1 c b) (fun k hk => by rw [up2_k hk, c1 178 (by decide)]) up2_s (by rw [up2_c (by decide)]; exact e180)) (fth.trans (fun a ha => ?_))
      rw [up2_c (by omega), up2_c (by omega)]
      exact c1 a (by omega)
    · refine ⟨_, m_failed, ?_⟩
      rintro z11 ρ12 μ13 ⟨hq8_1, hq8_2, hq8_3⟩
      obtain rfl := hq8_1.symm
      obtain rfl := hq8_2.symm
      obtain rfl := hq8_3.symm
      exact pm_fin hth fth ⟨μ0, (if_neg (fun q => by have := q.2; omega)).symm⟩ (by rw [if_neg (fun q => by have := q.2; omega), if_pos (by omega)])
  · refine ⟨_, m_failed, ?_⟩
    rintro z15 ρ16 μ17 ⟨hq10_1, hq10_2, hq10_3⟩
    obtain rfl := hq10_1.symm
    obtain rfl := hq10_2.symm
    obtain rfl := hq10_3.symm
    exact pm_fin hth fth ⟨μ0, (if_neg (fun q => by have := q.1; omega)).symm⟩ (by rw [if_neg (fun q => by have := q.1; omega), if_neg (by omega)])
end MUn
