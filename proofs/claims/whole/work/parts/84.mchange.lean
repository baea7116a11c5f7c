/-! ===== changes: the reference ===== -/
section MCh
variable {ρ : Rf} {μ μ0 : Mem} {σ : Sg} {p q : Pl}
theorem pm_ok {ρ' : Rf} {μ' : Mem} {v : Mem → Int} {σ' τ : Sg} {z : Int} (hz : ∃ J, z = v J) (hs : σ' = τ) (hr : ρ' = ρ) (hC : MJ μ' τ) (hf : FR 178 207 μ μ') : PM μ ρ v σ' z ρ' μ' := by
  subst hs
  exact ⟨hz, hr, hC, hf⟩
theorem MJ.ch {μ1 μ2 : Mem} (h : MJ μ0 σ) (hS : SI σ) (hp : σ 0 4 = 1) (c1 : ∀ c, c ≠ 178 → c ≠ 183 → μ1 c = μ0 c) (c2 : ∀ k, k ≠ 19 → μ1 178 k = μ0 178 k) (c3 : μ1 178 19 = hN (σ 0 6)) (c4 : ∀ i b, 0 ≤ i → i < hN (σ 0 6) → 0 ≤ b → b < 188 → μ1 183 (188 * i + b) = hPush (σ 0 6) (hs σ) (μ0 180) i b) (d1 : ∀ c, c ≠ 180 → μ2 c = μ1 c) (d2 : μ2 180 = q) : MJ (up2 μ2 178 1 0) (sCh σ q) := by
  obtain ⟨g1, g2, g3, g4, g5, g6, g7, g8, g9⟩ := h
  obtain ⟨k1, k2, k3⟩ := g9 hp
  unfold MJ
  rw [sCh_3, sCh_6, sCh_b, sCh_2, sCh_s]
  simp (disch := omega) only [sCh_0, up2_c, up2_k, up2_s]
  rw [d1 178 (by decide), d1 179 (by decide), d1 182 (by decide), d1 183 (by decide), c1 179 (by decide) (by decide), c1 182 (by decide) (by decide), c2 3 (by decide), c2 6 (by decide), c2 7 (by decide), c2 20 (by decide), c2 21 (by decide)]
  refine ⟨g1, g2, g3, g4, by trivial, g6, g7, d2, fun _ => ⟨c3, fun i b i0 i1 b0 b1 => ?_, k3⟩⟩
  rw [sCh_h i0, c4 i b i0 i1 b0 b1, g8]
theorem m_rem (h : MJ μ0 σ) (hS : SI σ) (hp : σ 0 4 = 1) : qE mX8_remember GG GG [qP 178] ρ μ0 (fun _ ρ' μ' => ρ' = ρ ∧ (∀ c, c ≠ 178 → c ≠ 183 → μ' c = μ0 c) ∧ (∀ k, k ≠ 19 → μ' 178 k = μ0 178 k) ∧ μ' 178 19 = hN (σ 0 6) ∧ ∀ i b, 0 ≤ i → i < hN (σ 0 6) → 0 ≤ b → b < 188 → μ' 183 (188 * i + b) = hPush (σ 0 6) (hs σ) (μ0 180) i b) := by
  have k := h.2.2.2.2.2.2.2.2 hp
  exact m_remember k.1 ⟨hS.2.2.2.2.1, hS.2.2.2.2.2.1⟩ (fun i b i0 i1 b0 b1 => k.2.1 i b i0 i1 b0 b1)
theorem m_set {c v : Int} (h : MJ μ0 σ) (hS : SI σ) (hp : σ 0 4 = 1) (hc : 0 ≤ c ∧ c < 188) : qE mX8_set GG GG [qP 178, qI c, qI v] ρ μ0 (fun z ρ' μ' => z = σ 2 c ∧ ρ' = ρ ∧ MJ μ' (sCh σ (u1 (σ 2) c v)) ∧ FR 178 207 μ0 μ') := by
  have h180 := h.2.2.2.2.2.2.2.1
  refine e_X8_set ?_
  refine ⟨(by omega), ?_⟩
  refine ⟨_, m_rem h hS hp, ?_⟩
  rintro z1 ρ2 μ3 ⟨hq2_1, c1, c2, c3, c4⟩
  obtain rfl := hq2_1.symm
  refine ⟨(by omega), ?_⟩
  intro μ5 eμ5; subst eμ5
  refine ⟨_, m_done, ?_⟩
  rintro z6 ρ7 μ8 ⟨hq5_1, hq5_2, hq5_3⟩
  obtain rfl := hq5_1.symm
  obtain rfl := hq5_2.symm
  obtain rfl := hq5_3.symm
  refine ⟨by rw [h180], rfl, h.ch hS hp c1 c2 c3 c4 (fun c hc => up2_c hc) (by rw [up2_u, c1 180 (by decide) (by decide), h180]), fun a ha => ?_⟩
  rw [up2_c (by omega), up2_c (by omega)]
  exact c1 a (by omega) (by omega)
theorem q_setDeparture {t v : Int} (h0 : MJ μ0 σ) (hS : SI σ) : qE mX8_setDeparture GG GG [qP 178, qI t, qI v] ρ μ0 (PM μ0 ρ (fun J => if (σ 0 4 = 1 ∧ 0 ≤ t ∧ t < 2) ∧ (σ 2 (0 + t) ≤ v ∧ v ≤ 999) then σ 2 (2 + t) else -2147483648) (if (σ 0 4 = 1 ∧ 0 ≤ t ∧ t < 2) ∧ (σ 2 (0 + t) ≤ v ∧ v ≤ 999) then sCh σ (u1 (σ 2) (2 + t) v) else sE σ (if σ 0 4 = 1 ∧ 0 ≤ t ∧ t < 2 then 2 else 1))) := by
  have hn : σ 0 4 = 1 → PV (σ 2) := fun e => (hS.2.2.2.2.2.2.2.2 e).1.1; have fth : FR 178 207 μ0 (up2 μ0 178 0 0) := FR.up FR.refl (by omega); have hth : MJ (up2 μ0 178 0 0) σ := h0.th; have tth : up2 μ0 178 0 0 180 = σ 2 := hth.2.2.2.2.2.2.2.1
  refine e_X8_setDeparture ?_
  intro μ1 eμ1; subst eμ1
  refine ⟨_, m_isTrainNow (σ := σ) hth hS, ?_⟩
  rintro z2 ρ3 μ4 ⟨hz, hq2_1, hq2_2⟩
  obtain rfl := hq2_1.symm
  obtain rfl := hq2_2.symm
  refine ⟨fun hc3 => ?_, fun hc3 => ?_⟩
  · refine ⟨(by unfold i32; omega), ?_⟩
    refine ⟨(by omega), ?_⟩
    rw [tth]
    refine ⟨_, m_in, ?_⟩
    rintro z6 ρ7 μ8 ⟨hin, hq6_1, hq6_2⟩
    obtain rfl := hq6_1.symm
    obtain rfl := hq6_2.symm
    refine ⟨fun hc7 => ?_, fun hc7 => ?_⟩
    · refine ⟨_, m_failed, ?_⟩
      rintro z10 ρ11 μ12 ⟨hq8_1, hq8_2, hq8_3⟩
      obtain rfl := hq8_1.symm
      obtain rfl := hq8_2.symm
      obtain rfl := hq8_3.symm
      exact pm_fin hth fth ⟨μ0, (if_neg (fun q => by have := q.2; omega)).symm⟩ (by rw [if_neg (fun q => by have := q.2; omega), if_pos (by omega)])
    · refine ⟨(by unfold i32; omega), ?_⟩
      refine ⟨_, m_set hth hS (by omega) (by omega), ?_⟩
      rintro z14 ρ15 μ16 ⟨hq11_1, hq11_2, hJ, hF⟩
      obtain rfl := hq11_1.symm
      obtain rfl := hq11_2.symm
      exact pm_ok ⟨μ0, by rw [if_pos ⟨by omega, by omega⟩]⟩ (by rw [if_pos ⟨by omega, by omega⟩]) rfl hJ (fth.trans hF)
  · refine ⟨_, m_failed, ?_⟩
    rintro z18 ρ19 μ20 ⟨hq13_1, hq13_2, hq13_3⟩
    obtain rfl := hq13_1.symm
    obtain rfl := hq13_2.symm
    obtain rfl := hq13_3.symm
    exact pm_fin hth fth ⟨μ0, (if_neg (fun q => by have := q.1; omega)).symm⟩ (by rw [if_neg (fun q => by have := q.1; omega), if_neg (by omega)])
theorem q_setStock {k m v : Int} (h0 : MJ μ0 σ) (hS : SI σ) : qE mX8_setStock GG GG [qP 178, qI k, qI m, qI v] ρ μ0 (PM μ0 ρ (fun J => if (σ 0 4 = 1 ∧ 0 ≤ k ∧ k < σ 2 45 ∧ 0 ≤ m ∧ m < σ 2 36) ∧ (0 ≤ v ∧ v ≤ 999) then σ 2 (49 + (4 * k + m)) else -2147483648) (if (σ 0 4 = 1 ∧ 0 ≤ k ∧ k < σ 2 45 ∧ 0 ≤ m ∧ m < σ 2 36) ∧ (0 ≤ v ∧ v ≤ 999) then sCh σ (u1 (σ 2) (49 + (4 * k + m)) v) else sE σ (if σ 0 4 = 1 ∧ 0 ≤ k ∧ k < σ 2 45 ∧ 0 ≤ m ∧ m < σ 2 36 then 2 else 1))) := by
  have hn : σ 0 4 = 1 → PV (σ 2) := fun e => (hS.2.2.2.2.2.2.2.2 e).1.1; have fth : FR 178 207 μ0 (up2 μ0 178 0 0) := FR.up FR.refl (by omega); have hth : MJ (up2 μ0 178 0 0) σ := h0.th; have tth : up2 μ0 178 0 0 180 = σ 2 := hth.2.2.2.2.2.2.2.1
  refine e_X8_setStock ?_
  intro μ1 eμ1; subst eμ1
  refine ⟨_, m_isKitchen (σ := σ) hth hS, ?_⟩
  rintro z2 ρ3 μ4 ⟨hz, hq2_1, hq2_2⟩
  obtain rfl := hq2_1.symm
  obtain rfl := hq2_2.symm
  refine ⟨fun hc3 => ?_, fun hc3 => ?_⟩
  · refine ⟨_, m_failed, ?_⟩
    rintro z6 ρ7 μ8 ⟨hq4_1, hq4_2, hq4_3⟩
    obtain rfl := hq4_1.symm
    obtain rfl := hq4_2.symm
    obtain rfl := hq4_3.symm
    exact pm_fin hth fth ⟨μ0, (if_neg (fun q => by have := q.1; omega)).symm⟩ (by rw [if_neg (fun q => by have := q.1; omega), if_neg (by omega)])
  · refine ⟨_, m_isMeal (σ := σ) hth hS, ?_⟩
    rintro z10 ρ11 μ12 ⟨hy, hq6_1, hq6_2⟩
    obtain rfl := hq6_1.symm
    obtain rfl := hq6_2.symm
    refine ⟨fun hc7 => ?_, fun hc7 => ?_⟩
    · refine ⟨_, m_in, ?_⟩
      rintro z14 ρ15 μ16 ⟨hin, hq8_1, hq8_2⟩
      obtain rfl := hq8_1.symm
      obtain rfl := hq8_2.symm
      refine ⟨fun hc9 => ?_, fun hc9 => ?_⟩
      · refine ⟨_, m_failed, ?_⟩
        rintro z18 ρ19 μ20 ⟨hq10_1, hq10_2, hq10_3⟩
        obtain rfl := hq10_1.symm
        obtain rfl := hq10_2.symm
        obtain rfl := hq10_3.symm
        exact pm_fin hth fth ⟨μ0, (if_neg (fun q => by have := q.2; omega)).symm⟩ (by rw [if_neg (fun q => by have := q.2; omega), if_pos (by omega)])
      · have n := (hn (by omega)).n
        have ea : 49 + 4 * k + m = 49 + (4 * k + m) := by omega
        rw [ea]
        refine ⟨(by unfold i32; omega), ?_⟩
        refine ⟨(by unfold i32; omega), ?_⟩
        refine ⟨(by unfold i32; omega), ?_⟩
        refine ⟨_, m_set hth hS (by omega) (by omega), ?_⟩
        rintro z22 ρ23 μ24 ⟨hq15_1, hq15_2, hJ, hF⟩
        obtain rfl := hq15_1.symm
        obtain rfl := hq15_2.symm
        exact pm_ok ⟨μ0, by rw [if_pos ⟨by omega, by omega⟩]⟩ (by rw [if_pos ⟨by omega, by omega⟩]) rfl hJ (fth.trans hF)
    · refine ⟨_, m_failed, ?_⟩
      rintro z26 ρ27 μ28 ⟨hq17_1, hq17_2, hq17_3⟩
      obtain rfl := hq17_1.symm
      obtain rfl := hq17_2.symm
      obtain rfl := hq17_3.symm
      exact pm_fin hth fth ⟨μ0, (if_neg (fun q => by have := q.1; omega)).symm⟩ (by rw [if_neg (fun q => by have := q.1; omega), if_neg (by omega)])
theorem q_setQuantity {j v : Int} (h0 : MJ μ0 σ) (hS : SI σ) : qE mX8_setQuantity GG GG [qP 178, qI j, qI v] ρ μ0 (PM μ0 ρ (fun J => if (σ 0 4 = 1 ∧ 0 ≤ j ∧ j < σ 2 87) ∧ (1 ≤ v ∧ v ≤ 99) then σ 2 (88 + 5 * j + 4) else -2147483648) (if (σ 0 4 = 1 ∧ 0 ≤ j ∧ j < σ 2 87) ∧ (1 ≤ v ∧ v ≤ 99) then sCh σ (u1 (σ 2) (88 + 5 * j + 4) v) else sE σ (if σ 0 4 = 1 ∧ 0 ≤ j ∧ j < σ 2 87 then 2 else 1))) := by
  have hn : σ 0 4 = 1 → PV (σ 2) := fun e => (hS.2.2.2.2.2.2.2.2 e).1.1; have fth : FR 178 207 μ0 (up2 μ0 178 0 0) := FR.up FR.refl (by omega); have hth : MJ (up2 μ0 178 0 0) σ := h0.th; have tth : up2 μ0 178 0 0 180 = σ 2 := hth.2.2.2.2.2.2.2.1
  refine e_X8_setQuantity ?_
  intro μ1 eμ1; subst eμ1
  refine ⟨_, m_isJob (σ := σ) hth hS, ?_⟩
  rintro z2 ρ3 μ4 ⟨hz, hq2_1, hq2_2⟩
  obtain rfl := hq2_1.symm
  obtain rfl := hq2_2.symm
  refine ⟨fun hc3 => ?_, fun hc3 => ?_⟩
  · refine ⟨_, m_in, ?_⟩
    rintro z6 ρ7 μ8 ⟨hin, hq4_1, hq4_2⟩
    obtain rfl := hq4_1.symm
    obtain rfl := hq4_2.symm
    refine ⟨fun hc5 => ?_, fun hc5 => ?_⟩
    · refine ⟨_, m_failed, ?_⟩
      rintro z10 ρ11 μ12 ⟨hq6_1, hq6_2, hq6_3⟩
      obtain rfl := hq6_1.symm
      obtain rfl := hq6_2.symm
      obtain rfl := hq6_3.symm
      exact pm_fin hth fth ⟨μ0, (if_neg (fun q => by have := q.2; omega)).symm⟩ (by rw [if_neg (fun q => by have := q.2; omega), if_pos (by omega)])
    · have n := (hn (by omega)).n
      refine ⟨(by unfold i32; omega), ?_⟩
      refine ⟨(by unfold i32; omega), ?_⟩
      refine ⟨(by unfold i32; omega), ?_⟩
      refine ⟨_, m_set hth hS (by omega) (by omega), ?_⟩
      rintro z14 ρ15 μ16 ⟨hq11_1, hq11_2, hJ, hF⟩
      obtain rfl := hq11_1.symm
      obtain rfl := hq11_2.symm
      exact pm_ok ⟨μ0, by rw [if_pos ⟨by omega, by omega⟩]⟩ (by rw [if_pos ⟨by omega, by omega⟩]) rfl hJ (fth.trans hF)
  · refine ⟨_, m_failed, ?_⟩
    rintro z18 ρ19 μ20 ⟨hq13_1, hq13_2, hq13_3⟩
    obtain rfl := hq13_1.symm
    obtain rfl := hq13_2.symm
    obtain rfl := hq13_3.symm
    exact pm_fin hth fth ⟨μ0, (if_neg (fun q => by have := q.1; omega)).symm⟩ (by rw [if_neg (fun q => by have := q.1; omega), if_neg (by omega)])
/-! ### a job dropped -/
theorem m_dropJob {j : Int} (hp : μ0 180 = p) (hj : 0 ≤ j ∧ j < p 87) (hn : p 87 ≤ 20) : qE mX8_dropJob GG GG [qP 178, qI j] ρ μ0 (fun _ ρ' μ' => ρ' = ρ ∧ μ' 180 = pDrop p j ∧ ∀ c, c ≠ 180 → μ' c = μ0 c) := by
  have L : ∀ (m : Nat) (x : Int) (μ : Mem), (88 + 5 * (p 87 - 1) - x).toNat < m → 88 + 5 * j ≤ x → x ≤ 88 + 5 * (p 87 - 1) → (∀ k, μ 180 k = if 88 + 5 * j ≤ k ∧ k < x then p (k + 5) else p k) → (∀ c, c ≠ 180 → μ c = μ0 c) → qX mX8_dropJob GG (fun _ ρ' μ' => ρ' = ρ ∧ μ' 180 = pDrop p j ∧ ∀ c, c ≠ 180 → μ' c = μ0 c) GG (0, 0) 7 [some (qP 178), none, some (qI x)] [] ρ μ := by
    intro m
    induction m with
    | zero => intro x μ h; omega
    | succ m ih =>
      intro x μ hm x0 x1 h1 h2
      have e87 : μ 180 87 = p 87 := by rw [h1, if_neg (by omega)]
      refine w_X8_dropJob_7 ?_
      rw [e87]
      refine ⟨(by unfold i32; omega), ?_⟩
      refine ⟨(by unfold i32; omega), ?_⟩
      refine ⟨(by unfold i32; omega), ?_⟩
      refine ⟨fun hc4 => ?_, fun hc4 => ?_⟩
      · refine ⟨(by unfold i32; omega), ?_⟩
        intro μ1 eμ1; subst eμ1
        refine ⟨rfl, ?_, fun c hc => by rw [up2_c hc]; exact h2 c hc⟩
        rw [up2_u]
        funext k
        have xe : x = 88 + 5 * (p 87 - 1) := by omega
        by_cases c : k = 87
        · rw [c, u1_s, drop_87]
        · rw [u1_n c, h1, xe]
          unfold pDrop
          rw [if_neg c]
      · refine ⟨(by unfold i32; omega), ?_⟩
        refine ⟨(by omega), ?_⟩
        refine ⟨(by omega), ?_⟩
        intro μ2 eμ2; subst eμ2
        refine ⟨(by unfold i32; omega), ?_⟩
        refine ih (x + 1) _ (by omega) (by omega) (by omega) (fun k => ?_) (fun c hc => by rw [up2_c hc]; exact h2 c hc)
        rw [up2_u]
        by_cases c : k = x
        · rw [c, u1_s, h1, if_neg (by omega), if_pos (by omega)]
        · rw [u1_n c, h1]
          by_cases c2 : 88 + 5 * j ≤ k ∧ k < x
          · rw [if_pos c2, if_pos (by omega)]
          · rw [if_neg c2, if_neg (by omega)]
  refine e_X8_dropJob ?_
  refine ⟨(by unfold i32; omega), ?_⟩
  refine ⟨(by unfold i32; omega), ?_⟩
  exact L _ _ _ (Nat.lt_succ_self _) (by omega) (by omega) (fun k => by rw [if_neg (by omega), hp]) (fun _ _ => rfl)
theorem q_removeJob {j : Int} (h0 : MJ μ0 σ) (hS : SI σ) : qE mX8_removeJob GG GG [qP 178, qI j] ρ μ0 (PM μ0 ρ (fun J => if σ 0 4 = 1 ∧ 0 ≤ j ∧ j < σ 2 87 then σ 2 87 - 1 else -2147483648) (if σ 0 4 = 1 ∧ 0 ≤ j ∧ j < σ 2 87 then sCh σ (pDrop (σ 2) j) else sE σ 1)) := by
  have hn : σ 0 4 = 1 → PV (σ 2) := fun e => (hS.2.2.2.2.2.2.2.2 e).1.1; have fth : FR 178 207 μ0 (up2 μ0 178 0 0) := FR.up FR.refl (by omega); have hth : MJ (up2 μ0 178 0 0) σ := h0.th; have tth : up2 μ0 178 0 0 180 = σ 2 := hth.2.2.2.2.2.2.2.1
  refine e_X8_removeJob ?_
  intro μ1 eμ1; subst eμ1
  refine ⟨_, m_isJob (σ := σ) hth hS, ?_⟩
  rintro z2 ρ3 μ4 ⟨hz, hq2_1, hq2_2⟩
  obtain rfl := hq2_1.symm
  obtain rfl := hq2_2.symm
  refine ⟨fun hc3 => ?_, fun hc3 => ?_⟩
  · refine ⟨_, m_rem hth hS (by omega), ?_⟩
    rintro z6 ρ7 μ8 ⟨hq4_1, c1, c2, c3, c4⟩
    obtain rfl := hq4_1.symm
    have n := (hn (by omega)).n
    have e180 : μ8 180 = σ 2 := by rw [c1 180 (by decide) (by decide)]; exact tth
    refine ⟨_, m_dropJob e180 (by omega) (by omega), ?_⟩
    rintro z10 ρ11 μ12 ⟨hq5_1, d1, d2⟩
    obtain rfl := hq5_1.symm
    rw [d1, drop_87]
    refine ⟨_, m_done, ?_⟩
    rintro z14 ρ15 μ16 ⟨hq6_1, hq6_2, hq6_3⟩
    obtain rfl := hq6_1.symm
    obtain rfl := hq6_2.symm
    obtain rfl := hq6_3.symm
    refine pm_ok ⟨μ0, by rw [if_pos (by omega)]⟩ (by rw [if_pos (by omega)]) rfl (hth.ch hS (by omega) c1 c2 c3 c4 d2 d1) (fth.trans (fun a ha => ?_))
    rw [up2_c (by omega), d2 a (by omega)]
    exact c1 a (by omega) (by omega)
  · refine ⟨_, m_failed, ?_⟩
    rintro z18 ρ19 μ20 ⟨hq8_1, hq8_2, hq8_3⟩
    obtain rfl := hq8_1.symm
    obtain rfl := hq8_2.symm
    obtain rfl := hq8_3.symm
    exact pm_fin hth fth ⟨μ0, (if_neg (by omega)).symm⟩ (by rw [if_neg (by omega)])
end MCh
