/-! ===== a job is moved ===== -/
def mvF (p : Pl) (a : Int) : Nat → Pl
  | 0 => p
  | k + 1 => pSwap (mvF p a k) (a + k) (a + k + 1)
def mvG (p : Pl) (a : Int) : Nat → Pl
  | 0 => p
  | k + 1 => pSwap (mvG p a k) (a - k) (a - k - 1)
def mv (p : Pl) (j to : Int) : Pl := mvG (mvF p j (to - j).toNat) j (j - to).toNat
section MVs
variable {ρ : Rf} {μ μ0 : Mem} {σ : Sg} {p q : Pl}
theorem mvF_ok (ho : OKP p) {a : Int} (a0 : 0 ≤ a) : ∀ k : Nat, a + k < p 87 → OKP (mvF p a k) ∧ FEq p (mvF p a k) ∧ mvF p a k 87 = p 87 := by
  intro k
  induction k with
  | zero => intro _; exact ⟨ho, fun _ _ => rfl, rfl⟩
  | succ k ih =>
    intro h
    obtain ⟨b1, b2, b3⟩ := ih (by omega)
    refine ⟨swap_OKP b1 (by omega) (by omega) (by omega), fun x hx => ?_, ?_⟩
    · exact (swap_FEq (p := mvF p a k) (a := a + k) (b := a + k + 1) (by omega) (by omega) x hx).trans (b2 x hx)
    · exact (swap_o (by omega) (by omega) (by omega)).trans b3
theorem mvG_ok (ho : OKP p) {a : Int} (a1 : a < p 87) : ∀ k : Nat, 0 ≤ a - k → OKP (mvG p a k) ∧ FEq p (mvG p a k) ∧ mvG p a k 87 = p 87 := by
  intro k
  induction k with
  | zero => intro _; exact ⟨ho, fun _ _ => rfl, rfl⟩
  | succ k ih =>
    intro h
    obtain ⟨b1, b2, b3⟩ := ih (by omega)
    refine ⟨swap_OKP b1 (by omega) (by omega) (by omega), fun x hx => ?_, ?_⟩
    · exact (swap_FEq (p := mvG p a k) (a := a - k) (b := a - k - 1) (by omega) (by omega) x hx).trans (b2 x hx)
    · exact (swap_o (by omega) (by omega) (by omega)).trans b3
theorem mv_ok (ho : OKP p) {j to : Int} (hj : 0 ≤ j ∧ j < p 87) (ht : 0 ≤ to ∧ to < p 87) : OKP (mv p j to) ∧ FEq p (mv p j to) := by
  obtain ⟨a1, a2, a3⟩ := mvF_ok ho hj.1 (to - j).toNat (by omega)
  obtain ⟨b1, b2, b3⟩ := mvG_ok a1 (a := j) (by omega) (j - to).toNat (by omega)
  exact ⟨b1, fun k hk => (b2 k hk).trans (a2 k hk)⟩
theorem q_moveJob {j to : Int} (h0 : MJ μ0 σ) (hS : SI σ) : qE mX8_moveJob GG GG [qP 178, qI j, qI to] ρ μ0 (PM μ0 ρ (fun J => if σ 0 4 = 1 ∧ 0 ≤ j ∧ j < σ 2 87 ∧ 0 ≤ to ∧ to < σ 2 87 then 0 else -2147483648) (if σ 0 4 = 1 ∧ 0 ≤ j ∧ j < σ 2 87 ∧ 0 ≤ to ∧ to < σ 2 87 then sCh σ (mv (σ 2) j to) else sE σ 1)) := by
  have hn : σ 0 4 = 1 → PV (σ 2) := fun e => (hS.2.2.2.2.2.2.2.2 e).1.1; have fth : FR 178 207 μ0 (up2 μ0 178 0 0) := FR.up FR.refl (by omega); have hth : MJ (up2 μ0 178 0 0) σ := h0.th; have tth : up2 μ0 178 0 0 180 = σ 2 := hth.2.2.2.2.2.2.2.1
  have G : (σ 0 4 = 1 ∧ 0 ≤ j ∧ j < σ 2 87 ∧ 0 ≤ to ∧ to < σ 2 87) → ∀ (μ1 : Mem), (∀ c, c ≠ 178 → c ≠ 183 → μ1 c = up2 μ0 178 0 0 c) → (∀ k, k ≠ 19 → μ1 178 k = up2 μ0 178 0 0 178 k) → μ1 178 19 = hN (σ 0 6) → (∀ i b, 0 ≤ i → i < hN (σ 0 6) → 0 ≤ b → b < 188 → μ1 183 (188 * i + b) = hPush (σ 0 6) (hs σ) (up2 μ0 178 0 0 180) i b) → ∀ (m : Nat) (k : Nat) (μ : Mem), (j - to).toNat - k < m → k ≤ (j - to).toNat → μ 180 = mvG (mvF (σ 2) j (to - j).toNat) j k → (∀ c, c ≠ 180 → μ c = μ1 c) → qX mX8_moveJob GG (PM μ0 ρ (fun J => if σ 0 4 = 1 ∧ 0 ≤ j ∧ j < σ 2 87 ∧ 0 ≤ to ∧ to < σ 2 87 then 0 else -2147483648) (if σ 0 4 = 1 ∧ 0 ≤ j ∧ j < σ 2 87 ∧ 0 ≤ to ∧ to < σ 2 87 then sCh σ (mv (σ 2) j to) else sE σ 1)) GG (0, 0) 54 [some (qP 178), none, some (qI to), some (qI (j - k))] [] ρ μ := by
    intro hi μ1 c1 c2 c3 c4 m
    have n := (hn hi.1).n
    induction m with
    | zero => intro k μ h; omega
    | succ m ih =>
      intro k μ hm hk e180 eo
      have ek : j - (k : Int) + (-1) = j - ((k + 1 : Nat) : Int) := by omega
      refine w_X8_moveJob_54 ?_
      refine ⟨fun hc1 => ?_, fun hc1 => ?_⟩
      · refine ⟨_, m_done, ?_⟩
        rintro z1 ρ2 μ3 ⟨hq2_1, hq2_2, hq2_3⟩
        obtain rfl := hq2_1.symm
        obtain rfl := hq2_2.symm
        obtain rfl := hq2_3.symm
        have ke : k = (j - to).toNat := by omega
        subst ke
        refine pm_ok ⟨μ0, by rw [if_pos hi]⟩ (by rw [if_pos hi]; rfl) rfl (hth.ch hS hi.1 c1 c2 c3 c4 eo e180) (fth.trans (fun a ha => ?_))
        rw [up2_c (by omega), eo a (by omega)]
        exact c1 a (by omega) (by omega)
      · refine ⟨(by unfold i32; omega), ?_⟩
        refine ⟨_, m_swap e180 (by omega) (by omega) (by omega), ?_⟩
        rintro z5 ρ6 μ7 ⟨hq5_1, f1, f2⟩
        obtain rfl := hq5_1.symm
        refine ⟨(by unfold i32; omega), ?_⟩
        rw [ek]
        exact ih (k + 1) _ (by omega) (by omega) f1 (fun c hc => (f2 c hc).trans (eo c hc))
  have F : (σ 0 4 = 1 ∧ 0 ≤ j ∧ j < σ 2 87 ∧ 0 ≤ to ∧ to < σ 2 87) → ∀ (μ1 : Mem), (∀ c, c ≠ 178 → c ≠ 183 → μ1 c = up2 μ0 178 0 0 c) → (∀ k, k ≠ 19 → μ1 178 k = up2 μ0 178 0 0 178 k) → μ1 178 19 = hN (σ 0 6) → (∀ i b, 0 ≤ i → i < hN (σ 0 6) → 0 ≤ b → b < 188 → μ1 183 (188 * i + b) = hPush (σ 0 6) (hs σ) (up2 μ0 178 0 0 180) i b) → ∀ (m : Nat) (k : Nat) (μ : Mem), (to - j).toNat - k < m → k ≤ (to - j).toNat → μ 180 = mvF (σ 2) j k → (∀ c, c ≠ 180 → μ c = μ1 c) → qX mX8_moveJob GG (PM μ0 ρ (fun J => if σ 0 4 = 1 ∧ 0 ≤ j ∧ j < σ 2 87 ∧ 0 ≤ to ∧ to < σ 2 87 then 0 else -2147483648) (if σ 0 4 = 1 ∧ 0 ≤ j ∧ j < σ 2 87 ∧ 0 ≤ to ∧ to < σ 2 87 then sCh σ (mv (σ 2) j to) else sE σ 1)) GG (0, 0) 33 [some (qP 178), some (qI j), some (qI to), some (qI (j + k))] [] ρ μ := by
    intro hi μ1 c1 c2 c3 c4 m
    have n := (hn hi.1).n
    induction m with
    | zero => intro k μ h; omega
    | succ m ih =>
      intro k μ hm hk e180 eo
      have ek : j + (k : Int) + 1 = j + ((k + 1 : Nat) : Int) := by omega
      refine w_X8_moveJob_33 ?_
      refine ⟨fun hc1 => ?_, fun hc1 => ?_⟩
      · have ke : k = (to - j).toNat := by omega
        subst ke
        have := G hi μ1 c1 c2 c3 c4 _ 0 μ (Nat.lt_succ_self _) (by omega) e180 eo
        rw [show j - ((0 : Nat) : Int) = j by omega] at this
        exact this
      · refine ⟨(by unfold i32; omega), ?_⟩
        refine ⟨_, m_swap e180 (by omega) (by omega) (by omega), ?_⟩
        rintro z1 ρ2 μ3 ⟨hq4_1, f1, f2⟩
        obtain rfl := hq4_1.symm
        refine ⟨(by unfold i32; omega), ?_⟩
        rw [ek]
        exact ih (k + 1) _ (by omega) (by omega) f1 (fun c hc => (f2 c hc).trans (eo c hc))
  refine e_X8_moveJob ?_
  intro μ1 eμ1; subst eμ1
  refine ⟨_, m_isJob (σ := σ) hth hS, ?_⟩
  rintro z2 ρ3 μ4 ⟨hz, hq2_1, hq2_2⟩
  obtain rfl := hq2_1.symm
  obtain rfl := hq2_2.symm
  refine ⟨fun hc3 => ?_, fun hc3 => ?_⟩
  · refine ⟨_, m_failed, ?_⟩
    rintro z6 ρ7 μ8 ⟨hq4_1, hq4_2, hq4_3⟩
    obtain rfl := hq4_1.symm
    obtain rfl := hq4_2.symm
    obtain rfl := hq4_3.symm
    exact pm_fin hth fth ⟨μ0, (if_neg (by omega)).symm⟩ (by rw [if_neg (by omega)])
  · refine ⟨_, m_isJob (σ := σ) hth hS, ?_⟩
    rintro z10 ρ11 μ12 ⟨hy, hq6_1, hq6_2⟩
    obtain rfl := hq6_1.symm
    obtain rfl := hq6_2.symm
    refine ⟨fun hc7 => ?_, fun hc7 => ?_⟩
    · refine ⟨_, m_rem hth hS (by omega), ?_⟩
      rintro z14 ρ15 μ16 ⟨hq8_1, c1, c2, c3, c4⟩
      obtain rfl := hq8_1.symm
      have := F (by omega) μ16 c1 c2 c3 c4 _ 0 μ16 (Nat.lt_succ_self _) (by omega) (by rw [c1 180 (by decide) (by decide)]; exact tth) (fun _ _ => rfl)
      rw [show j + ((0 : Nat) : Int) = j by omega] at this
      exact this
    · refine ⟨_, m_failed, ?_⟩
      rintro z18 ρ19 μ20 ⟨hq10_1, hq10_2, hq10_3⟩
      obtain rfl := hq10_1.symm
      obtain rfl := hq10_2.symm
      obtain rfl := hq10_3.symm
      exact pm_fin hth fth ⟨μ0, (if_neg (by omega)).symm⟩ (by rw [if_neg (by omega)])
end MVs
