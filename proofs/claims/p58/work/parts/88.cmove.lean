section MVc
variable {ρ : Rf} {μ μ0 : Mem} {σ : Sg} {p q : Pl}
theorem c_moveJob {j to : Int} (h : CI ρ μ0 σ) (hS : SI σ) : qE mX7_moveJob GG GG [qP 0, qI j, qI to] ρ μ0 (PC μ0 ρ (fun J => if σ 0 4 = 1 ∧ 0 ≤ j ∧ j < σ 2 87 ∧ 0 ≤ to ∧ to < σ 2 87 then 0 else -2147483648) (if σ 0 4 = 1 ∧ 0 ≤ j ∧ j < σ 2 87 ∧ 0 ≤ to ∧ to < σ 2 87 then sCh σ (mv (σ 2) j to) else sE σ 1)) := by
  have fn := h.1.fn
  have G : (σ 0 4 = 1 ∧ 0 ≤ j ∧ j < σ 2 87 ∧ 0 ≤ to ∧ to < σ 2 87) → ∀ (ρ1 : Rf) (μ1 : Mem), (∀ a, a ≠ 70 → ρ1 a = ρ a) → HPm ρ1 → FR 69 140 μ0 μ1 → HS ρ1 μ1 (hN (σ 0 6)) (hPush (σ 0 6) (hs σ) (σ 2)) → ∀ (m : Nat) (k : Nat) (μ : Mem), (j - to).toNat - k < m → k ≤ (j - to).toNat → SP μ (ρ 0 9) (mvG (mvF (σ 2) j (to - j).toNat) j k) → FR (ρ 0 9) (ρ 0 9 + 6) μ1 μ → qX mX7_moveJob GG (PC μ0 ρ (fun J => if σ 0 4 = 1 ∧ 0 ≤ j ∧ j < σ 2 87 ∧ 0 ≤ to ∧ to < σ 2 87 then 0 else -2147483648) (if σ 0 4 = 1 ∧ 0 ≤ j ∧ j < σ 2 87 ∧ 0 ≤ to ∧ to < σ 2 87 then sCh σ (mv (σ 2) j to) else sE σ 1)) GG (0, 0) 59 [some (qP 0), none, some (qI to), some (qI (j - k))] [] ρ1 μ := by
    intro hi ρ1 μ1 r1 r2 f1 h1 m
    have pl := h.pl hS hi.1
    have n := pl.1.n
    have ok := (hS.2.2.2.2.2.2.2.2 hi.1).1
    have oF := mvF_ok ok hi.2.1 (to - j).toNat (by omega)
    have e0 : ρ1 0 = ρ 0 := r1 0 (by decide)
    induction m with
    | zero => intro k μ h; omega
    | succ m ih =>
      intro k μ hm hk s2 f2
      have ek : j - (k : Int) + (-1) = j - ((k + 1 : Nat) : Int) := by omega
      have oG := mvG_ok oF.1 (a := j) (by omega) k (by omega)
      refine w_X7_moveJob_59 ?_
      refine ⟨fun hc1 => ?_, fun hc1 => ?_⟩
      · have F1 : FP μ (ρ 0 8) (σ 2) := (pl.2.1.ag (f1.ag (by omega))).ag (f2.ag (by omega))
        have e1 : FEq (σ 2) (mvG (mvF (σ 2) j (to - j).toNat) j k) := fun x hx => (oG.2.1 x hx).trans (oF.2.1 x hx)
        refine ⟨_, k_changed (by rw [e0]) (by rw [e0]) h.1.f h.1.s fn (F1.eq pl.1 e1) s2 oG.1.1, ?_⟩
        rintro z1 ρ2 μ3 ⟨hq2_1, hq2_2, μ3, f3, r3, hq2_3⟩
        obtain rfl := hq2_1.symm
        obtain rfl := hq2_2.symm
        obtain rfl := hq2_3.symm
        have ke : k = (j - to).toNat := by omega
        subst ke
        exact pc_ok (fun J => by rw [if_pos hi]) (by rw [if_pos hi]; rfl) (h.ch hS hi.1 oG.1.1 e1 r1 r2 f1 h1 f2 s2 f3 r3) (FR.up (((f1.mono (by omega) (by omega)).trans (f2.mono (by omega) (by omega))).trans (f3.mono (by omega) (by omega))) (by omega)) (fun a ha => r1 a (by omega))
      · refine ⟨(by unfold i32; omega), ?_⟩
        refine ⟨(by rw [e0]; exact h.1.s), ?_⟩
        rw [e0]
        have n2 := oG.2.2
        have n3 := oF.2.2
        refine ⟨_, k_exchange h.1.s s2 (by omega) (by omega) (by omega), ?_⟩
        rintro z6 ρ7 μ8 ⟨hq6_1, f4, s4⟩
        obtain rfl := hq6_1.symm
        refine ⟨(by unfold i32; omega), ?_⟩
        rw [ek]
        exact ih (k + 1) _ (by omega) (by omega) s4 (f2.trans (f4.mono (by omega) (by omega)))
  have F : (σ 0 4 = 1 ∧ 0 ≤ j ∧ j < σ 2 87 ∧ 0 ≤ to ∧ to < σ 2 87) → ∀ (ρ1 : Rf) (μ1 : Mem), (∀ a, a ≠ 70 → ρ1 a = ρ a) → HPm ρ1 → FR 69 140 μ0 μ1 → HS ρ1 μ1 (hN (σ 0 6)) (hPush (σ 0 6) (hs σ) (σ 2)) → ∀ (m : Nat) (k : Nat) (μ : Mem), (to - j).toNat - k < m → k ≤ (to - j).toNat → SP μ (ρ 0 9) (mvF (σ 2) j k) → FR (ρ 0 9) (ρ 0 9 + 6) μ1 μ → qX mX7_moveJob GG (PC μ0 ρ (fun J => if σ 0 4 = 1 ∧ 0 ≤ j ∧ j < σ 2 87 ∧ 0 ≤ to ∧ to < σ 2 87 then 0 else -2147483648) (if σ 0 4 = 1 ∧ 0 ≤ j ∧ j < σ 2 87 ∧ 0 ≤ to ∧ to < σ 2 87 then sCh σ (mv (σ 2) j to) else sE σ 1)) GG (0, 0) 35 [some (qP 0), some (qI j), some (qI to), some (qI (j + k))] [] ρ1 μ := by
    intro hi ρ1 μ1 r1 r2 f1 h1 m
    have pl := h.pl hS hi.1
    have n := pl.1.n
    have ok := (hS.2.2.2.2.2.2.2.2 hi.1).1
    have e0 : ρ1 0 = ρ 0 := r1 0 (by decide)
    induction m with
    | zero => intro k μ h; omega
    | succ m ih =>
      intro k μ hm hk s2 f2
      have ek : j + (k : Int) + 1 = j + ((k + 1 : Nat) : Int) := by omega
      have oF := mvF_ok ok hi.2.1 k (by omega)
      refine w_X7_moveJob_35 ?_
      refine ⟨fun hc1 => ?_, fun hc1 => ?_⟩
      · have ke : k = (to - j).toNat := by omega
        subst ke
        have := G hi ρ1 μ1 r1 r2 f1 h1 _ 0 μ (Nat.lt_succ_self _) (by omega) s2 f2
        rw [show j - ((0 : Nat) : Int) = j by omega] at this
        exact this
      · refine ⟨(by unfold i32; omega), ?_⟩
        refine ⟨(by rw [e0]; exact h.1.s), ?_⟩
        rw [e0]
        have n3 := oF.2.2
        refine ⟨_, k_exchange h.1.s s2 (by omega) (by omega) (by omega), ?_⟩
        rintro z2 ρ3 μ4 ⟨hq5_1, f4, s4⟩
        obtain rfl := hq5_1.symm
        refine ⟨(by unfold i32; omega), ?_⟩
        rw [ek]
        exact ih (k + 1) _ (by omega) (by omega) s4 (f2.trans (f4.mono (by omega) (by omega)))
  refine e_X7_moveJob ?_
  refine ⟨_, k_isJob h hS, ?_⟩
  rintro z1 ρ2 μ3 ⟨hz, hq1_1, hq1_2⟩
  obtain rfl := hq1_1.symm
  obtain rfl := hq1_2.symm
  refine ⟨fun hc2 => ?_, fun hc2 => ?_⟩
  · refine ⟨_, k_fail, ?_⟩
    rintro z5 ρ6 μ7 ⟨hq3_1, hq3_2, hq3_3⟩
    obtain rfl := hq3_1.symm
    obtain rfl := hq3_2.symm
    obtain rfl := hq3_3.symm
    exact pc_fin h hS FR.refl (fun J => (if_neg (by omega)).symm) (by rw [if_neg (by omega)])
  · refine ⟨_, k_isJob h hS, ?_⟩
    rintro z9 ρ10 μ11 ⟨hy, hq5_1, hq5_2⟩
    obtain rfl := hq5_1.symm
    obtain rfl := hq5_2.symm
    refine ⟨fun hc6 => ?_, fun hc6 => ?_⟩
    · refine ⟨(by exact h.1.s), ?_⟩
      refine ⟨_, k_pushS h hS (by omega), ?_⟩
      rintro z14 ρ15 μ16 ⟨r1, r2, f1, h1⟩
      have pl := h.pl hS (by omega)
      have := F (by omega) ρ15 μ16 r1 r2 f1 h1 _ 0 μ16 (Nat.lt_succ_self _) (by omega) (pl.2.2.1.ag (f1.ag (by omega))) FR.refl
      rw [show j + ((0 : Nat) : Int) = j by omega] at this
      exact this
    · refine ⟨_, k_fail, ?_⟩
      rintro z18 ρ19 μ20 ⟨hq10_1, hq10_2, hq10_3⟩
      obtain rfl := hq10_1.symm
      obtain rfl := hq10_2.symm
      obtain rfl := hq10_3.symm
      exact pc_fin h hS FR.refl (fun J => (if_neg (by omega)).symm) (by rw [if_neg (by omega)])
end MVc
