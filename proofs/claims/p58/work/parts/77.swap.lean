/-! ===== the best swap: the reference; the best trolley ===== -/
section MX
variable {ρ : Rf} {μ μ0 : Mem} {p : Pl} {σ : Sg}
/-! ### the best trolley of a job -/
def btT (p : Pl) (j : Int) (i : Nat) : Int := if (i : Int) ≠ p (88 + 5 * j + 0) ∧ 8 ≤ cnt p i then -5 else tot (u1 p (88 + 5 * j + 0) i)
def btr2 (p : Pl) (j : Int) : Int := fa (-1) (-1) (btT p j) (fun k => (k : Int)) (p 61).toNat
theorem fm_b {a : Int} {T : Nat → Int} : ∀ k, a ≤ fm a T k := by
  intro k
  induction k with
  | zero => exact Int.le_refl _
  | succ k ih =>
    show a ≤ if _ then _ else _
    split <;> omega
theorem SP_by {μ : Mem} {s : Nat} {q : Pl} {j i : Int} (h : SP μ s q) (hn : q 87 ≤ 20) (hj : 0 ≤ j ∧ j < q 87) : SP (up2 μ (s + 1) j i) s (u1 q (88 + 5 * j + 0) i) := by
  have e : ∀ k, k ≠ 88 + 5 * j + 0 → u1 q (88 + 5 * j + 0) i k = q k := fun k h => u1_n h
  refine ⟨fun x x0 x1 => ?_, fun t t0 t1 => ?_, fun k k0 k1 => ?_, ?_⟩
  · rw [e _ (by omega)] at x1
    have a := h.j x0 x1
    rw [e (88 + 5 * x + 1) (by omega), e (88 + 5 * x + 2) (by omega), e (88 + 5 * x + 3) (by omega), e (88 + 5 * x + 4) (by omega), up2_c (a := s + 2) (by omega), up2_c (a := s + 3) (by omega), up2_c (a := s + 4) (by omega), up2_u]
    by_cases q : x = j
    · rw [q, u1_s, u1_s]
      rw [q] at a
      exact ⟨rfl, a.2⟩
    · rw [u1_n q, e _ (by omega)]
      exact a
  · rw [up2_c (by omega), e _ (by omega)]; exact h.t t0 t1
  · rw [up2_c (by omega), e _ (by omega)]; exact h.k k0 k1
  · rw [up2_c (by omega), e _ (by omega)]; exact h.n
theorem c_bestTrolley {j : Int} (h0 : CI ρ μ0 σ) (hS : SI σ) : qE mX7_bestTrolley GG GG [qP 0, qI j] ρ μ0 (PC μ0 ρ (fun J => if σ 0 4 = 1 ∧ 0 ≤ j ∧ j < σ 2 87 then btr2 (σ 2) j else -2147483648) (sE σ (if σ 0 4 = 1 ∧ 0 ≤ j ∧ j < σ 2 87 then 0 else 1))) := by
  have L : (σ 0 4 = 1 ∧ 0 ≤ j ∧ j < σ 2 87) → ∀ (m : Nat) (x : Nat) (μ : Mem), (σ 2 61).toNat - x < m → (x : Int) ≤ σ 2 61 → CI ρ μ σ → FR 0 177 μ0 μ → (∃ v, SP μ 55 (u1 (σ 2) (88 + 5 * j + 0) v)) → qX mX7_bestTrolley GG (PC μ0 ρ (fun J => if σ 0 4 = 1 ∧ 0 ≤ j ∧ j < σ 2 87 then btr2 (σ 2) j else -2147483648) (sE σ (if σ 0 4 = 1 ∧ 0 ≤ j ∧ j < σ 2 87 then 0 else 1))) GG (0, 0) 32 [some (qP 0), some (qI j), some (qI (fa (-1) (-1) (btT (σ 2) j) (fun k => (k : Int)) x)), some (qI (fm (-1) (btT (σ 2) j) x)), some (qI (x : Int)), none] [] ρ μ := by
    intro hi m
    have hp := hi.1
    induction m with
    | zero => intro x μ h; omega
    | succ m ih =>
      intro x μ hm hx h hfr hsp
      obtain ⟨hv, hf, hs, hr⟩ := h.pl hS hp
      have n := hv.n
      have fn := h.1.fn
      have ex : ((x : Int) + 1) = ((x + 1 : Nat) : Int) := by omega
      have fb := fm_b (a := -1) (T := btT (σ 2) j) x
      have ea : fa (-1) (-1) (btT (σ 2) j) (fun k => (k : Int)) (x + 1) = if fm (-1) (btT (σ 2) j) x < btT (σ 2) j x then (x : Int) else fa (-1) (-1) (btT (σ 2) j) (fun k => (k : Int)) x := rfl
      have em : fm (-1) (btT (σ 2) j) (x + 1) = if fm (-1) (btT (σ 2) j) x < btT (σ 2) j x then btT (σ 2) j x else fm (-1) (btT (σ 2) j) x := rfl
      have N : (x : Int) < σ 2 61 → ∀ ν, CI ρ ν σ → FR 0 177 μ0 ν → (∃ v, SP ν 55 (u1 (σ 2) (88 + 5 * j + 0) v)) → qX mX7_bestTrolley GG (PC μ0 ρ (fun J => if σ 0 4 = 1 ∧ 0 ≤ j ∧ j < σ 2 87 then btr2 (σ 2) j else -2147483648) (sE σ (if σ 0 4 = 1 ∧ 0 ≤ j ∧ j < σ 2 87 then 0 else 1))) GG (0, 0) 104 [some (qP 0), some (qI j), some (qI (fa (-1) (-1) (btT (σ 2) j) (fun k => (k : Int)) (x + 1))), some (qI (fm (-1) (btT (σ 2) j) (x + 1))), some (qI (x : Int)), none] [] ρ ν := by
        intro xl ν gC gF gS
        refine w_X7_bestTrolley_104 ?_
        refine ⟨(by unfold i32; omega), ?_⟩
        rw [ex]
        exact ih (x + 1) ν (by omega) (by omega) gC gF gS
      have Y : (x : Int) < σ 2 61 → btT (σ 2) j x = tot (u1 (σ 2) (88 + 5 * j + 0) x) → qX mX7_bestTrolley GG (PC μ0 ρ (fun J => if σ 0 4 = 1 ∧ 0 ≤ j ∧ j < σ 2 87 then btr2 (σ 2) j else -2147483648) (sE σ (if σ 0 4 = 1 ∧ 0 ≤ j ∧ j < σ 2 87 then 0 else 1))) GG (0, 0) 75 [some (qP 0), some (qI j), some (qI (fa (-1) (-1) (btT (σ 2) j) (fun k => (k : Int)) x)), some (qI (fm (-1) (btT (σ 2) j) x)), some (qI (x : Int)), none] [] ρ μ := by
        intro xl bt
        obtain ⟨v, sv⟩ := hsp
        have e87 : u1 (σ 2) (88 + 5 * j + 0) v 87 = σ 2 87 := u1_n (by omega)
        have s1 := SP_by (i := (x : Int)) sv (by omega) (j := j) (by omega)
        rw [u1_u1] at s1
        have h1 : CI ρ (up2 μ 56 j (x : Int)) σ := h.scr hS (fun a ha => up2_c (by omega))
        refine w_X7_bestTrolley_75 ?_
        refine ⟨(by omega), ?_⟩
        intro μ1 eμ1; subst eμ1
        refine ⟨_, k_rehearse h1 hS hp s1 (by_PV hv hi.2 (by omega)) (by_FEq (by omega)), ?_⟩
        rintro z2 ρ3 μ4 ⟨hq3_1, hq3_2, f2, r2⟩
        obtain rfl := hq3_1.symm
        obtain rfl := hq3_2.symm
        rw [← bt]
        have h2 : CI ρ μ4 σ := h1.scr hS (fun a ha => f2 a (by omega))
        have fr2 : FR 0 177 μ0 μ4 := (FR.up hfr (by omega)).trans (f2.mono (by omega) (by omega))
        have s2 := s1.ag (f2.ag (by omega))
        refine ⟨fun hc4 => ?_, fun hc4 => ?_⟩
        · rw [if_neg (by omega)] at ea em
          have := N (by omega) μ4 h2 fr2 ⟨_, s2⟩
          rw [ea, em] at this
          exact this
        · rw [if_pos (by omega)] at ea em
          have := N (by omega) μ4 h2 fr2 ⟨_, s2⟩
          rw [ea, em] at this
          exact this
      refine w_X7_bestTrolley_32 ?_
      refine ⟨(by exact h.1.f), ?_⟩
      rw [hf.n.2.2]
      refine ⟨fun hc2 => ?_, fun hc2 => ?_⟩
      · refine ⟨_, k_answer, ?_⟩
        rintro z2 ρ3 μ4 ⟨hq3_1, hq3_2, hq3_3⟩
        obtain rfl := hq3_1.symm
        obtain rfl := hq3_2.symm
        obtain rfl := hq3_3.symm
        exact pc_fin h hS hfr (fun J => by rw [if_pos hi]; unfold btr2; rw [show (σ 2 61).toNat = x by omega]) (by rw [if_pos hi])
      · refine ⟨(by exact h.1.s), ?_⟩
        refine ⟨(by omega), ?_⟩
        rw [(hs.j hi.2.1 hi.2.2).1]
        refine ⟨fun hc7 => ?_, fun hc7 => ?_⟩
        · exact Y (by omega) (by unfold btT; rw [if_neg (by omega)])
        · refine ⟨_, k_jobsOf h.1.s hs (by omega), ?_⟩
          rintro z7 ρ8 μ9 ⟨hq9_1, hq9_2, hq9_3⟩
          obtain rfl := hq9_1.symm
          obtain rfl := hq9_2.symm
          obtain rfl := hq9_3.symm
          refine ⟨fun hc10 => ?_, fun hc10 => ?_⟩
          · exact Y (by omega) (by unfold btT; rw [if_neg (by omega)])
          · have bt : btT (σ 2) j x = -5 := by unfold btT; rw [if_pos ⟨hc7, by omega⟩]
            rw [if_neg (by omega)] at ea em
            have := N (by omega) μ h hfr hsp
            rw [ea, em] at this
            exact this
  refine e_X7_bestTrolley ?_
  refine ⟨_, k_isJob h0 hS, ?_⟩
  rintro z1 ρ2 μ3 ⟨hz, hq1_1, hq1_2⟩
  obtain rfl := hq1_1.symm
  obtain rfl := hq1_2.symm
  refine ⟨fun hc2 => ?_, fun hc2 => ?_⟩
  · refine ⟨(by exact h0.1.s), ?_⟩
    have fn := h0.1.fn
    refine ⟨_, k_copyFrom (o := 55) rfl h0.1.s (by omega), ?_⟩
    rintro z6 ρ7 μ8 ⟨hq4_1, f1, c1⟩
    obtain rfl := hq4_1.symm
    have pl := h0.pl hS (by omega)
    have n := pl.1.n
    exact L (by omega) _ 0 μ8 (Nat.lt_succ_self _) (by omega) (h0.scr hS (fun a ha => f1 a (by omega))) (f1.mono (by omega) (by omega)) ⟨σ 2 (88 + 5 * j + 0), by rw [u1_id]; exact c1.sp pl.2.2.1 (by omega)⟩
  · refine ⟨_, k_fail, ?_⟩
    rintro z10 ρ11 μ12 ⟨hq6_1, hq6_2, hq6_3⟩
    obtain rfl := hq6_1.symm
    obtain rfl := hq6_2.symm
    obtain rfl := hq6_3.symm
    exact pc_fin h0 hS FR.refl (fun J => (if_neg (by omega)).symm) (by rw [if_neg (by omega)])
end MX
