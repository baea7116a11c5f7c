/-! ===== the class's questions about waits and doors ===== -/
section CT
variable {ρ : Rf} {μ : Mem} {σ : Sg}
theorem c_longestWait {i : Int} (h : CI ρ μ σ) (hS : SI σ) : qE mX7_longestWait GG GG [qP 0, qI i] ρ μ (PC μ ρ (fun J => if σ 0 4 = 1 ∧ 0 ≤ i ∧ i < σ 2 61 then m_I (wtg (σ 2) (sGo (σ 2) (-1) (-1) J) i) (σ 2 87) else -2147483648) (sE σ (if σ 0 4 = 1 ∧ 0 ≤ i ∧ i < σ 2 61 then 0 else 1))) := by
  have L : (σ 0 4 = 1 ∧ 0 ≤ i ∧ i < σ 2 61) → ∀ (k : Nat) (x y : Int), (σ 2 87 - x).toNat < k → 0 ≤ x → x ≤ σ 2 87 → (∀ J, y = m_I (wtg (σ 2) (sGo (σ 2) (-1) (-1) J) i) x) → qX mX7_longestWait GG (PC μ ρ (fun J => if σ 0 4 = 1 ∧ 0 ≤ i ∧ i < σ 2 61 then m_I (wtg (σ 2) (sGo (σ 2) (-1) (-1) J) i) (σ 2 87) else -2147483648) (sE σ (if σ 0 4 = 1 ∧ 0 ≤ i ∧ i < σ 2 61 then 0 else 1))) GG (0, 0) 18 [some (qP 0), some (qI i), some (qI y), some (qI x)] [] ρ μ := by
    intro hi
    obtain ⟨hv, hf, hs, hr⟩ := h.pl hS hi.1
    have n := hv.n
    have hsn := hs.n
    intro k
    induction k with
    | zero => intro x y h; omega
    | succ k ih =>
      intro x y hk h0 h1 hy
      have y0 : 0 ≤ y := by rw [hy μ]; exact m_I0 h0
      refine w_X7_longestWait_18 ?_
      refine ⟨(by exact h.1.s), ?_⟩
      rw [hsn]
      refine ⟨fun hc2 => ?_, fun hc2 => ?_⟩
      · refine ⟨_, k_answer, ?_⟩
        rintro z2 ρ3 μ4 ⟨hq3_1, hq3_2, hq3_3⟩
        obtain rfl := hq3_1.symm
        obtain rfl := hq3_2.symm
        obtain rfl := hq3_3.symm
        exact pc_fin h hS FR.refl (fun J => by rw [if_pos hi, hy J, show x = σ 2 87 by omega]) (by rw [if_pos hi])
      · refine ⟨(by omega), ?_⟩
        rw [(hs.j h0 hc2).1]
        have cj : ∀ J, μ 34 x = sGo (σ 2) (-1) (-1) J 199 x := fun J => ((hr J).1 x h0 hc2).1.2.2.2.1
        refine ⟨fun hc6 => ?_, fun hc6 => ?_⟩
        · refine ⟨(by unfold i32; omega), ?_⟩
          refine ih _ _ (by omega) (by omega) (by omega) (fun J => ?_)
          rw [m_Is h0, ← hy J]
          unfold wtg
          rw [if_neg (fun q => hc6 q.1)]
          omega
        · refine ⟨(by omega), ?_⟩
          refine ⟨fun hc10 => ?_, fun hc10 => ?_⟩
          · refine ⟨(by unfold i32; omega), ?_⟩
            refine ih _ _ (by omega) (by omega) (by omega) (fun J => ?_)
            rw [m_Is h0, ← hy J]
            unfold wtg
            rw [if_neg (fun q => by have := cj J; omega)]
            omega
          · have ct : ∀ J, μ 32 x = sGo (σ 2) (-1) (-1) J 198 x ∧ μ 31 x = sGo (σ 2) (-1) (-1) J 197 x := fun J => by
              have q := (hr J).1 x h0 hc2
              have r := q.2.1
              have c := cj J
              unfold ROk at r
              exact ⟨q.1.2.2.2.2.2.2.2.2.1 (by omega), q.1.2.2.2.2.2.2.1 (by omega)⟩
            have q := (hr μ).1 x h0 hc2
            have r := q.2.1
            have c := cj μ
            have cc := ct μ
            have b := (SV_go (p := σ 2) (wo := -1) (out := -1) (J := μ) hv).2.2.2 x h0 (by omega)
            have bj := hv.j h0 hc2
            have bi := hv.i bj.1 bj.2.1
            unfold ROk at r
            have x1 : 0 ≤ sGo (σ 2) (-1) (-1) μ 196 x * σ 2 (62 + 5 * σ 2 (88 + 5 * x + 0) + 3) := Int.mul_nonneg (by omega) (by omega)
            have x2 : 0 ≤ sGo (σ 2) (-1) (-1) μ 199 x * σ 2 (62 + 5 * σ 2 (88 + 5 * x + 0) + 4) := Int.mul_nonneg (by omega) (by omega)
            refine ⟨(by omega), ?_⟩
            refine ⟨(by omega), ?_⟩
            refine ⟨(by unfold i32; omega), ?_⟩
            refine ⟨(by unfold i32; omega), ?_⟩
            refine ih _ _ (by omega) (by omega) (by omega) (fun J => ?_)
            rw [m_Is h0, ← hy J]
            unfold wtg
            rw [if_pos ⟨hc6, by have := cj J; omega⟩, (ct J).1, (ct J).2]
  refine e_X7_longestWait ?_
  refine ⟨_, k_isTrolley (by assumption) (by assumption), ?_⟩
  rintro z1 ρ2 μ3 ⟨hz, hq1_1, hq1_2⟩
  obtain rfl := hq1_1.symm
  obtain rfl := hq1_2.symm
  refine ⟨fun hc2 => ?_, fun hc2 => ?_⟩
  · have hv := (h.pl hS (by omega)).1
    have n := hv.n
    exact L (by omega) _ 0 0 (Nat.lt_succ_self _) (by omega) (by omega) (fun J => rfl)
  · refine ⟨_, k_fail, ?_⟩
    rintro z5 ρ6 μ7 ⟨hq4_1, hq4_2, hq4_3⟩
    obtain rfl := hq4_1.symm
    obtain rfl := hq4_2.symm
    obtain rfl := hq4_3.symm
    exact pc_fin h hS FR.refl (fun J => (if_neg (by omega)).symm) (by rw [if_neg (by omega)])
theorem bsy_b {p : Pl} {t c : Int} {J : Mem} (hv : PV p) : ∀ j, 0 ≤ j → j < p 87 → 0 ≤ bsy p (sGo p (-1) (-1) J) t c j ∧ bsy p (sGo p (-1) (-1) J) t c j ≤ 495 := fun j j0 j1 => by
  have n := hv.n
  have b := (SV_go (p := p) (wo := -1) (out := -1) (J := J) hv).2.2.2 j j0 (by omega)
  have bj := hv.j j0 j1
  have bi := hv.i bj.1 bj.2.1
  have x := mulb b.1 b.2.1 (show 0 ≤ p (62 + 5 * p (88 + 5 * j + 0) + 4) by omega) (show p (62 + 5 * p (88 + 5 * j + 0) + 4) ≤ 5 by omega)
  unfold bsy
  split <;> omega
theorem c_doorBusy {t c : Int} (h : CI ρ μ σ) (hS : SI σ) : qE mX7_doorBusy GG GG [qP 0, qI t, qI c] ρ μ (PC μ ρ (fun J => if σ 0 4 = 1 ∧ 0 ≤ t ∧ t < 2 ∧ 0 ≤ c ∧ c < σ 2 (4 + t) then s_I (bsy (σ 2) (sGo (σ 2) (-1) (-1) J) t c) (σ 2 87) else -2147483648) (sE σ (if σ 0 4 = 1 ∧ 0 ≤ t ∧ t < 2 ∧ 0 ≤ c ∧ c < σ 2 (4 + t) then 0 else 1))) := by
  have L : (σ 0 4 = 1 ∧ 0 ≤ t ∧ t < 2 ∧ 0 ≤ c ∧ c < σ 2 (4 + t)) → ∀ (k : Nat) (x y : Int), (σ 2 87 - x).toNat < k → 0 ≤ x → x ≤ σ 2 87 → (∀ J, y = s_I (bsy (σ 2) (sGo (σ 2) (-1) (-1) J) t c) x) → qX mX7_doorBusy GG (PC μ ρ (fun J => if σ 0 4 = 1 ∧ 0 ≤ t ∧ t < 2 ∧ 0 ≤ c ∧ c < σ 2 (4 + t) then s_I (bsy (σ 2) (sGo (σ 2) (-1) (-1) J) t c) (σ 2 87) else -2147483648) (sE σ (if σ 0 4 = 1 ∧ 0 ≤ t ∧ t < 2 ∧ 0 ≤ c ∧ c < σ 2 (4 + t) then 0 else 1))) GG (0, 0) 20 [some (qP 0), some (qI t), some (qI c), some (qI y), some (qI x)] [] ρ μ := by
    intro hi
    obtain ⟨hv, hf, hs, hr⟩ := h.pl hS hi.1
    have n := hv.n
    have hsn := hs.n
    have tt := hv.t hi.2.1 hi.2.2.1
    intro k
    induction k with
    | zero => intro x y h; omega
    | succ k ih =>
      intro x y hk h0 h1 hy
      have sb := s_Ib (f := bsy (σ 2) (sGo (σ 2) (-1) (-1) μ) t c) (n := x) (b := 495) h0 (fun j j0 j1 => bsy_b hv j j0 (by omega))
      have hy0 := hy μ
      refine w_X7_doorBusy_20 ?_
      refine ⟨(by exact h.1.s), ?_⟩
      rw [hsn]
      refine ⟨fun hc2 => ?_, fun hc2 => ?_⟩
      · refine ⟨_, k_answer, ?_⟩
        rintro z2 ρ3 μ4 ⟨hq3_1, hq3_2, hq3_3⟩
        obtain rfl := hq3_1.symm
        obtain rfl := hq3_2.symm
        obtain rfl := hq3_3.symm
        exact pc_fin h hS FR.refl (fun J => by rw [if_pos hi, hy J, show x = σ 2 87 by omega]) (by rw [if_pos hi])
      · refine ⟨(by omega), ?_⟩
        refine ⟨_, k_doorIndex (by omega) (by omega), ?_⟩
        rintro z6 ρ7 μ8 ⟨hq6_1, hq6_2, hq6_3⟩
        obtain rfl := hq6_1.symm
        obtain rfl := hq6_2.symm
        obtain rfl := hq6_3.symm
        rw [(hs.j h0 hc2).2.1]
        have bj := hv.j h0 hc2
        have t2 := hv.t bj.2.2.1 bj.2.2.2.1
        refine ⟨fun hc7 => ?_, fun hc7 => ?_⟩
        · refine ⟨(by unfold i32; omega), ?_⟩
          refine ih _ _ (by omega) (by omega) (by omega) (fun J => ?_)
          rw [s_Is h0, ← hy J]
          unfold bsy
          rw [if_neg (fun q => hc7 (by rw [q.1, q.2]))]
          omega
        · have hb : σ 2 (88 + 5 * x + 1) = t ∧ σ 2 (88 + 5 * x + 2) = c := by omega
          have e : ∀ J, μ 33 x - μ 32 x = bsy (σ 2) (sGo (σ 2) (-1) (-1) J) t c x := fun J => by
            have q := ((hr J).1 x h0 hc2).1.2.2.2.2.2.2.2.2.2
            have e6 : μ (27 + 6) x = μ 33 x := rfl
            have e5 : μ (27 + 5) x = μ 32 x := rfl
            rw [e6, e5] at q
            unfold bsy
            rw [if_pos hb]
            omega
          have eb := bsy_b (t := t) (c := c) (J := μ) hv x h0 hc2
          have e0 := e μ
          refine ⟨(by omega), ?_⟩
          refine ⟨(by omega), ?_⟩
          refine ⟨(by unfold i32; omega), ?_⟩
          refine ⟨(by unfold i32; omega), ?_⟩
          refine ⟨(by unfold i32; omega), ?_⟩
          refine ih _ _ (by omega) (by omega) (by omega) (fun J => ?_)
          rw [s_Is h0, ← hy J, ← e J]
  refine e_X7_doorBusy ?_
  refine ⟨_, k_isCar (by assumption) (by assumption), ?_⟩
  rintro z1 ρ2 μ3 ⟨hz, hq1_1, hq1_2⟩
  obtain rfl := hq1_1.symm
  obtain rfl := hq1_2.symm
  refine ⟨fun hc2 => ?_, fun hc2 => ?_⟩
  · have hv := (h.pl hS (by omega)).1
    have n := hv.n
    exact L (by omega) _ 0 0 (Nat.lt_succ_self _) (by omega) (by omega) (fun J => rfl)
  · refine ⟨_, k_fail, ?_⟩
    rintro z5 ρ6 μ7 ⟨hq4_1, hq4_2, hq4_3⟩
    obtain rfl := hq4_1.symm
    obtain rfl := hq4_2.symm
    obtain rfl := hq4_3.symm
    exact pc_fin h hS FR.refl (fun J => (if_neg (by omega)).symm) (by rw [if_neg (by omega)])
/-- the memory that is nothing but 0 -/
def Z0 : Mem := fun _ _ => 0
theorem c_unloadTime {j : Int} (h : CI ρ μ σ) (hS : SI σ) : qE mX7_unloadTime GG GG [qP 0, qI j] ρ μ (PC μ ρ (fun J => if σ 0 4 = 1 ∧ 0 ≤ j ∧ j < σ 2 87 then (if sGo (σ 2) (-1) (-1) Z0 199 j = 0 then -2147483648 else sGo (σ 2) (-1) (-1) J 198 j) else -2147483648) (sE σ (if σ 0 4 = 1 ∧ 0 ≤ j ∧ j < σ 2 87 then (if sGo (σ 2) (-1) (-1) Z0 199 j = 0 then 6 else 0) else 1))) := by
  refine e_X7_unloadTime ?_
  refine ⟨_, k_isJob (by assumption) (by assumption), ?_⟩
  rintro z1 ρ2 μ3 ⟨hz, hq1_1, hq1_2⟩
  obtain rfl := hq1_1.symm
  obtain rfl := hq1_2.symm
  refine ⟨fun hc2 => ?_, fun hc2 => ?_⟩
  · obtain ⟨hv, hf, hs, hr⟩ := h.pl hS (by omega)
    have n := hv.n
    have cj : μ 34 j = sGo (σ 2) (-1) (-1) Z0 199 j := ((hr Z0).1 j (by omega) (by omega)).1.2.2.2.1
    refine ⟨(by omega), ?_⟩
    refine ⟨fun hc4 => ?_, fun hc4 => ?_⟩
    · refine ⟨(by omega), ?_⟩
      refine ⟨_, k_answer, ?_⟩
      rintro z5 ρ6 μ7 ⟨hq6_1, hq6_2, hq6_3⟩
      obtain rfl := hq6_1.symm
      obtain rfl := hq6_2.symm
      obtain rfl := hq6_3.symm
      exact pc_fin h hS FR.refl (fun J => by rw [if_pos (by omega), if_neg (by omega)]; exact ((hr J).1 j (by omega) (by omega)).1.2.2.2.2.2.2.2.2.1 (by rw [← ((hr J).1 j (by omega) (by omega)).1.2.2.2.1]; exact hc4)) (by rw [if_pos (by omega), if_neg (by omega)])
    · refine ⟨_, k_fail, ?_⟩
      rintro z9 ρ10 μ11 ⟨hq8_1, hq8_2, hq8_3⟩
      obtain rfl := hq8_1.symm
      obtain rfl := hq8_2.symm
      obtain rfl := hq8_3.symm
      exact pc_fin h hS FR.refl (fun J => by rw [if_pos (by omega), if_pos (by omega)]) (by rw [if_pos (by omega), if_pos (by omega)])
  · refine ⟨_, k_fail, ?_⟩
    rintro z13 ρ14 μ15 ⟨hq10_1, hq10_2, hq10_3⟩
    obtain rfl := hq10_1.symm
    obtain rfl := hq10_2.symm
    obtain rfl := hq10_3.symm
    exact pc_fin h hS FR.refl (fun J => (if_neg (by omega)).symm) (by rw [if_neg (by omega)])
end CT
