/-! ===== the reference: shares, meals carried ===== -/
section MY
variable {ρ : Rf} {μ : Mem} {σ : Sg}
/-- cells that are no part of what holds between calls -/
theorem MJ.scr {μ' : Mem} {lo hi : Nat} (h : MJ μ σ) (hf : FR lo hi μ μ') (hl : 184 ≤ lo) : MJ μ' σ :=
  h.fr (hf 179 (by omega)) (hf 180 (by omega)) (hf 182 (by omega)) (hf 183 (by omega)) (fun j _ _ _ _ _ _ _ _ _ _ _ => by rw [hf 178 (by omega)])
theorem q_share {t c m : Int} (h : MJ μ σ) (hS : SI σ) : qE mX8_share GG GG [qP 178, qI t, qI c, qI m] ρ μ (PM μ ρ (fun J => if σ 0 4 = 1 ∧ 0 ≤ t ∧ t < 2 ∧ 0 ≤ c ∧ c < σ 2 (4 + t) ∧ 0 ≤ m ∧ m < σ 2 36 then lSh (σ 2 (4 + t)) (fun c => dem (σ 2) t c m) (dlT (σ 2) (sGo (σ 2) (-1) (-1) J 199) t m) c else -2147483648) (sE σ (if σ 0 4 = 1 ∧ 0 ≤ t ∧ t < 2 ∧ 0 ≤ c ∧ c < σ 2 (4 + t) ∧ 0 ≤ m ∧ m < σ 2 36 then 0 else 1))) := by
  have hb := hS.2.2.1
  have h20 := h.2.2.2.2.2.1
  have h180 := h.2.2.2.2.2.2.2.1
  have hn : σ 0 4 = 1 → PV (σ 2) := fun e => (hS.2.2.2.2.2.2.2.2 e).1.1
  have fth : FR 178 207 μ (up2 μ 178 0 0) := FR.up FR.refl (by omega)
  have tth : up2 μ 178 0 0 180 = σ 2 := by rw [up2_c (by decide)]; exact h180
  have g180 := go_180 (p := σ 2) (wo := -1) (out := -1) tth
  have L23 : ∀ x, (x = 1 ∧ σ 0 4 = 1 ∧ 0 ≤ t ∧ t < 2 ∧ 0 ≤ c ∧ c < σ 2 (4 + t) ∧ 0 ≤ m ∧ m < σ 2 36) ∨ (x = 0 ∧ ¬ (σ 0 4 = 1 ∧ 0 ≤ t ∧ t < 2 ∧ 0 ≤ c ∧ c < σ 2 (4 + t) ∧ 0 ≤ m ∧ m < σ 2 36)) → qX mX8_share GG (PM μ ρ (fun J => if σ 0 4 = 1 ∧ 0 ≤ t ∧ t < 2 ∧ 0 ≤ c ∧ c < σ 2 (4 + t) ∧ 0 ≤ m ∧ m < σ 2 36 then lSh (σ 2 (4 + t)) (fun c => dem (σ 2) t c m) (dlT (σ 2) (sGo (σ 2) (-1) (-1) J 199) t m) c else -2147483648) (sE σ (if σ 0 4 = 1 ∧ 0 ≤ t ∧ t < 2 ∧ 0 ≤ c ∧ c < σ 2 (4 + t) ∧ 0 ≤ m ∧ m < σ 2 36 then 0 else 1))) GG (0, 0) 23 [some (qP 178), some (qI t), some (qI c), some (qI m)] [qI x, qP 178] ρ μ := by
    intro x hx
    refine w_X8_share_23 ?_
    refine ⟨_, m_goesFor h (by omega) (fun e => hn (by omega)), ?_⟩
    rintro z1 ρ2 μ3 ⟨hq1_1, hq1_2, hg⟩
    obtain rfl := hq1_1.symm
    obtain rfl := hq1_2.symm
    refine ⟨fun hc2 => ?_, fun hc2 => ?_⟩
    · obtain ⟨ha, rfl⟩ : x = 1 ∧ μ3 = sGo (σ 2) (-1) (-1) (up2 μ 178 0 0) := by
        rcases hg with ⟨a, _⟩ | h
        · omega
        · exact h
      have hv := hn (by omega)
      have n := hv.n
      have ub := go_ub (p := σ 2) (wo := -1) (out := -1) (J := up2 μ 178 0 0) hv
      have tt := hv.t (t := t) (by omega) (by omega)
      refine ⟨_, m_layShares g180 hv ub (t := t) (m := m) (by omega) (by omega), ?_⟩
      rintro z5 ρ6 μ7 ⟨hq3_1, f1, s1⟩
      obtain rfl := hq3_1.symm
      refine ⟨(by omega), ?_⟩
      refine ⟨_, m_done, ?_⟩
      rintro z9 ρ10 μ11 ⟨hq5_1, hq5_2, hq5_3⟩
      obtain rfl := hq5_1.symm
      obtain rfl := hq5_2.symm
      obtain rfl := hq5_3.symm
      exact pm_fin (h.th.go.scr f1 (by omega)) (fth.go.trans (f1.mono (by omega) (by omega))) ⟨up2 μ 178 0 0, by rw [if_pos (by omega)]; exact s1 c (by omega) (by omega)⟩ (by rw [if_pos (by omega)])
    · refine ⟨_, m_failed, ?_⟩
      rintro z13 ρ14 μ15 ⟨hq7_1, hq7_2, hq7_3⟩
      obtain rfl := hq7_1.symm
      obtain rfl := hq7_2.symm
      obtain rfl := hq7_3.symm
      rcases hg with ⟨a, rfl⟩ | ⟨a, rfl⟩
      · exact pm_fin h.th fth ⟨μ, (if_neg (by omega)).symm⟩ (by rw [if_neg (by omega)])
      · omega
  have L22 : ¬ (σ 0 4 = 1 ∧ 0 ≤ t ∧ t < 2 ∧ 0 ≤ c ∧ c < σ 2 (4 + t) ∧ 0 ≤ m ∧ m < σ 2 36) → qX mX8_share GG (PM μ ρ (fun J => if σ 0 4 = 1 ∧ 0 ≤ t ∧ t < 2 ∧ 0 ≤ c ∧ c < σ 2 (4 + t) ∧ 0 ≤ m ∧ m < σ 2 36 then lSh (σ 2 (4 + t)) (fun c => dem (σ 2) t c m) (dlT (σ 2) (sGo (σ 2) (-1) (-1) J 199) t m) c else -2147483648) (sE σ (if σ 0 4 = 1 ∧ 0 ≤ t ∧ t < 2 ∧ 0 ≤ c ∧ c < σ 2 (4 + t) ∧ 0 ≤ m ∧ m < σ 2 36 then 0 else 1))) GG (0, 0) 22 [some (qP 178), some (qI t), some (qI c), some (qI m)] [qP 178] ρ μ := by
    intro hx
    refine w_X8_share_22 ?_
    exact L23 0 (Or.inr ⟨rfl, hx⟩)
  refine e_X8_share ?_
  refine ⟨_, m_isCar h hS, ?_⟩
  rintro z1 ρ2 μ3 ⟨hz, hq1_1, hq1_2⟩
  obtain rfl := hq1_1.symm
  obtain rfl := hq1_2.symm
  refine ⟨fun hc2 => ?_, fun hc2 => ?_⟩
  · exact L22 (by omega)
  · refine ⟨_, m_isMeal h hS, ?_⟩
    rintro z5 ρ6 μ7 ⟨hy, hq4_1, hq4_2⟩
    obtain rfl := hq4_1.symm
    obtain rfl := hq4_2.symm
    refine ⟨fun hc5 => ?_, fun hc5 => ?_⟩
    · exact L22 (by omega)
    · exact L23 1 (by omega)
theorem q_carried {t m : Int} (h : MJ μ σ) (hS : SI σ) : qE mX8_carried GG GG [qP 178, qI t, qI m] ρ μ (PM μ ρ (fun J => if σ 0 4 = 1 ∧ 0 ≤ t ∧ t < 2 ∧ 0 ≤ m ∧ m < σ 2 36 then car (σ 2) (sGo (σ 2) (-1) (-1) J 199) t m else -2147483648) (sE σ (if σ 0 4 = 1 ∧ 0 ≤ t ∧ t < 2 ∧ 0 ≤ m ∧ m < σ 2 36 then 0 else 1))) := by
  have hb := hS.2.2.1
  have h20 := h.2.2.2.2.2.1
  have h180 := h.2.2.2.2.2.2.2.1
  have hn : σ 0 4 = 1 → PV (σ 2) := fun e => (hS.2.2.2.2.2.2.2.2 e).1.1
  have fth : FR 178 207 μ (up2 μ 178 0 0) := FR.up FR.refl (by omega)
  have tth : up2 μ 178 0 0 180 = σ 2 := by rw [up2_c (by decide)]; exact h180
  have g180 := go_180 (p := σ 2) (wo := -1) (out := -1) tth
  have L45 : (σ 0 4 = 1 ∧ 0 ≤ t ∧ t < 2 ∧ 0 ≤ m ∧ m < σ 2 36) → ∀ ν, FR 203 204 (sGo (σ 2) (-1) (-1) (up2 μ 178 0 0)) ν → (∀ c, 0 ≤ c → c < σ 2 (4 + t) → ν 203 c = lSh (σ 2 (4 + t)) (fun c => dem (σ 2) t c m) (dlT (σ 2) (sGo (σ 2) (-1) (-1) (up2 μ 178 0 0) 199) t m) c) → ∀ (k : Nat) (x : Int), (σ 2 (4 + t) - x).toNat < k → 0 ≤ x → x ≤ σ 2 (4 + t) → qX mX8_carried GG (PM μ ρ (fun J => if σ 0 4 = 1 ∧ 0 ≤ t ∧ t < 2 ∧ 0 ≤ m ∧ m < σ 2 36 then car (σ 2) (sGo (σ 2) (-1) (-1) J 199) t m else -2147483648) (sE σ (if σ 0 4 = 1 ∧ 0 ≤ t ∧ t < 2 ∧ 0 ≤ m ∧ m < σ 2 36 then 0 else 1))) GG (0, 0) 45 [some (qP 178), some (qI t), some (qI m), some (qI (s_I (fun c => max 0 (lSh (σ 2 (4 + t)) (fun c => dem (σ 2) t c m) (dlT (σ 2) (sGo (σ 2) (-1) (-1) (up2 μ 178 0 0) 199) t m) c - dlv (σ 2) (sGo (σ 2) (-1) (-1) (up2 μ 178 0 0) 199) t c m)) x)), some (qI x)] [] ρ ν := by
    intro hi ν fν sν
    have hv := hn hi.1
    have n := hv.n
    have tt := hv.t hi.2.1 hi.2.2.1
    have ub := go_ub (p := σ 2) (wo := -1) (out := -1) (J := up2 μ 178 0 0) hv
    have e199 : ν 199 = sGo (σ 2) (-1) (-1) (up2 μ 178 0 0) 199 := fν 199 (by omega)
    have e180 : ν 180 = σ 2 := by rw [fν 180 (by omega)]; exact g180
    have dl := dlT_b (p := σ 2) (u := sGo (σ 2) (-1) (-1) (up2 μ 178 0 0) 199) (t := t) (m := m) (by omega) (by omega) ub
    have bb1 : ∀ c, 0 ≤ c → c < σ 2 (4 + t) → 0 ≤ ν 203 c ∧ ν 203 c ≤ 30000 := fun c c0 c1 => by
      rw [sν c c0 c1]
      exact lSh_b (by omega) (by omega) (fun j j0 j1 => dem_b hv hi.2.1 hi.2.2.1 j0 j1 hi.2.2.2.1 hi.2.2.2.2) c c0 c1
    intro k
    induction k with
    | zero => intro x h; omega
    | succ k ih =>
      intro x hk h0 h1
      have sb := s_Ib (f := (fun c => max 0 (lSh (σ 2 (4 + t)) (fun c => dem (σ 2) t c m) (dlT (σ 2) (sGo (σ 2) (-1) (-1) (up2 μ 178 0 0) 199) t m) c - dlv (σ 2) (sGo (σ 2) (-1) (-1) (up2 μ 178 0 0) 199) t c m))) (n := x) (b := 30000) h0 (fun c c0 c1 => by
        have a := bb1 c c0 (by omega)
        have b := dlv_b (p := σ 2) (u := sGo (σ 2) (-1) (-1) (up2 μ 178 0 0) 199) (t := t) (c := c) (m := m) (by omega) ub
        rw [sν c c0 (by omega)] at a
        omega)
      have lx := dlv_b (p := σ 2) (u := sGo (σ 2) (-1) (-1) (up2 μ 178 0 0) 199) (t := t) (c := x) (m := m) (by omega) ub
      refine w_X8_carried_45 ?_
      rw [e180]
      refine ⟨(by unfold i32; omega), ?_⟩
      refine ⟨(by omega), ?_⟩
      refine ⟨fun hc3 => ?_, fun hc3 => ?_⟩
      · refine ⟨_, m_done, ?_⟩
        rintro z1 ρ2 μ3 ⟨hq4_1, hq4_2, hq4_3⟩
        obtain rfl := hq4_1.symm
        obtain rfl := hq4_2.symm
        obtain rfl := hq4_3.symm
        exact pm_fin (h.th.go.scr fν (by omega)) (fth.go.trans (fν.mono (by omega) (by omega))) ⟨up2 μ 178 0 0, by rw [if_pos hi, show x = σ 2 (4 + t) by omega]; rfl⟩ (by rw [if_pos hi])
      · refine ⟨(by omega), ?_⟩
        refine ⟨_, m_deliveredTo (p := σ 2) e180 hv (by rw [e199]; exact ub), ?_⟩
        rintro z5 ρ6 μ7 ⟨hq7_1, hq7_2, hq7_3⟩
        obtain rfl := hq7_1.symm
        obtain rfl := hq7_2.symm
        obtain rfl := hq7_3.symm
        rw [e199]
        have bx := bb1 x h0 hc3
        refine ⟨(by unfold i32; omega), ?_⟩
        refine ⟨(by unfold i32; omega), ?_⟩
        refine ⟨(by unfold i32; omega), ?_⟩
        have e := s_Is (f := (fun c => max 0 (lSh (σ 2 (4 + t)) (fun c => dem (σ 2) t c m) (dlT (σ 2) (sGo (σ 2) (-1) (-1) (up2 μ 178 0 0) 199) t m) c - dlv (σ 2) (sGo (σ 2) (-1) (-1) (up2 μ 178 0 0) 199) t c m))) h0
        rw [sν x h0 hc3, ← e]
        exact ih _ (by omega) (by omega) (by omega)
  have L22 : ∀ x, (x = 1 ∧ σ 0 4 = 1 ∧ 0 ≤ t ∧ t < 2 ∧ 0 ≤ m ∧ m < σ 2 36) ∨ (x = 0 ∧ ¬ (σ 0 4 = 1 ∧ 0 ≤ t ∧ t < 2 ∧ 0 ≤ m ∧ m < σ 2 36)) → qX mX8_carried GG (PM μ ρ (fun J => if σ 0 4 = 1 ∧ 0 ≤ t ∧ t < 2 ∧ 0 ≤ m ∧ m < σ 2 36 then car (σ 2) (sGo (σ 2) (-1) (-1) J 199) t m else -2147483648) (sE σ (if σ 0 4 = 1 ∧ 0 ≤ t ∧ t < 2 ∧ 0 ≤ m ∧ m < σ 2 36 then 0 else 1))) GG (0, 0) 22 [some (qP 178), some (qI t), some (qI m), none, none] [qI x, qP 178] ρ μ := by
    intro x hx
    refine w_X8_carried_22 ?_
    refine ⟨_, m_goesFor h (by omega) (fun e => hn (by omega)), ?_⟩
    rintro z1 ρ2 μ3 ⟨hq1_1, hq1_2, hg⟩
    obtain rfl := hq1_1.symm
    obtain rfl := hq1_2.symm
    refine ⟨fun hc2 => ?_, fun hc2 => ?_⟩
    · obtain ⟨ha, rfl⟩ : x = 1 ∧ μ3 = sGo (σ 2) (-1) (-1) (up2 μ 178 0 0) := by
        rcases hg with ⟨a, _⟩ | h
        · omega
        · exact h
      have hv := hn (by omega)
      have n := hv.n
      have ub := go_ub (p := σ 2) (wo := -1) (out := -1) (J := up2 μ 178 0 0) hv
      have tt := hv.t (t := t) (by omega) (by omega)
      refine ⟨_, m_layShares g180 hv ub (t := t) (m := m) (by omega) (by omega), ?_⟩
      rintro z5 ρ6 μ7 ⟨hq3_1, f1, s1⟩
      obtain rfl := hq3_1.symm
      exact L45 (by omega) _ f1 s1 _ 0 (Nat.lt_succ_self _) (by omega) (by omega)
    · refine ⟨_, m_failed, ?_⟩
      rintro z9 ρ10 μ11 ⟨hq5_1, hq5_2, hq5_3⟩
      obtain rfl := hq5_1.symm
      obtain rfl := hq5_2.symm
      obtain rfl := hq5_3.symm
      rcases hg with ⟨a, rfl⟩ | ⟨a, rfl⟩
      · exact pm_fin h.th fth ⟨μ, (if_neg (by omega)).symm⟩ (by rw [if_neg (by omega)])
      · omega
  have L21 : ¬ (σ 0 4 = 1 ∧ 0 ≤ t ∧ t < 2 ∧ 0 ≤ m ∧ m < σ 2 36) → qX mX8_carried GG (PM μ ρ (fun J => if σ 0 4 = 1 ∧ 0 ≤ t ∧ t < 2 ∧ 0 ≤ m ∧ m < σ 2 36 then car (σ 2) (sGo (σ 2) (-1) (-1) J 199) t m else -2147483648) (sE σ (if σ 0 4 = 1 ∧ 0 ≤ t ∧ t < 2 ∧ 0 ≤ m ∧ m < σ 2 36 then 0 else 1))) GG (0, 0) 21 [some (qP 178), some (qI t), some (qI m), none, none] [qP 178] ρ μ := by
    intro hx
    refine w_X8_carried_21 ?_
    exact L22 0 (Or.inr ⟨rfl, hx⟩)
  refine e_X8_carried ?_
  refine ⟨_, m_isTrainNow h hS, ?_⟩
  rintro z1 ρ2 μ3 ⟨hz, hq1_1, hq1_2⟩
  obtain rfl := hq1_1.symm
  obtain rfl := hq1_2.symm
  refine ⟨fun hc2 => ?_, fun hc2 => ?_⟩
  · exact L21 (by omega)
  · refine ⟨_, m_isMeal h hS, ?_⟩
    rintro z5 ρ6 μ7 ⟨hy, hq4_1, hq4_2⟩
    obtain rfl := hq4_1.symm
    obtain rfl := hq4_2.symm
    refine ⟨fun hc5 => ?_, fun hc5 => ?_⟩
    · exact L21 (by omega)
    · exact L22 1 (by omega)
/-! ### both trains -/
def isS (p : Pl) (k : Int) : Prop := k % 5 < p (4 + k / 5)
def cmpS (p : Pl) (k : Int) : Int := if k < 5 then k else p (4 + 0) + (k - 5)
def slt (p : Pl) (j : Int) : Int := if j < p (4 + 0) then j else 5 + (j - p (4 + 0))
theorem s_Iadd {f : Int → Int} {a b : Int} (ha : 0 ≤ a) (hb : 0 ≤ b) : s_I f (a + b) = s_I f a + s_I (fun k => f (a + k)) b := by
  refine i_ind (P := fun b => s_I f (a + b) = s_I f a + s_I (fun k => f (a + k)) b) ?_ ?_ b hb
  · rw [Int.add_zero, s_I0, Int.add_zero]
  · intro n hn ih
    rw [← Int.add_assoc, s_Is (by omega), s_Is hn, ih]
    omega
theorem slt_s {p : Pl} (hv : PV p) : (∀ j, 0 ≤ j → j < p (4 + 0) + p (4 + 1) → 0 ≤ slt p j ∧ slt p j < 10 ∧ isS p (slt p j) ∧ cmpS p (slt p j) = j) ∧ ∀ k, 0 ≤ k → k < 10 → isS p k → 0 ≤ cmpS p k ∧ cmpS p k < p (4 + 0) + p (4 + 1) ∧ slt p (cmpS p k) = k := by
  have t0 := hv.t (t := 0) (by omega) (by omega)
  have t1 := hv.t (t := 1) (by omega) (by omega)
  refine ⟨fun j j0 j1 => ?_, fun k k0 k1 hk => ?_⟩
  · by_cases e : j < p (4 + 0)
    · have es : slt p j = j := by unfold slt; rw [if_pos e]
      have e5 : j / 5 = 0 := by omega
      rw [es]
      refine ⟨by omega, by omega, ?_, ?_⟩
      · unfold isS; rw [e5]; omega
      · unfold cmpS; rw [if_pos (by omega)]
    · have es : slt p j = 5 + (j - p (4 + 0)) := by unfold slt; rw [if_neg e]
      have e5 : (5 + (j - p (4 + 0))) / 5 = 1 := by omega
      rw [es]
      refine ⟨by omega, by omega, ?_, ?_⟩
      · unfold isS; rw [e5]; omega
      · unfold cmpS; rw [if_neg (by omega)]; omega
  · unfold isS at hk
    by_cases e : k < 5
    · have e5 : k / 5 = 0 := by omega
      rw [e5] at hk
      have es : cmpS p k = k := by unfold cmpS; rw [if_pos e]
      rw [es]
      refine ⟨by omega, by omega, ?_⟩
      unfold slt
      rw [if_pos (by omega)]
    · have e5 : k / 5 = 1 := by omega
      rw [e5] at hk
      have es : cmpS p k = p (4 + 0) + (k - 5) := by unfold cmpS; rw [if_neg e]
      rw [es]
      refine ⟨by omega, by omega, ?_⟩
      unfold slt
      rw [if_neg (by omega)]
      omega
def SLR (p : Pl) (a b : Int → Int) (f : Fp) : Prop := (∀ k, 0 ≤ k → k < 10 → isS p k → a k = f.1 (cmpS p k) ∧ b k = f.2 (cmpS p k)) ∧ (∀ k, 0 ≤ k → k < 10 → ¬ isS p k → b k = -1) ∧ ∀ j, 0 ≤ j → j < p (4 + 0) + p (4 + 1) → -1 ≤ f.2 j
theorem slr_lrg {p : Pl} {a b : Int → Int} {f : Fp} (hv : PV p) (h : SLR p a b f) : lrg b 10 = slt p (lrg f.2 (p (4 + 0) + p (4 + 1))) := by
  have t0 := hv.t (t := 0) (by omega) (by omega)
  have t1 := hv.t (t := 1) (by omega) (by omega)
  obtain ⟨s1, s2⟩ := slt_s hv
  obtain ⟨l0, l1, l2⟩ := lrg_s (r := f.2) (n := p (4 + 0) + p (4 + 1)) (by omega)
  obtain ⟨x0, x1, x2, x3⟩ := s1 _ l0 l1
  have hb : b (slt p (lrg f.2 (p (4 + 0) + p (4 + 1)))) = f.2 (lrg f.2 (p (4 + 0) + p (4 + 1))) := by
    rw [(h.1 _ x0 x1 x2).2, x3]
  refine lrg_u x0 x1 (fun k k0 k1 => ?_)
  rw [hb]
  by_cases hk : isS p k
  · obtain ⟨y0, y1, y2⟩ := s2 k k0 k1 hk
    have := l2 _ y0 y1
    rw [(h.1 k k0 k1 hk).2]
    have mono : lrg f.2 (p (4 + 0) + p (4 + 1)) ≤ cmpS p k → slt p (lrg f.2 (p (4 + 0) + p (4 + 1))) ≤ k := fun q => by
      rw [← y2]
      unfold slt
      split <;> split <;> omega
    omega
  · rw [h.2.1 k k0 k1 hk]
    have q := h.2.2 _ l0 l1
    by_cases e : f.2 (lrg f.2 (p (4 + 0) + p (4 + 1))) = -1
    · right
      refine ⟨e.symm, ?_⟩
      have z := l2 0 (by omega) (by omega)
      have z2 := h.2.2 0 (by omega) (by omega)
      have e0 : lrg f.2 (p (4 + 0) + p (4 + 1)) = 0 := by omega
      rw [e0]
      unfold slt
      rw [if_pos (by omega)]
      omega
    · left; omega
theorem slr_s {p : Pl} {a b : Int → Int} {f : Fp} (hv : PV p) (h : SLR p a b f) : SLR p (u1 a (lrg b 10) (a (lrg b 10) + 1)) (u1 b (lrg b 10) (-1)) (shS (p (4 + 0) + p (4 + 1)) f) := by
  have t0 := hv.t (t := 0) (by omega) (by omega)
  have t1 := hv.t (t := 1) (by omega) (by omega)
  obtain ⟨s1, s2⟩ := slt_s hv
  obtain ⟨l0, l1, l2⟩ := lrg_s (r := f.2) (n := p (4 + 0) + p (4 + 1)) (by omega)
  obtain ⟨x0, x1, x2, x3⟩ := s1 _ l0 l1
  have e := slr_lrg hv h
  have hiff : ∀ k, 0 ≤ k → k < 10 → isS p k → (k = lrg b 10 ↔ cmpS p k = lrg f.2 (p (4 + 0) + p (4 + 1))) := fun k k0 k1 hk => by
    rw [e]
    constructor
    · intro q; rw [q, x3]
    · intro q; rw [← q, (s2 k k0 k1 hk).2.2]
  refine ⟨fun k k0 k1 hk => ?_, fun k k0 k1 hk => ?_, fun j j0 j1 => ?_⟩
  · have hh := h.1 k k0 k1 hk
    unfold shS
    dsimp only
    unfold u1
    by_cases q : k = lrg b 10
    · have q2 := (hiff k k0 k1 hk).mp q
      rw [if_pos q, if_pos q2, if_pos q, if_pos q2, ← q, ← q2, hh.1]
      exact ⟨rfl, rfl⟩
    · have q2 := fun r => q ((hiff k k0 k1 hk).mpr r)
      rw [if_neg q, if_neg q2, if_neg q, if_neg q2]
      exact hh
  · unfold u1
    split
    · rfl
    · exact h.2.1 k k0 k1 hk
  · unfold shS
    dsimp only
    unfold u1
    split
    · omega
    · exact h.2.2 j j0 j1
end MY
