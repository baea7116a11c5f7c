/-! ===== the reference's sums, its questions about waits and doors ===== -/
section MS
variable {ρ : Rf} {μ : Mem} {σ : Sg} {p : Pl}
theorem m_deliveredTo {t c m : Int} (hp : μ 180 = p) (hv : PV p) (ub : UB p (μ 199)) : qE mX8_deliveredTo GG GG [qP 178, qI t, qI c, qI m] ρ μ (fun z ρ' μ' => z = dlv p (μ 199) t c m ∧ ρ' = ρ ∧ μ' = μ) := by
  have n := hv.n
  have L : ∀ (k : Nat) (x : Int), (p 87 - x).toNat < k → 0 ≤ x → x ≤ p 87 → qX mX8_deliveredTo GG (fun z ρ' μ' => z = dlv p (μ 199) t c m ∧ ρ' = ρ ∧ μ' = μ) GG (0, 0) 6 [some (qP 178), some (qI t), some (qI c), some (qI m), some (qI (s_I (fun j => if p (88 + 5 * j + 1) = t ∧ p (88 + 5 * j + 2) = c ∧ p (88 + 5 * j + 3) = m then μ 199 j else 0) x)), some (qI x)] [] ρ μ := by
    intro k
    induction k with
    | zero => intro x h; omega
    | succ k ih =>
      intro x hk h0 h1
      have sb := s_Ib (f := (fun j => if p (88 + 5 * j + 1) = t ∧ p (88 + 5 * j + 2) = c ∧ p (88 + 5 * j + 3) = m then μ 199 j else 0)) (n := x) (b := 99) h0 (fun j j0 j1 => by have := ub j j0 (by omega); split <;> omega)
      have e := s_Is (f := (fun j => if p (88 + 5 * j + 1) = t ∧ p (88 + 5 * j + 2) = c ∧ p (88 + 5 * j + 3) = m then μ 199 j else 0)) h0
      have L64 : x < p 87 → ∀ w, w = (fun j => if p (88 + 5 * j + 1) = t ∧ p (88 + 5 * j + 2) = c ∧ p (88 + 5 * j + 3) = m then μ 199 j else 0) x → qX mX8_deliveredTo GG (fun z ρ' μ' => z = dlv p (μ 199) t c m ∧ ρ' = ρ ∧ μ' = μ) GG (0, 0) 64 [some (qP 178), some (qI t), some (qI c), some (qI m), none, some (qI x)] [qI w, qI (s_I (fun j => if p (88 + 5 * j + 1) = t ∧ p (88 + 5 * j + 2) = c ∧ p (88 + 5 * j + 3) = m then μ 199 j else 0) x)] ρ μ := by
        intro hx w hw
        have ubx := ub x h0 hx
        have hw2 : 0 ≤ w ∧ w ≤ 99 := by rw [hw]; dsimp only; split <;> omega
        refine w_X8_deliveredTo_64 ?_
        refine ⟨(by unfold i32; omega), ?_⟩
        refine ⟨(by unfold i32; omega), ?_⟩
        rw [hw, ← e]
        exact ih _ (by omega) (by omega) (by omega)
      have L63 : x < p 87 → ¬ (p (88 + 5 * x + 1) = t ∧ p (88 + 5 * x + 2) = c ∧ p (88 + 5 * x + 3) = m) → qX mX8_deliveredTo GG (fun z ρ' μ' => z = dlv p (μ 199) t c m ∧ ρ' = ρ ∧ μ' = μ) GG (0, 0) 63 [some (qP 178), some (qI t), some (qI c), some (qI m), none, some (qI x)] [qI (s_I (fun j => if p (88 + 5 * j + 1) = t ∧ p (88 + 5 * j + 2) = c ∧ p (88 + 5 * j + 3) = m then μ 199 j else 0) x)] ρ μ := by
        intro hx hq
        refine w_X8_deliveredTo_63 ?_
        exact L64 hx 0 (if_neg hq).symm
      refine w_X8_deliveredTo_6 ?_
      rw [hp]
      refine ⟨fun hc1 => ?_, fun hc1 => ?_⟩
      · exact ⟨by rw [show x = p 87 by omega]; rfl, rfl, rfl⟩
      · refine ⟨_, m_job (p := p) (by (repeat rw [up2_c (by decide)]); assumption) (by omega) (by omega), ?_⟩
        rintro z1 ρ2 μ3 ⟨hq3_1, hq3_2, hq3_3⟩
        obtain rfl := hq3_1.symm
        obtain rfl := hq3_2.symm
        obtain rfl := hq3_3.symm
        refine ⟨fun hc4 => ?_, fun hc4 => ?_⟩
        · exact L63 hc1 (fun q => hc4 q.1)
        · refine ⟨_, m_job (p := p) (by (repeat rw [up2_c (by decide)]); assumption) (by omega) (by omega), ?_⟩
          rintro z5 ρ6 μ7 ⟨hq6_1, hq6_2, hq6_3⟩
          obtain rfl := hq6_1.symm
          obtain rfl := hq6_2.symm
          obtain rfl := hq6_3.symm
          refine ⟨fun hc7 => ?_, fun hc7 => ?_⟩
          · exact L63 hc1 (fun q => hc7 q.2.1)
          · refine ⟨_, m_job (p := p) (by (repeat rw [up2_c (by decide)]); assumption) (by omega) (by omega), ?_⟩
            rintro z9 ρ10 μ11 ⟨hq9_1, hq9_2, hq9_3⟩
            obtain rfl := hq9_1.symm
            obtain rfl := hq9_2.symm
            obtain rfl := hq9_3.symm
            refine ⟨fun hc10 => ?_, fun hc10 => ?_⟩
            · exact L63 hc1 (fun q => hc10 q.2.2)
            · refine ⟨(by omega), ?_⟩
              exact L64 hc1 _ (if_pos ⟨hc4, hc7, hc10⟩).symm
  refine e_X8_deliveredTo ?_
  exact L _ 0 (Nat.lt_succ_self _) (by omega) (by omega)
theorem m_deliveredToTrain {t m : Int} (hp : μ 180 = p) (hv : PV p) (ub : UB p (μ 199)) (ht : 0 ≤ t ∧ t < 2) : qE mX8_deliveredToTrain GG GG [qP 178, qI t, qI m] ρ μ (fun z ρ' μ' => z = dlT p (μ 199) t m ∧ ρ' = ρ ∧ μ' = μ) := by
  have n := hv.n
  have tt := hv.t ht.1 ht.2
  have L : ∀ (k : Nat) (x : Int), (p (4 + t) - x).toNat < k → 0 ≤ x → x ≤ p (4 + t) → qX mX8_deliveredToTrain GG (fun z ρ' μ' => z = dlT p (μ 199) t m ∧ ρ' = ρ ∧ μ' = μ) GG (0, 0) 5 [some (qP 178), some (qI t), some (qI m), some (qI (s_I (fun c => dlv p (μ 199) t c m) x)), some (qI x)] [] ρ μ := by
    intro k
    induction k with
    | zero => intro x h; omega
    | succ k ih =>
      intro x hk h0 h1
      have sb := s_Ib (f := fun c => dlv p (μ 199) t c m) (n := x) (b := 1980) h0 (fun j j0 j1 => dlv_b (by omega) ub)
      have bx := dlv_b (p := p) (u := μ 199) (t := t) (c := x) (m := m) (by omega) ub
      refine w_X8_deliveredToTrain_5 ?_
      rw [hp]
      refine ⟨(by unfold i32; omega), ?_⟩
      refine ⟨(by omega), ?_⟩
      refine ⟨fun hc3 => ?_, fun hc3 => ?_⟩
      · exact ⟨by rw [show x = p (4 + t) by omega]; rfl, rfl, rfl⟩
      · refine ⟨_, m_deliveredTo hp hv ub, ?_⟩
        rintro z1 ρ2 μ3 ⟨hq5_1, hq5_2, hq5_3⟩
        obtain rfl := hq5_1.symm
        obtain rfl := hq5_2.symm
        obtain rfl := hq5_3.symm
        refine ⟨(by unfold i32; omega), ?_⟩
        refine ⟨(by unfold i32; omega), ?_⟩
        rw [← s_Is (f := fun c => dlv p (μ 199) t c m) h0]
        exact ih _ (by omega) (by omega) (by omega)
  refine e_X8_deliveredToTrain ?_
  exact L _ 0 (Nat.lt_succ_self _) (by omega) (by omega)
theorem m_demandOfTrain {t m : Int} (hp : μ 180 = p) (hv : PV p) (ht : 0 ≤ t ∧ t < 2) (hm : 0 ≤ m ∧ m < p 36) : qE mX8_demandOfTrain GG GG [qP 178, qI t, qI m] ρ μ (fun z ρ' μ' => z = dmT p t m ∧ ρ' = ρ ∧ μ' = μ) := by
  have n := hv.n
  have tt := hv.t ht.1 ht.2
  have L : ∀ (k : Nat) (x : Int), (p (4 + t) - x).toNat < k → 0 ≤ x → x ≤ p (4 + t) → qX mX8_demandOfTrain GG (fun z ρ' μ' => z = dmT p t m ∧ ρ' = ρ ∧ μ' = μ) GG (0, 0) 5 [some (qP 178), some (qI t), some (qI m), some (qI (s_I (fun c => dem p t c m) x)), some (qI x)] [] ρ μ := by
    intro k
    induction k with
    | zero => intro x h; omega
    | succ k ih =>
      intro x hk h0 h1
      have sb := s_Ib (f := fun c => dem p t c m) (n := x) (b := 396) h0 (fun j j0 j1 => dem_b hv ht.1 ht.2 j0 (by omega) hm.1 hm.2)
      refine w_X8_demandOfTrain_5 ?_
      rw [hp]
      refine ⟨(by unfold i32; omega), ?_⟩
      refine ⟨(by omega), ?_⟩
      refine ⟨fun hc3 => ?_, fun hc3 => ?_⟩
      · exact ⟨by rw [show x = p (4 + t) by omega]; rfl, rfl, rfl⟩
      · refine ⟨_, m_demandOf hp hv ht.1 ht.2 h0 hc3 hm.1 hm.2, ?_⟩
        rintro z1 ρ2 μ3 ⟨hq5_1, hq5_2, hq5_3⟩
        obtain rfl := hq5_1.symm
        obtain rfl := hq5_2.symm
        obtain rfl := hq5_3.symm
        have bx := dem_b hv ht.1 ht.2 h0 hc3 hm.1 hm.2
        refine ⟨(by unfold i32; omega), ?_⟩
        refine ⟨(by unfold i32; omega), ?_⟩
        rw [← s_Is (f := fun c => dem p t c m) h0]
        exact ih _ (by omega) (by omega) (by omega)
  refine e_X8_demandOfTrain ?_
  exact L _ 0 (Nat.lt_succ_self _) (by omega) (by omega)
theorem s_Ib2 {f : Int → Int} {n b : Int} (hn : 0 ≤ n) (h : ∀ j, 0 ≤ j → j < n → -b ≤ f j ∧ f j ≤ b) : -(n * b) ≤ s_I f n ∧ s_I f n ≤ n * b := by
  revert h
  refine i_ind (P := fun n => (∀ j, 0 ≤ j → j < n → -b ≤ f j ∧ f j ≤ b) → -(n * b) ≤ s_I f n ∧ s_I f n ≤ n * b) ?_ ?_ n hn
  · intro _
    rw [s_I0, Int.zero_mul]
    omega
  · intro n hn ih h
    have h1 := ih (fun j h1 h2 => h j h1 (by omega))
    have h2 := h n hn (by omega)
    rw [s_Is hn, Int.add_mul, Int.one_mul]
    omega
/-- a run's jobs are all through -/
theorem go_all {J : Mem} (hv : PV p) : PI p (sGo p (-1) (-1) J) ∧ ∀ i, 0 ≤ i → i < 5 → sGo p (-1) (-1) J 187 i = p 87 := by
  have a := PI_ini (J := J) hv
  have b := PI_run hv 300 _ a
  have c := sRun_e (out := -1) hv 300 _ a.1 (SV_ini hv).2
  refine ⟨PI_bb b, fun i i0 i1 => ?_⟩
  unfold sGo
  rw [bb_c (by decide) (by decide)]
  have d := c.1.1 i i0 i1
  rcases fst_s (p := p) (S := sRun p (-1) 300 (sIni p (-1) (-1) J)) with ⟨_, f⟩ | ⟨f, _⟩
  · have := f i i0 i1; omega
  · omega
theorem go_ro {J : Mem} (hv : PV p) : ∀ j, 0 ≤ j → j < p 87 → ROk p (sGo p (-1) (-1) J) j := fun j j0 j1 => by
  have n := hv.n
  have b := hv.j j0 j1
  obtain ⟨a, c⟩ := go_all (J := J) hv
  exact a.2.2.2.1 j j0 j1 (by rw [c _ b.1 (by omega)]; exact j1)
theorem go_ub {wo out : Int} {J : Mem} (hv : PV p) : UB p (sGo p wo out J 199) := fun j j0 j1 => by
  have n := hv.n
  have b := (SV_go (p := p) (wo := wo) (out := out) (J := J) hv).2.2.2 j j0 (by omega)
  omega

theorem q_delivered {t c m : Int} (h : MJ μ σ) (hS : SI σ) : qE mX8_delivered GG GG [qP 178, qI t, qI c, qI m] ρ μ (PM μ ρ (fun J => if σ 0 4 = 1 ∧ 0 ≤ t ∧ t < 2 ∧ 0 ≤ c ∧ c < σ 2 (4 + t) ∧ 0 ≤ m ∧ m < σ 2 36 then dlv (σ 2) (sGo (σ 2) (-1) (-1) J 199) t c m else -2147483648) (sE σ (if σ 0 4 = 1 ∧ 0 ≤ t ∧ t < 2 ∧ 0 ≤ c ∧ c < σ 2 (4 + t) ∧ 0 ≤ m ∧ m < σ 2 36 then 0 else 1))) := by
  have hb := hS.2.2.1
  have h20 := h.2.2.2.2.2.1
  have h180 := h.2.2.2.2.2.2.2.1
  have hn : σ 0 4 = 1 → PV (σ 2) := fun e => (hS.2.2.2.2.2.2.2.2 e).1.1
  have fth : FR 178 207 μ (up2 μ 178 0 0) := FR.up FR.refl (by omega)
  have tth : up2 μ 178 0 0 180 = σ 2 := by rw [up2_c (by decide)]; exact h180
  have g180 := go_180 (p := σ 2) (wo := -1) (out := -1) tth
  have L23 : ∀ x, (x = 1 ∧ σ 0 4 = 1 ∧ 0 ≤ t ∧ t < 2 ∧ 0 ≤ c ∧ c < σ 2 (4 + t) ∧ 0 ≤ m ∧ m < σ 2 36) ∨ (x = 0 ∧ ¬ (σ 0 4 = 1 ∧ 0 ≤ t ∧ t < 2 ∧ 0 ≤ c ∧ c < σ 2 (4 + t) ∧ 0 ≤ m ∧ m < σ 2 36)) → qX mX8_delivered GG (PM μ ρ (fun J => if σ 0 4 = 1 ∧ 0 ≤ t ∧ t < 2 ∧ 0 ≤ c ∧ c < σ 2 (4 + t) ∧ 0 ≤ m ∧ m < σ 2 36 then dlv (σ 2) (sGo (σ 2) (-1) (-1) J 199) t c m else -2147483648) (sE σ (if σ 0 4 = 1 ∧ 0 ≤ t ∧ t < 2 ∧ 0 ≤ c ∧ c < σ 2 (4 + t) ∧ 0 ≤ m ∧ m < σ 2 36 then 0 else 1))) GG (0, 0) 23 [some (qP 178), some (qI t), some (qI c), some (qI m)] [qI x, qP 178] ρ μ := by
    intro x hx
    refine w_X8_delivered_23 ?_
    refine ⟨_, m_goesFor h (by omega) (fun e => hn (by omega)), ?_⟩
    rintro z1 ρ2 μ3 ⟨hq1_1, hq1_2, hg⟩
    obtain rfl := hq1_1.symm
    obtain rfl := hq1_2.symm
    refine ⟨fun hc2 => ?_, fun hc2 => ?_⟩
    · refine ⟨_, m_failed, ?_⟩
      rintro z5 ρ6 μ7 ⟨hq3_1, hq3_2, hq3_3⟩
      obtain rfl := hq3_1.symm
      obtain rfl := hq3_2.symm
      obtain rfl := hq3_3.symm
      rcases hg with ⟨a, rfl⟩ | ⟨a, rfl⟩
      · exact pm_fin h.th fth ⟨μ, (if_neg (by omega)).symm⟩ (by rw [if_neg (by omega)])
      · omega
    · obtain ⟨ha, rfl⟩ : x = 1 ∧ μ3 = sGo (σ 2) (-1) (-1) (up2 μ 178 0 0) := by
        rcases hg with ⟨a, _⟩ | h
        · omega
        · exact h
      have hv := hn (by omega)
      have n := hv.n
      have ub := go_ub (p := σ 2) (wo := -1) (out := -1) (J := up2 μ 178 0 0) hv
      refine ⟨_, m_deliveredTo g180 hv ub, ?_⟩
      rintro z9 ρ10 μ11 ⟨hq5_1, hq5_2, hq5_3⟩
      obtain rfl := hq5_1.symm
      obtain rfl := hq5_2.symm
      obtain rfl := hq5_3.symm
      refine ⟨_, m_done, ?_⟩
      rintro z13 ρ14 μ15 ⟨hq6_1, hq6_2, hq6_3⟩
      obtain rfl := hq6_1.symm
      obtain rfl := hq6_2.symm
      obtain rfl := hq6_3.symm
      exact pm_fin h.th.go fth.go ⟨up2 μ 178 0 0, (if_pos (by omega)).symm⟩ (by rw [if_pos (by omega)])
  have L22 : ¬ (σ 0 4 = 1 ∧ 0 ≤ t ∧ t < 2 ∧ 0 ≤ c ∧ c < σ 2 (4 + t) ∧ 0 ≤ m ∧ m < σ 2 36) → qX mX8_delivered GG (PM μ ρ (fun J => if σ 0 4 = 1 ∧ 0 ≤ t ∧ t < 2 ∧ 0 ≤ c ∧ c < σ 2 (4 + t) ∧ 0 ≤ m ∧ m < σ 2 36 then dlv (σ 2) (sGo (σ 2) (-1) (-1) J 199) t c m else -2147483648) (sE σ (if σ 0 4 = 1 ∧ 0 ≤ t ∧ t < 2 ∧ 0 ≤ c ∧ c < σ 2 (4 + t) ∧ 0 ≤ m ∧ m < σ 2 36 then 0 else 1))) GG (0, 0) 22 [some (qP 178), some (qI t), some (qI c), some (qI m)] [qP 178] ρ μ := by
    intro hx
    refine w_X8_delivered_22 ?_
    exact L23 0 (Or.inr ⟨rfl, hx⟩)
  refine e_X8_delivered ?_
  refine ⟨_, m_isCar h hS, ?_⟩
  rintro z1 ρ2 μ3 ⟨hz, hq1_1, hq1_2⟩
  obtain rfl := hq1_1.symm
  obtain rfl := hq1_2.symm
  refine ⟨fun hc2 => ?_, fun hc2 => ?_⟩
  · exact L22 (by omega)
  · refine ⟨_, m_isMeal h hS, ?_⟩
    rintro z5 ρ6 μ7 ⟨hy, hq4_1, hq4_2⟩
    obtain rfl := hq4_1.symm
    obtain rfl := hq4_2.symm
    refine ⟨fun hc5 => ?_, fun hc5 => ?_⟩
    · exact L22 (by omega)
    · exact L23 1 (by omega)
theorem q_shortage {t c m : Int} (h : MJ μ σ) (hS : SI σ) : qE mX8_shortage GG GG [qP 178, qI t, qI c, qI m] ρ μ (PM μ ρ (fun J => if σ 0 4 = 1 ∧ 0 ≤ t ∧ t < 2 ∧ 0 ≤ c ∧ c < σ 2 (4 + t) ∧ 0 ≤ m ∧ m < σ 2 36 then max 0 (dem (σ 2) t c m - dlv (σ 2) (sGo (σ 2) (-1) (-1) J 199) t c m) else -2147483648) (sE σ (if σ 0 4 = 1 ∧ 0 ≤ t ∧ t < 2 ∧ 0 ≤ c ∧ c < σ 2 (4 + t) ∧ 0 ≤ m ∧ m < σ 2 36 then 0 else 1))) := by
  have hb := hS.2.2.1
  have h20 := h.2.2.2.2.2.1
  have h180 := h.2.2.2.2.2.2.2.1
  have hn : σ 0 4 = 1 → PV (σ 2) := fun e => (hS.2.2.2.2.2.2.2.2 e).1.1
  have fth : FR 178 207 μ (up2 μ 178 0 0) := FR.up FR.refl (by omega)
  have tth : up2 μ 178 0 0 180 = σ 2 := by rw [up2_c (by decide)]; exact h180
  have g180 := go_180 (p := σ 2) (wo := -1) (out := -1) tth
  have L23 : ∀ x, (x = 1 ∧ σ 0 4 = 1 ∧ 0 ≤ t ∧ t < 2 ∧ 0 ≤ c ∧ c < σ 2 (4 + t) ∧ 0 ≤ m ∧ m < σ 2 36) ∨ (x = 0 ∧ ¬ (σ 0 4 = 1 ∧ 0 ≤ t ∧ t < 2 ∧ 0 ≤ c ∧ c < σ 2 (4 + t) ∧ 0 ≤ m ∧ m < σ 2 36)) → qX mX8_shortage GG (PM μ ρ (fun J => if σ 0 4 = 1 ∧ 0 ≤ t ∧ t < 2 ∧ 0 ≤ c ∧ c < σ 2 (4 + t) ∧ 0 ≤ m ∧ m < σ 2 36 then max 0 (dem (σ 2) t c m - dlv (σ 2) (sGo (σ 2) (-1) (-1) J 199) t c m) else -2147483648) (sE σ (if σ 0 4 = 1 ∧ 0 ≤ t ∧ t < 2 ∧ 0 ≤ c ∧ c < σ 2 (4 + t) ∧ 0 ≤ m ∧ m < σ 2 36 then 0 else 1))) GG (0, 0) 23 [some (qP 178), some (qI t), some (qI c), some (qI m)] [qI x, qP 178] ρ μ := by
    intro x hx
    refine w_X8_shortage_23 ?_
    refine ⟨_, m_goesFor h (by omega) (fun e => hn (by omega)), ?_⟩
    rintro z1 ρ2 μ3 ⟨hq1_1, hq1_2, hg⟩
    obtain rfl := hq1_1.symm
    obtain rfl := hq1_2.symm
    refine ⟨fun hc2 => ?_, fun hc2 => ?_⟩
    · obtain ⟨ha, rfl⟩ : x = 1 ∧ μ3 = sGo (σ 2) (-1) (-1) (up2 μ 178 0 0) := by
        rcases hg with ⟨a, _⟩ | h
        · omega
        · exact h
      have hv := hn (by omega)
      have n := hv.n
      have ub := go_ub (p := σ 2) (wo := -1) (out := -1) (J := up2 μ 178 0 0) hv
      have db := dem_b hv (t := t) (c := c) (m := m) (by omega) (by omega) (by omega) (by omega) (by omega) (by omega)
      have lb := dlv_b (p := σ 2) (t := t) (c := c) (m := m) (by omega) ub
      refine ⟨_, m_demandOf g180 hv (by omega) (by omega) (by omega) (by omega) (by omega) (by omega), ?_⟩
      rintro z5 ρ6 μ7 ⟨hq3_1, hq3_2, hq3_3⟩
      obtain rfl := hq3_1.symm
      obtain rfl := hq3_2.symm
      obtain rfl := hq3_3.symm
      refine ⟨_, m_deliveredTo g180 hv ub, ?_⟩
      rintro z9 ρ10 μ11 ⟨hq4_1, hq4_2, hq4_3⟩
      obtain rfl := hq4_1.symm
      obtain rfl := hq4_2.symm
      obtain rfl := hq4_3.symm
      refine ⟨(by unfold i32; omega), ?_⟩
      refine ⟨_, m_done, ?_⟩
      rintro z13 ρ14 μ15 ⟨hq6_1, hq6_2, hq6_3⟩
      obtain rfl := hq6_1.symm
      obtain rfl := hq6_2.symm
      obtain rfl := hq6_3.symm
      exact pm_fin h.th.go fth.go ⟨up2 μ 178 0 0, (if_pos (by omega)).symm⟩ (by rw [if_pos (by omega)])
    · refine ⟨_, m_failed, ?_⟩
      rintro z17 ρ18 μ19 ⟨hq8_1, hq8_2, hq8_3⟩
      obtain rfl := hq8_1.symm
      obtain rfl := hq8_2.symm
      obtain rfl := hq8_3.symm
      rcases hg with ⟨a, rfl⟩ | ⟨a, rfl⟩
      · exact pm_fin h.th fth ⟨μ, (if_neg (by omega)).symm⟩ (by rw [if_neg (by omega)])
      · omega
  have L22 : ¬ (σ 0 4 = 1 ∧ 0 ≤ t ∧ t < 2 ∧ 0 ≤ c ∧ c < σ 2 (4 + t) ∧ 0 ≤ m ∧ m < σ 2 36) → qX mX8_shortage GG (PM μ ρ (fun J => if σ 0 4 = 1 ∧ 0 ≤ t ∧ t < 2 ∧ 0 ≤ c ∧ c < σ 2 (4 + t) ∧ 0 ≤ m ∧ m < σ 2 36 then max 0 (dem (σ 2) t c m - dlv (σ 2) (sGo (σ 2) (-1) (-1) J 199) t c m) else -2147483648) (sE σ (if σ 0 4 = 1 ∧ 0 ≤ t ∧ t < 2 ∧ 0 ≤ c ∧ c < σ 2 (4 + t) ∧ 0 ≤ m ∧ m < σ 2 36 then 0 else 1))) GG (0, 0) 22 [some (qP 178), some (qI t), some (qI c), some (qI m)] [qP 178] ρ μ := by
    intro hx
    refine w_X8_shortage_22 ?_
    exact L23 0 (Or.inr ⟨rfl, hx⟩)
  refine e_X8_shortage ?_
  refine ⟨_, m_isCar h hS, ?_⟩
  rintro z1 ρ2 μ3 ⟨hz, hq1_1, hq1_2⟩
  obtain rfl := hq1_1.symm
  obtain rfl := hq1_2.symm
  refine ⟨fun hc2 => ?_, fun hc2 => ?_⟩
  · exact L22 (by omega)
  · refine ⟨_, m_isMeal h hS, ?_⟩
    rintro z5 ρ6 μ7 ⟨hy, hq4_1, hq4_2⟩
    obtain rfl := hq4_1.symm
    obtain rfl := hq4_2.symm
    refine ⟨fun hc5 => ?_, fun hc5 => ?_⟩
    · exact L22 (by omega)
    · exact L23 1 (by omega)
theorem q_leftBehind {i : Int} (h : MJ μ σ) (hS : SI σ) : qE mX8_leftBehind GG GG [qP 178, qI i] ρ μ (PM μ ρ (fun J => if σ 0 4 = 1 ∧ 0 ≤ i ∧ i < σ 2 61 then s_I (lft (σ 2) (sGo (σ 2) (-1) (-1) J) i) (σ 2 87) else -2147483648) (sE σ (if σ 0 4 = 1 ∧ 0 ≤ i ∧ i < σ 2 61 then 0 else 1))) := by
  have hb := hS.2.2.1
  have h20 := h.2.2.2.2.2.1
  have h180 := h.2.2.2.2.2.2.2.1
  have hn : σ 0 4 = 1 → PV (σ 2) := fun e => (hS.2.2.2.2.2.2.2.2 e).1.1
  have fth : FR 178 207 μ (up2 μ 178 0 0) := FR.up FR.refl (by omega)
  have tth : up2 μ 178 0 0 180 = σ 2 := by rw [up2_c (by decide)]; exact h180
  have g180 := go_180 (p := σ 2) (wo := -1) (out := -1) tth
  have L : (σ 0 4 = 1 ∧ 0 ≤ i ∧ i < σ 2 61) → ∀ (k : Nat) (x : Int), (σ 2 87 - x).toNat < k → 0 ≤ x → x ≤ σ 2 87 → qX mX8_leftBehind GG (PM μ ρ (fun J => if σ 0 4 = 1 ∧ 0 ≤ i ∧ i < σ 2 61 then s_I (lft (σ 2) (sGo (σ 2) (-1) (-1) J) i) (σ 2 87) else -2147483648) (sE σ (if σ 0 4 = 1 ∧ 0 ≤ i ∧ i < σ 2 61 then 0 else 1))) GG (0, 0) 22 [some (qP 178), some (qI i), some (qI (s_I (lft (σ 2) (sGo (σ 2) (-1) (-1) (up2 μ 178 0 0)) i) x)), some (qI x)] [] ρ (sGo (σ 2) (-1) (-1) (up2 μ 178 0 0)) := by
    intro hi
    have hv := hn hi.1
    have n := hv.n
    have ub := go_ub (p := σ 2) (wo := -1) (out := -1) (J := up2 μ 178 0 0) hv
    have sv := SV_go (p := σ 2) (wo := -1) (out := -1) (J := up2 μ 178 0 0) hv
    intro k
    induction k with
    | zero => intro x h; omega
    | succ k ih =>
      intro x hk h0 h1
      have rng : ∀ j, 0 ≤ j → j < σ 2 87 → -99 ≤ lft (σ 2) (sGo (σ 2) (-1) (-1) (up2 μ 178 0 0)) i j ∧ lft (σ 2) (sGo (σ 2) (-1) (-1) (up2 μ 178 0 0)) i j ≤ 99 := fun j j0 j1 => by
        have := sv.2.2.2 j j0 (by omega)
        unfold lft
        split <;> omega
      have sb := s_Ib2 (f := lft (σ 2) (sGo (σ 2) (-1) (-1) (up2 μ 178 0 0)) i) (n := x) (b := 99) h0 (fun j j0 j1 => rng j j0 (by omega))
      have e := s_Is (f := lft (σ 2) (sGo (σ 2) (-1) (-1) (up2 μ 178 0 0)) i) h0
      have svx := fun (q : x < σ 2 87) => sv.2.2.2 x h0 (by omega)
      refine w_X8_leftBehind_22 ?_
      rw [g180]
      refine ⟨fun hc1 => ?_, fun hc1 => ?_⟩
      · refine ⟨_, m_done, ?_⟩
        rintro z1 ρ2 μ3 ⟨hq2_1, hq2_2, hq2_3⟩
        obtain rfl := hq2_1.symm
        obtain rfl := hq2_2.symm
        obtain rfl := hq2_3.symm
        exact pm_fin h.th.go fth.go ⟨up2 μ 178 0 0, by rw [if_pos hi, show x = σ 2 87 by omega]⟩ (by rw [if_pos hi])
      · refine ⟨_, m_job (p := σ 2) g180 (by omega) (by omega), ?_⟩
        rintro z5 ρ6 μ7 ⟨hq4_1, hq4_2, hq4_3⟩
        obtain rfl := hq4_1.symm
        obtain rfl := hq4_2.symm
        obtain rfl := hq4_3.symm
        refine ⟨fun hc5 => ?_, fun hc5 => ?_⟩
        · refine ⟨(by unfold i32; omega), ?_⟩
          refine ⟨(by unfold i32; omega), ?_⟩
          rw [show lft (σ 2) (sGo (σ 2) (-1) (-1) (up2 μ 178 0 0)) i x = 0 from if_neg hc5] at e
          rw [← e]
          exact ih _ (by omega) (by omega) (by omega)
        · refine ⟨(by omega), ?_⟩
          refine ⟨(by omega), ?_⟩
          have svy := svx hc1
          refine ⟨(by unfold i32; omega), ?_⟩
          refine ⟨(by unfold i32; omega), ?_⟩
          refine ⟨(by unfold i32; omega), ?_⟩
          rw [show lft (σ 2) (sGo (σ 2) (-1) (-1) (up2 μ 178 0 0)) i x = sGo (σ 2) (-1) (-1) (up2 μ 178 0 0) 196 x - sGo (σ 2) (-1) (-1) (up2 μ 178 0 0) 199 x from if_pos hc5] at e
          rw [← e]
          exact ih _ (by omega) (by omega) (by omega)
  refine e_X8_leftBehind ?_
  refine ⟨_, m_isTrolley h hS, ?_⟩
  rintro z1 ρ2 μ3 ⟨hz, hq1_1, hq1_2⟩
  obtain rfl := hq1_1.symm
  obtain rfl := hq1_2.symm
  refine ⟨_, m_goesFor h (by omega) (fun e => hn (by omega)), ?_⟩
  rintro z5 ρ6 μ7 ⟨hq2_1, hq2_2, hg⟩
  obtain rfl := hq2_1.symm
  obtain rfl := hq2_2.symm
  refine ⟨fun hc3 => ?_, fun hc3 => ?_⟩
  · obtain ⟨ha, rfl⟩ : z1 = 1 ∧ μ7 = sGo (σ 2) (-1) (-1) (up2 μ 178 0 0) := by
      rcases hg with ⟨a, _⟩ | h
      · omega
      · exact h
    have hv := hn (by omega)
    have n := hv.n
    have ub := go_ub (p := σ 2) (wo := -1) (out := -1) (J := up2 μ 178 0 0) hv
    exact L (by omega) _ 0 (Nat.lt_succ_self _) (by omega) (by omega)
  · refine ⟨_, m_failed, ?_⟩
    rintro z9 ρ10 μ11 ⟨hq5_1, hq5_2, hq5_3⟩
    obtain rfl := hq5_1.symm
    obtain rfl := hq5_2.symm
    obtain rfl := hq5_3.symm
    rcases hg with ⟨a, rfl⟩ | ⟨a, rfl⟩
    · exact pm_fin h.th fth ⟨μ, (if_neg (by omega)).symm⟩ (by rw [if_neg (by omega)])
    · omega
theorem q_longestWait {i : Int} (h : MJ μ σ) (hS : SI σ) : qE mX8_longestWait GG GG [qP 178, qI i] ρ μ (PM μ ρ (fun J => if σ 0 4 = 1 ∧ 0 ≤ i ∧ i < σ 2 61 then m_I (wtg (σ 2) (sGo (σ 2) (-1) (-1) J) i) (σ 2 87) else -2147483648) (sE σ (if σ 0 4 = 1 ∧ 0 ≤ i ∧ i < σ 2 61 then 0 else 1))) := by
  have hb := hS.2.2.1
  have h20 := h.2.2.2.2.2.1
  have h180 := h.2.2.2.2.2.2.2.1
  have hn : σ 0 4 = 1 → PV (σ 2) := fun e => (hS.2.2.2.2.2.2.2.2 e).1.1
  have fth : FR 178 207 μ (up2 μ 178 0 0) := FR.up FR.refl (by omega)
  have tth : up2 μ 178 0 0 180 = σ 2 := by rw [up2_c (by decide)]; exact h180
  have g180 := go_180 (p := σ 2) (wo := -1) (out := -1) tth
  have L : (σ 0 4 = 1 ∧ 0 ≤ i ∧ i < σ 2 61) → ∀ (k : Nat) (x : Int), (σ 2 87 - x).toNat < k → 0 ≤ x → x ≤ σ 2 87 → qX mX8_longestWait GG (PM μ ρ (fun J => if σ 0 4 = 1 ∧ 0 ≤ i ∧ i < σ 2 61 then m_I (wtg (σ 2) (sGo (σ 2) (-1) (-1) J) i) (σ 2 87) else -2147483648) (sE σ (if σ 0 4 = 1 ∧ 0 ≤ i ∧ i < σ 2 61 then 0 else 1))) GG (0, 0) 22 [some (qP 178), some (qI i), some (qI (m_I (wtg (σ 2) (sGo (σ 2) (-1) (-1) (up2 μ 178 0 0)) i) x)), some (qI x)] [] ρ (sGo (σ 2) (-1) (-1) (up2 μ 178 0 0)) := by
    intro hi
    have hv := hn hi.1
    have n := hv.n
    have ub := go_ub (p := σ 2) (wo := -1) (out := -1) (J := up2 μ 178 0 0) hv
    have sv := SV_go (p := σ 2) (wo := -1) (out := -1) (J := up2 μ 178 0 0) hv
    intro k
    induction k with
    | zero => intro x h; omega
    | succ k ih =>
      intro x hk h0 h1
      have e := m_Is (f := wtg (σ 2) (sGo (σ 2) (-1) (-1) (up2 μ 178 0 0)) i) h0
      have y0 := m_I0 (f := wtg (σ 2) (sGo (σ 2) (-1) (-1) (up2 μ 178 0 0)) i) h0
      have ro := fun (q : x < σ 2 87) => go_ro (J := up2 μ 178 0 0) hv x h0 q
      refine w_X8_longestWait_22 ?_
      rw [g180]
      refine ⟨fun hc1 => ?_, fun hc1 => ?_⟩
      · refine ⟨_, m_done, ?_⟩
        rintro z1 ρ2 μ3 ⟨hq2_1, hq2_2, hq2_3⟩
        obtain rfl := hq2_1.symm
        obtain rfl := hq2_2.symm
        obtain rfl := hq2_3.symm
        exact pm_fin h.th.go fth.go ⟨up2 μ 178 0 0, by rw [if_pos hi, show x = σ 2 87 by omega]⟩ (by rw [if_pos hi])
      · refine ⟨_, m_job (p := σ 2) g180 (by omega) (by omega), ?_⟩
        rintro z5 ρ6 μ7 ⟨hq4_1, hq4_2, hq4_3⟩
        obtain rfl := hq4_1.symm
        obtain rfl := hq4_2.symm
        obtain rfl := hq4_3.symm
        refine ⟨fun hc5 => ?_, fun hc5 => ?_⟩
        · refine ⟨(by unfold i32; omega), ?_⟩
          rw [show wtg (σ 2) (sGo (σ 2) (-1) (-1) (up2 μ 178 0 0)) i x = 0 from if_neg (fun q => hc5 q.1), Int.max_eq_left y0] at e
          rw [← e]
          exact ih _ (by omega) (by omega) (by omega)
        · refine ⟨(by omega), ?_⟩
          refine ⟨fun hc9 => ?_, fun hc9 => ?_⟩
          · refine ⟨(by unfold i32; omega), ?_⟩
            rw [show wtg (σ 2) (sGo (σ 2) (-1) (-1) (up2 μ 178 0 0)) i x = 0 from if_neg (fun q => by omega), Int.max_eq_left y0] at e
            rw [← e]
            exact ih _ (by omega) (by omega) (by omega)
          · have r := ro hc1
            have b := sv.2.2.2 x h0 (by omega)
            have bj := hv.j h0 hc1
            have bi := hv.i bj.1 bj.2.1
            unfold ROk at r
            have x1 : 0 ≤ sGo (σ 2) (-1) (-1) (up2 μ 178 0 0) 196 x * σ 2 (62 + 5 * σ 2 (88 + 5 * x + 0) + 3) := Int.mul_nonneg (by omega) (by omega)
            have x2 : 0 ≤ sGo (σ 2) (-1) (-1) (up2 μ 178 0 0) 199 x * σ 2 (62 + 5 * σ 2 (88 + 5 * x + 0) + 4) := Int.mul_nonneg (by omega) (by omega)
            refine ⟨(by omega), ?_⟩
            refine ⟨(by omega), ?_⟩
            refine ⟨(by unfold i32; omega), ?_⟩
            refine ⟨(by unfold i32; omega), ?_⟩
            rw [show wtg (σ 2) (sGo (σ 2) (-1) (-1) (up2 μ 178 0 0)) i x = sGo (σ 2) (-1) (-1) (up2 μ 178 0 0) 198 x - sGo (σ 2) (-1) (-1) (up2 μ 178 0 0) 197 x from if_pos ⟨hc5, by omega⟩] at e
            rw [← e]
            exact ih _ (by omega) (by omega) (by omega)
  refine e_X8_longestWait ?_
  refine ⟨_, m_isTrolley h hS, ?_⟩
  rintro z1 ρ2 μ3 ⟨hz, hq1_1, hq1_2⟩
  obtain rfl := hq1_1.symm
  obtain rfl := hq1_2.symm
  refine ⟨_, m_goesFor h (by omega) (fun e => hn (by omega)), ?_⟩
  rintro z5 ρ6 μ7 ⟨hq2_1, hq2_2, hg⟩
  obtain rfl := hq2_1.symm
  obtain rfl := hq2_2.symm
  refine ⟨fun hc3 => ?_, fun hc3 => ?_⟩
  · obtain ⟨ha, rfl⟩ : z1 = 1 ∧ μ7 = sGo (σ 2) (-1) (-1) (up2 μ 178 0 0) := by
      rcases hg with ⟨a, _⟩ | h
      · omega
      · exact h
    have hv := hn (by omega)
    have n := hv.n
    have ub := go_ub (p := σ 2) (wo := -1) (out := -1) (J := up2 μ 178 0 0) hv
    exact L (by omega) _ 0 (Nat.lt_succ_self _) (by omega) (by omega)
  · refine ⟨_, m_failed, ?_⟩
    rintro z9 ρ10 μ11 ⟨hq5_1, hq5_2, hq5_3⟩
    obtain rfl := hq5_1.symm
    obtain rfl := hq5_2.symm
    obtain rfl := hq5_3.symm
    rcases hg with ⟨a, rfl⟩ | ⟨a, rfl⟩
    · exact pm_fin h.th fth ⟨μ, (if_neg (by omega)).symm⟩ (by rw [if_neg (by omega)])
    · omega
theorem q_doorBusy {t c : Int} (h : MJ μ σ) (hS : SI σ) : qE mX8_doorBusy GG GG [qP 178, qI t, qI c] ρ μ (PM μ ρ (fun J => if σ 0 4 = 1 ∧ 0 ≤ t ∧ t < 2 ∧ 0 ≤ c ∧ c < σ 2 (4 + t) then s_I (bsy (σ 2) (sGo (σ 2) (-1) (-1) J) t c) (σ 2 87) else -2147483648) (sE σ (if σ 0 4 = 1 ∧ 0 ≤ t ∧ t < 2 ∧ 0 ≤ c ∧ c < σ 2 (4 + t) then 0 else 1))) := by
  have hb := hS.2.2.1
  have h20 := h.2.2.2.2.2.1
  have h180 := h.2.2.2.2.2.2.2.1
  have hn : σ 0 4 = 1 → PV (σ 2) := fun e => (hS.2.2.2.2.2.2.2.2 e).1.1
  have fth : FR 178 207 μ (up2 μ 178 0 0) := FR.up FR.refl (by omega)
  have tth : up2 μ 178 0 0 180 = σ 2 := by rw [up2_c (by decide)]; exact h180
  have g180 := go_180 (p := σ 2) (wo := -1) (out := -1) tth
  have L : (σ 0 4 = 1 ∧ 0 ≤ t ∧ t < 2 ∧ 0 ≤ c ∧ c < σ 2 (4 + t)) → ∀ (k : Nat) (x : Int), (σ 2 87 - x).toNat < k → 0 ≤ x → x ≤ σ 2 87 → qX mX8_doorBusy GG (PM μ ρ (fun J => if σ 0 4 = 1 ∧ 0 ≤ t ∧ t < 2 ∧ 0 ≤ c ∧ c < σ 2 (4 + t) then s_I (bsy (σ 2) (sGo (σ 2) (-1) (-1) J) t c) (σ 2 87) else -2147483648) (sE σ (if σ 0 4 = 1 ∧ 0 ≤ t ∧ t < 2 ∧ 0 ≤ c ∧ c < σ 2 (4 + t) then 0 else 1))) GG (0, 0) 24 [some (qP 178), some (qI t), some (qI c), some (qI (s_I (bsy (σ 2) (sGo (σ 2) (-1) (-1) (up2 μ 178 0 0)) t c) x)), some (qI x)] [] ρ (sGo (σ 2) (-1) (-1) (up2 μ 178 0 0)) := by
    intro hi
    have hv := hn hi.1
    have n := hv.n
    have ub := go_ub (p := σ 2) (wo := -1) (out := -1) (J := up2 μ 178 0 0) hv
    intro k
    induction k with
    | zero => intro x h; omega
    | succ k ih =>
      intro x hk h0 h1
      have sb := s_Ib (f := bsy (σ 2) (sGo (σ 2) (-1) (-1) (up2 μ 178 0 0)) t c) (n := x) (b := 495) h0 (fun j j0 j1 => bsy_b hv j j0 (by omega))
      have e := s_Is (f := bsy (σ 2) (sGo (σ 2) (-1) (-1) (up2 μ 178 0 0)) t c) h0
      have L81 : x < σ 2 87 → qX mX8_doorBusy GG (PM μ ρ (fun J => if σ 0 4 = 1 ∧ 0 ≤ t ∧ t < 2 ∧ 0 ≤ c ∧ c < σ 2 (4 + t) then s_I (bsy (σ 2) (sGo (σ 2) (-1) (-1) J) t c) (σ 2 87) else -2147483648) (sE σ (if σ 0 4 = 1 ∧ 0 ≤ t ∧ t < 2 ∧ 0 ≤ c ∧ c < σ 2 (4 + t) then 0 else 1))) GG (0, 0) 81 [some (qP 178), some (qI t), some (qI c), some (qI (s_I (bsy (σ 2) (sGo (σ 2) (-1) (-1) (up2 μ 178 0 0)) t c) (x + 1))), some (qI x)] [] ρ (sGo (σ 2) (-1) (-1) (up2 μ 178 0 0)) := by
        intro hx
        refine w_X8_doorBusy_81 ?_
        refine ⟨(by unfold i32; omega), ?_⟩
        exact ih _ (by omega) (by omega) (by omega)
      refine w_X8_doorBusy_24 ?_
      rw [g180]
      refine ⟨fun hc1 => ?_, fun hc1 => ?_⟩
      · refine ⟨_, m_done, ?_⟩
        rintro z1 ρ2 μ3 ⟨hq2_1, hq2_2, hq2_3⟩
        obtain rfl := hq2_1.symm
        obtain rfl := hq2_2.symm
        obtain rfl := hq2_3.symm
        exact pm_fin h.th.go fth.go ⟨up2 μ 178 0 0, by rw [if_pos hi, show x = σ 2 87 by omega]⟩ (by rw [if_pos hi])
      · refine ⟨_, m_job (p := σ 2) g180 (by omega) (by omega), ?_⟩
        rintro z5 ρ6 μ7 ⟨hq4_1, hq4_2, hq4_3⟩
        obtain rfl := hq4_1.symm
        obtain rfl := hq4_2.symm
        obtain rfl := hq4_3.symm
        refine ⟨fun hc5 => ?_, fun hc5 => ?_⟩
        · rw [show bsy (σ 2) (sGo (σ 2) (-1) (-1) (up2 μ 178 0 0)) t c x = 0 from if_neg (fun q => hc5 q.1), Int.add_zero] at e
          rw [← e]
          exact L81 hc1
        · refine ⟨_, m_job (p := σ 2) g180 (by omega) (by omega), ?_⟩
          rintro z9 ρ10 μ11 ⟨hq7_1, hq7_2, hq7_3⟩
          obtain rfl := hq7_1.symm
          obtain rfl := hq7_2.symm
          obtain rfl := hq7_3.symm
          refine ⟨fun hc8 => ?_, fun hc8 => ?_⟩
          · rw [show bsy (σ 2) (sGo (σ 2) (-1) (-1) (up2 μ 178 0 0)) t c x = 0 from if_neg (fun q => hc8 q.2), Int.add_zero] at e
            rw [← e]
            exact L81 hc1
          · have bj := hv.j h0 hc1
            have bs := bsy_b (t := t) (c := c) (J := up2 μ 178 0 0) hv x h0 hc1
            rw [show bsy (σ 2) (sGo (σ 2) (-1) (-1) (up2 μ 178 0 0)) t c x = sGo (σ 2) (-1) (-1) (up2 μ 178 0 0) 199 x * σ 2 (62 + 5 * σ 2 (88 + 5 * x + 0) + 4) from if_pos ⟨hc5, hc8⟩] at e bs
            refine ⟨(by omega), ?_⟩
            refine ⟨_, m_job (p := σ 2) g180 (by omega) (by omega), ?_⟩
            rintro z13 ρ14 μ15 ⟨hq11_1, hq11_2, hq11_3⟩
            obtain rfl := hq11_1.symm
            obtain rfl := hq11_2.symm
            obtain rfl := hq11_3.symm
            refine ⟨_, m_trolley (p := σ 2) g180 (by omega) (by omega), ?_⟩
            rintro z17 ρ18 μ19 ⟨hq12_1, hq12_2, hq12_3⟩
            obtain rfl := hq12_1.symm
            obtain rfl := hq12_2.symm
            obtain rfl := hq12_3.symm
            refine ⟨(by unfold i32; omega), ?_⟩
            refine ⟨(by unfold i32; omega), ?_⟩
            rw [← e]
            exact L81 hc1
  refine e_X8_doorBusy ?_
  refine ⟨_, m_isCar h hS, ?_⟩
  rintro z1 ρ2 μ3 ⟨hz, hq1_1, hq1_2⟩
  obtain rfl := hq1_1.symm
  obtain rfl := hq1_2.symm
  refine ⟨_, m_goesFor h (by omega) (fun e => hn (by omega)), ?_⟩
  rintro z5 ρ6 μ7 ⟨hq2_1, hq2_2, hg⟩
  obtain rfl := hq2_1.symm
  obtain rfl := hq2_2.symm
  refine ⟨fun hc3 => ?_, fun hc3 => ?_⟩
  · obtain ⟨ha, rfl⟩ : z1 = 1 ∧ μ7 = sGo (σ 2) (-1) (-1) (up2 μ 178 0 0) := by
      rcases hg with ⟨a, _⟩ | h
      · omega
      · exact h
    have hv := hn (by omega)
    have n := hv.n
    have ub := go_ub (p := σ 2) (wo := -1) (out := -1) (J := up2 μ 178 0 0) hv
    exact L (by omega) _ 0 (Nat.lt_succ_self _) (by omega) (by omega)
  · refine ⟨_, m_failed, ?_⟩
    rintro z9 ρ10 μ11 ⟨hq5_1, hq5_2, hq5_3⟩
    obtain rfl := hq5_1.symm
    obtain rfl := hq5_2.symm
    obtain rfl := hq5_3.symm
    rcases hg with ⟨a, rfl⟩ | ⟨a, rfl⟩
    · exact pm_fin h.th fth ⟨μ, (if_neg (by omega)).symm⟩ (by rw [if_neg (by omega)])
    · omega
theorem q_unloadTime {j : Int} (h : MJ μ σ) (hS : SI σ) : qE mX8_unloadTime GG GG [qP 178, qI j] ρ μ (PM μ ρ (fun J => if σ 0 4 = 1 ∧ 0 ≤ j ∧ j < σ 2 87 then (if sGo (σ 2) (-1) (-1) Z0 199 j = 0 then -2147483648 else sGo (σ 2) (-1) (-1) J 198 j) else -2147483648) (sE σ (if σ 0 4 = 1 ∧ 0 ≤ j ∧ j < σ 2 87 then (if sGo (σ 2) (-1) (-1) Z0 199 j = 0 then 6 else 0) else 1))) := by
  have hb := hS.2.2.1
  have h20 := h.2.2.2.2.2.1
  have h180 := h.2.2.2.2.2.2.2.1
  have hn : σ 0 4 = 1 → PV (σ 2) := fun e => (hS.2.2.2.2.2.2.2.2 e).1.1
  have fth : FR 178 207 μ (up2 μ 178 0 0) := FR.up FR.refl (by omega)
  have tth : up2 μ 178 0 0 180 = σ 2 := by rw [up2_c (by decide)]; exact h180
  have g180 := go_180 (p := σ 2) (wo := -1) (out := -1) tth
  refine e_X8_unloadTime ?_
  refine ⟨_, m_isJob h hS, ?_⟩
  rintro z1 ρ2 μ3 ⟨hz, hq1_1, hq1_2⟩
  obtain rfl := hq1_1.symm
  obtain rfl := hq1_2.symm
  refine ⟨_, m_goesFor h (by omega) (fun e => hn (by omega)), ?_⟩
  rintro z5 ρ6 μ7 ⟨hq2_1, hq2_2, hg⟩
  obtain rfl := hq2_1.symm
  obtain rfl := hq2_2.symm
  refine ⟨fun hc3 => ?_, fun hc3 => ?_⟩
  · obtain ⟨ha, rfl⟩ : z1 = 1 ∧ μ7 = sGo (σ 2) (-1) (-1) (up2 μ 178 0 0) := by
      rcases hg with ⟨a, _⟩ | h
      · omega
      · exact h
    have hv := hn (by omega)
    have n := hv.n
    have ub := go_ub (p := σ 2) (wo := -1) (out := -1) (J := up2 μ 178 0 0) hv
    have gc := ((go_core (wo := -1) (out := -1) (J := up2 μ 178 0 0) (J' := Z0) hv).2 j (by omega) (by omega)).2
    have ubj := ub j (by omega) (by omega)
    refine ⟨(by omega), ?_⟩
    refine ⟨fun hc5 => ?_, fun hc5 => ?_⟩
    · refine ⟨_, m_failed, ?_⟩
      rintro z9 ρ10 μ11 ⟨hq6_1, hq6_2, hq6_3⟩
      obtain rfl := hq6_1.symm
      obtain rfl := hq6_2.symm
      obtain rfl := hq6_3.symm
      exact pm_fin h.th.go fth.go ⟨up2 μ 178 0 0, by rw [if_pos (by omega), if_pos (by omega)]⟩ (by rw [if_pos (by omega), if_pos (by omega)])
    · refine ⟨(by omega), ?_⟩
      refine ⟨_, m_done, ?_⟩
      rintro z13 ρ14 μ15 ⟨hq9_1, hq9_2, hq9_3⟩
      obtain rfl := hq9_1.symm
      obtain rfl := hq9_2.symm
      obtain rfl := hq9_3.symm
      exact pm_fin h.th.go fth.go ⟨up2 μ 178 0 0, by rw [if_pos (by omega), if_neg (by omega)]⟩ (by rw [if_pos (by omega), if_neg (by omega)])
  · refine ⟨_, m_failed, ?_⟩
    rintro z17 ρ18 μ19 ⟨hq11_1, hq11_2, hq11_3⟩
    obtain rfl := hq11_1.symm
    obtain rfl := hq11_2.symm
    obtain rfl := hq11_3.symm
    rcases hg with ⟨a, rfl⟩ | ⟨a, rfl⟩
    · exact pm_fin h.th fth ⟨μ, (if_neg (by omega)).symm⟩ (by rw [if_neg (by omega)])
    · omega
end MS
