/-! ===== contracts of the reference's run ===== -/
theorem m_job {ρ : Rf} {μ : Mem} {p : Pl} {j w : Int} (hp : μ 180 = p) (hj : 0 ≤ j ∧ j < 20) (hw : 0 ≤ w ∧ w < 5) : qE mX8_job GG GG [qP 178, qI j, qI w] ρ μ (fun z ρ' μ' => z = p (88 + 5 * j + w) ∧ ρ' = ρ ∧ μ' = μ) := by
  subst hp
  refine e_X8_job ?_
  refine ⟨(by unfold i32; omega), ?_⟩
  refine ⟨(by unfold i32; omega), ?_⟩
  refine ⟨(by unfold i32; omega), ?_⟩
  refine ⟨(by omega), ?_⟩
  exact ⟨rfl, rfl, rfl⟩
theorem m_trolley {ρ : Rf} {μ : Mem} {p : Pl} {j w : Int} (hp : μ 180 = p) (hj : 0 ≤ j ∧ j < 5) (hw : 0 ≤ w ∧ w < 5) : qE mX8_trolley GG GG [qP 178, qI j, qI w] ρ μ (fun z ρ' μ' => z = p (62 + 5 * j + w) ∧ ρ' = ρ ∧ μ' = μ) := by
  subst hp
  refine e_X8_trolley ?_
  refine ⟨(by unfold i32; omega), ?_⟩
  refine ⟨(by unfold i32; omega), ?_⟩
  refine ⟨(by unfold i32; omega), ?_⟩
  refine ⟨(by omega), ?_⟩
  exact ⟨rfl, rfl, rfl⟩
theorem m_ceil {ρ : Rf} {μ : Mem} {a b : Int} (ha : 0 ≤ a) (hb : 1 ≤ b) (hr : a + b ≤ 2147483647) : qE mX8_ceil GG GG [qI a, qI b] ρ μ (fun z ρ' μ' => z = (a + b - 1) / b ∧ ρ' = ρ ∧ μ' = μ) := by
  refine e_X8_ceil ?_
  refine ⟨(by unfold i32; omega), ?_⟩
  refine ⟨(by unfold i32; omega), ?_⟩
  refine ⟨(by omega), ?_⟩
  exact ⟨rfl, rfl, rfl⟩
theorem m_walkOf {ρ : Rf} {μ : Mem} {p : Pl} {j : Int} (hp : μ 180 = p) (hv : PV p) (h0 : 0 ≤ j) (h1 : j < p 87) : qE mX8_walkOf GG GG [qP 178, qI j] ρ μ (fun z ρ' μ' => z = wk p j ∧ ρ' = ρ ∧ μ' = μ) := by
  have n := hv.n
  have a := hv.j h0 h1
  have b := hv.i a.1 a.2.1
  have d := hv.k b.1 b.2.1
  have t := hv.t a.2.2.1 a.2.2.2.1
  have c := hv.c a.2.2.1 a.2.2.2.1 a.2.2.2.2.1 a.2.2.2.2.2.1
  refine e_X8_walkOf ?_
  refine ⟨_, m_job (p := p) (by (repeat rw [up2_c (by decide)]); assumption) (by omega) (by omega), ?_⟩
  rintro z1 ρ2 μ3 ⟨hq1_1, hq1_2, hq1_3⟩
  obtain rfl := hq1_1.symm
  obtain rfl := hq1_2.symm
  obtain rfl := hq1_3.symm
  refine ⟨_, m_trolley (p := p) (by (repeat rw [up2_c (by decide)]); assumption) (by omega) (by omega), ?_⟩
  rintro z5 ρ6 μ7 ⟨hq2_1, hq2_2, hq2_3⟩
  obtain rfl := hq2_1.symm
  obtain rfl := hq2_2.symm
  obtain rfl := hq2_3.symm
  refine ⟨(by unfold i32; omega), ?_⟩
  refine ⟨(by omega), ?_⟩
  refine ⟨_, m_job (p := p) (by (repeat rw [up2_c (by decide)]); assumption) (by omega) (by omega), ?_⟩
  rintro z9 ρ10 μ11 ⟨hq5_1, hq5_2, hq5_3⟩
  obtain rfl := hq5_1.symm
  obtain rfl := hq5_2.symm
  obtain rfl := hq5_3.symm
  refine ⟨(by unfold i32; omega), ?_⟩
  refine ⟨(by unfold i32; omega), ?_⟩
  refine ⟨_, m_job (p := p) (by (repeat rw [up2_c (by decide)]); assumption) (by omega) (by omega), ?_⟩
  rintro z13 ρ14 μ15 ⟨hq8_1, hq8_2, hq8_3⟩
  obtain rfl := hq8_1.symm
  obtain rfl := hq8_2.symm
  obtain rfl := hq8_3.symm
  refine ⟨(by unfold i32; omega), ?_⟩
  refine ⟨(by omega), ?_⟩
  rw [hp]
  refine ⟨(by unfold i32; omega), ?_⟩
  refine ⟨(by unfold i32; omega), ?_⟩
  refine ⟨_, m_trolley (p := p) (by (repeat rw [up2_c (by decide)]); assumption) (by omega) (by omega), ?_⟩
  rintro z17 ρ18 μ19 ⟨hq13_1, hq13_2, hq13_3⟩
  obtain rfl := hq13_1.symm
  obtain rfl := hq13_2.symm
  obtain rfl := hq13_3.symm
  refine ⟨_, m_ceil (by omega) (by omega) (by omega), ?_⟩
  rintro z21 ρ22 μ23 ⟨hq14_1, hq14_2, hq14_3⟩
  obtain rfl := hq14_1.symm
  obtain rfl := hq14_2.symm
  obtain rfl := hq14_3.symm
  exact ⟨rfl, rfl, rfl⟩
theorem m_nextJob {ρ : Rf} {μ : Mem} {p : Pl} {i out x0 : Int} (hp : μ 180 = p) (hn : p 87 ≤ 20) (h0 : 0 ≤ x0) : qE mX8_nextJob GG GG [qP 178, qI i, qI x0, qI out] ρ μ (fun z ρ' μ' => z = nx p i out x0 ∧ ρ' = ρ ∧ μ' = μ) := by
  have L : ∀ (k : Nat) (x : Int), (p 87 - x).toNat < k → 0 ≤ x → nx p i out x = nx p i out x0 → qX mX8_nextJob GG (fun z ρ' μ' => z = nx p i out x0 ∧ ρ' = ρ ∧ μ' = μ) GG (0, 0) 3 [some (qP 178), some (qI i), none, some (qI out), some (qI x)] [] ρ μ := by
    intro k
    induction k with
    | zero => intro x h; omega
    | succ k ih =>
      intro x hk h1 he
      refine w_X8_nextJob_3 ?_
      rw [hp]
      refine ⟨fun hc1 => ?_, fun hc1 => ?_⟩
      · exact ⟨by rw [← he, nx_1 hc1], rfl, rfl⟩
      · refine ⟨_, m_job (p := p) (by (repeat rw [up2_c (by decide)]); assumption) (by omega) (by omega), ?_⟩
        rintro z1 ρ2 μ3 ⟨hq3_1, hq3_2, hq3_3⟩
        obtain rfl := hq3_1.symm
        obtain rfl := hq3_2.symm
        obtain rfl := hq3_3.symm
        refine ⟨fun hc4 => ?_, fun hc4 => ?_⟩
        · refine ⟨(by unfold i32; omega), ?_⟩
          exact ih _ (by omega) (by omega) (by rw [← he, nx_3 (x := x) hc1 (fun h => hc4 h.1)])
        · refine ⟨fun hc7 => ?_, fun hc7 => ?_⟩
          · exact ⟨by rw [← he, nx_2 hc1 ⟨hc4, hc7⟩], rfl, rfl⟩
          · refine ⟨(by unfold i32; omega), ?_⟩
            exact ih _ (by omega) (by omega) (by rw [← he, nx_3 (x := x) hc1 (fun h => h.2 hc7)])
  refine e_X8_nextJob ?_
  exact L _ x0 (Nat.lt_succ_self _) h0 rfl
theorem m_first {ρ : Rf} {μ : Mem} {p : Pl} (hp : μ 180 = p) : qE mX8_first GG GG [qP 178] ρ μ (fun z ρ' μ' => z = fst_ p μ ∧ ρ' = ρ ∧ μ' = μ) := by
  have L : ∀ (k : Nat) (x : Nat), 5 - x < k → x ≤ 5 → qX mX8_first GG (fun z ρ' μ' => z = fst_ p μ ∧ ρ' = ρ ∧ μ' = μ) GG (0, 0) 4 [some (qP 178), some (qI (fsN (p 87) μ x)), some (qI (x : Int))] [] ρ μ := by
    intro k
    induction k with
    | zero => intro x h; omega
    | succ k ih =>
      intro x hk h1
      have e1 : ((x : Int) + 1) = ((x + 1 : Nat) : Int) := by omega
      have fs := fsN_s (n := p 87) (S := μ) x
      have ef : fsN (p 87) μ (x + 1) = if μ 187 (x : Int) < p 87 ∧ (fsN (p 87) μ x < 0 ∨ μ 188 (x : Int) < μ 188 (fsN (p 87) μ x)) then (x : Int) else fsN (p 87) μ x := rfl
      refine w_X8_first_4 ?_
      refine ⟨fun hc1 => ?_, fun hc1 => ?_⟩
      · exact ⟨by rw [show x = 5 by omega]; rfl, rfl, rfl⟩
      · refine ⟨(by omega), ?_⟩
        rw [hp]
        refine ⟨fun hc4 => ?_, fun hc4 => ?_⟩
        · refine ⟨(by unfold i32; omega), ?_⟩
          rw [if_neg (by omega)] at ef
          rw [e1, ← ef]
          exact ih _ (by omega) (by omega)
        · refine ⟨fun hc7 => ?_, fun hc7 => ?_⟩
          · refine ⟨(by unfold i32; omega), ?_⟩
            rw [if_pos (by omega)] at ef
            have := ih (x + 1) (by omega) (by omega)
            rw [ef, ← e1] at this
            exact this
          · refine ⟨(by omega), ?_⟩
            refine ⟨(by omega), ?_⟩
            refine ⟨fun hc12 => ?_, fun hc12 => ?_⟩
            · refine ⟨(by unfold i32; omega), ?_⟩
              rw [if_neg (by omega)] at ef
              rw [e1, ← ef]
              exact ih _ (by omega) (by omega)
            · refine ⟨(by unfold i32; omega), ?_⟩
              rw [if_pos (by omega)] at ef
              have := ih (x + 1) (by omega) (by omega)
              rw [ef, ← e1] at this
              exact this
  refine e_X8_first ?_
  exact L _ 0 (Nat.lt_succ_self _) (by omega)
theorem m_bringsBack {ρ : Rf} {μ : Mem} {p : Pl} {u : Int} (hS : SV p μ) (hv : PV p) : qE mX8_bringsBack GG GG [qP 178, qI u] ρ μ (fun _ ρ' μ' => ρ' = ρ ∧ μ' = bb u μ) := by
  have n := hv.n
  have s7 := s_Ib (f := μ 187) (n := 5) (b := 20) (by omega) (fun i h0 h1 => by have := hS.1 i h0 h1; omega)
  have s1 := s_Ib (f := μ 191) (n := 5) (b := 99) (by omega) (fun i h0 h1 => by have := hS.1 i h0 h1; omega)
  have L : ∀ (k : Nat) (x : Nat), 5 - x < k → x ≤ 5 → qX mX8_bringsBack GG (fun _ ρ' μ' => ρ' = ρ ∧ μ' = bb u μ) GG (0, 0) 2 [some (qP 178), some (qI u), some (qI (x : Int))] [] ρ (bbN u x μ) := by
    intro k
    induction k with
    | zero => intro x h; omega
    | succ k ih =>
      intro x hk h1
      have e1 : ((x : Int) + 1) = ((x + 1 : Nat) : Int) := by omega
      obtain ⟨q1, q2, q3⟩ := bbN_s (u := u) (S := μ) x
      have f9 : bbN u x μ 189 = μ 189 := q1 189 (by decide) (by decide)
      have f0 : bbN u x μ 190 = μ 190 := q1 190 (by decide) (by decide)
      have g1 : bbN u x μ 191 (x : Int) = μ 191 (x : Int) := by rw [q2, if_neg (by omega)]
      have ef : bbN u (x + 1) μ = if bbN u x μ 191 (x : Int) = 0 then bbN u x μ else if bbN u x μ 189 (x : Int) ≤ u then up2 (up2 (bbN u x μ) 193 (bbN u x μ 190 (x : Int)) (bbN u x μ 193 (bbN u x μ 190 (x : Int)) + bbN u x μ 191 (x : Int))) 191 (x : Int) 0 else bbN u x μ := rfl
      refine w_X8_bringsBack_2 ?_
      refine ⟨fun hc1 => ?_, fun hc1 => ?_⟩
      · exact ⟨rfl, by rw [show x = 5 by omega]; rfl⟩
      · refine ⟨(by omega), ?_⟩
        refine ⟨fun hc4 => ?_, fun hc4 => ?_⟩
        · refine ⟨(by unfold i32; omega), ?_⟩
          rw [if_pos hc4] at ef
          rw [e1]
          have := ih (x + 1) (by omega) (by omega)
          rw [ef] at this
          exact this
        · have a := hS.1 (x : Int) (by omega) (by omega)
          rw [g1] at hc4
          have b := a.2.2.2.2.2.2.2.2.1 hc4
          have c0 : ∀ j : Int, 0 ≤ j → j < x → 0 ≤ bkd μ u (μ 190 (x : Int)) j ∧ bkd μ u (μ 190 (x : Int)) j ≤ 99 := fun j j0 j1 => by
            have := hS.1 j j0 (by omega)
            unfold bkd
            split <;> omega
          have c1 := s_Ib (by omega) c0
          have c2 := hS.2.1 _ b.1 b.2
          have c3 := q3 (μ 190 (x : Int))
          refine ⟨(by omega), ?_⟩
          refine ⟨fun hc8 => ?_, fun hc8 => ?_⟩
          · refine ⟨(by omega), ?_⟩
            refine ⟨(by rw [f0]; exact b), ?_⟩
            refine ⟨(by omega), ?_⟩
            refine ⟨(by rw [f0, g1]; unfold i32; omega), ?_⟩
            refine ⟨(by rw [f0]; exact b), ?_⟩
            intro μ1 eμ1; subst eμ1
            refine ⟨(by omega), ?_⟩
            intro μ2 eμ2; subst eμ2
            refine ⟨(by unfold i32; omega), ?_⟩
            rw [if_neg (by rw [g1]; exact hc4), if_pos hc8] at ef
            rw [e1]
            have := ih (x + 1) (by omega) (by omega)
            rw [ef] at this
            exact this
          · refine ⟨(by unfold i32; omega), ?_⟩
            rw [if_neg (by rw [g1]; exact hc4), if_neg (by omega)] at ef
            rw [e1]
            have := ih (x + 1) (by omega) (by omega)
            rw [ef] at this
            exact this
  refine e_X8_bringsBack ?_
  exact L _ 0 (Nat.lt_succ_self _) (by omega)
theorem m_starts {ρ : Rf} {μ : Mem} {p : Pl} {i out : Int} (hp : μ 180 = p) (hv : PV p) (hS : SV p μ) (hi : 0 ≤ i ∧ i < 5) (hj : μ 187 i < p 87) (hw : μ 192 i = 0) : qE mX8_starts GG GG [qP 178, qI i, qI out] ρ μ (fun _ ρ' μ' => ρ' = ρ ∧ μ' = sStarts p out i μ) := by
  have n := hv.n
  have a := hS.1 i hi.1 hi.2
  have hb := sMn_b hv hS hi hj
  have ht := sTm_b hv hS hi hj
  have hk := wk_b hv a.1 hj
  have d1 := hv.i hi.1 hb.2.2.2.2.2
  have d2 := hv.j a.1 hj
  have hs := (hS.2.1 _ hb.2.2.1 hb.2.2.2.1)
  have s7 := s_Ib (f := μ 187) (n := 5) (b := 20) (by omega) (fun i h0 h1 => by have := hS.1 i h0 h1; omega)
  have s1 := s_Ib (f := μ 191) (n := 5) (b := 99) (by omega) (fun i h0 h1 => by have := hS.1 i h0 h1; omega)
  unfold sTm at ht
  unfold sCl at hb hs
  refine e_X8_starts ?_
  refine ⟨(by (try simp (disch := decide) only [up2_c]); omega), ?_⟩
  refine ⟨_, m_trolley (p := p) (by (repeat rw [up2_c (by decide)]); assumption) (by omega) (by omega), ?_⟩
  rintro z1 ρ2 μ3 ⟨hq2_1, hq2_2, hq2_3⟩
  obtain rfl := hq2_1.symm
  obtain rfl := hq2_2.symm
  obtain rfl := hq2_3.symm
  refine ⟨(by (try simp (disch := decide) only [up2_c]); unfold i32; omega), ?_⟩
  refine ⟨_, m_job (p := p) (by (repeat rw [up2_c (by decide)]); assumption) (by omega) (by omega), ?_⟩
  rintro z5 ρ6 μ7 ⟨hq4_1, hq4_2, hq4_3⟩
  obtain rfl := hq4_1.symm
  obtain rfl := hq4_2.symm
  obtain rfl := hq4_3.symm
  refine ⟨(by (try simp (disch := decide) only [up2_c]); unfold i32; omega), ?_⟩
  refine ⟨(by (try simp (disch := decide) only [up2_c]); omega), ?_⟩
  refine ⟨_, m_trolley (p := p) (by (repeat rw [up2_c (by decide)]); assumption) (by omega) (by omega), ?_⟩
  rintro z9 ρ10 μ11 ⟨hq7_1, hq7_2, hq7_3⟩
  obtain rfl := hq7_1.symm
  obtain rfl := hq7_2.symm
  obtain rfl := hq7_3.symm
  refine ⟨_, m_job (p := p) (by (repeat rw [up2_c (by decide)]); assumption) (by omega) (by omega), ?_⟩
  rintro z13 ρ14 μ15 ⟨hq8_1, hq8_2, hq8_3⟩
  obtain rfl := hq8_1.symm
  obtain rfl := hq8_2.symm
  obtain rfl := hq8_3.symm
  refine ⟨(by (try simp (disch := decide) only [up2_c]); omega), ?_⟩
  refine ⟨(by (try simp (disch := decide) only [up2_c]); omega), ?_⟩
  intro μ17 eμ17; subst eμ17
  refine ⟨(by (try simp (disch := decide) only [up2_c]); omega), ?_⟩
  intro μ18 eμ18; subst eμ18
  refine ⟨(by (try simp (disch := decide) only [up2_c]); omega), ?_⟩
  intro μ19 eμ19; subst eμ19
  have em : sMn p i μ = min (μ 193 (4 * p (62 + 5 * i + 0) + p (88 + 5 * μ 187 i + 3))) (min (p (62 + 5 * i + 1)) (p (88 + 5 * μ 187 i + 4))) := rfl
  refine ⟨fun hc16 => ?_, fun hc16 => ?_⟩
  · rw [em] at ht hb
    refine ⟨(by (try simp (disch := decide) only [up2_c]); omega), ?_⟩
    refine ⟨(by (try simp (disch := decide) only [up2_c]); unfold i32; omega), ?_⟩
    refine ⟨(by (try simp (disch := decide) only [up2_c]); omega), ?_⟩
    intro μ20 eμ20; subst eμ20
    refine ⟨(by (try simp (disch := decide) only [up2_c]); omega), ?_⟩
    intro μ21 eμ21; subst eμ21
    refine ⟨(by (try simp (disch := decide) only [up2_c]); omega), ?_⟩
    refine ⟨_, m_trolley (p := p) (by (repeat rw [up2_c (by decide)]); assumption) (by omega) (by omega), ?_⟩
    rintro z22 ρ23 μ24 ⟨hq24_1, hq24_2, hq24_3⟩
    obtain rfl := hq24_1.symm
    obtain rfl := hq24_2.symm
    obtain rfl := hq24_3.symm
    refine ⟨(by (try simp (disch := decide) only [up2_c]); unfold i32; omega), ?_⟩
    refine ⟨_, m_walkOf (p := p) (by (repeat rw [up2_c (by decide)]); assumption) (by assumption) (by omega) (by omega), ?_⟩
    rintro z26 ρ27 μ28 ⟨hq26_1, hq26_2, hq26_3⟩
    obtain rfl := hq26_1.symm
    obtain rfl := hq26_2.symm
    obtain rfl := hq26_3.symm
    refine ⟨(by (try simp (disch := decide) only [up2_c]); unfold i32; omega), ?_⟩
    refine ⟨(by (try simp (disch := decide) only [up2_c]); unfold i32; omega), ?_⟩
    refine ⟨(by (try simp (disch := decide) only [up2_c]); omega), ?_⟩
    intro μ30 eμ30; subst eμ30
    refine ⟨(by (try simp (disch := decide) only [up2_c]); omega), ?_⟩
    refine ⟨(by (try simp (disch := decide) only [up2_c]); omega), ?_⟩
    intro μ31 eμ31; subst eμ31
    refine ⟨rfl, ?_⟩
    rw [st_1 hc16]
    simp (disch := decide) only [up2_c, up2_s]
    rfl
  · refine ⟨(by (try simp (disch := decide) only [up2_c]); omega), ?_⟩
    refine ⟨(by (try simp (disch := decide) only [up2_c]); omega), ?_⟩
    intro μ32 eμ32; subst eμ32
    refine ⟨(by (try simp (disch := decide) only [up2_c]); unfold i32; omega), ?_⟩
    refine ⟨_, m_nextJob (p := p) (by (repeat rw [up2_c (by decide)]); assumption) (by omega) (by omega), ?_⟩
    rintro z33 ρ34 μ35 ⟨hq39_1, hq39_2, hq39_3⟩
    obtain rfl := hq39_1.symm
    obtain rfl := hq39_2.symm
    obtain rfl := hq39_3.symm
    refine ⟨(by (try simp (disch := decide) only [up2_c]); omega), ?_⟩
    intro μ37 eμ37; subst eμ37
    refine ⟨rfl, ?_⟩
    rw [st_0 hc16]
    simp (disch := decide) only [up2_c, up2_s]
    rw [hc16]
theorem m_reaches {ρ : Rf} {μ : Mem} {p : Pl} {i out : Int} (hp : μ 180 = p) (hv : PV p) (hS : SV p μ) (hi : 0 ≤ i ∧ i < 5) (hj : μ 187 i < p 87) (hw : μ 192 i ≠ 0) : qE mX8_reaches GG GG [qP 178, qI i, qI out] ρ μ (fun _ ρ' μ' => ρ' = ρ ∧ μ' = sReach p out i μ) := by
  sorry
