/-! ===== contracts of the reference's run ===== -/
theorem m_job {ρ : Rf} {μ : Mem} {p : Pl} {j w : Int} (hp : μ 180 = p) (hj : 0 ≤ j ∧ j < 20) (hw : 0 ≤ w ∧ w < 5) : qE mX8_job GG GG [qP 178, qI j, qI w] ρ μ (fun z ρ' μ' => z = p (88 + 5 * j + w) ∧ ρ' = ρ ∧ μ' = μ) := by
  subst hp
  refine e_X8_job ?_
  refine ⟨(by unfold i32; omega), ?_⟩
  refine ⟨(by unfold i32; omega), ?_⟩
  refine ⟨(by unfold i32; omega), ?_⟩
  refine ⟨(by omega), ?_⟩
  exact ⟨rfl, rfl, rfl⟩
theorem m_trolley {ρ : Rf} {μ : Mem} {p : Pl} {j w : Int} (hp : μ 180 = p) (hj : 0 ≤ j ∧ j < 5) (hw : 0 ≤ w ∧ w < 5) : qE mX8_trolley GG GG [qP 178, qI j, qI w] ρ μ (fun z ρ' μ' => z = p (62 + 5 * j + w) ∧ ρ' = ρ ∧ μ' = μ) := by
  subst hp
  refine e_X8_trolley ?_
  refine ⟨(by unfold i32; omega), ?_⟩
  refine ⟨(by unfold i32; omega), ?_⟩
  refine ⟨(by unfold i32; omega), ?_⟩
  refine ⟨(by omega), ?_⟩
  exact ⟨rfl, rfl, rfl⟩
theorem m_ceil {ρ : Rf} {μ : Mem} {a b : Int} (ha : 0 ≤ a) (hb : 1 ≤ b) (hr : a + b ≤ 2147483647) : qE mX8_ceil GG GG [qI a, qI b] ρ μ (fun z ρ' μ' => z = (a + b - 1) / b ∧ ρ' = ρ ∧ μ' = μ) := by
  refine e_X8_ceil ?_
  refine ⟨(by unfold i32; omega), ?_⟩
  refine ⟨(by unfold i32; omega), ?_⟩
  refine ⟨(by omega), ?_⟩
  exact ⟨rfl, rfl, rfl⟩
theorem m_walkOf {ρ : Rf} {μ : Mem} {p : Pl} {j : Int} (hp : μ 180 = p) (hv : PV p) (h0 : 0 ≤ j) (h1 : j < p 87) : qE mX8_walkOf GG GG [qP 178, qI j] ρ μ (fun z ρ' μ' => z = wk p j ∧ ρ' = ρ ∧ μ' = μ) := by
  have n := hv.n
  have a := hv.j h0 h1
  have b := hv.i a.1 a.2.1
  have d := hv.k b.1 b.2.1
  have t := hv.t a.2.2.1 a.2.2.2.1
  have c := hv.c a.2.2.1 a.2.2.2.1 a.2.2.2.2.1 a.2.2.2.2.2.1
  refine e_X8_walkOf ?_
  refine ⟨_, m_job (p := p) (by (repeat rw [up2_c (by decide)]); assumption) (by omega) (by omega), ?_⟩
  rintro z1 ρ2 μ3 ⟨hq1_1, hq1_2, hq1_3⟩
  obtain rfl := hq1_1.symm
  obtain rfl := hq1_2.symm
  obtain rfl := hq1_3.symm
  refine ⟨_, m_trolley (p := p) (by (repeat rw [up2_c (by decide)]); assumption) (by omega) (by omega), ?_⟩
  rintro z5 ρ6 μ7 ⟨hq2_1, hq2_2, hq2_3⟩
  obtain rfl := hq2_1.symm
  obtain rfl := hq2_2.symm
  obtain rfl := hq2_3.symm
  refine ⟨(by unfold i32; omega), ?_⟩
  refine ⟨(by omega), ?_⟩
  refine ⟨_, m_job (p := p) (by (repeat rw [up2_c (by decide)]); assumption) (by omega) (by omega), ?_⟩
  rintro z9 ρ10 μ11 ⟨hq5_1, hq5_2, hq5_3⟩
  obtain rfl := hq5_1.symm
  obtain rfl := hq5_2.symm
  obtain rfl := hq5_3.symm
  refine ⟨(by unfold i32; omega), ?_⟩
  refine ⟨(by unfold i32; omega), ?_⟩
  refine ⟨_, m_job (p := p) (by (repeat rw [up2_c (by decide)]); assumption) (by omega) (by omega), ?_⟩
  rintro z13 ρ14 μ15 ⟨hq8_1, hq8_2, hq8_3⟩
  obtain rfl := hq8_1.symm
  obtain rfl := hq8_2.symm
  obtain rfl := hq8_3.symm
  refine ⟨(by unfold i32; omega), ?_⟩
  refine ⟨(by omega), ?_⟩
  rw [hp]
  refine ⟨(by unfold i32; omega), ?_⟩
  refine ⟨(by unfold i32; omega), ?_⟩
  refine ⟨_, m_trolley (p := p) (by (repeat rw [up2_c (by decide)]); assumption) (by omega) (by omega), ?_⟩
  rintro z17 ρ18 μ19 ⟨hq13_1, hq13_2, hq13_3⟩
  obtain rfl := hq13_1.symm
  obtain rfl := hq13_2.symm
  obtain rfl := hq13_3.symm
  refine ⟨_, m_ceil (by omega) (by omega) (by omega), ?_⟩
  rintro z21 ρ22 μ23 ⟨hq14_1, hq14_2, hq14_3⟩
  obtain rfl := hq14_1.symm
  obtain rfl := hq14_2.symm
  obtain rfl := hq14_3.symm
  exact ⟨rfl, rfl, rfl⟩
theorem m_nextJob {ρ : Rf} {μ : Mem} {p : Pl} {i out x0 : Int} (hp : μ 180 = p) (hn : p 87 ≤ 20) (h0 : 0 ≤ x0) : qE mX8_nextJob GG GG [qP 178, qI i, qI x0, qI out] ρ μ (fun z ρ' μ' => z = nx p i out x0 ∧ ρ' = ρ ∧ μ' = μ) := by
  have L : ∀ (k : Nat) (x : Int), (p 87 - x).toNat < k → 0 ≤ x → nx p i out x = nx p i out x0 → qX mX8_nextJob GG (fun z ρ' μ' => z = nx p i out x0 ∧ ρ' = ρ ∧ μ' = μ) GG (0, 0) 3 [some (qP 178), some (qI i), none, some (qI out), some (qI x)] [] ρ μ := by
    intro k
    induction k with
    | zero => intro x h; omega
    | succ k ih =>
      intro x hk h1 he
      refine w_X8_nextJob_3 ?_
      rw [hp]
      refine ⟨fun hc1 => ?_, fun hc1 => ?_⟩
      · exact ⟨by rw [← he, nx_1 hc1], rfl, rfl⟩
      · refine ⟨_, m_job (p := p) (by (repeat rw [up2_c (by decide)]); assumption) (by omega) (by omega), ?_⟩
        rintro z1 ρ2 μ3 ⟨hq3_1, hq3_2, hq3_3⟩
        obtain rfl := hq3_1.symm
        obtain rfl := hq3_2.symm
        obtain rfl := hq3_3.symm
        refine ⟨fun hc4 => ?_, fun hc4 => ?_⟩
        · refine ⟨(by unfold i32; omega), ?_⟩
          exact ih _ (by omega) (by omega) (by rw [← he, nx_3 (x := x) hc1 (fun h => hc4 h.1)])
        · refine ⟨fun hc7 => ?_, fun hc7 => ?_⟩
          · exact ⟨by rw [← he, nx_2 hc1 ⟨hc4, hc7⟩], rfl, rfl⟩
          · refine ⟨(by unfold i32; omega), ?_⟩
            exact ih _ (by omega) (by omega) (by rw [← he, nx_3 (x := x) hc1 (fun h => h.2 hc7)])
  refine e_X8_nextJob ?_
  exact L _ x0 (Nat.lt_succ_self _) h0 rfl
theorem m_first {ρ : Rf} {μ : Mem} {p : Pl} (hp : μ 180 = p) : qE mX8_first GG GG [qP 178] ρ μ (fun z ρ' μ' => z = fst_ p μ ∧ ρ' = ρ ∧ μ' = μ) := by
  have L : ∀ (k : Nat) (x : Nat), 5 - x < k → x ≤ 5 → qX mX8_first GG (fun z ρ' μ' => z = fst_ p μ ∧ ρ' = ρ ∧ μ' = μ) GG (0, 0) 4 [some (qP 178), some (qI (fsN (p 87) μ x)), some (qI (x : Int))] [] ρ μ := by
    intro k
    induction k with
    | zero => intro x h; omega
    | succ k ih =>
      intro x hk h1
      have e1 : ((x : Int) + 1) = ((x + 1 : Nat) : Int) := by omega
      have fs := fsN_s (n := p 87) (S := μ) x
      have ef : fsN (p 87) μ (x + 1) = if μ 187 (x : Int) < p 87 ∧ (fsN (p 87) μ x < 0 ∨ μ 188 (x : Int) < μ 188 (fsN (p 87) μ x)) then (x : Int) else fsN (p 87) μ x := rfl
      refine w_X8_first_4 ?_
      refine ⟨fun hc1 => ?_, fun hc1 => ?_⟩
      · exact ⟨by rw [show x = 5 by omega]; rfl, rfl, rfl⟩
      · refine ⟨(by omega), ?_⟩
        rw [hp]
        refine ⟨fun hc4 => ?_, fun hc4 => ?_⟩
        · refine ⟨(by unfold i32; omega), ?_⟩
          rw [if_neg (by omega)] at ef
          rw [e1, ← ef]
          exact ih _ (by omega) (by omega)
        · refine ⟨fun hc7 => ?_, fun hc7 => ?_⟩
          · refine ⟨(by unfold i32; omega), ?_⟩
            rw [if_pos (by omega)] at ef
            have := ih (x + 1) (by omega) (by omega)
            rw [ef, ← e1] at this
            exact this
          · refine ⟨(by omega), ?_⟩
            refine ⟨(by omega), ?_⟩
            refine ⟨fun hc12 => ?_, fun hc12 => ?_⟩
            · refine ⟨(by unfold i32; omega), ?_⟩
              rw [if_neg (by omega)] at ef
              rw [e1, ← ef]
              exact ih _ (by omega) (by omega)
            · refine ⟨(by unfold i32; omega), ?_⟩
              rw [if_pos (by omega)] at ef
              have := ih (x + 1) (by omega) (by omega)
              rw [ef, ← e1] at this
              exact this
  refine e_X8_first ?_
  exact L _ 0 (Nat.lt_succ_self _) (by omega)
theorem m_bringsBack {ρ : Rf} {μ : Mem} {p : Pl} {u : Int} (hS : SV p μ) (hv : PV p) : qE mX8_bringsBack GG GG [qP 178, qI u] ρ μ (fun _ ρ' μ' => ρ' = ρ ∧ μ' = bb u μ) := by
  have n := hv.n
  have s7 := s_Ib (f := μ 187) (n := 5) (b := 20) (by omega) (fun i h0 h1 => by have := hS.1 i h0 h1; omega)
  have s1 := s_Ib (f := μ 191) (n := 5) (b := 99) (by omega) (fun i h0 h1 => by have := hS.1 i h0 h1; omega)
  have L : ∀ (k : Nat) (x : Nat), 5 - x < k → x ≤ 5 → qX mX8_bringsBack GG (fun _ ρ' μ' => ρ' = ρ ∧ μ' = bb u μ) GG (0, 0) 2 [some (qP 178), some (qI u), some (qI (x : Int))] [] ρ (bbN u x μ) := by
    intro k
    induction k with
    | zero => intro x h; omega
    | succ k ih =>
      intro x hk h1
      have e1 : ((x : Int) + 1) = ((x + 1 : Nat) : Int) := by omega
      obtain ⟨q1, q2, q3⟩ := bbN_s (u := u) (S := μ) x
      have f9 : bbN u x μ 189 = μ 189 := q1 189 (by decide) (by decide)
      have f0 : bbN u x μ 190 = μ 190 := q1 190 (by decide) (by decide)
      have g1 : bbN u x μ 191 (x : Int) = μ 191 (x : Int) := by rw [q2, if_neg (by omega)]
      have ef : bbN u (x + 1) μ = if bbN u x μ 191 (x : Int) = 0 then bbN u x μ else if bbN u x μ 189 (x : Int) ≤ u then up2 (up2 (bbN u x μ) 193 (bbN u x μ 190 (x : Int)) (bbN u x μ 193 (bbN u x μ 190 (x : Int)) + bbN u x μ 191 (x : Int))) 191 (x : Int) 0 else bbN u x μ := rfl
      refine w_X8_bringsBack_2 ?_
      refine ⟨fun hc1 => ?_, fun hc1 => ?_⟩
      · exact ⟨rfl, by rw [show x = 5 by omega]; rfl⟩
      · refine ⟨(by omega), ?_⟩
        refine ⟨fun hc4 => ?_, fun hc4 => ?_⟩
        · refine ⟨(by unfold i32; omega), ?_⟩
          rw [if_pos hc4] at ef
          rw [e1]
          have := ih (x + 1) (by omega) (by omega)
          rw [ef] at this
          exact this
        · have a := hS.1 (x : Int) (by omega) (by omega)
          rw [g1] at hc4
          have b := a.2.2.2.2.2.2.2.2.1 hc4
          have c0 : ∀ j : Int, 0 ≤ j → j < x → 0 ≤ bkd μ u (μ 190 (x : Int)) j ∧ bkd μ u (μ 190 (x : Int)) j ≤ 99 := fun j j0 j1 => by
            have := hS.1 j j0 (by omega)
            unfold bkd
            split <;> omega
          have c1 := s_Ib (by omega) c0
          have c2 := hS.2.1 _ b.1 b.2
          have c3 := q3 (μ 190 (x : Int))
          refine ⟨(by omega), ?_⟩
          refine ⟨fun hc8 => ?_, fun hc8 => ?_⟩
          · refine ⟨(by omega), ?_⟩
            refine ⟨(by rw [f0]; exact b), ?_⟩
            refine ⟨(by omega), ?_⟩
            refine ⟨(by rw [f0, g1]; unfold i32; omega), ?_⟩
            refine ⟨(by rw [f0]; exact b), ?_⟩
            intro μ1 eμ1; subst eμ1
            refine ⟨(by omega), ?_⟩
            intro μ2 eμ2; subst eμ2
            refine ⟨(by unfold i32; omega), ?_⟩
            rw [if_neg (by rw [g1]; exact hc4), if_pos hc8] at ef
            rw [e1]
            have := ih (x + 1) (by omega) (by omega)
            rw [ef] at this
            exact this
          · refine ⟨(by unfold i32; omega), ?_⟩
            rw [if_neg (by rw [g1]; exact hc4), if_neg (by omega)] at ef
            rw [e1]
            have := ih (x + 1) (by omega) (by omega)
            rw [ef] at this
            exact this
  refine e_X8_bringsBack ?_
  exact L _ 0 (Nat.lt_succ_self _) (by omega)
theorem m_starts {ρ : Rf} {μ : Mem} {p : Pl} {i out : Int} (hp : μ 180 = p) (hv : PV p) (hS : SV p μ) (hi : 0 ≤ i ∧ i < 5) (hj : μ 187 i < p 87) (hw : μ 192 i = 0) : qE mX8_starts GG GG [qP 178, qI i, qI out] ρ μ (fun _ ρ' μ' => ρ' = ρ ∧ μ' = sStarts p out i μ) := by
  have n := hv.n
  have a := hS.1 i hi.1 hi.2
  have hb := sMn_b hv hS hi hj
  have ht := sTm_b hv hS hi hj
  have hk := wk_b hv a.1 hj
  have d1 := hv.i hi.1 hb.2.2.2.2.2
  have d2 := hv.j a.1 hj
  have hs := (hS.2.1 _ hb.2.2.1 hb.2.2.2.1)
  have s7 := s_Ib (f := μ 187) (n := 5) (b := 20) (by omega) (fun i h0 h1 => by have := hS.1 i h0 h1; omega)
  have s1 := s_Ib (f := μ 191) (n := 5) (b := 99) (by omega) (fun i h0 h1 => by have := hS.1 i h0 h1; omega)
  unfold sTm at ht
  unfold sCl at hb hs
  refine e_X8_starts ?_
  refine ⟨(by (try simp (disch := decide) only [up2_c]); omega), ?_⟩
  refine ⟨_, m_trolley (p := p) (by (repeat rw [up2_c (by decide)]); assumption) (by omega) (by omega), ?_⟩
  rintro z1 ρ2 μ3 ⟨hq2_1, hq2_2, hq2_3⟩
  obtain rfl := hq2_1.symm
  obtain rfl := hq2_2.symm
  obtain rfl := hq2_3.symm
  refine ⟨(by (try simp (disch := decide) only [up2_c]); unfold i32; omega), ?_⟩
  refine ⟨_, m_job (p := p) (by (repeat rw [up2_c (by decide)]); assumption) (by omega) (by omega), ?_⟩
  rintro z5 ρ6 μ7 ⟨hq4_1, hq4_2, hq4_3⟩
  obtain rfl := hq4_1.symm
  obtain rfl := hq4_2.symm
  obtain rfl := hq4_3.symm
  refine ⟨(by (try simp (disch := decide) only [up2_c]); unfold i32; omega), ?_⟩
  refine ⟨(by (try simp (disch := decide) only [up2_c]); omega), ?_⟩
  refine ⟨_, m_trolley (p := p) (by (repeat rw [up2_c (by decide)]); assumption) (by omega) (by omega), ?_⟩
  rintro z9 ρ10 μ11 ⟨hq7_1, hq7_2, hq7_3⟩
  obtain rfl := hq7_1.symm
  obtain rfl := hq7_2.symm
  obtain rfl := hq7_3.symm
  refine ⟨_, m_job (p := p) (by (repeat rw [up2_c (by decide)]); assumption) (by omega) (by omega), ?_⟩
  rintro z13 ρ14 μ15 ⟨hq8_1, hq8_2, hq8_3⟩
  obtain rfl := hq8_1.symm
  obtain rfl := hq8_2.symm
  obtain rfl := hq8_3.symm
  refine ⟨(by (try simp (disch := decide) only [up2_c]); omega), ?_⟩
  refine ⟨(by (try simp (disch := decide) only [up2_c]); omega), ?_⟩
  intro μ17 eμ17; subst eμ17
  refine ⟨(by (try simp (disch := decide) only [up2_c]); omega), ?_⟩
  intro μ18 eμ18; subst eμ18
  refine ⟨(by (try simp (disch := decide) only [up2_c]); omega), ?_⟩
  intro μ19 eμ19; subst eμ19
  have em : sMn p i μ = min (μ 193 (4 * p (62 + 5 * i + 0) + p (88 + 5 * μ 187 i + 3))) (min (p (62 + 5 * i + 1)) (p (88 + 5 * μ 187 i + 4))) := rfl
  refine ⟨fun hc16 => ?_, fun hc16 => ?_⟩
  · rw [em] at ht hb
    refine ⟨(by (try simp (disch := decide) only [up2_c]); omega), ?_⟩
    refine ⟨(by (try simp (disch := decide) only [up2_c]); unfold i32; omega), ?_⟩
    refine ⟨(by (try simp (disch := decide) only [up2_c]); omega), ?_⟩
    intro μ20 eμ20; subst eμ20
    refine ⟨(by (try simp (disch := decide) only [up2_c]); omega), ?_⟩
    intro μ21 eμ21; subst eμ21
    refine ⟨(by (try simp (disch := decide) only [up2_c]); omega), ?_⟩
    refine ⟨_, m_trolley (p := p) (by (repeat rw [up2_c (by decide)]); assumption) (by omega) (by omega), ?_⟩
    rintro z22 ρ23 μ24 ⟨hq24_1, hq24_2, hq24_3⟩
    obtain rfl := hq24_1.symm
    obtain rfl := hq24_2.symm
    obtain rfl := hq24_3.symm
    refine ⟨(by (try simp (disch := decide) only [up2_c]); unfold i32; omega), ?_⟩
    refine ⟨_, m_walkOf (p := p) (by (repeat rw [up2_c (by decide)]); assumption) (by assumption) (by omega) (by omega), ?_⟩
    rintro z26 ρ27 μ28 ⟨hq26_1, hq26_2, hq26_3⟩
    obtain rfl := hq26_1.symm
    obtain rfl := hq26_2.symm
    obtain rfl := hq26_3.symm
    refine ⟨(by (try simp (disch := decide) only [up2_c]); unfold i32; omega), ?_⟩
    refine ⟨(by (try simp (disch := decide) only [up2_c]); unfold i32; omega), ?_⟩
    refine ⟨(by (try simp (disch := decide) only [up2_c]); omega), ?_⟩
    intro μ30 eμ30; subst eμ30
    refine ⟨(by (try simp (disch := decide) only [up2_c]); omega), ?_⟩
    refine ⟨(by (try simp (disch := decide) only [up2_c]); omega), ?_⟩
    intro μ31 eμ31; subst eμ31
    refine ⟨rfl, ?_⟩
    rw [st_1 hc16]
    simp (disch := decide) only [up2_c, up2_s]
    rfl
  · refine ⟨(by (try simp (disch := decide) only [up2_c]); omega), ?_⟩
    refine ⟨(by (try simp (disch := decide) only [up2_c]); omega), ?_⟩
    intro μ32 eμ32; subst eμ32
    refine ⟨(by (try simp (disch := decide) only [up2_c]); unfold i32; omega), ?_⟩
    refine ⟨_, m_nextJob (p := p) (by (repeat rw [up2_c (by decide)]); assumption) (by omega) (by omega), ?_⟩
    rintro z33 ρ34 μ35 ⟨hq39_1, hq39_2, hq39_3⟩
    obtain rfl := hq39_1.symm
    obtain rfl := hq39_2.symm
    obtain rfl := hq39_3.symm
    refine ⟨(by (try simp (disch := decide) only [up2_c]); omega), ?_⟩
    intro μ37 eμ37; subst eμ37
    refine ⟨rfl, ?_⟩
    rw [st_0 hc16]
    simp (disch := decide) only [up2_c, up2_s]
    rw [hc16]
theorem m_re244 {ρ : Rf} {B R : Mem} {p : Pl} {i out j : Int} (hp : B 180 = p) (hn : p 87 ≤ 20) (hi : 0 ≤ i ∧ i < 5) (hj : 0 ≤ j ∧ j < p 87) (hR : sEnd p out i j B = R) : qX mX8_reaches GG (fun (_ : Int) (ρ' : Rf) (μ' : Mem) => ρ' = ρ ∧ μ' = R) GG (0, 0) 244 [some (qP 178), some (qI i), some (qI out), some (qI j), none, none, none, none, none, none, none] [] ρ B := by
  refine w_X8_reaches_244 ?_
  refine ⟨(by omega), ?_⟩
  intro μ1 eμ1; subst eμ1
  refine ⟨(by omega), ?_⟩
  refine ⟨(by omega), ?_⟩
  intro μ2 eμ2; subst eμ2
  refine ⟨(by unfold i32; omega), ?_⟩
  refine ⟨_, m_nextJob (p := p) (by (repeat rw [up2_c (by decide)]); assumption) (by omega) (by omega), ?_⟩
  rintro z3 ρ4 μ5 ⟨hq7_1, hq7_2, hq7_3⟩
  obtain rfl := hq7_1.symm
  obtain rfl := hq7_2.symm
  obtain rfl := hq7_3.symm
  refine ⟨(by omega), ?_⟩
  intro μ7 eμ7; subst eμ7
  refine ⟨rfl, ?_⟩
  rw [← hR, up2_c (by decide)]
  rfl
theorem m_re144 {ρ : Rf} {D R : Mem} {p : Pl} {i out j v o : Int} (hp : D 180 = p) (hv : PV p) (hi : 0 ≤ i ∧ i < 5 ∧ i < p 61) (hj : 0 ≤ j ∧ j < p 87) (ho : 0 ≤ o ∧ o ≤ 100000) (hl : 0 ≤ D 196 j - v ∧ D 196 j - v ≤ 99) (hs : ∀ k, 0 ≤ k → k < 12 → 0 ≤ D 193 k ∧ D 193 k ≤ 100000) (hR : sEnd p out i j (sBk p i j v (up2 D 200 j (o + wk p j))) = R) : qX mX8_reaches GG (fun (_ : Int) (ρ' : Rf) (μ' : Mem) => ρ' = ρ ∧ μ' = R) GG (0, 0) 144 [some (qP 178), some (qI i), some (qI out), some (qI j), none, none, none, some (qI v), some (qI o), none, none] [] ρ D := by
  have n := hv.n
  have hk := wk_b hv hj.1 hj.2
  have d1 := hv.i hi.1 hi.2.2
  have d2 := hv.j hj.1 hj.2
  have d3 := hs (4 * p (62 + 5 * i + 0) + p (88 + 5 * j + 3)) (by omega) (by omega)
  refine w_X8_reaches_144 ?_
  refine ⟨_, m_walkOf (p := p) (by (repeat rw [up2_c (by decide)]); assumption) (by assumption) (by omega) (by omega), ?_⟩
  rintro z1 ρ2 μ3 ⟨hq1_1, hq1_2, hq1_3⟩
  obtain rfl := hq1_1.symm
  obtain rfl := hq1_2.symm
  obtain rfl := hq1_3.symm
  refine ⟨(by (try simp (disch := decide) only [up2_c]); unfold i32; omega), ?_⟩
  refine ⟨(by (try simp (disch := decide) only [up2_c]); omega), ?_⟩
  intro μ5 eμ5; subst eμ5
  refine ⟨_, m_trolley (p := p) (by (repeat rw [up2_c (by decide)]); assumption) (by omega) (by omega), ?_⟩
  rintro z6 ρ7 μ8 ⟨hq5_1, hq5_2, hq5_3⟩
  obtain rfl := hq5_1.symm
  obtain rfl := hq5_2.symm
  obtain rfl := hq5_3.symm
  refine ⟨(by (try simp (disch := decide) only [up2_c]); unfold i32; omega), ?_⟩
  refine ⟨_, m_job (p := p) (by (repeat rw [up2_c (by decide)]); assumption) (by omega) (by omega), ?_⟩
  rintro z10 ρ11 μ12 ⟨hq7_1, hq7_2, hq7_3⟩
  obtain rfl := hq7_1.symm
  obtain rfl := hq7_2.symm
  obtain rfl := hq7_3.symm
  refine ⟨(by (try simp (disch := decide) only [up2_c]); unfold i32; omega), ?_⟩
  refine ⟨(by (try simp (disch := decide) only [up2_c]); omega), ?_⟩
  refine ⟨(by (try simp (disch := decide) only [up2_c]); unfold i32; omega), ?_⟩
  refine ⟨(by (try simp (disch := decide) only [up2_c]); omega), ?_⟩
  refine ⟨(by (try simp (disch := decide) only [up2_c]); omega), ?_⟩
  refine ⟨fun hc13 => ?_, fun hc13 => ?_⟩
  · refine ⟨(by (try simp (disch := decide) only [up2_c]); omega), ?_⟩
    refine ⟨(by (try simp (disch := decide) only [up2_c]); omega), ?_⟩
    intro μ14 eμ14; subst eμ14
    refine ⟨(by (try simp (disch := decide) only [up2_c]); omega), ?_⟩
    intro μ15 eμ15; subst eμ15
    refine ⟨(by (try simp (disch := decide) only [up2_c]); omega), ?_⟩
    intro μ16 eμ16; subst eμ16
    refine m_re244 (p := p) (by (repeat rw [up2_c (by decide)]); assumption) n.2.2.2.2.2.2.2 ⟨hi.1, hi.2.1⟩ hj ?_
    rw [← hR]
    unfold sBk
    rw [if_neg hc13]
  · refine ⟨(by (try simp (disch := decide) only [up2_c]); omega), ?_⟩
    refine ⟨(by (try simp (disch := decide) only [up2_c]); unfold i32; omega), ?_⟩
    refine ⟨(by (try simp (disch := decide) only [up2_c]); omega), ?_⟩
    intro μ17 eμ17; subst eμ17
    refine m_re244 (p := p) (by (repeat rw [up2_c (by decide)]); assumption) n.2.2.2.2.2.2.2 ⟨hi.1, hi.2.1⟩ hj ?_
    rw [← hR]
    unfold sBk
    rw [if_pos hc13]
theorem m_reaches {ρ : Rf} {μ : Mem} {p : Pl} {i out : Int} (hp : μ 180 = p) (hv : PV p) (hS : SV p μ) (hi : 0 ≤ i ∧ i < 5) (hj : μ 187 i < p 87) (hw : μ 192 i ≠ 0) : qE mX8_reaches GG GG [qP 178, qI i, qI out] ρ μ (fun _ ρ' μ' => ρ' = ρ ∧ μ' = sReach p out i μ) := by
  have n := hv.n
  have a := hS.1 i hi.1 hi.2
  have b := a.2.2.2.2.2.2.2.2.2.1 hj
  have hb := sMany_b hv hS hi hj
  have d1 := hv.i hi.1 b.1
  have d2 := hv.j a.1 hj
  have d3 := hv.t d2.2.2.1 d2.2.2.2.1
  have d4 := hS.2.2.2 (μ 187 i) a.1 (by omega)
  have s7 := s_Ib (f := μ 187) (n := 5) (b := 20) (by omega) (fun i h0 h1 => by have := hS.1 i h0 h1; omega)
  have s1 := s_Ib (f := μ 191) (n := 5) (b := 99) (by omega) (fun i h0 h1 => by have := hS.1 i h0 h1; omega)
  have hs : ∀ k, 0 ≤ k → k < 12 → 0 ≤ μ 193 k ∧ μ 193 k ≤ 100000 := fun k k0 k1 => by have := hS.2.1 k k0 k1; omega
  have eB : sBeg p i μ = max (μ 188 i) (max (p (0 + p (88 + 5 * μ 187 i + 1))) (μ 194 (5 * p (88 + 5 * μ 187 i + 1) + p (88 + 5 * μ 187 i + 2)))) := rfl
  have eM : sMany p i μ = max 0 (min (μ 196 (μ 187 i)) (Int.tdiv (p (2 + p (88 + 5 * μ 187 i + 1)) - sBeg p i μ) (p (62 + 5 * i + 4)))) := rfl
  refine e_X8_reaches ?_
  refine ⟨(by (try simp (disch := decide) only [up2_c]); omega), ?_⟩
  refine ⟨_, m_job (p := p) (by (repeat rw [up2_c (by decide)]); assumption) (by omega) (by omega), ?_⟩
  rintro z1 ρ2 μ3 ⟨hq2_1, hq2_2, hq2_3⟩
  obtain rfl := hq2_1.symm
  obtain rfl := hq2_2.symm
  obtain rfl := hq2_3.symm
  refine ⟨(by (try simp (disch := decide) only [up2_c]); unfold i32; omega), ?_⟩
  refine ⟨_, m_job (p := p) (by (repeat rw [up2_c (by decide)]); assumption) (by omega) (by omega), ?_⟩
  rintro z5 ρ6 μ7 ⟨hq4_1, hq4_2, hq4_3⟩
  obtain rfl := hq4_1.symm
  obtain rfl := hq4_2.symm
  obtain rfl := hq4_3.symm
  refine ⟨(by (try simp (disch := decide) only [up2_c]); unfold i32; omega), ?_⟩
  refine ⟨(by (try simp (disch := decide) only [up2_c]); omega), ?_⟩
  refine ⟨(by (try simp (disch := decide) only [up2_c]); unfold i32; omega), ?_⟩
  refine ⟨(by (try simp (disch := decide) only [up2_c]); omega), ?_⟩
  refine ⟨(by (try simp (disch := decide) only [up2_c]); omega), ?_⟩
  refine ⟨(by (try simp (disch := decide) only [up2_c]); omega), ?_⟩
  refine ⟨(by (try simp (disch := decide) only [up2_c]); unfold i32; omega), ?_⟩
  refine ⟨(by (try simp (disch := decide) only [up2_c]); omega), ?_⟩
  rw [hp, ← eB]
  refine ⟨(by (try simp (disch := decide) only [up2_c]); unfold i32; omega), ?_⟩
  refine ⟨_, m_trolley (p := p) (by (repeat rw [up2_c (by decide)]); assumption) (by omega) (by omega), ?_⟩
  rintro z9 ρ10 μ11 ⟨hq14_1, hq14_2, hq14_3⟩
  obtain rfl := hq14_1.symm
  obtain rfl := hq14_2.symm
  obtain rfl := hq14_3.symm
  rw [← eM]
  refine ⟨(by (try simp (disch := decide) only [up2_c]); omega), ?_⟩
  refine ⟨(by (try simp (disch := decide) only [up2_c]); omega), ?_⟩
  intro μ13 eμ13; subst eμ13
  refine ⟨(by (try simp (disch := decide) only [up2_c]); omega), ?_⟩
  intro μ14 eμ14; subst eμ14
  refine ⟨(by (try simp (disch := decide) only [up2_c]); omega), ?_⟩
  refine ⟨fun hc21 => ?_, fun hc21 => ?_⟩
  · have eo : sOver p i μ = μ 188 i := by unfold sOver; rw [if_pos hc21]
    simp (disch := decide) only [up2_c]
    refine m_re144 (p := p) (by (repeat rw [up2_c (by decide)]); assumption) hv ⟨hi.1, hi.2, b.1⟩ ⟨a.1, hj⟩ (by omega) (by simp (disch := decide) only [up2_c]; omega) (by simp (disch := decide) only [up2_c]; exact hs) ?_
    unfold sReach sDoor
    rw [if_pos hc21, eo]
  · refine ⟨_, m_trolley (p := p) (by (repeat rw [up2_c (by decide)]); assumption) (by omega) (by omega), ?_⟩
    rintro z15 ρ16 μ17 ⟨hq23_1, hq23_2, hq23_3⟩
    obtain rfl := hq23_1.symm
    obtain rfl := hq23_2.symm
    obtain rfl := hq23_3.symm
    refine ⟨(by (try simp (disch := decide) only [up2_c]); unfold i32; omega), ?_⟩
    refine ⟨(by (try simp (disch := decide) only [up2_c]); unfold i32; omega), ?_⟩
    refine ⟨(by (try simp (disch := decide) only [up2_c]); omega), ?_⟩
    intro μ19 eμ19; subst eμ19
    have eo : sOver p i μ = sBeg p i μ + sMany p i μ * p (62 + 5 * i + 4) := by unfold sOver; rw [if_neg (by omega)]
    rw [← eo]
    refine m_re144 (p := p) (by (repeat rw [up2_c (by decide)]); assumption) hv ⟨hi.1, hi.2, b.1⟩ ⟨a.1, hj⟩ (by omega) (by simp (disch := decide) only [up2_c]; omega) (by simp (disch := decide) only [up2_c]; exact hs) ?_
    unfold sReach sDoor
    rw [if_neg (by omega)]
theorem st_o {p : Pl} {out i : Int} {S : Mem} {c : Nat} (h : c < 187 ∨ 200 < c) : sStarts p out i S c = S c := by
  unfold sStarts
  split
  · rw [up2_c (by omega), up2_c (by omega), up2_c (by omega), up2_c (by omega), up2_c (by omega)]
  · rw [up2_c (by omega), up2_c (by omega), up2_c (by omega), up2_c (by omega), up2_c (by omega), up2_c (by omega), up2_c (by omega)]
theorem re_o {p : Pl} {out i : Int} {S : Mem} {c : Nat} (h : c < 187 ∨ 200 < c) : sReach p out i S c = S c := by
  unfold sReach sEnd
  rw [up2_c (by omega), up2_c (by omega), up2_c (by omega)]
  unfold sBk
  split
  · rw [up2_c (by omega), up2_c (by omega)]
    unfold sDoor
    split
    · rw [up2_c (by omega), up2_c (by omega)]
    · rw [up2_c (by omega), up2_c (by omega), up2_c (by omega)]
  · rw [up2_c (by omega), up2_c (by omega), up2_c (by omega), up2_c (by omega)]
    unfold sDoor
    split
    · rw [up2_c (by omega), up2_c (by omega)]
    · rw [up2_c (by omega), up2_c (by omega), up2_c (by omega)]
theorem step_o {p : Pl} {out : Int} {S : Mem} {c : Nat} (h : c < 187 ∨ 200 < c) : sStep p out S c = S c := by
  unfold sStep
  split
  · rw [st_o h, bb_c (by omega) (by omega)]
  · rw [re_o h, bb_c (by omega) (by omega)]
theorem sRun_o {p : Pl} {out : Int} {c : Nat} (h : c < 187 ∨ 200 < c) : ∀ (k : Nat) (S : Mem), sRun p out k S c = S c := by
  intro k
  induction k with
  | zero => intro S; rfl
  | succ k ih =>
    intro S
    have e : sRun p out (k + 1) S = if fst_ p S < 0 then S else sRun p out k (sStep p out S) := rfl
    rw [e]
    split
    · rfl
    · rw [ih, step_o h]
theorem ini_o {p : Pl} {wo out : Int} {J : Mem} {c : Nat} (h : c < 187 ∨ 200 < c) : sIni p wo out J c = J c := by
  funext b
  unfold sIni
  rw [if_neg (by omega), if_neg (by omega), if_neg (by omega), if_neg (by omega), if_neg (by omega)]
theorem sGo_o {p : Pl} {wo out : Int} {J : Mem} {c : Nat} (h : c < 187 ∨ 200 < c) : sGo p wo out J c = J c := by
  unfold sGo
  rw [bb_c (by omega) (by omega), sRun_o h, ini_o h]
/-- the memory as the run is made ready, step by step -/
def iA (p : Pl) (x : Int) (μ : Mem) : Mem := fun c b => if c = 193 ∧ 0 ≤ b ∧ b < x then p (49 + b) else μ c b
def iD (p : Pl) (wo out x : Int) (μ : Mem) : Mem := fun c b => if c = 187 ∧ 0 ≤ b ∧ b < x then (if b < p 61 ∧ b ≠ wo then nx p b out 0 else p 87) else if (c = 188 ∨ c = 191 ∨ c = 192) ∧ 0 ≤ b ∧ b < x then 0 else μ c b
theorem iA_1 {p : Pl} {x : Int} {μ : Mem} (h : 0 ≤ x) : up2 (iA p x μ) 193 x (p (49 + x)) = iA p (x + 1) μ := by
  funext c b
  unfold up2 iA
  by_cases hc : c = 193 ∧ b = x
  · rw [if_pos hc, if_pos (by omega), hc.2]
  · rw [if_neg hc]
    by_cases h2 : c = 193 ∧ 0 ≤ b ∧ b < x
    · rw [if_pos h2, if_pos (by omega)]
    · rw [if_neg h2, if_neg (by omega)]
theorem iD_1 {p : Pl} {wo out x z : Int} {μ : Mem} (h : 0 ≤ x) (hz : z = if x < p 61 ∧ x ≠ wo then nx p x out 0 else p 87) : up2 (up2 (up2 (up2 (iD p wo out x μ) 187 x z) 188 x 0) 191 x 0) 192 x 0 = iD p wo out (x + 1) μ := by
  funext c b
  by_cases hb : b = x
  · subst hb
    by_cases h1 : c = 187
    · subst h1
      rw [up2_c (by decide), up2_c (by decide), up2_c (by decide), up2_s, hz]
      unfold iD
      rw [if_pos (show (187 : Nat) = 187 ∧ 0 ≤ b ∧ b < b + 1 from ⟨rfl, h, by omega⟩)]
    · by_cases h2 : c = 188 ∨ c = 191 ∨ c = 192
      · have e : iD p wo out (b + 1) μ c b = 0 := by
          unfold iD
          rw [if_neg (fun q => h1 q.1), if_pos ⟨h2, h, by omega⟩]
        rw [e]
        rcases h2 with rfl | rfl | rfl
        · rw [up2_c (by decide), up2_c (by decide), up2_s]
        · rw [up2_c (by decide), up2_s]
        · rw [up2_s]
      · rw [up2_c (by omega), up2_c (by omega), up2_c (by omega), up2_c (by omega)]
        unfold iD
        rw [if_neg (by omega), if_neg (by omega), if_neg (by omega), if_neg (by omega)]
  · rw [up2_n (by omega), up2_n (by omega), up2_n (by omega), up2_n (by omega)]
    unfold iD
    by_cases h1 : c = 187 ∧ 0 ≤ b ∧ b < x
    · rw [if_pos h1, if_pos (show c = 187 ∧ 0 ≤ b ∧ b < x + 1 by omega)]
    · rw [if_neg h1, if_neg (show ¬ (c = 187 ∧ 0 ≤ b ∧ b < x + 1) by omega)]
      by_cases h2 : (c = 188 ∨ c = 191 ∨ c = 192) ∧ 0 ≤ b ∧ b < x
      · rw [if_pos h2, if_pos (by omega)]
      · rw [if_neg h2, if_neg (by omega)]
theorem iD_e {p : Pl} {wo out : Int} {μ : Mem} : iD p wo out 5 (filM (filM (filM (iA p 12 μ) 194 10 0) 196 20 0) 199 20 0) = sIni p wo out μ := by
  funext c b
  unfold iD filM iA sIni
  by_cases h1 : c = 187
  · subst h1; simp
  by_cases h2 : c = 188
  · subst h2; simp
  by_cases h3 : c = 191
  · subst h3; simp
  by_cases h4 : c = 192
  · subst h4; simp
  by_cases h5 : c = 193
  · subst h5; simp
  by_cases h6 : c = 194
  · subst h6; simp
  by_cases h7 : c = 196
  · subst h7; simp
  by_cases h8 : c = 199
  · subst h8; simp
  simp [h1, h2, h3, h4, h5, h6, h7, h8]
theorem fil2_1 {μ : Mem} {n : Int} (h : 0 ≤ n) : up2 (up2 (filM (filM μ 196 n 0) 199 n 0) 196 n 0) 199 n 0 = filM (filM μ 196 (n + 1) 0) 199 (n + 1) 0 := by
  rw [← filM_1 h, ← filM_1 (a := 196) h]
  funext c b
  unfold up2 filM
  by_cases hc : c = 199
  · subst hc; simp
  · by_cases h6 : c = 196
    · subst h6; simp
    · simp [hc, h6]
theorem m_go {ρ : Rf} {μ : Mem} {p : Pl} {wo out : Int} (hp : μ 180 = p) (hv : PV p) : qE mX8_go GG GG [qP 178, qI wo, qI out] ρ μ (fun (_ : Int) (ρ' : Rf) (μ' : Mem) => ρ' = ρ ∧ μ' = sGo p wo out μ) := by
  have n := hv.n
  have L194 : ∀ (S : Mem), S 180 = p → qX mX8_go GG (fun (_ : Int) (ρ' : Rf) (μ' : Mem) => ρ' = ρ ∧ μ' = sGo p wo out μ) GG (0, 0) 156 [some (qP 178), none, some (qI out), some (qI (fst_ p S))] [] ρ S → qX mX8_go GG (fun (_ : Int) (ρ' : Rf) (μ' : Mem) => ρ' = ρ ∧ μ' = sGo p wo out μ) GG (0, 0) 194 [some (qP 178), none, some (qI out), none] [] ρ S := by
    intro S hp hq
    refine w_X8_go_194 ?_
    refine ⟨_, m_first (p := p) (by (repeat rw [up2_c (by decide)]); assumption), ?_⟩
    rintro z1 ρ2 μ3 ⟨hq1_1, hq1_2, hq1_3⟩
    obtain rfl := hq1_1.symm
    obtain rfl := hq1_2.symm
    obtain rfl := hq1_3.symm
    exact hq
  have LE : ∀ (k : Nat) (S : Mem), SV p S → S 180 = p → sMe p S < k → sRun p out k S = sRun p out 300 (sIni p wo out μ) → qX mX8_go GG (fun (_ : Int) (ρ' : Rf) (μ' : Mem) => ρ' = ρ ∧ μ' = sGo p wo out μ) GG (0, 0) 156 [some (qP 178), none, some (qI out), some (qI (fst_ p S))] [] ρ S := by
    intro k
    induction k with
    | zero => intro S hS _ h; have := sMe_0 hS; omega
    | succ k ih =>
      intro S hS hp hm hr
      have hb := SV_bb (u := S 188 (fst_ p S)) hS
      have hp2 : bb (S 188 (fst_ p S)) S 180 = p := by rw [bb_c (by decide) (by decide)]; exact hp
      have e7 : bb (S 188 (fst_ p S)) S 187 = S 187 := bb_c (by decide) (by decide)
      refine w_X8_go_156 ?_
      refine ⟨fun hc1 => ?_, fun hc1 => ?_⟩
      · refine ⟨_, m_bringsBack hS hv, ?_⟩
        rintro z1 ρ2 μ3 ⟨hq2_1, hq2_2⟩
        obtain rfl := hq2_1.symm
        obtain rfl := hq2_2.symm
        refine ⟨rfl, ?_⟩
        unfold sGo
        rw [← hr]
        show _ = bb _ (if _ then _ else _)
        rw [if_pos hc1]
      · have hf := fst_s (p := p) (S := S)
        refine ⟨(by omega), ?_⟩
        refine ⟨_, m_bringsBack hS hv, ?_⟩
        rintro z5 ρ6 μ7 ⟨hq5_1, hq5_2⟩
        obtain rfl := hq5_1.symm
        obtain rfl := hq5_2.symm
        refine ⟨(by omega), ?_⟩
        refine ⟨fun hc7 => ?_, fun hc7 => ?_⟩
        · have hs := SV_step (out := out) hv hS (by omega)
          refine ⟨_, m_starts hp2 hv hb (by omega) (by rw [e7]; omega) hc7, ?_⟩
          rintro z9 ρ10 μ11 ⟨hq8_1, hq8_2⟩
          obtain rfl := hq8_1.symm
          obtain rfl := hq8_2.symm
          have e : sStarts p out (fst_ p S) (bb (S 188 (fst_ p S)) S) = sStep p out S := by unfold sStep; rw [if_pos hc7]
          rw [e]
          refine L194 _ (by rw [step_o (by omega)]; exact hp) (ih _ hs.1 (by rw [step_o (by omega)]; exact hp) (by omega) ?_)
          rw [← hr]
          show _ = (if _ then _ else _)
          rw [if_neg (by omega)]
        · have hs := SV_step (out := out) hv hS (by omega)
          refine ⟨_, m_reaches hp2 hv hb (by omega) (by rw [e7]; omega) hc7, ?_⟩
          rintro z13 ρ14 μ15 ⟨hq10_1, hq10_2⟩
          obtain rfl := hq10_1.symm
          obtain rfl := hq10_2.symm
          have e : sReach p out (fst_ p S) (bb (S 188 (fst_ p S)) S) = sStep p out S := by unfold sStep; rw [if_neg hc7]
          rw [e]
          refine L194 _ (by rw [step_o (by omega)]; exact hp) (ih _ hs.1 (by rw [step_o (by omega)]; exact hp) (by omega) ?_)
          rw [← hr]
          show _ = (if _ then _ else _)
          rw [if_neg (by omega)]
  have h180 : ∀ (a b c : Int), filM (filM (filM (iA p 12 μ) 194 a 0) 196 b 0) 199 c 0 180 = p := fun a b c => by
    rw [filM_c (by decide), filM_c (by decide), filM_c (by decide)]
    funext x
    unfold iA
    rw [if_neg (by omega)]
    exact congrFun hp x
  have iDp : ∀ (x : Int), iD p wo out x (filM (filM (filM (iA p 12 μ) 194 10 0) 196 20 0) 199 20 0) 180 = p := fun x => by
    funext b
    unfold iD
    rw [if_neg (by omega), if_neg (by omega)]
    exact congrFun (h180 10 20 20) b
  have L80 : ∀ (k : Nat) (x : Int), (5 - x).toNat < k → 0 ≤ x → x ≤ 5 → qX mX8_go GG (fun (_ : Int) (ρ' : Rf) (μ' : Mem) => ρ' = ρ ∧ μ' = sGo p wo out μ) GG (0, 0) 80 [some (qP 178), some (qI wo), some (qI out), some (qI x)] [] ρ (iD p wo out x (filM (filM (filM (iA p 12 μ) 194 10 0) 196 20 0) 199 20 0)) := by
    intro k
    induction k with
    | zero => intro x h; omega
    | succ k ih =>
      intro x hk h0 h1
      have hpx := iDp x
      have L123 : x < 5 → ∀ z, (z = if x < p 61 ∧ x ≠ wo then nx p x out 0 else p 87) → qX mX8_go GG (fun (_ : Int) (ρ' : Rf) (μ' : Mem) => ρ' = ρ ∧ μ' = sGo p wo out μ) GG (0, 0) 123 [some (qP 178), some (qI wo), some (qI out), some (qI x)] [qI z, qI x, qP 187] ρ (iD p wo out x (filM (filM (filM (iA p 12 μ) 194 10 0) 196 20 0) 199 20 0)) := by
        intro hx z hz
        refine w_X8_go_123 ?_
        refine ⟨(by omega), ?_⟩
        intro μ1 eμ1; subst eμ1
        refine ⟨(by omega), ?_⟩
        intro μ2 eμ2; subst eμ2
        refine ⟨(by omega), ?_⟩
        intro μ3 eμ3; subst eμ3
        refine ⟨(by omega), ?_⟩
        intro μ4 eμ4; subst eμ4
        refine ⟨(by unfold i32; omega), ?_⟩
        rw [iD_1 h0 hz]
        exact ih _ (by omega) (by omega) (by omega)
      have L116 : x < 5 → (p 87 = if x < p 61 ∧ x ≠ wo then nx p x out 0 else p 87) → qX mX8_go GG (fun (_ : Int) (ρ' : Rf) (μ' : Mem) => ρ' = ρ ∧ μ' = sGo p wo out μ) GG (0, 0) 116 [some (qP 178), some (qI wo), some (qI out), some (qI x)] [qI x, qP 187] ρ (iD p wo out x (filM (filM (filM (iA p 12 μ) 194 10 0) 196 20 0) 199 20 0)) := by
        intro hx hz
        refine w_X8_go_116 ?_
        rw [hpx]
        exact L123 hx _ hz
      refine w_X8_go_80 ?_
      refine ⟨fun hc1 => ?_, fun hc1 => ?_⟩
      · refine ⟨_, m_first (p := p) (by (repeat rw [up2_c (by decide)]); assumption), ?_⟩
        rintro z1 ρ2 μ3 ⟨hq2_1, hq2_2, hq2_3⟩
        obtain rfl := hq2_1.symm
        obtain rfl := hq2_2.symm
        obtain rfl := hq2_3.symm
        have e5 : x = 5 := by omega
        subst e5
        have hS := SV_ini (out := out) (wo := wo) (J := μ) hv
        rw [iD_e]
        exact LE 300 _ hS.1 (by rw [ini_o (by decide)]; exact hp) hS.2 rfl
      · rw [hpx]
        refine ⟨fun hc4 => ?_, fun hc4 => ?_⟩
        · exact L116 hc1 (by rw [if_neg (by omega)])
        · refine ⟨fun hc6 => ?_, fun hc6 => ?_⟩
          · exact L116 hc1 (by rw [if_neg (by omega)])
          · refine ⟨_, m_nextJob (p := p) (by (repeat rw [up2_c (by decide)]); assumption) (by omega) (by omega), ?_⟩
            rintro z5 ρ6 μ7 ⟨hq8_1, hq8_2, hq8_3⟩
            obtain rfl := hq8_1.symm
            obtain rfl := hq8_2.symm
            obtain rfl := hq8_3.symm
            exact L123 hc1 _ (by rw [if_pos ⟨hc4, hc6⟩])
  have L52 : ∀ (k : Nat) (x : Int), (20 - x).toNat < k → 0 ≤ x → x ≤ 20 → qX mX8_go GG (fun (_ : Int) (ρ' : Rf) (μ' : Mem) => ρ' = ρ ∧ μ' = sGo p wo out μ) GG (0, 0) 52 [some (qP 178), some (qI wo), some (qI out), some (qI x)] [] ρ (filM (filM (filM (iA p 12 μ) 194 10 0) 196 x 0) 199 x 0) := by
    intro k
    induction k with
    | zero => intro x h; omega
    | succ k ih =>
      intro x hk h0 h1
      refine w_X8_go_52 ?_
      refine ⟨fun hc1 => ?_, fun hc1 => ?_⟩
      · have e5 : x = 20 := by omega
        subst e5
        have := L80 _ 0 (Nat.lt_succ_self _) (by omega) (by omega)
        have e : iD p wo out 0 (filM (filM (filM (iA p 12 μ) 194 10 0) 196 20 0) 199 20 0) = filM (filM (filM (iA p 12 μ) 194 10 0) 196 20 0) 199 20 0 := by
          funext c b
          unfold iD
          rw [if_neg (by omega), if_neg (by omega)]
        rw [e] at this
        exact this
      · refine ⟨(by omega), ?_⟩
        intro μ1 eμ1; subst eμ1
        refine ⟨(by omega), ?_⟩
        intro μ2 eμ2; subst eμ2
        refine ⟨(by unfold i32; omega), ?_⟩
        rw [fil2_1 h0]
        exact ih _ (by omega) (by omega) (by omega)
  have L31 : ∀ (k : Nat) (x : Int), (10 - x).toNat < k → 0 ≤ x → x ≤ 10 → qX mX8_go GG (fun (_ : Int) (ρ' : Rf) (μ' : Mem) => ρ' = ρ ∧ μ' = sGo p wo out μ) GG (0, 0) 31 [some (qP 178), some (qI wo), some (qI out), some (qI x)] [] ρ (filM (iA p 12 μ) 194 x 0) := by
    intro k
    induction k with
    | zero => intro x h; omega
    | succ k ih =>
      intro x hk h0 h1
      refine w_X8_go_31 ?_
      refine ⟨fun hc1 => ?_, fun hc1 => ?_⟩
      · have e5 : x = 10 := by omega
        subst e5
        have := L52 _ 0 (Nat.lt_succ_self _) (by omega) (by omega)
        rw [filM_0, filM_0] at this
        exact this
      · refine ⟨(by omega), ?_⟩
        intro μ1 eμ1; subst eμ1
        refine ⟨(by unfold i32; omega), ?_⟩
        rw [filM_1 h0]
        exact ih _ (by omega) (by omega) (by omega)
  have L2 : ∀ (k : Nat) (x : Int), (12 - x).toNat < k → 0 ≤ x → x ≤ 12 → qX mX8_go GG (fun (_ : Int) (ρ' : Rf) (μ' : Mem) => ρ' = ρ ∧ μ' = sGo p wo out μ) GG (0, 0) 2 [some (qP 178), some (qI wo), some (qI out), some (qI x)] [] ρ (iA p x μ) := by
    intro k
    induction k with
    | zero => intro x h; omega
    | succ k ih =>
      intro x hk h0 h1
      have hpx : iA p x μ 180 = p := by
        funext b
        unfold iA
        rw [if_neg (by omega)]
        exact congrFun hp b
      refine w_X8_go_2 ?_
      refine ⟨fun hc1 => ?_, fun hc1 => ?_⟩
      · have e5 : x = 12 := by omega
        subst e5
        have := L31 _ 0 (Nat.lt_succ_self _) (by omega) (by omega)
        rw [filM_0] at this
        exact this
      · refine ⟨(by unfold i32; omega), ?_⟩
        refine ⟨(by omega), ?_⟩
        refine ⟨(by omega), ?_⟩
        rw [hpx]
        intro μ1 eμ1; subst eμ1
        refine ⟨(by unfold i32; omega), ?_⟩
        rw [iA_1 h0]
        exact ih _ (by omega) (by omega) (by omega)
  refine e_X8_go ?_
  have := L2 _ 0 (Nat.lt_succ_self _) (by omega) (by omega)
  have e : iA p 0 μ = μ := by
    funext c b
    unfold iA
    rw [if_neg (by omega)]
  rw [e] at this
  exact this
