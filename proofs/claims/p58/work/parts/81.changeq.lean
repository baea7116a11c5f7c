/-! ===== changes: the class's stocks, quantities, jobs ===== -/
section CHq
variable {ρ : Rf} {μ : Mem} {σ : Sg} {p q : Pl}
theorem k_pushS (h : CI ρ μ σ) (hS : SI σ) (hp : σ 0 4 = 1) : qE mX1_push GG GG [qP 69, qP (ρ 0 9)] ρ μ (fun _ ρ' μ' => (∀ a, a ≠ 70 → ρ' a = ρ a) ∧ HPm ρ' ∧ FR 69 140 μ μ' ∧ HS ρ' μ' (hN (σ 0 6)) (hPush (σ 0 6) (hs σ) (σ 2))) := by
  have fn := h.1.fn
  have pl := h.pl hS hp
  exact k_push h.1.s (by omega) pl.2.2.1 (by have := pl.1.n; omega) h.2.1 (h.2.2.2.2.2.2.2.2.2 hp).2.2.2.1 ⟨hS.2.2.2.2.1, hS.2.2.2.2.2.1⟩
theorem SP_stk {s : Nat} {k v : Int} (h : SP μ s q) (hk : 0 ≤ k ∧ k < 12) : SP (up2 μ (s + 6) k v) s (u1 q (49 + k) v) := by
  have e : ∀ x, x ≠ 49 + k → u1 q (49 + k) v x = q x := fun k h => u1_n h
  refine ⟨fun x x0 x1 => ?_, fun t t0 t1 => ?_, fun x x0 x1 => ?_, ?_⟩
  · rw [e _ (by omega)] at x1
    rw [e (88 + 5 * x + 0) (by omega), e (88 + 5 * x + 1) (by omega), e (88 + 5 * x + 2) (by omega), e (88 + 5 * x + 3) (by omega), e (88 + 5 * x + 4) (by omega), up2_c (a := s + 1) (by omega), up2_c (a := s + 2) (by omega), up2_c (a := s + 3) (by omega), up2_c (a := s + 4) (by omega)]
    exact h.j x0 x1
  · rw [up2_c (by omega), e _ (by omega)]; exact h.t t0 t1
  · rw [up2_u]
    by_cases c : x = k
    · rw [c, u1_s, u1_s]
    · rw [u1_n c, e _ (by omega)]; exact h.k x0 x1
  · rw [up2_c (by omega), e _ (by omega)]; exact h.n
theorem SP_qty {s : Nat} {j v : Int} (h : SP μ s q) (hj : 0 ≤ j) : SP (up2 μ (s + 4) j v) s (u1 q (88 + 5 * j + 4) v) := by
  have e : ∀ x, x ≠ 88 + 5 * j + 4 → u1 q (88 + 5 * j + 4) v x = q x := fun k h => u1_n h
  refine ⟨fun x x0 x1 => ?_, fun t t0 t1 => ?_, fun x x0 x1 => ?_, ?_⟩
  · rw [e _ (by omega)] at x1
    have a := h.j x0 x1
    rw [e (88 + 5 * x + 0) (by omega), e (88 + 5 * x + 1) (by omega), e (88 + 5 * x + 2) (by omega), e (88 + 5 * x + 3) (by omega), up2_c (a := s + 1) (by omega), up2_c (a := s + 2) (by omega), up2_c (a := s + 3) (by omega), up2_u]
    by_cases c : x = j
    · rw [c, u1_s, u1_s]
      rw [c] at a
      exact ⟨a.1, a.2.1, a.2.2.1, rfl⟩
    · rw [u1_n c, e _ (by omega)]; exact a
  · rw [up2_c (by omega), e _ (by omega)]; exact h.t t0 t1
  · rw [up2_c (by omega), e _ (by omega)]; exact h.k x0 x1
  · rw [up2_c (by omega), e _ (by omega)]; exact h.n
theorem stk_FEq {k v : Int} (hk : 0 ≤ k ∧ k < 12) : FEq p (u1 p (49 + k) v) := fun x hx => u1_n (by omega)
theorem stk_PV (hv : PV p) {k v : Int} (hk : 0 ≤ k ∧ k < 12) (h0 : 0 ≤ v ∧ v ≤ 999) : PV (u1 p (49 + k) v) := by
  have n := hv.n
  have e : ∀ x, x ≠ 49 + k → u1 p (49 + k) v x = p x := fun k h => u1_n h
  refine hv.eq (stk_FEq hk) (fun t t0 t1 => ?_) (fun x x0 x1 => ?_) (by rw [e _ (by omega)]; omega) (fun x x0 x1 => ?_)
  · rw [e _ (by omega)]
    have := hv.t t0 t1
    omega
  · by_cases c : x = k
    · rw [c, u1_s]; exact h0
    · rw [e _ (by omega)]; exact hv.s x0 x1
  · rw [e _ (by omega)] at x1
    rw [e (88 + 5 * x + 0) (by omega), e (88 + 5 * x + 1) (by omega), e (88 + 5 * x + 2) (by omega), e (88 + 5 * x + 3) (by omega), e (88 + 5 * x + 4) (by omega)]
    exact hv.j x0 x1
theorem qty_FEq {j v : Int} (hj : 0 ≤ j) : FEq p (u1 p (88 + 5 * j + 4) v) := fun x hx => u1_n (by omega)
theorem qty_PV (hv : PV p) {j v : Int} (hj : 0 ≤ j) (h0 : 1 ≤ v ∧ v ≤ 99) : PV (u1 p (88 + 5 * j + 4) v) := by
  have n := hv.n
  have e : ∀ x, x ≠ 88 + 5 * j + 4 → u1 p (88 + 5 * j + 4) v x = p x := fun k h => u1_n h
  refine hv.eq (qty_FEq hj) (fun t t0 t1 => ?_) (fun x x0 x1 => ?_) (by rw [e _ (by omega)]; omega) (fun x x0 x1 => ?_)
  · rw [e _ (by omega)]
    have := hv.t t0 t1
    omega
  · rw [e _ (by omega)]; exact hv.s x0 x1
  · rw [e _ (by omega)] at x1
    have a := hv.j x0 x1
    rw [e (88 + 5 * x + 0) (by omega), e (88 + 5 * x + 1) (by omega), e (88 + 5 * x + 2) (by omega), e (88 + 5 * x + 3) (by omega)]
    by_cases c : x = j
    · rw [c, u1_s]
      rw [c] at a
      omega
    · rw [e (88 + 5 * x + 4) (by omega)]; exact a
theorem add_FEq {i t c m v : Int} (hn : 0 ≤ p 87) : FEq p (pAdd p i t c m v) := fun x hx => pAdd_o (by omega) hn
theorem add_87 {i t c m v : Int} : pAdd p i t c m v 87 = p 87 + 1 := by unfold pAdd; rw [u1_s]
theorem add_new {i t c m v : Int} (hn : 0 ≤ p 87) : pAdd p i t c m v (88 + 5 * p 87 + 0) = i ∧ pAdd p i t c m v (88 + 5 * p 87 + 1) = t ∧ pAdd p i t c m v (88 + 5 * p 87 + 2) = c ∧ pAdd p i t c m v (88 + 5 * p 87 + 3) = m ∧ pAdd p i t c m v (88 + 5 * p 87 + 4) = v := by
  unfold pAdd
  refine ⟨?_, ?_, ?_, ?_, ?_⟩
  · rw [u1_n (by omega), u1_n (by omega), u1_n (by omega), u1_n (by omega), u1_n (by omega), u1_s]
  · rw [u1_n (by omega), u1_n (by omega), u1_n (by omega), u1_n (by omega), u1_s]
  · rw [u1_n (by omega), u1_n (by omega), u1_n (by omega), u1_s]
  · rw [u1_n (by omega), u1_n (by omega), u1_s]
  · rw [u1_n (by omega), u1_s]
theorem add_PV (hv : PV p) {i t c m v : Int} (hn : p 87 < 20) (hi : 0 ≤ i ∧ i < p 61) (ht : 0 ≤ t ∧ t < 2) (hc : 0 ≤ c ∧ c < p (4 + t)) (hm : 0 ≤ m ∧ m < p 36) (h0 : 1 ≤ v ∧ v ≤ 99) : PV (pAdd p i t c m v) := by
  have n := hv.n
  have e : ∀ x, x < 87 ∨ (87 < x ∧ x < 88 + 5 * p 87) → pAdd p i t c m v x = p x := fun x h => pAdd_o h (by omega)
  refine hv.eq (add_FEq (by omega)) (fun s s0 s1 => ?_) (fun x x0 x1 => ?_) (by rw [add_87]; omega) (fun x x0 x1 => ?_)
  · rw [e _ (by omega)]
    have := hv.t s0 s1
    omega
  · rw [e _ (by omega)]; exact hv.s x0 x1
  · rw [add_87] at x1
    by_cases cx : x = p 87
    · subst cx
      obtain ⟨b0, b1, b2, b3, b4⟩ := add_new (p := p) (i := i) (t := t) (c := c) (m := m) (v := v) (by omega)
      rw [b0, b1, b2, b3, b4]
      exact ⟨hi.1, hi.2, ht.1, ht.2, hc.1, hc.2, hm.1, hm.2, h0.1, h0.2⟩
    · rw [e (88 + 5 * x + 0) (by omega), e (88 + 5 * x + 1) (by omega), e (88 + 5 * x + 2) (by omega), e (88 + 5 * x + 3) (by omega), e (88 + 5 * x + 4) (by omega)]
      exact hv.j x0 (by omega)
theorem c_setStock {k m v : Int} (h : CI ρ μ σ) (hS : SI σ) : qE mX7_setStock GG GG [qP 0, qI k, qI m, qI v] ρ μ (PC μ ρ (fun J => if (σ 0 4 = 1 ∧ 0 ≤ k ∧ k < σ 2 45 ∧ 0 ≤ m ∧ m < σ 2 36) ∧ (0 ≤ v ∧ v ≤ 999) then σ 2 (49 + (4 * k + m)) else -2147483648) (if (σ 0 4 = 1 ∧ 0 ≤ k ∧ k < σ 2 45 ∧ 0 ≤ m ∧ m < σ 2 36) ∧ (0 ≤ v ∧ v ≤ 999) then sCh σ (u1 (σ 2) (49 + (4 * k + m)) v) else sE σ (if σ 0 4 = 1 ∧ 0 ≤ k ∧ k < σ 2 45 ∧ 0 ≤ m ∧ m < σ 2 36 then 2 else 1))) := by
  refine e_X7_setStock ?_
  refine ⟨_, k_isStock (by assumption) (by assumption), ?_⟩
  rintro z1 ρ2 μ3 ⟨hz, hq1_1, hq1_2⟩
  obtain rfl := hq1_1.symm
  obtain rfl := hq1_2.symm
  refine ⟨fun hc2 => ?_, fun hc2 => ?_⟩
  · refine ⟨fun hc3 => ?_, fun hc3 => ?_⟩
    · refine ⟨_, k_fail, ?_⟩
      rintro z5 ρ6 μ7 ⟨hq4_1, hq4_2, hq4_3⟩
      obtain rfl := hq4_1.symm
      obtain rfl := hq4_2.symm
      obtain rfl := hq4_3.symm
      exact pc_fin h hS FR.refl (fun J => (if_neg (fun q => by have := q.2; omega)).symm) (by rw [if_neg (fun q => by have := q.2; omega), if_pos (by omega)])
    · refine ⟨fun hc6 => ?_, fun hc6 => ?_⟩
      · refine ⟨(by exact h.1.s), ?_⟩
        have hp : σ 0 4 = 1 := by omega
        have pl := h.pl hS hp
        have n := pl.1.n
        have fn := h.1.fn
        refine ⟨_, k_pushS h hS hp, ?_⟩
        rintro z10 ρ11 μ12 ⟨r1, r2, f1, h1⟩
        refine ⟨_, k_stockIndex (by omega) (by omega), ?_⟩
        rintro z14 ρ15 μ16 ⟨hq9_1, hq9_2, hq9_3⟩
        obtain rfl := hq9_1.symm
        obtain rfl := hq9_2.symm
        obtain rfl := hq9_3.symm
        refine ⟨(by rw [r1 0 (by decide)]; exact h.1.s), ?_⟩
        rw [r1 0 (by decide)]
        have s1 : SP μ12 (ρ 0 9) (σ 2) := pl.2.2.1.ag (f1.ag (by omega))
        have F1 : FP μ12 (ρ 0 8) (σ 2) := pl.2.1.ag (f1.ag (by omega))
        have s2 := SP_stk (v := v) s1 (k := 4 * k + m) (by omega)
        have v1 := stk_PV pl.1 (k := 4 * k + m) (v := v) (by omega) (by omega)
        have e1 := stk_FEq (p := σ 2) (k := 4 * k + m) (v := v) (by omega)
        have st : μ12 (ρ 0 9 + 6) (4 * k + m) = σ 2 (49 + (4 * k + m)) := s1.k (by omega) (by omega)
        rw [st]
        refine ⟨(by omega), ?_⟩
        refine ⟨(by omega), ?_⟩
        intro μ19 eμ19; subst eμ19
        refine ⟨_, k_changed (by rw [r1 0 (by decide)]) (by rw [r1 0 (by decide)]) h.1.f h.1.s fn ((F1.eq pl.1 e1).ag (AG.up AG.refl (by omega))) s2 v1, ?_⟩
        rintro z20 ρ21 μ22 ⟨hq14_1, hq14_2, μ3, f3, r3, hq14_3⟩
        obtain rfl := hq14_1.symm
        obtain rfl := hq14_2.symm
        obtain rfl := hq14_3.symm
        exact pc_ok (fun J => by rw [if_pos ⟨by omega, by omega⟩]) (by rw [if_pos ⟨by omega, by omega⟩]) (h.ch hS hp v1 e1 r1 r2 f1 h1 (FR.up FR.refl (by omega)) s2 f3 r3) (FR.up (((f1.mono (by omega) (by omega)).trans (FR.up FR.refl (by omega))).trans (f3.mono (by omega) (by omega))) (by omega)) (fun a ha => r1 a (by omega))
      · refine ⟨_, k_fail, ?_⟩
        rintro z24 ρ25 μ26 ⟨hq16_1, hq16_2, hq16_3⟩
        obtain rfl := hq16_1.symm
        obtain rfl := hq16_2.symm
        obtain rfl := hq16_3.symm
        exact pc_fin h hS FR.refl (fun J => (if_neg (fun q => by have := q.2; omega)).symm) (by rw [if_neg (fun q => by have := q.2; omega), if_pos (by omega)])
  · refine ⟨_, k_fail, ?_⟩
    rintro z28 ρ29 μ30 ⟨hq18_1, hq18_2, hq18_3⟩
    obtain rfl := hq18_1.symm
    obtain rfl := hq18_2.symm
    obtain rfl := hq18_3.symm
    exact pc_fin h hS FR.refl (fun J => (if_neg (fun q => by have := q.1; omega)).symm) (by rw [if_neg (fun q => by have := q.1; omega), if_neg (by omega)])
theorem c_removeJob {j : Int} (h : CI ρ μ σ) (hS : SI σ) : qE mX7_removeJob GG GG [qP 0, qI j] ρ μ (PC μ ρ (fun J => if σ 0 4 = 1 ∧ 0 ≤ j ∧ j < σ 2 87 then σ 2 87 - 1 else -2147483648) (if σ 0 4 = 1 ∧ 0 ≤ j ∧ j < σ 2 87 then sCh σ (pDrop (σ 2) j) else sE σ 1)) := by
  refine e_X7_removeJob ?_
  refine ⟨_, k_isJob h hS, ?_⟩
  rintro z1 ρ2 μ3 ⟨hy, hq1_1, hq1_2⟩
  obtain rfl := hq1_1.symm
  obtain rfl := hq1_2.symm
  refine ⟨fun hc2 => ?_, fun hc2 => ?_⟩
  · refine ⟨(by exact h.1.s), ?_⟩
    have hp : σ 0 4 = 1 := by omega
    have pl := h.pl hS hp
    have n := pl.1.n
    have fn := h.1.fn
    refine ⟨_, k_pushS h hS hp, ?_⟩
    rintro z6 ρ7 μ8 ⟨r1, r2, f1, h1⟩
    refine ⟨(by rw [r1 0 (by decide)]; exact h.1.s), ?_⟩
    rw [r1 0 (by decide)]
    have s1 : SP μ8 (ρ 0 9) (σ 2) := pl.2.2.1.ag (f1.ag (by omega))
    have F1 : FP μ8 (ρ 0 8) (σ 2) := pl.2.1.ag (f1.ag (by omega))
    have v1 := drop_PV pl.1 (r := j) (by omega)
    have e1 := drop_FEq (p := σ 2) (r := j) (by omega)
    refine ⟨_, k_removeAt h.1.s s1 (by omega) (by omega), ?_⟩
    rintro z11 ρ12 μ13 ⟨hq6_1, f2, s2⟩
    obtain rfl := hq6_1.symm
    refine ⟨(by rw [r1 0 (by decide)]; exact h.1.s), ?_⟩
    rw [r1 0 (by decide), s2.n, drop_87]
    refine ⟨_, k_changed (by rw [r1 0 (by decide)]) (by rw [r1 0 (by decide)]) h.1.f h.1.s fn ((F1.eq pl.1 e1).ag (f2.ag (by omega))) s2 v1, ?_⟩
    rintro z16 ρ17 μ18 ⟨hq8_1, hq8_2, μ3, f3, r3, hq8_3⟩
    obtain rfl := hq8_1.symm
    obtain rfl := hq8_2.symm
    obtain rfl := hq8_3.symm
    exact pc_ok (fun J => by rw [if_pos (by omega)]) (by rw [if_pos (by omega)]) (h.ch hS hp v1 e1 r1 r2 f1 h1 (f2.mono (by omega) (by omega)) s2 f3 r3) (FR.up (((f1.mono (by omega) (by omega)).trans (f2.mono (by omega) (by omega))).trans (f3.mono (by omega) (by omega))) (by omega)) (fun a ha => r1 a (by omega))
  · refine ⟨_, k_fail, ?_⟩
    rintro z20 ρ21 μ22 ⟨hq10_1, hq10_2, hq10_3⟩
    obtain rfl := hq10_1.symm
    obtain rfl := hq10_2.symm
    obtain rfl := hq10_3.symm
    exact pc_fin h hS FR.refl (fun J => (if_neg (by omega)).symm) (by rw [if_neg (by omega)])
end CHq
