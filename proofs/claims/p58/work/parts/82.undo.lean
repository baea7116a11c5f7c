/-! ===== changes: the class's jobs added, undo, save, restore ===== -/
def sUn (σ : Sg) : Sg := fun a k => if a = 0 then (if k = 3 then 0 else if k = 6 then σ 0 6 - 1 else σ 0 k) else if a = 2 then hs σ (σ 0 6 - 1) k else σ a k
def sRe (σ : Sg) : Sg := fun a k => if a = 0 then (if k = 3 then 0 else if k = 6 then 0 else σ 0 k) else if a = 2 then σ 3 k else σ a k
def sSv (σ : Sg) : Sg := fun a k => if a = 0 then (if k = 3 then 0 else if k = 5 then 1 else σ 0 k) else if a = 3 then σ 2 k else σ a k
section CHu
variable {ρ : Rf} {μ : Mem} {σ : Sg} {p q : Pl}
theorem c_addJob {i t c m v : Int} (h : CI ρ μ σ) (hS : SI σ) : qE mX7_addJob GG GG [qP 0, qI i, qI t, qI c, qI m, qI v] ρ μ (PC μ ρ (fun J => if (σ 0 4 = 1 ∧ 0 ≤ i ∧ i < σ 2 61 ∧ 0 ≤ t ∧ t < 2 ∧ 0 ≤ c ∧ c < σ 2 (4 + t) ∧ 0 ≤ m ∧ m < σ 2 36) ∧ (1 ≤ v ∧ v ≤ 99) ∧ (σ 2 87 < 20 ∧ cnt (σ 2) i < 8) then σ 2 87 + 1 else -2147483648) (if (σ 0 4 = 1 ∧ 0 ≤ i ∧ i < σ 2 61 ∧ 0 ≤ t ∧ t < 2 ∧ 0 ≤ c ∧ c < σ 2 (4 + t) ∧ 0 ≤ m ∧ m < σ 2 36) ∧ (1 ≤ v ∧ v ≤ 99) ∧ (σ 2 87 < 20 ∧ cnt (σ 2) i < 8) then sCh σ (pAdd (σ 2) i t c m v) else sE σ (if σ 0 4 = 1 ∧ 0 ≤ i ∧ i < σ 2 61 ∧ 0 ≤ t ∧ t < 2 ∧ 0 ≤ c ∧ c < σ 2 (4 + t) ∧ 0 ≤ m ∧ m < σ 2 36 then (if (1 ≤ v ∧ v ≤ 99) then 3 else 2) else 1))) := by
  refine e_X7_addJob ?_
  refine ⟨_, k_isTrolley (by assumption) (by assumption), ?_⟩
  rintro z1 ρ2 μ3 ⟨hz, hq1_1, hq1_2⟩
  obtain rfl := hq1_1.symm
  obtain rfl := hq1_2.symm
  refine ⟨fun hc2 => ?_, fun hc2 => ?_⟩
  · refine ⟨_, k_fail, ?_⟩
    rintro z5 ρ6 μ7 ⟨hq3_1, hq3_2, hq3_3⟩
    obtain rfl := hq3_1.symm
    obtain rfl := hq3_2.symm
    obtain rfl := hq3_3.symm
    exact pc_fin h hS FR.refl (fun J => (if_neg (fun q => by have := q.1; omega)).symm) (by rw [if_neg (fun q => by have := q.1; omega), if_neg (by omega)])
  · refine ⟨_, k_isCarMeal h hS, ?_⟩
    rintro z9 ρ10 μ11 ⟨hy, hq5_1, hq5_2⟩
    obtain rfl := hq5_1.symm
    obtain rfl := hq5_2.symm
    refine ⟨fun hc6 => ?_, fun hc6 => ?_⟩
    · refine ⟨_, k_isJobQuantity, ?_⟩
      rintro z13 ρ14 μ15 ⟨hx, hq7_1, hq7_2⟩
      obtain rfl := hq7_1.symm
      obtain rfl := hq7_2.symm
      refine ⟨fun hc8 => ?_, fun hc8 => ?_⟩
      · refine ⟨(by exact h.1.s), ?_⟩
        have hp : σ 0 4 = 1 := by omega
        have pl := h.pl hS hp
        have n := pl.1.n
        have fn := h.1.fn
        rw [pl.2.2.1.n]
        refine ⟨fun hc10 => ?_, fun hc10 => ?_⟩
        · refine ⟨_, k_fail, ?_⟩
          rintro z18 ρ19 μ20 ⟨hq11_1, hq11_2, hq11_3⟩
          obtain rfl := hq11_1.symm
          obtain rfl := hq11_2.symm
          obtain rfl := hq11_3.symm
          exact pc_fin h hS FR.refl (fun J => (if_neg (fun q => by have := q.2.2.1; omega)).symm) (by rw [if_neg (fun q => by have := q.2.2.1; omega), if_pos (by omega), if_pos (by omega)])
        · refine ⟨_, k_jobsOf h.1.s pl.2.2.1 (by omega), ?_⟩
          rintro z22 ρ23 μ24 ⟨hq13_1, hq13_2, hq13_3⟩
          obtain rfl := hq13_1.symm
          obtain rfl := hq13_2.symm
          obtain rfl := hq13_3.symm
          refine ⟨fun hc14 => ?_, fun hc14 => ?_⟩
          · refine ⟨(by exact h.1.s), ?_⟩
            refine ⟨_, k_pushS h hS hp, ?_⟩
            rintro z27 ρ28 μ29 ⟨r1, r2, f1, h1⟩
            refine ⟨_, k_doorIndex (by omega) (by have := pl.1.t (t := t) (by omega) (by omega); omega), ?_⟩
            rintro z31 ρ32 μ33 ⟨hq17_1, hq17_2, hq17_3⟩
            obtain rfl := hq17_1.symm
            obtain rfl := hq17_2.symm
            obtain rfl := hq17_3.symm
            refine ⟨(by rw [r1 0 (by decide)]; exact h.1.s), ?_⟩
            rw [r1 0 (by decide)]
            have s1 : SP μ29 (ρ 0 9) (σ 2) := pl.2.2.1.ag (f1.ag (by omega))
            have F1 : FP μ29 (ρ 0 8) (σ 2) := pl.2.1.ag (f1.ag (by omega))
            have v1 := add_PV pl.1 (i := i) (t := t) (c := c) (m := m) (v := v) (by omega) (by omega) (by omega) (by omega) (by omega) (by omega)
            have e1 := add_FEq (p := σ 2) (i := i) (t := t) (c := c) (m := m) (v := v) (by omega)
            refine ⟨_, k_addLast h.1.s s1 (by omega) rfl, ?_⟩
            rintro z36 ρ37 μ38 ⟨hq19_1, f2, s2⟩
            obtain rfl := hq19_1.symm
            refine ⟨(by rw [r1 0 (by decide)]; exact h.1.s), ?_⟩
            rw [r1 0 (by decide), s2.n, add_87]
            refine ⟨_, k_changed (by rw [r1 0 (by decide)]) (by rw [r1 0 (by decide)]) h.1.f h.1.s fn ((F1.eq pl.1 e1).ag (f2.ag (by omega))) s2 v1, ?_⟩
            rintro z41 ρ42 μ43 ⟨hq21_1, hq21_2, μ3, f3, r3, hq21_3⟩
            obtain rfl := hq21_1.symm
            obtain rfl := hq21_2.symm
            obtain rfl := hq21_3.symm
            exact pc_ok (fun J => by rw [if_pos ⟨by omega, by omega, by omega⟩]) (by rw [if_pos ⟨by omega, by omega, by omega⟩]) (h.ch hS hp v1 e1 r1 r2 f1 h1 (f2.mono (by omega) (by omega)) s2 f3 r3) (FR.up (((f1.mono (by omega) (by omega)).trans (f2.mono (by omega) (by omega))).trans (f3.mono (by omega) (by omega))) (by omega)) (fun a ha => r1 a (by omega))
          · refine ⟨_, k_fail, ?_⟩
            rintro z45 ρ46 μ47 ⟨hq23_1, hq23_2, hq23_3⟩
            obtain rfl := hq23_1.symm
            obtain rfl := hq23_2.symm
            obtain rfl := hq23_3.symm
            exact pc_fin h hS FR.refl (fun J => (if_neg (fun q => by have := q.2.2.2; omega)).symm) (by rw [if_neg (fun q => by have := q.2.2.2; omega), if_pos (by omega), if_pos (by omega)])
      · refine ⟨_, k_fail, ?_⟩
        rintro z49 ρ50 μ51 ⟨hq25_1, hq25_2, hq25_3⟩
        obtain rfl := hq25_1.symm
        obtain rfl := hq25_2.symm
        obtain rfl := hq25_3.symm
        exact pc_fin h hS FR.refl (fun J => (if_neg (fun q => by have := q.2.1; omega)).symm) (by rw [if_neg (fun q => by have := q.2.1; omega), if_pos (by omega), if_neg (by omega)])
    · refine ⟨_, k_fail, ?_⟩
      rintro z53 ρ54 μ55 ⟨hq27_1, hq27_2, hq27_3⟩
      obtain rfl := hq27_1.symm
      obtain rfl := hq27_2.symm
      obtain rfl := hq27_3.symm
      exact pc_fin h hS FR.refl (fun J => (if_neg (fun q => by have := q.1; omega)).symm) (by rw [if_neg (fun q => by have := q.1; omega), if_neg (by omega)])
theorem SI.un (h : SI σ) (hp : σ 0 4 = 1) (hn : 0 < σ 0 6) : SI (sUn σ) := by
  obtain ⟨a1, a2, a3, a4, a5, a6, a7, a8, a9⟩ := h
  obtain ⟨b1, b2, b3⟩ := a9 hp
  have c := b2 (σ 0 6 - 1) (by omega) (by omega)
  have e6 : sUn σ 0 6 = σ 0 6 - 1 := rfl
  have e2 : sUn σ 2 = hs σ (σ 0 6 - 1) := rfl
  have e3 : sUn σ 3 = σ 3 := rfl
  have eh : ∀ i : Int, sUn σ (4 + i.toNat) = σ (4 + i.toNat) := fun i => by
    funext k
    unfold sUn
    rw [if_neg (by omega), if_neg (by omega)]
  refine ⟨a1, a2, a3, a4, by rw [e6]; omega, by rw [e6]; omega, a7, c.1.2.2.2.2, fun _ => ⟨c.1, fun i i0 i1 => ?_, fun hq => ?_⟩⟩
  · rw [e6] at i1
    rw [eh, e2]
    have := b2 i i0 (by omega)
    exact ⟨this.1, fun k hk => (this.2 k hk).trans (c.2 k hk).symm⟩
  · have := b3 hq
    rw [e3, e2]
    exact ⟨this.1, fun k hk => (this.2 k hk).trans (c.2 k hk).symm⟩
theorem SI.re (h : SI σ) (hp : σ 0 4 = 1) (hq : σ 0 5 = 1) : SI (sRe σ) := by
  obtain ⟨a1, a2, a3, a4, a5, a6, a7, a8, a9⟩ := h
  obtain ⟨b1, b2, b3⟩ := a9 hp
  have c := b3 hq
  have e6 : sRe σ 0 6 = 0 := rfl
  refine ⟨a1, a2, a3, a4, by rw [e6]; omega, by rw [e6]; omega, a7, c.1.2.2.2.2, fun _ => ⟨c.1, fun i i0 i1 => ?_, fun _ => ⟨c.1, fun k _ => rfl⟩⟩⟩
  rw [e6] at i1
  omega
theorem SI.sv (h : SI σ) (hp : σ 0 4 = 1) : SI (sSv σ) := by
  obtain ⟨a1, a2, a3, a4, a5, a6, a7, a8, a9⟩ := h
  obtain ⟨b1, b2, b3⟩ := a9 hp
  have eh : ∀ i : Int, sSv σ (4 + i.toNat) = σ (4 + i.toNat) := fun i => by
    funext k
    unfold sSv
    rw [if_neg (by omega), if_neg (by omega)]
  exact ⟨a1, a2, a3, Or.inr rfl, a5, a6, a7, a8, fun _ => ⟨b1, fun i i0 i1 => by rw [eh]; exact b2 i i0 i1, fun _ => ⟨b1, fun k _ => rfl⟩⟩⟩
/-- the plan is another one of the same fixed part; what is saved stays -/
theorem CI.pl2 {μ1 μ3 : Mem} {τ : Sg} {n' : Int} (h : CI ρ μ σ) (hS : SI σ) (hp : σ 0 4 = 1) (e : FEq (σ 2) q) (t0 : ∀ k, k ≠ 3 → k ≠ 6 → τ 0 k = σ 0 k) (t3 : τ 0 3 = 0) (t6 : τ 0 6 = n') (tb : τ 1 = σ 1) (t2 : τ 2 = q) (ts : τ 3 = σ 3) (hn : n' ≤ 10) (f1 : ∀ a, a ≠ 69 → (a < ρ 0 9 ∨ ρ 0 9 + 6 < a) → μ1 a = μ a) (h1 : HS ρ μ1 n' (fun i => τ (4 + i.toNat))) (s2 : SP μ1 (ρ 0 9) q) (f3 : FR 27 40 μ1 μ3) (r3 : RP q 27 μ3) : CI ρ (up2 μ3 0 12 0) τ := by
  have pl := h.pl hS hp
  obtain ⟨g1, g2, g3, g4, g5, g6, g7, g8, g9, g10⟩ := h
  obtain ⟨d1, d2, d3, d4, d5⟩ := g10 hp
  have fn := g1.fn
  have fr : ∀ a, a ≤ 2 → μ3 a = μ a := fun a ha => by rw [f3 a (by omega), f1 a (by omega) (by omega)]
  unfold CI
  rw [t3, t6, tb, t2, ts]
  simp (disch := omega) only [t0, up2_c, up2_k, up2_s, fr]
  refine ⟨g1, g2, g3, g4, g5, g6, by trivial, g8, g9, fun _ => ⟨?_, ?_, ?_, ⟨?_, fun i i0 i1 => ?_⟩, fun hq => ?_⟩⟩
  · exact (((d1.ag (fun a x y => f1 a (by omega) (by omega))).ag (f3.ag (by omega))).ag (AG.up AG.refl (by omega))).eq pl.1 e
  · exact (s2.ag (f3.ag (by omega))).ag (AG.up AG.refl (by omega))
  · unfold RP CJ
    simp (disch := omega) only [up2_c]
    exact r3
  · rw [up2_c (by decide), f3 69 (by omega)]
    exact h1.1
  · have q1 := g2.1 i i0 (by omega)
    exact ((h1.2 i i0 i1).ag (f3.ag (by omega))).ag (AG.up AG.refl (by omega))
  · exact (((d5 hq).ag (fun a x y => f1 a (by omega) (by omega))).ag (f3.ag (by omega))).ag (AG.up AG.refl (by omega))
theorem c_undo (h : CI ρ μ σ) (hS : SI σ) : qE mX7_undo GG GG [qP 0] ρ μ (PC μ ρ (fun J => if σ 0 4 = 1 ∧ 0 < σ 0 6 then σ 0 6 - 1 else -2147483648) (if σ 0 4 = 1 ∧ 0 < σ 0 6 then sUn σ else sE σ (if σ 0 4 = 1 then 6 else 1))) := by
  have h8 := h.2.2.2.2.2.2.2.1
  have hb := hS.2.2.1
  have n0 := hS.2.2.2.2.1
  have n1 := hS.2.2.2.2.2.1
  refine e_X7_undo ?_
  refine ⟨fun hc1 => ?_, fun hc1 => ?_⟩
  · have hp : σ 0 4 = 1 := by omega
    have pl := h.pl hS hp
    have n := pl.1.n
    have fn := h.1.fn
    have hh := (h.2.2.2.2.2.2.2.2.2 hp).2.2.2.1
    rw [hh.1]
    refine ⟨fun hc2 => ?_, fun hc2 => ?_⟩
    · refine ⟨(by exact h.1.s), ?_⟩
      have ok := ((hS.2.2.2.2.2.2.2.2 hp).2.1 (σ 0 6 - 1) (by omega) (by omega))
      refine ⟨_, k_popInto h.1.s (by omega) h.2.1 hh (by omega) (ok.1.1.n.2.2.2.2.2.2.2), ?_⟩
      rintro z2 ρ3 μ4 ⟨hq4_1, f1, h1, s1⟩
      obtain rfl := hq4_1.symm
      rw [h1.1]
      have F1 : FP μ4 (ρ 0 8) (σ 2) := pl.2.1.ag (fun a x y => f1 a (by omega) (by omega))
      refine ⟨_, k_changed rfl rfl h.1.f h.1.s fn (F1.eq pl.1 ok.2) s1 ok.1.1, ?_⟩
      rintro z6 ρ7 μ8 ⟨hq5_1, hq5_2, μ3, f3, r3, hq5_3⟩
      obtain rfl := hq5_1.symm
      obtain rfl := hq5_2.symm
      obtain rfl := hq5_3.symm
      have eh : (fun i : Int => sUn σ (4 + i.toNat)) = fun i : Int => σ (4 + i.toNat) := by
        funext i k
        unfold sUn
        rw [if_neg (by omega), if_neg (by omega)]
      refine pc_ok (fun J => by rw [if_pos ⟨by omega, by omega⟩]) (by rw [if_pos ⟨by omega, by omega⟩]) (h.pl2 (τ := sUn σ) (n' := σ 0 6 - 1) hS hp ok.2 (fun k k3 k6 => by unfold sUn; rw [if_pos rfl, if_neg k3, if_neg k6]) rfl rfl rfl rfl rfl (by omega) f1 (by rw [eh]; exact h1) s1 f3 r3) (fun a ha => ?_) (fun _ _ => rfl)
      rw [up2_c (by omega), f3 a (by omega), f1 a (by omega) (by omega)]
    · refine ⟨_, k_fail, ?_⟩
      rintro z10 ρ11 μ12 ⟨hq7_1, hq7_2, hq7_3⟩
      obtain rfl := hq7_1.symm
      obtain rfl := hq7_2.symm
      obtain rfl := hq7_3.symm
      exact pc_fin h hS FR.refl (fun J => (if_neg (fun q => by have := q.2; omega)).symm) (by rw [if_neg (fun q => by have := q.2; omega), if_pos (by omega)])
  · refine ⟨_, k_fail, ?_⟩
    rintro z14 ρ15 μ16 ⟨hq9_1, hq9_2, hq9_3⟩
    obtain rfl := hq9_1.symm
    obtain rfl := hq9_2.symm
    obtain rfl := hq9_3.symm
    exact pc_fin h hS FR.refl (fun J => (if_neg (fun q => by have := q.1; omega)).symm) (by rw [if_neg (fun q => by have := q.1; omega), if_neg (by omega)])
theorem c_restore (h : CI ρ μ σ) (hS : SI σ) : qE mX7_restore GG GG [qP 0] ρ μ (PC μ ρ (fun J => if σ 0 4 = 1 ∧ σ 0 5 = 1 then σ 3 87 else -2147483648) (if σ 0 4 = 1 ∧ σ 0 5 = 1 then sRe σ else sE σ (if σ 0 4 = 1 then 6 else 1))) := by
  have h8 := h.2.2.2.2.2.2.2.1
  have h9 := h.2.2.2.2.2.2.2.2.1
  have hb := hS.2.2.1
  have hb2 := hS.2.2.2.1
  refine e_X7_restore ?_
  refine ⟨fun hc1 => ?_, fun hc1 => ?_⟩
  · refine ⟨fun hc2 => ?_, fun hc2 => ?_⟩
    · refine ⟨(by exact h.1.s), ?_⟩
      have hp : σ 0 4 = 1 := by omega
      have pl := h.pl hS hp
      have n := pl.1.n
      have fn := h.1.fn
      have sv := (h.2.2.2.2.2.2.2.2.2 hp).2.2.2.2 (by omega)
      have ok := (hS.2.2.2.2.2.2.2.2 hp).2.2 (by omega)
      refine ⟨_, k_copyFrom (x := 62) h.1.s rfl (by omega), ?_⟩
      rintro z2 ρ3 μ4 ⟨hq4_1, f1, c1⟩
      obtain rfl := hq4_1.symm
      intro μ6 eμ6; subst eμ6
      refine ⟨(by exact h.1.s), ?_⟩
      have s1 : SP (up2 μ4 69 1 0) (ρ 0 9) (σ 3) := (c1.sp sv ok.1.1.n.2.2.2.2.2.2.2).ag (AG.up AG.refl (by omega))
      have F1 : FP (up2 μ4 69 1 0) (ρ 0 8) (σ 2) := (pl.2.1.ag (f1.ag (by omega))).ag (AG.up AG.refl (by omega))
      rw [s1.n]
      refine ⟨_, k_changed rfl rfl h.1.f h.1.s fn (F1.eq pl.1 ok.2) s1 ok.1.1, ?_⟩
      rintro z8 ρ9 μ10 ⟨hq7_1, hq7_2, μ3, f3, r3, hq7_3⟩
      obtain rfl := hq7_1.symm
      obtain rfl := hq7_2.symm
      obtain rfl := hq7_3.symm
      have f1' : ∀ a, a ≠ 69 → (a < ρ 0 9 ∨ ρ 0 9 + 6 < a) → up2 μ4 69 1 0 a = μ a := fun a h1 h2 => by rw [up2_c h1]; exact f1 a (by omega)
      refine pc_ok (fun J => by rw [if_pos ⟨by omega, by omega⟩]) (by rw [if_pos ⟨by omega, by omega⟩]) (h.pl2 (τ := sRe σ) (n' := 0) hS hp ok.2 (fun k k3 k6 => by unfold sRe; rw [if_pos rfl, if_neg k3, if_neg k6]) rfl rfl rfl rfl rfl (by omega) f1' ⟨up2_s, fun i i0 i1 => by omega⟩ s1 f3 r3) (fun a ha => ?_) (fun _ _ => rfl)
      rw [up2_c (by omega), f3 a (by omega), f1' a (by omega) (by omega)]
    · refine ⟨_, k_fail, ?_⟩
      rintro z12 ρ13 μ14 ⟨hq9_1, hq9_2, hq9_3⟩
      obtain rfl := hq9_1.symm
      obtain rfl := hq9_2.symm
      obtain rfl := hq9_3.symm
      exact pc_fin h hS FR.refl (fun J => (if_neg (fun q => by have := q.2; omega)).symm) (by rw [if_neg (fun q => by have := q.2; omega), if_pos (by omega)])
  · refine ⟨_, k_fail, ?_⟩
    rintro z16 ρ17 μ18 ⟨hq11_1, hq11_2, hq11_3⟩
    obtain rfl := hq11_1.symm
    obtain rfl := hq11_2.symm
    obtain rfl := hq11_3.symm
    exact pc_fin h hS FR.refl (fun J => (if_neg (fun q => by have := q.1; omega)).symm) (by rw [if_neg (fun q => by have := q.1; omega), if_neg (by omega)])
end CHu
