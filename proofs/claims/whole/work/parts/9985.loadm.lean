section LOM
variable {ρ : Rf} {μ μ0 : Mem} {σ : Sg} {p : Pl}
theorem MJ.lf {μ' : Mem} {c e : Int} (h : MJ μ σ) (hm : ∀ a, a = 180 ∨ a = 182 ∨ a = 183 → μ' a = μ a) (hk : ∀ k, 11 < k → μ' 178 k = μ 178 k) (h3 : μ' 178 3 = 0) (h6 : μ' 178 6 = c) (h7 : μ' 178 7 = e) (h1 : μ' 178 1 = 4) : MJ μ' (sLf σ c e) := by
  obtain ⟨g1, g2, g3, g4, g5, g6, g7, g8, g9⟩ := h
  have eh : ∀ i : Int, sLf σ c e (4 + i.toNat) = σ (4 + i.toNat) := fun i => by
    funext k
    unfold sLf
    rw [if_neg (by omega)]
  refine ⟨h3, fun k k0 k1 => by have : k < 0 := k1; omega, h6, h7, h1, by rw [hk 20 (by decide)]; exact g6, by rw [hk 21 (by decide)]; exact g7, by rw [hm 180 (by decide)]; exact g8, fun hp => ?_⟩
  obtain ⟨d1, d2, d3⟩ := g9 hp
  exact ⟨by rw [hk 19 (by decide)]; exact d1, fun i b i0 i1 b0 b1 => by rw [hm 183 (by decide), eh]; exact d2 i b i0 i1 b0 b1, fun hq b b0 b1 => by rw [hm 182 (by decide)]; exact d3 hq b b0 b1⟩
theorem MJ.lo {μ' : Mem} {c e : Int} (h3 : μ' 178 3 = 0) (h6 : μ' 178 6 = c) (h7 : μ' 178 7 = e) (h1 : μ' 178 1 = 0) (h20 : μ' 178 20 = 1) (h21 : μ' 178 21 = 0) (h19 : μ' 178 19 = 0) (hp : μ' 180 = p) : MJ μ' (sLo σ c e p) :=
  ⟨h3, fun k k0 k1 => by have : k < 0 := k1; omega, h6, h7, h1, h20, h21, hp, fun _ => ⟨h19, fun i b i0 i1 => by have : i < 0 := i1; omega, fun hq => by have : (0 : Int) = 1 := hq; omega⟩⟩
theorem pT_t {b : Int → Int} {n : Int} (n0 : 0 ≤ n) : TOK n (pT b n) := by
  have z : TOK n (pZ b n).2 := (lns_ok (b := b) (n := n) 901 D0 T0 D0_DV (T0_t n0)).2
  have f : TOK n (fn1 b n (pZ b n).2) := by
    unfold fn1
    split
    · exact fTk_t z
    · exact fR_t (by decide) (fTk_t z)
  by_cases c : cmp (pZ b n).1
  · have e : pT b n = fn1 b n (pZ b n).2 := by unfold pT fn2; rw [if_pos c]
    rw [e]
    exact f
  · have e : pT b n = fR 5 (fn1 b n (pZ b n).2) := by unfold pT fn2; rw [if_neg c]
    rw [e]
    exact fR_t (by decide) f
theorem q_load {x : Int} (h : MJ μ0 σ) (hS : SI σ) : qE mX8_load GG GG [qP 178, qI x] ρ μ0 (PM μ0 ρ (fun J => if (0 ≤ x ∧ x ≤ σ 0 0) ∧ (pT (σ 1) x).1 = 0 then (pZ (σ 1) x).1 1 87 else -2147483648) (if (0 ≤ x ∧ x ≤ σ 0 0) then (if (pT (σ 1) x).1 = 0 then sLo σ (pT (σ 1) x).1 (pT (σ 1) x).2.1 ((pZ (σ 1) x).1 1) else sLf σ (pT (σ 1) x).1 (pT (σ 1) x).2.1) else sE σ 2)) := by
  have g3 : μ0 178 3 = σ 0 0 := h.1
  have n9 := hS.2.1
  have hb : BY (σ 1) := hS.2.2.2.2.2.2.1
  refine e_X8_load ?_
  intro μ1 eμ1; subst eμ1
  rw [up2_k (show (3 : Int) ≠ 0 by decide), g3]
  refine ⟨_, m_in, ?_⟩
  rintro z2 ρ3 μ4 ⟨hz, hq2_1, hq2_2⟩
  obtain rfl := hq2_1.symm
  obtain rfl := hq2_2.symm
  refine ⟨fun hc3 => ?_, fun hc3 => ?_⟩
  · intro μ6 eμ6; subst eμ6
    intro μ7 eμ7; subst eμ7
    intro μ8 eμ8; subst eμ8
    intro μ9 eμ9; subst eμ9
    intro μ10 eμ10; subst eμ10
    refine ⟨_, m_readText (b := σ 1) (n := x) hb (by omega) (by omega) ⟨fun k k0 k1 => by rw [up2_c (by decide), up2_c (by decide), up2_c (by decide), up2_c (by decide), up2_c (by decide), up2_c (by decide)]; exact h.2.1 k k0 (by omega), by rw [up2_k (by decide), up2_k (by decide), up2_k (by decide), up2_k (by decide), up2_s]⟩ (by rw [up2_k (by decide), up2_k (by decide), up2_s]) (by rw [up2_k (by decide), up2_s]) up2_s, ?_⟩
    rintro z11 ρ12 μ13 ⟨hq9_1, p6, p7, pd, pq, pk⟩
    obtain rfl := hq9_1.symm
    rw [p6]
    refine ⟨fun hc10 => ?_, fun hc10 => ?_⟩
    · refine ⟨_, m_copy (a := 181) (b := 180) rfl rfl (by decide) (by decide) (by decide) (by decide) (by decide) (by decide) (by decide), ?_⟩
      rintro z15 ρ16 μ17 ⟨hq11_1, y1, y2, y3⟩
      obtain rfl := hq11_1.symm
      intro μ19 eμ19; subst eμ19
      intro μ20 eμ20; subst eμ20
      intro μ21 eμ21; subst eμ21
      refine ⟨_, m_done, ?_⟩
      rintro z22 ρ23 μ24 ⟨hq15_1, hq15_2, hq15_3⟩
      obtain rfl := hq15_1.symm
      obtain rfl := hq15_2.symm
      obtain rfl := hq15_3.symm
      have ci : 0 ≤ x ∧ x ≤ σ 0 0 := by omega
      have tt := pT_t (b := σ 1) (n := x) ci.1
      have t0 : (pT (σ 1) x).1 = 0 := by have := tt.2.2; omega
      have dv := pZ_v (b := σ 1) (n := x) ci.1
      have hc := pT_0 t0
      have ok := dv.ok hc
      have md := pd t0
      have e180 : μ17 180 = (pZ (σ 1) x).1 1 := by
        funext k
        by_cases c : 0 ≤ k ∧ k < 188
        · have := y2 k c.1 c.2
          rw [Int.zero_add] at this
          rw [this]
          exact md.1 k c.1 c.2
        · rw [y3 k (by omega), pq 180 (by decide) (by decide) (by decide) (by decide) (by decide), up2_c (by decide), up2_c (by decide), up2_c (by decide), up2_c (by decide), up2_c (by decide), up2_c (by decide), h.2.2.2.2.2.2.2.1, hS.2.2.2.2.2.2.2.1 k (by omega), ok.2.2.2.2 k (by omega)]
      have e178 : μ17 178 = μ13 178 := y1 178 (by decide)
      refine ⟨⟨μ0, ?_⟩, rfl, ?_, ?_⟩
      · rw [if_pos ⟨ci, t0⟩, up2_c (by decide), up2_c (by decide), up2_c (by decide), e180]
      · rw [if_pos ci, if_pos t0]
        refine MJ.lo ?_ ?_ ?_ up2_s ?_ ?_ ?_ ?_
        · rw [up2_k (by decide), up2_k (by decide), up2_k (by decide), up2_k (by decide), e178, pk 3 (by decide), up2_k (by decide), up2_k (by decide), up2_k (by decide), up2_s]
        · rw [up2_k (by decide), up2_k (by decide), up2_k (by decide), up2_k (by decide), e178, p6]
        · rw [up2_k (by decide), up2_k (by decide), up2_k (by decide), up2_k (by decide), e178, p7]
        · rw [up2_k (by decide), up2_k (by decide), up2_k (by decide), up2_s]
        · rw [up2_k (by decide), up2_k (by decide), up2_s]
        · rw [up2_k (by decide), up2_s]
        · rw [up2_c (by decide), up2_c (by decide), up2_c (by decide), up2_c (by decide), e180]
      · intro a ha
        rw [up2_c (by omega), up2_c (by omega), up2_c (by omega), up2_c (by omega), y1 a (by omega), pq a (by omega) (by omega) (by omega) (by omega) (by omega), up2_c (by omega), up2_c (by omega), up2_c (by omega), up2_c (by omega), up2_c (by omega), up2_c (by omega)]
    · refine ⟨_, m_failed, ?_⟩
      rintro z26 ρ27 μ28 ⟨hq17_1, hq17_2, hq17_3⟩
      obtain rfl := hq17_1.symm
      obtain rfl := hq17_2.symm
      obtain rfl := hq17_3.symm
      have ci : 0 ≤ x ∧ x ≤ σ 0 0 := by omega
      have t0 : (pT (σ 1) x).1 ≠ 0 := by omega
      refine ⟨⟨μ0, ?_⟩, rfl, ?_, ?_⟩
      · rw [if_neg (fun y => t0 y.2)]
      · rw [if_pos ci, if_neg t0]
        refine h.lf (fun a ha => ?_) (fun k hk => ?_) ?_ ?_ ?_ up2_s
        · rw [up2_c (by omega), pq a (by omega) (by omega) (by omega) (by omega) (by omega), up2_c (by omega), up2_c (by omega), up2_c (by omega), up2_c (by omega), up2_c (by omega), up2_c (by omega)]
        · rw [up2_k (by omega), pk k (by omega), up2_k (by omega), up2_k (by omega), up2_k (by omega), up2_k (by omega), up2_k (by omega), up2_k (by omega)]
        · rw [up2_k (by decide), pk 3 (by decide), up2_k (by decide), up2_k (by decide), up2_k (by decide), up2_s]
        · rw [up2_k (by decide), p6]
        · rw [up2_k (by decide), p7]
      · intro a ha
        rw [up2_c (by omega), pq a (by omega) (by omega) (by omega) (by omega) (by omega), up2_c (by omega), up2_c (by omega), up2_c (by omega), up2_c (by omega), up2_c (by omega), up2_c (by omega)]
  · refine ⟨_, m_failed, ?_⟩
    rintro z30 ρ31 μ32 ⟨hq19_1, hq19_2, hq19_3⟩
    obtain rfl := hq19_1.symm
    obtain rfl := hq19_2.symm
    obtain rfl := hq19_3.symm
    exact pm_fin h.th (FR.up FR.refl (by omega)) ⟨μ0, (if_neg (by omega)).symm⟩ (by rw [if_neg (by omega)])
end LOM
