/-! ===== changes ===== -/
def hs (σ : Sg) : Int → Pl := fun i => σ (4 + i.toNat)
def sCh (σ : Sg) (q : Pl) : Sg := fun a k => if a = 0 then (if k = 3 then 0 else if k = 6 then hN (σ 0 6) else σ 0 k) else if a = 1 then σ 1 k else if a = 2 then q k else if a = 3 then σ 3 k else hPush (σ 0 6) (hs σ) (σ 2) ((a : Int) - 4) k
section CHs
variable {ρ : Rf} {μ : Mem} {σ : Sg} {p q : Pl}
theorem sCh_0 {k : Int} (h3 : k ≠ 3) (h6 : k ≠ 6) : sCh σ q 0 k = σ 0 k := by
  unfold sCh
  rw [if_pos rfl, if_neg h3, if_neg h6]
theorem sCh_3 : sCh σ q 0 3 = 0 := rfl
theorem sCh_6 : sCh σ q 0 6 = hN (σ 0 6) := rfl
theorem sCh_b : sCh σ q 1 = σ 1 := rfl
theorem sCh_2 : sCh σ q 2 = q := rfl
theorem sCh_s : sCh σ q 3 = σ 3 := rfl
theorem sCh_h {i : Int} (h : 0 ≤ i) : sCh σ q (4 + i.toNat) = hPush (σ 0 6) (hs σ) (σ 2) i := by
  funext k
  unfold sCh
  rw [if_neg (by omega), if_neg (by omega), if_neg (by omega), if_neg (by omega), show (((4 + i.toNat : Nat) : Int) - 4) = i by omega]
theorem SI.ch (h : SI σ) (hp : σ 0 4 = 1) (ho : OKP q) (e : FEq (σ 2) q) : SI (sCh σ q) := by
  obtain ⟨a1, a2, a3, a4, a5, a6, a7, a8, a9⟩ := h
  obtain ⟨b1, b2, b3⟩ := a9 hp
  have hn : 0 ≤ hN (σ 0 6) ∧ hN (σ 0 6) ≤ 10 := by unfold hN; split <;> omega
  refine ⟨a1, a2, a3, a4, hn.1, hn.2, a7, ho.2.2.2.2, fun _ => ⟨ho, fun i i0 i1 => ?_, fun hq => ?_⟩⟩
  · rw [sCh_6] at i1
    rw [sCh_h i0, sCh_2]
    unfold hPush
    by_cases c : i = hN (σ 0 6) - 1
    · rw [if_pos c]
      exact ⟨b1, fun k hk => (e k hk).symm⟩
    · rw [if_neg c]
      have fq : ∀ j, 0 ≤ j → j < σ 0 6 → OKP (hs σ j) ∧ FEq q (hs σ j) := fun j j0 j1 => ⟨(b2 j j0 j1).1, fun k hk => ((b2 j j0 j1).2 k hk).trans (e k hk).symm⟩
      unfold hN at i1 c
      by_cases c2 : σ 0 6 = 10
      · rw [if_pos c2] at i1 c ⊢
        exact fq (i + 1) (by omega) (by omega)
      · rw [if_neg c2] at i1 c ⊢
        exact fq i i0 (by omega)
  · have := b3 hq
    rw [sCh_s, sCh_2]
    exact ⟨this.1, fun k hk => (this.2 k hk).trans (e k hk).symm⟩
theorem CI.ch {ρ' : Rf} {μ1 μ2 μ3 : Mem} (h : CI ρ μ σ) (hS : SI σ) (hp : σ 0 4 = 1) (hv : PV q) (e : FEq (σ 2) q) (r1 : ∀ a, a ≠ 70 → ρ' a = ρ a) (r2 : HPm ρ') (f1 : FR 69 140 μ μ1) (h1 : HS ρ' μ1 (hN (σ 0 6)) (hPush (σ 0 6) (hs σ) (σ 2))) (f2 : FR (ρ 0 9) (ρ 0 9 + 6) μ1 μ2) (s2 : SP μ2 (ρ 0 9) q) (f3 : FR 27 40 μ2 μ3) (r3 : RP q 27 μ3) : CI ρ' (up2 μ3 0 12 0) (sCh σ q) := by
  have pl := h.pl hS hp
  obtain ⟨g1, g2, g3, g4, g5, g6, g7, g8, g9, g10⟩ := h
  obtain ⟨d1, d2, d3, d4, d5⟩ := g10 hp
  have fn := g1.fn
  have fr : ∀ a, a ≤ 2 → μ3 a = μ a := fun a ha => by rw [f3 a (by omega), f2 a (by omega), f1 a (by omega)]
  have hn : hN (σ 0 6) ≤ 10 := by have := hS.2.2.2.2.2.1; unfold hN; split <;> omega
  unfold CI
  rw [show (fun i : Int => sCh σ q (4 + i.toNat)) = fun i : Int => sCh σ q (4 + i.toNat) from rfl, r1 0 (by decide), sCh_3, sCh_6, sCh_b, sCh_2, sCh_s]
  simp (disch := omega) only [sCh_0, up2_c, up2_k, up2_s, fr]
  refine ⟨?_, r2, g3, g4, g5, g6, by trivial, g8, g9, fun _ => ⟨?_, ?_, ?_, ⟨?_, fun i i0 i1 => ?_⟩, fun hq => ?_⟩⟩
  · unfold CF
    rw [r1 0 (by decide), r1 1 (by decide)]
    exact g1
  · exact ((((d1.ag (f1.ag (by omega))).ag (f2.ag (by omega))).ag (f3.ag (by omega))).ag (AG.up AG.refl (by omega))).eq pl.1 e
  · exact (s2.ag (f3.ag (by omega))).ag (AG.up AG.refl (by omega))
  · unfold RP CJ
    simp (disch := omega) only [up2_c]
    exact r3
  · rw [up2_c (by decide), f3 69 (by omega), f2 69 (by omega)]
    exact h1.1
  · show SP _ _ (sCh σ q (4 + i.toNat))
    rw [sCh_h i0]
    have q1 := r2.1 i i0 (by omega)
    exact (((h1.2 i i0 i1).ag (f2.ag (by omega))).ag (f3.ag (by omega))).ag (AG.up AG.refl (by omega))
  · exact ((((d5 hq).ag (f1.ag (by omega))).ag (f2.ag (by omega))).ag (f3.ag (by omega))).ag (AG.up AG.refl (by omega))
theorem pc_ok {ρ' : Rf} {μ' : Mem} {v : Mem → Int} {σ' τ : Sg} {z : Int} (hz : ∀ J, z = v J) (hs : σ' = τ) (hC : CI ρ' μ' τ) (hf : FR 0 177 μ μ') (hr : ∀ a, 178 ≤ a → ρ' a = ρ a) : PC μ ρ v σ' z ρ' μ' := by
  subst hs
  exact ⟨hz, hC, hf, hr⟩
theorem k_changed {x : Int} {f s : Nat} (e8 : ρ 0 8 = f) (e9 : ρ 0 9 = s) (i0 : isO 0 f) (i6 : isO 6 s) (fn : (f = 155 ∧ s = 171) ∨ (f = 4 ∧ s = 20)) (F : FP μ f q) (S : SP μ s q) (hv : PV q) : qE mX7_changed GG GG [qP 0, qI x] ρ μ (fun z ρ' μ' => z = x ∧ ρ' = ρ ∧ ∃ μ3, FR 27 40 μ μ3 ∧ RP q 27 μ3 ∧ μ' = up2 μ3 0 12 0) := by
  subst e8
  subst e9
  refine e_X7_changed ?_
  refine ⟨(by assumption), ?_⟩
  refine ⟨(by assumption), ?_⟩
  refine ⟨_, k_play (o := 27) rfl i0 i6 F S hv (by omega) (by omega), ?_⟩
  rintro z3 ρ4 μ5 ⟨hq3_1, f3, r3⟩
  obtain rfl := hq3_1.symm
  refine ⟨_, k_answer, ?_⟩
  rintro z7 ρ8 μ9 ⟨hq4_1, hq4_2, hq4_3⟩
  obtain rfl := hq4_1.symm
  obtain rfl := hq4_2.symm
  obtain rfl := hq4_3.symm
  exact ⟨rfl, rfl, _, f3, r3, rfl⟩
/-! ### plans that are kept within bounds -/
theorem cnt_e {p q : Pl} (h87 : q 87 = p 87) (hn : 0 ≤ p 87) (h : ∀ j, 0 ≤ j → j < p 87 → q (88 + 5 * j + 0) = p (88 + 5 * j + 0)) (i : Int) : cnt q i = cnt p i := by
  unfold cnt
  rw [h87]
  exact s_Ic hn (fun j j0 j1 => by rw [h j j0 j1])
theorem u1_OKP {p : Pl} {c v : Int} (ho : OKP p) (hc : 0 ≤ c ∧ c < 188) (h87 : c ≠ 87) (hb : ∀ j, 0 ≤ j → j < 20 → c ≠ 88 + 5 * j + 0) (h2 : c = 2 ∨ c = 3 → v ≤ 999) (hv : PV (u1 p c v)) : OKP (u1 p c v) := by
  have n := ho.1.n
  refine ⟨hv, ?_, ?_, fun i => ?_, fun k hk => ?_⟩
  · by_cases e : c = 2
    · rw [e, u1_s]; exact h2 (Or.inl e)
    · rw [u1_n (by omega)]; exact ho.2.1
  · by_cases e : c = 3
    · rw [e, u1_s]; exact h2 (Or.inr e)
    · rw [u1_n (by omega)]; exact ho.2.2.1
  · rw [cnt_e (u1_n (by omega)) (by omega) (fun j j0 j1 => u1_n (by have := hb j j0 (by omega); omega))]
    exact ho.2.2.2.1 i
  · rw [u1_n (by omega)]; exact ho.2.2.2.2 k hk
theorem c_setDeparture {t v : Int} (h : CI ρ μ σ) (hS : SI σ) : qE mX7_setDeparture GG GG [qP 0, qI t, qI v] ρ μ (PC μ ρ (fun J => if (σ 0 4 = 1 ∧ 0 ≤ t ∧ t < 2) ∧ (σ 2 (0 + t) ≤ v ∧ v ≤ 999) then σ 2 (2 + t) else -2147483648) (if (σ 0 4 = 1 ∧ 0 ≤ t ∧ t < 2) ∧ (σ 2 (0 + t) ≤ v ∧ v ≤ 999) then sCh σ (u1 (σ 2) (2 + t) v) else sE σ (if σ 0 4 = 1 ∧ 0 ≤ t ∧ t < 2 then 2 else 1))) := by
  refine e_X7_setDeparture ?_
  refine ⟨_, k_isTrain (by assumption) (by assumption), ?_⟩
  rintro z1 ρ2 μ3 ⟨hz, hq1_1, hq1_2⟩
  obtain rfl := hq1_1.symm
  obtain rfl := hq1_2.symm
  refine ⟨fun hc2 => ?_, fun hc2 => ?_⟩
  · refine ⟨(by exact h.1.f), ?_⟩
    refine ⟨(by omega), ?_⟩
    have hp : σ 0 4 = 1 := by omega
    have pl := h.pl hS hp
    have ft := (pl.2.1.t (t := t) (by omega) (by omega)).1
    rw [ft]
    refine ⟨fun hc5 => ?_, fun hc5 => ?_⟩
    · refine ⟨_, k_fail, ?_⟩
      rintro z6 ρ7 μ8 ⟨hq6_1, hq6_2, hq6_3⟩
      obtain rfl := hq6_1.symm
      obtain rfl := hq6_2.symm
      obtain rfl := hq6_3.symm
      exact pc_fin h hS FR.refl (fun J => (if_neg (fun q => by have := q.2; omega)).symm) (by rw [if_neg (fun q => by have := q.2; omega), if_pos (by omega)])
    · refine ⟨fun hc8 => ?_, fun hc8 => ?_⟩
      · refine ⟨(by exact h.1.s), ?_⟩
        have fn := h.1.fn
        refine ⟨_, k_push h.1.s (by omega) pl.2.2.1 (by have := pl.1.n; omega) h.2.1 (h.2.2.2.2.2.2.2.2.2 hp).2.2.2.1 (by have := hS; exact ⟨this.2.2.2.2.1, this.2.2.2.2.2.1⟩), ?_⟩
        rintro z11 ρ12 μ13 ⟨r1, r2, f1, h1⟩
        refine ⟨(by rw [r1 0 (by decide)]; exact h.1.s), ?_⟩
        rw [r1 0 (by decide)]
        have s1 : SP μ13 (ρ 0 9) (σ 2) := pl.2.2.1.ag (f1.ag (by omega))
        have F1 : FP μ13 (ρ 0 8) (σ 2) := pl.2.1.ag (f1.ag (by omega))
        have s2 := SP_dep (v := v) s1 (t := t) (by omega)
        have v1 := dep_PV pl.1 (t := t) (v := v) (by omega) (by omega) (by omega)
        have e1 := dep_FEq (p := σ 2) (t := t) (v := v) (by omega)
        have st : μ13 (ρ 0 9 + 5) t = σ 2 (2 + t) := s1.t (by omega) (by omega)
        rw [st]
        refine ⟨(by omega), ?_⟩
        refine ⟨(by omega), ?_⟩
        intro μ16 eμ16; subst eμ16
        refine ⟨_, k_changed (by rw [r1 0 (by decide)]) (by rw [r1 0 (by decide)]) h.1.f h.1.s fn ((F1.eq pl.1 e1).ag (AG.up AG.refl (by omega))) s2 v1, ?_⟩
        rintro z17 ρ18 μ19 ⟨hq15_1, hq15_2, μ3, f3, r3, hq15_3⟩
        obtain rfl := hq15_1.symm
        obtain rfl := hq15_2.symm
        obtain rfl := hq15_3.symm
        exact pc_ok (fun J => by rw [if_pos ⟨by omega, by omega⟩]) (by rw [if_pos ⟨by omega, by omega⟩]) (h.ch hS hp v1 e1 r1 r2 f1 h1 (FR.up FR.refl (by omega)) s2 f3 r3) (FR.up (((f1.mono (by omega) (by omega)).trans (FR.up FR.refl (by omega))).trans (f3.mono (by omega) (by omega))) (by omega)) (fun a ha => r1 a (by omega))
      · refine ⟨_, k_fail, ?_⟩
        rintro z21 ρ22 μ23 ⟨hq17_1, hq17_2, hq17_3⟩
        obtain rfl := hq17_1.symm
        obtain rfl := hq17_2.symm
        obtain rfl := hq17_3.symm
        exact pc_fin h hS FR.refl (fun J => (if_neg (fun q => by have := q.2; omega)).symm) (by rw [if_neg (fun q => by have := q.2; omega), if_pos (by omega)])
  · refine ⟨_, k_fail, ?_⟩
    rintro z25 ρ26 μ27 ⟨hq19_1, hq19_2, hq19_3⟩
    obtain rfl := hq19_1.symm
    obtain rfl := hq19_2.symm
    obtain rfl := hq19_3.symm
    exact pc_fin h hS FR.refl (fun J => (if_neg (fun q => by have := q.1; omega)).symm) (by rw [if_neg (fun q => by have := q.1; omega), if_neg (by omega)])
end CHs
