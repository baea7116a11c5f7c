/-! ===== contracts of the class's run: doors, meals brought back ===== -/
theorem cUn_6 {p : Pl} {o : Nat} {i : Int} {μ : Mem} : cUn p o i μ (o + 6) (μ (o + 12) i) = cEn p o i μ := by
  unfold cUn cEn
  by_cases h : cMy p o i μ = 0
  · rw [if_pos h, if_pos h, cNoU_6, u1_s]
  · rw [if_neg h, if_neg h, up2_c (by omega), up2_c (by omega), up2_c (by omega), up2_s]
theorem k_un28 {ρ : Rf} {μ ν : Mem} {o f s : Nat} {p : Pl} {i : Int} (ho : isO 3 o) (hf0 : isO 0 f) (hs6 : isO 6 s) (hf : FP μ f p) (hs : SP μ s p) (hv : PV p) (d1 : o + 13 < f ∨ f + 15 < o) (d2 : o + 13 < s ∨ s + 6 < o) (hi : 0 ≤ i ∧ i < p 61) (hr : RRe p o i μ) (hν : ν = cNoU o (μ (o + 12) i) (μ (o + 11) i) μ) : qX mX3_unload GG (fun (_ : Int) (ρ' : Rf) (μ' : Mem) => ρ' = ρ ∧ μ' = cUn p o i μ) GG (0, 0) 28 [some (qP o), some (qP f), some (qP s), some (qI i), some (qI (μ (o + 12) i)), some (qI (5 * p (88 + 5 * μ (o + 12) i + 1) + p (88 + 5 * μ (o + 12) i + 2))), none, none, none, none, none] [qI (p (88 + 5 * μ (o + 12) i + 1))] ρ ν := by
  have hb := cMy_b hv hi hr
  obtain ⟨h0, h1, h2, h3, h4, h5, h6, h7, h8, h9, h10⟩ := hr
  have n := hv.n
  have a1 := hv.i hi.1 hi.2
  have a2 := hv.j h0 h1
  have t := hv.t a2.2.2.1 a2.2.2.2.1
  have w1 : ν (o + 4) (μ (o + 12) i) = μ (o + 11) i := by rw [hν, cNoU_4, u1_s]
  have w2 : ν (s + 5) (p (88 + 5 * μ (o + 12) i + 1)) = p (2 + p (88 + 5 * μ (o + 12) i + 1)) := by rw [hν, cNoU_c (by omega)]; exact hs.t a2.2.2.1 a2.2.2.2.1
  have w3 : ν (f + 2) (p (88 + 5 * μ (o + 12) i + 1)) = p (0 + p (88 + 5 * μ (o + 12) i + 1)) := by rw [hν, cNoU_c (by omega)]; exact (hf.t a2.2.2.1 a2.2.2.2.1).1
  have w4 : ν (o + 13) = μ (o + 13) := by rw [hν, cNoU_c (by omega)]
  have w5 : ν (f + 15) i = p (62 + 5 * i + 4) := by rw [hν, cNoU_c (by omega)]; exact (hf.i hi.1 hi.2).2.2.2.2
  have w6 : ν (o + 2) = μ (o + 2) := by rw [hν, cNoU_c (by omega)]
  have w7 : ν o = μ o := by rw [hν, cNoU_c (by omega)]
  have eB : cBg p o i μ = max (μ (o + 11) i) (max (p (0 + p (88 + 5 * μ (o + 12) i + 1))) (μ (o + 13) (5 * p (88 + 5 * μ (o + 12) i + 1) + p (88 + 5 * μ (o + 12) i + 2)))) := rfl
  have eM : cMy p o i μ = min (μ (o + 2) (μ (o + 12) i)) (max 0 (p (2 + p (88 + 5 * μ (o + 12) i + 1)) - cBg p o i μ) / p (62 + 5 * i + 4)) := rfl
  refine w_X3_unload_28 ho hf0 hs6 ?_
  rw [w1, w2, w3, w4, w5, ← eB]
  refine ⟨(by omega), ?_⟩
  refine ⟨(by omega), ?_⟩
  refine ⟨(by omega), ?_⟩
  refine ⟨(by omega), ?_⟩
  refine ⟨(by omega), ?_⟩
  refine ⟨(by unfold i32; omega), ?_⟩
  refine ⟨(by omega), ?_⟩
  refine ⟨_, k_wholeParts (by omega) (by omega), ?_⟩
  rintro z1 ρ2 μ3 ⟨hq8_1, hq8_2, hq8_3⟩
  obtain rfl := hq8_1.symm
  obtain rfl := hq8_2.symm
  obtain rfl := hq8_3.symm
  try simp (disch := omega) only [up2_c, up2_s, w1, w2, w3, w4, w5, w6, w7, ← eB]
  rw [← eM]
  refine ⟨fun hc9 => ?_, fun hc9 => ?_⟩
  · refine ⟨(by omega), ?_⟩
    intro μ5 eμ5; subst eμ5
    try simp (disch := omega) only [up2_c, up2_s, w1, w2, w3, w4, w5, w6, w7, ← eB]
    refine ⟨(by unfold i32; omega), ?_⟩
    refine ⟨(by unfold i32; omega), ?_⟩
    refine ⟨(by omega), ?_⟩
    intro μ6 eμ6; subst eμ6
    try simp (disch := omega) only [up2_c, up2_s, w1, w2, w3, w4, w5, w6, w7, ← eB]
    refine ⟨(by omega), ?_⟩
    intro μ7 eμ7; subst eμ7
    try simp (disch := omega) only [up2_c, up2_s, w1, w2, w3, w4, w5, w6, w7, ← eB]
    refine ⟨(by omega), ?_⟩
    refine ⟨(by omega), ?_⟩
    intro μ8 eμ8; subst eμ8
    try simp (disch := omega) only [up2_c, up2_s, w1, w2, w3, w4, w5, w6, w7, ← eB]
    refine ⟨(by unfold i32; omega), ?_⟩
    intro μ9 eμ9; subst eμ9
    try simp (disch := omega) only [up2_c, up2_s, w1, w2, w3, w4, w5, w6, w7, ← eB]
    refine ⟨by trivial, ?_⟩
    have eE : cEn p o i μ = cBg p o i μ + cMy p o i μ * p (62 + 5 * i + 4) := by unfold cEn; rw [if_neg hc9]
    unfold cUn
    rw [if_neg hc9, eE, hν]
  · refine ⟨by trivial, ?_⟩
    unfold cUn
    rw [if_pos hc9, hν]
theorem k_unload {ρ : Rf} {μ ν : Mem} {o f s : Nat} {p : Pl} {i : Int} (ho : isO 3 o) (hf0 : isO 0 f) (hs6 : isO 6 s) (hf : FP μ f p) (hs : SP μ s p) (hv : PV p) (d1 : o + 13 < f ∨ f + 15 < o) (d2 : o + 13 < s ∨ s + 6 < o) (hi : 0 ≤ i ∧ i < p 61) (hr : RRe p o i μ) (hν : ν = cNoU o (μ (o + 12) i) (μ (o + 11) i) μ) : qE mX3_unload GG GG [qP o, qP f, qP s, qI i] ρ ν (fun (_ : Int) (ρ' : Rf) (μ' : Mem) => ρ' = ρ ∧ μ' = cUn p o i μ) := by
  have L := k_un28 (ρ := ρ) ho hf0 hs6 hf hs hv d1 d2 hi hr hν
  obtain ⟨h0, h1, h2, h3, h4, h5, h6, h7, h8, h9, h10⟩ := hr
  have n := hv.n
  have a2 := hv.j h0 h1
  have t := hv.t a2.2.2.1 a2.2.2.2.1
  have w1 : ν (o + 12) = μ (o + 12) := by rw [hν, cNoU_c (by omega)]
  have w2 : ν (s + 2) (μ (o + 12) i) = 5 * p (88 + 5 * μ (o + 12) i + 1) + p (88 + 5 * μ (o + 12) i + 2) := by rw [hν, cNoU_c (by omega)]; exact (hs.j h0 h1).2.1
  refine e_X3_unload ho hf0 hs6 ?_
  rw [w1, w2]
  refine ⟨(by omega), ?_⟩
  refine ⟨(by omega), ?_⟩
  refine ⟨fun hc3 => ?_, fun hc3 => ?_⟩
  · rw [show p (88 + 5 * μ (o + 12) i + 1) = 1 by omega] at L ⊢
    exact L
  · rw [show p (88 + 5 * μ (o + 12) i + 1) = 0 by omega] at L ⊢
    exact L
theorem k_reachDoor {ρ : Rf} {μ : Mem} {o f s : Nat} {p : Pl} {i : Int} (ho : isO 3 o) (hf0 : isO 0 f) (hs6 : isO 6 s) (hf : FP μ f p) (hs : SP μ s p) (hv : PV p) (d1 : o + 13 < f ∨ f + 15 < o) (d2 : o + 13 < s ∨ s + 6 < o) (hi : 0 ≤ i ∧ i < p 61) (hr : RRe p o i μ) : qE mX3_reachDoor GG GG [qP o, qP f, qP s, qI i] ρ μ (fun _ ρ' μ' => ρ' = ρ ∧ μ' = cReach p o i μ) := by
  have hb := cMy_b hv hi hr
  have hr2 := hr
  obtain ⟨h0, h1, h2, h3, h4, h5, h6, h7, h8, h9, h10⟩ := hr2
  have n := hv.n
  have a1 := hv.i hi.1 hi.2
  have a2 := hv.j h0 h1
  have t := hv.t a2.2.2.1 a2.2.2.2.1
  have hk := wk_b hv h0 h1
  have ewk : wk p (μ (o + 12) i) = wkG p i (p (88 + 5 * μ (o + 12) i + 1)) (p (88 + 5 * μ (o + 12) i + 2)) (p (62 + 5 * i + 2)) := by unfold wk; rw [h2]
  have y1 : cUn p o i μ (s + 2) (μ (o + 12) i) = 5 * p (88 + 5 * μ (o + 12) i + 1) + p (88 + 5 * μ (o + 12) i + 2) := by rw [cUn_fr (s + 2) (by omega)]; exact (hs.j h0 h1).2.1
  have y2 : cUn p o i μ (f + 13) i = p (62 + 5 * i + 2) := by rw [cUn_fr (f + 13) (by omega)]; exact (hf.i hi.1 hi.2).2.2.1
  have hE : 0 ≤ cEn p o i μ ∧ cEn p o i μ ≤ 100000 := by unfold cEn; split <;> omega
  refine e_X3_reachDoor ho hf0 hs6 ?_
  refine ⟨(by omega), ?_⟩
  refine ⟨(by omega), ?_⟩
  refine ⟨_, k_setNoU ho (by omega), ?_⟩
  rintro z1 ρ2 μ3 ⟨hq3_1, hq3_2⟩
  obtain rfl := hq3_1.symm
  obtain rfl := hq3_2.symm
  refine ⟨_, k_unload ho hf0 hs6 hf hs hv d1 d2 hi hr rfl, ?_⟩
  rintro z5 ρ6 μ7 ⟨hq4_1, hq4_2⟩
  obtain rfl := hq4_1.symm
  obtain rfl := hq4_2.symm
  rw [y1, y2]
  refine ⟨(by omega), ?_⟩
  refine ⟨(by omega), ?_⟩
  refine ⟨(by omega), ?_⟩
  refine ⟨_, k_walk hf0 (hf.ag (cUn_fr.ag (by omega))) hv hi.1 hi.2 a2.2.2.1 a2.2.2.2.1 a2.2.2.2.2.1 a2.2.2.2.2.2.1 rfl (by omega), ?_⟩
  rintro z9 ρ10 μ11 ⟨hq8_1, hq8_2, hq8_3⟩
  obtain rfl := hq8_1.symm
  obtain rfl := hq8_2.symm
  obtain rfl := hq8_3.symm
  rw [cUn_6, ← ewk]
  refine ⟨(by unfold i32; omega), ?_⟩
  refine ⟨(by omega), ?_⟩
  intro μ13 eμ13; subst eμ13
  refine ⟨(by omega), ?_⟩
  refine ⟨(by omega), ?_⟩
  rw [up2_s]
  intro μ14 eμ14; subst eμ14
  refine ⟨(by omega), ?_⟩
  intro μ15 eμ15; subst eμ15
  exact ⟨rfl, rfl⟩
def cBack (p : Pl) (o : Nat) (i : Int) (μ : Mem) : Mem := cAwait p o i (μ (o + 12) i + 1) (μ (o + 8) (μ (o + 12) i)) (up2 μ (o + 9) (4 * p (62 + 5 * i + 0) + p (88 + 5 * μ (o + 12) i + 3)) (μ (o + 9) (4 * p (62 + 5 * i + 0) + p (88 + 5 * μ (o + 12) i + 3)) + (μ (o + 2) (μ (o + 12) i) - μ (o + 7) (μ (o + 12) i))))
theorem k_bringBack {ρ : Rf} {μ : Mem} {o f s : Nat} {p : Pl} {i : Int} (ho : isO 3 o) (hf0 : isO 0 f) (hs6 : isO 6 s) (hf : FP μ f p) (hs : SP μ s p) (hv : PV p) (d1 : o + 13 < f ∨ f + 15 < o) (d2 : o + 13 < s ∨ s + 6 < o) (hi : 0 ≤ i ∧ i < p 61) (hj : 0 ≤ μ (o + 12) i ∧ μ (o + 12) i < p 87)
    (hst : ∀ k, 0 ≤ k → k < 12 → 0 ≤ μ (o + 9) k ∧ μ (o + 9) k ≤ 100000) (hl : 0 ≤ μ (o + 7) (μ (o + 12) i) ∧ μ (o + 7) (μ (o + 12) i) ≤ μ (o + 2) (μ (o + 12) i) ∧ μ (o + 2) (μ (o + 12) i) ≤ 99) : qE mX3_bringBack GG GG [qP o, qP f, qP s, qI i] ρ μ (fun _ ρ' μ' => ρ' = ρ ∧ μ' = cBack p o i μ) := by
  have n := hv.n
  have a1 := hv.i hi.1 hi.2
  have a2 := hv.j hj.1 hj.2
  have q1 := (hf.i hi.1 hi.2).1
  have r3 := (hs.j hj.1 hj.2).2.2.1
  have h9 := hst (4 * p (62 + 5 * i + 0) + p (88 + 5 * μ (o + 12) i + 3)) (by omega) (by omega)
  refine e_X3_bringBack ho hf0 hs6 ?_
  refine ⟨(by omega), ?_⟩
  refine ⟨(by omega), ?_⟩
  refine ⟨(by omega), ?_⟩
  rw [q1, r3]
  refine ⟨_, k_stockIndex (by omega) (by omega), ?_⟩
  rintro z1 ρ2 μ3 ⟨hq4_1, hq4_2, hq4_3⟩
  obtain rfl := hq4_1.symm
  obtain rfl := hq4_2.symm
  obtain rfl := hq4_3.symm
  refine ⟨(by omega), ?_⟩
  refine ⟨(by omega), ?_⟩
  refine ⟨(by omega), ?_⟩
  refine ⟨(by unfold i32; omega), ?_⟩
  refine ⟨(by unfold i32; omega), ?_⟩
  refine ⟨(by omega), ?_⟩
  intro μ5 eμ5; subst eμ5
  refine ⟨(by unfold i32; omega), ?_⟩
  refine ⟨(by omega), ?_⟩
  rw [up2_c (show o + 8 ≠ o + 9 by omega)]
  refine ⟨_, k_awaitStart ho hs6 (hs.ag (AG.up AG.refl (by omega))) (by omega) (by omega) (by omega), ?_⟩
  rintro z6 ρ7 μ8 ⟨hq14_1, hq14_2⟩
  obtain rfl := hq14_1.symm
  obtain rfl := hq14_2.symm
  exact ⟨rfl, rfl⟩
