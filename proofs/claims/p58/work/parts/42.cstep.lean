/-! ===== the class's events keep step with the reference's ===== -/
section CC
variable {p : Pl} {o : Nat} {i N : Int} {μ S : Mem}
theorem cs_c : cStart p o i μ (o + 1) = u1 (μ (o + 1)) (μ (o + 12) i) (μ (o + 11) i) ∧ cStart p o i μ (o + 2) = u1 (μ (o + 2)) (μ (o + 12) i) (cMn p o i μ) ∧ cStart p o i μ (o + 3) = u1 (μ (o + 3)) (μ (o + 12) i) (μ (o + 11) i + cMn p o i μ * p (62 + 5 * i + 3)) ∧
    cStart p o i μ (o + 4) = (if cMn p o i μ = 0 then u1 (μ (o + 4)) (μ (o + 12) i) (μ (o + 11) i) else μ (o + 4)) ∧ cStart p o i μ (o + 5) = (if cMn p o i μ = 0 then u1 (μ (o + 5)) (μ (o + 12) i) (μ (o + 11) i) else μ (o + 5)) ∧ cStart p o i μ (o + 6) = (if cMn p o i μ = 0 then u1 (μ (o + 6)) (μ (o + 12) i) (μ (o + 11) i) else μ (o + 6)) ∧ cStart p o i μ (o + 7) = (if cMn p o i μ = 0 then u1 (μ (o + 7)) (μ (o + 12) i) 0 else μ (o + 7)) ∧ cStart p o i μ (o + 8) = (if cMn p o i μ = 0 then u1 (μ (o + 8)) (μ (o + 12) i) (μ (o + 11) i) else μ (o + 8)) ∧
    cStart p o i μ (o + 9) = u1 (μ (o + 9)) (4 * p (62 + 5 * i + 0) + p (88 + 5 * μ (o + 12) i + 3)) (μ (o + 9) (4 * p (62 + 5 * i + 0) + p (88 + 5 * μ (o + 12) i + 3)) - cMn p o i μ) ∧ cStart p o i μ (o + 10) = u1 (μ (o + 10)) i (if cMn p o i μ = 0 then (if jf p i (μ (o + 12) i + 1) < 0 then 0 else 1) else 2) ∧ cStart p o i μ (o + 11) = u1 (μ (o + 11)) i (if cMn p o i μ = 0 then μ (o + 11) i else μ (o + 11) i + cMn p o i μ * p (62 + 5 * i + 3) + wk p (μ (o + 12) i)) ∧ cStart p o i μ (o + 12) = (if cMn p o i μ = 0 then u1 (μ (o + 12)) i (jf p i (μ (o + 12) i + 1)) else μ (o + 12)) ∧ cStart p o i μ (o + 13) = μ (o + 13) ∧ cStart p o i μ o = μ o := by
  by_cases hm : cMn p o i μ = 0
  · have e : cStart p o i μ = cAwait p o i (μ (o + 12) i + 1) (μ (o + 11) i) (up2 (cNoU o (μ (o + 12) i) (μ (o + 11) i) (cSt0 p o i μ)) (o + 8) (μ (o + 12) i) (μ (o + 11) i)) := by unfold cStart; rw [if_pos hm]
    rw [e]
    unfold cAwait cNoU cSt0
    simp (disch := omega) only [up2_c, up2_u, hm, if_true, and_self]
  · have e : cStart p o i μ = up2 (up2 (cSt0 p o i μ) (o + 11) i (μ (o + 11) i + cMn p o i μ * p (62 + 5 * i + 3) + wk p (μ (o + 12) i))) (o + 10) i 2 := by unfold cStart; rw [if_neg hm]
    rw [e]
    unfold cSt0
    simp (disch := omega) only [up2_c, up2_u, hm, if_false, and_self]
theorem cr_c : cReach p o i μ (o + 1) = μ (o + 1) ∧ cReach p o i μ (o + 2) = μ (o + 2) ∧ cReach p o i μ (o + 3) = μ (o + 3) ∧ cReach p o i μ (o + 4) = u1 (μ (o + 4)) (μ (o + 12) i) (μ (o + 11) i) ∧ cReach p o i μ (o + 5) = u1 (μ (o + 5)) (μ (o + 12) i) (if cMy p o i μ = 0 then μ (o + 11) i else cBg p o i μ) ∧ cReach p o i μ (o + 6) = u1 (μ (o + 6)) (μ (o + 12) i) (cEn p o i μ) ∧ cReach p o i μ (o + 7) = u1 (μ (o + 7)) (μ (o + 12) i) (cMy p o i μ) ∧ cReach p o i μ (o + 8) = u1 (μ (o + 8)) (μ (o + 12) i) (cEn p o i μ + wk p (μ (o + 12) i)) ∧ cReach p o i μ (o + 9) = μ (o + 9) ∧
    cReach p o i μ (o + 10) = u1 (μ (o + 10)) i 3 ∧ cReach p o i μ (o + 11) = u1 (μ (o + 11)) i (cEn p o i μ + wk p (μ (o + 12) i)) ∧ cReach p o i μ (o + 12) = μ (o + 12) ∧ cReach p o i μ (o + 13) = (if cMy p o i μ = 0 then μ (o + 13) else u1 (μ (o + 13)) (5 * p (88 + 5 * μ (o + 12) i + 1) + p (88 + 5 * μ (o + 12) i + 2)) (cEn p o i μ)) ∧ cReach p o i μ o 9 = μ o 9 + cMy p o i μ := by
  have eE : cMy p o i μ = 0 → cEn p o i μ = μ (o + 11) i := fun h => by unfold cEn; rw [if_pos h]
  by_cases hm : cMy p o i μ = 0
  · have e : cReach p o i μ = up2 (up2 (up2 (cNoU o (μ (o + 12) i) (μ (o + 11) i) μ) (o + 8) (μ (o + 12) i) (cEn p o i μ + wk p (μ (o + 12) i))) (o + 11) i (cEn p o i μ + wk p (μ (o + 12) i))) (o + 10) i 3 := by unfold cReach cUn; rw [if_pos hm]
    rw [e, eE hm]
    unfold cNoU
    simp (disch := omega) only [up2_c, up2_u, hm, if_true, and_self, Int.add_zero]
  · have e : cReach p o i μ = up2 (up2 (up2 (up2 (up2 (up2 (up2 (up2 (cNoU o (μ (o + 12) i) (μ (o + 11) i) μ) (o + 5) (μ (o + 12) i) (cBg p o i μ)) (o + 6) (μ (o + 12) i) (cEn p o i μ)) (o + 7) (μ (o + 12) i) (cMy p o i μ)) (o + 13) (5 * p (88 + 5 * μ (o + 12) i + 1) + p (88 + 5 * μ (o + 12) i + 2)) (cEn p o i μ)) o 9 (μ o 9 + cMy p o i μ)) (o + 8) (μ (o + 12) i) (cEn p o i μ + wk p (μ (o + 12) i))) (o + 11) i (cEn p o i μ + wk p (μ (o + 12) i))) (o + 10) i 3 := by unfold cReach cUn; rw [if_neg hm]
    rw [e]
    unfold cNoU
    simp (disch := omega) only [up2_c, up2_u, u1_u, u1_s, hm, if_false, and_self]
theorem cb_c : (∀ c, c ≠ o + 9 → c ≠ o + 10 → c ≠ o + 11 → c ≠ o + 12 → cBack p o i μ c = μ c) ∧ cBack p o i μ (o + 9) = u1 (μ (o + 9)) (4 * p (62 + 5 * i + 0) + p (88 + 5 * μ (o + 12) i + 3)) (μ (o + 9) (4 * p (62 + 5 * i + 0) + p (88 + 5 * μ (o + 12) i + 3)) + (μ (o + 2) (μ (o + 12) i) - μ (o + 7) (μ (o + 12) i))) ∧ cBack p o i μ (o + 10) = u1 (μ (o + 10)) i (if jf p i (μ (o + 12) i + 1) < 0 then 0 else 1) ∧ cBack p o i μ (o + 11) = u1 (μ (o + 11)) i (μ (o + 8) (μ (o + 12) i)) ∧ cBack p o i μ (o + 12) = u1 (μ (o + 12)) i (jf p i (μ (o + 12) i + 1)) := by
  unfold cBack cAwait
  refine ⟨fun c h1 h2 h3 h4 => ?_, ?_, ?_, ?_, ?_⟩
  · rw [up2_c h2, up2_c h3, up2_c h4, up2_c h1]
  · rw [up2_c (by omega), up2_c (by omega), up2_c (by omega), up2_u]
  · rw [up2_u, up2_c (by omega), up2_c (by omega), up2_c (by omega)]
  · rw [up2_c (by omega), up2_u, up2_c (by omega), up2_c (by omega)]
  · rw [up2_c (by omega), up2_c (by omega), up2_u, up2_c (by omega)]
theorem s_Ik {f g : Int → Int} {n i : Int} (hn : 0 ≤ n) (hi : 0 ≤ i ∧ i < n) (h : ∀ j, 0 ≤ j → j < n → j ≠ i → g j = f j) : s_I g n = s_I f n - f i + g i := by
  rw [← s_Iu hn hi]
  refine s_Ic hn (fun j j0 j1 => ?_)
  unfold u1
  split
  · rename_i e; rw [e]
  · rename_i e; exact h j j0 j1 e
/-- the class brings meals back: the reference stands still -/
theorem c_back (hv : PV p) (hP : PI p S) (h : CRel p o μ S N) (hi : isFi μ o (p 61) i) (h3 : μ (o + 10) i = 3) : CRel p o (cBack p o i μ) S (μ (o + 11) i) := by
  obtain ⟨g1, g2, g3, g4, g5⟩ := h
  obtain ⟨i0, i1, i2, i3⟩ := hi
  have n := hv.n
  have hki : key μ o i = 2 * μ (o + 11) i := by unfold key; rw [if_pos h3]; omega
  obtain ⟨t1, t2, t3, t4, t5, t6, t7, t8, t9⟩ : 0 ≤ μ (o + 12) i ∧ μ (o + 12) i < p 87 ∧ p (88 + 5 * μ (o + 12) i + 0) = i ∧ S 187 i = nx p i (-1) (μ (o + 12) i + 1) ∧ S 192 i = 0 ∧ S 188 i = μ (o + 11) i ∧ μ (o + 11) i = μ (o + 8) (μ (o + 12) i) ∧ N ≤ μ (o + 11) i ∧ ret0 S (μ (o + 11) i) i := by
    rcases g1 i i0 i1 with ⟨e, _⟩ | ⟨e, _⟩ | ⟨e, _⟩ | ⟨e, t1, t2, t3, t4, t5, t6, t7, t8, t9⟩
    · omega
    · omega
    · omega
    · refine ⟨t1, t2, t3, t4, t5, t6, t7, t8, ?_⟩
      rcases t9 with ⟨_, u2, _⟩ | ⟨_, h | h⟩
      · exact Or.inr (by omega)
      · exact Or.inl h
      · exact Or.inr (by omega)
  have cj := g5 (μ (o + 12) i) t1 t2 (by
    have nb := nx_s (p := p) (i := i) (out := -1) (x := μ (o + 12) i + 1) (by omega)
    rw [t3, t4]; omega)
  obtain ⟨b0, b9, b10, b11, b12⟩ := cb_c (p := p) (o := o) (i := i) (μ := μ)
  have c1 := b0 (o + 1) (by omega) (by omega) (by omega) (by omega)
  have c2 := b0 (o + 2) (by omega) (by omega) (by omega) (by omega)
  have c3 := b0 (o + 3) (by omega) (by omega) (by omega) (by omega)
  have c4 := b0 (o + 4) (by omega) (by omega) (by omega) (by omega)
  have c5 := b0 (o + 5) (by omega) (by omega) (by omega) (by omega)
  have c6 := b0 (o + 6) (by omega) (by omega) (by omega) (by omega)
  have c7 := b0 (o + 7) (by omega) (by omega) (by omega) (by omega)
  have c8 := b0 (o + 8) (by omega) (by omega) (by omega) (by omega)
  have c13 := b0 (o + 13) (by omega) (by omega) (by omega) (by omega)
  have c0 := b0 o (by omega) (by omega) (by omega) (by omega)
  have jb := jf_b (p := p) (i := i) (x := μ (o + 12) i + 1) (by omega) (by omega)
  refine ⟨fun k k0 k1 => ?_, fun k k0 k1 => ?_, ?_, ?_, ?_⟩
  · by_cases hk : k = i
    · subst hk
      unfold TRel
      rw [b10, b11, b12, u1_s, u1_s, u1_s]
      rcases jb with ⟨a, b⟩ | ⟨a, b, c, d⟩
      · left
        rw [if_pos (by omega)]
        exact ⟨rfl, by omega, t5, t9⟩
      · right; left
        rw [if_neg (by omega)]
        exact ⟨rfl, by omega, b, t5, by omega, by omega, t9⟩
    · have q := i3 k k0 k1
      have qk : μ (o + 10) k ≠ 0 → μ (o + 11) i ≤ μ (o + 11) k := fun h => by
        have a := q h
        have b : key μ o k ≤ 2 * μ (o + 11) k + 1 := by unfold key; split <;> omega
        omega
      unfold TRel
      rw [b10, b11, b12, c1, c2, c3, c8, u1_n hk, u1_n hk, u1_n hk]
      have rz : ret0 S N k → ret0 S (μ (o + 11) i) k := fun h => by
        rcases h with h | h
        · exact Or.inl h
        · exact Or.inr (by omega)
      rcases g1 k k0 k1 with ⟨e, t1, t2, t3⟩ | ⟨e, t1, t2, t3, t4, t5, t6⟩ | ⟨e, t1, t2, t3, t4, t5, t6, t7⟩ | ⟨e, t1, t2, t3, t4, t5, t6, t7, t8, t9⟩
      · exact Or.inl ⟨e, t1, t2, rz t3⟩
      · exact Or.inr (Or.inl ⟨e, t1, t2, t3, t4, qk (by omega), rz t6⟩)
      · exact Or.inr (Or.inr (Or.inl ⟨e, t1, t2, t3, t4, qk (by omega), rz t6, t7⟩))
      · refine Or.inr (Or.inr (Or.inr ⟨e, t1, t2, t3, t4, t5, t6, t7, qk (by omega), ?_⟩))
        rcases t9 with u | ⟨u1', u2⟩
        · exact Or.inl u
        · exact Or.inr ⟨by omega, rz u2⟩
  · have a := g2 k k0 k1
    have hp : ∀ x, 0 ≤ x → x < p 61 → x ≠ i → pend p o (cBack p o i μ) k x = pend p o μ k x := fun x x0 x1 hx => by
      unfold pend
      rw [b10, b12, c2, c7, u1_n hx, u1_n hx]
    rw [b9, s_Ik (by omega) ⟨i0, i1⟩ hp]
    have e1 : pend p o (cBack p o i μ) k i = 0 := by
      unfold pend
      rw [b10, u1_s]
      refine if_neg (fun h => ?_)
      have := h.1
      split at this <;> omega
    by_cases hk : k = 4 * p (62 + 5 * i + 0) + p (88 + 5 * μ (o + 12) i + 3)
    · have e2 : pend p o μ k i = μ (o + 2) (μ (o + 12) i) - μ (o + 7) (μ (o + 12) i) := by unfold pend; rw [if_pos ⟨h3, hk.symm⟩]
      rw [← hk, u1_s]
      omega
    · have e2 : pend p o μ k i = 0 := by unfold pend; rw [if_neg (fun h => hk h.2.symm)]
      rw [u1_n hk]
      omega
  · rw [c13]; exact g3
  · rw [c0]; exact g4
  · intro j j0 j1 hj
    unfold CJ
    rw [c1, c2, c3, c4, c5, c6, c7, c8]
    exact g5 j j0 j1 hj
end CC
