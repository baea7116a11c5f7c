/-! ===== the class's events keep step: starts, doors ===== -/
section CD
variable {p : Pl} {o : Nat} {i : Int} {μ S : Mem}
theorem cMn_e (hv : PV p) (hP : PI p S) (hi : 0 ≤ i ∧ i < 5) (hj : S 187 i < p 87) (ej : μ (o + 12) i = S 187 i) (hs : ∀ k, 0 ≤ k → k < 12 → S 193 k = μ (o + 9) k) : cMn p o i μ = sMn p i S := by
  have b := sMn_b hv hP.1 hi hj
  have c := hs (4 * p (62 + 5 * i + 0) + p (88 + 5 * S 187 i + 3)) b.2.2.1 b.2.2.2.1
  unfold cMn sMn
  rw [ej, c]
  omega
theorem c_start (hv : PV p) (hP : PI p S) (h : CRel p o μ S (S 188 i)) (hi : 0 ≤ i ∧ i < p 61) (h1 : μ (o + 10) i = 1) (hz : S 191 i = 0) (hs : ∀ k, 0 ≤ k → k < 12 → S 193 k = μ (o + 9) k) : CRel p o (cStart p o i μ) (sStarts p (-1) i S) (S 188 i) := by
  obtain ⟨g1, g2, g3, g4, g5⟩ := h
  have n := hv.n
  obtain ⟨t1, t2, t3, t4⟩ : μ (o + 12) i = S 187 i ∧ S 187 i < p 87 ∧ S 192 i = 0 ∧ μ (o + 11) i = S 188 i := by
    rcases g1 i hi.1 hi.2 with ⟨e, _⟩ | ⟨e, t1, t2, t3, t4, _⟩ | ⟨e, _⟩ | ⟨e, _⟩
    · omega
    · exact ⟨t1.symm, by omega, t3, t4.symm⟩
    · omega
    · omega
  have hi5 : 0 ≤ i ∧ i < 5 := by omega
  have a := hP.1.1 i hi5.1 hi5.2
  have ab := a.2.2.2.2.2.2.2.2.2.1 t2
  have hb := sMn_b hv hP.1 hi5 t2
  have ht := sTm_b hv hP.1 hi5 t2
  have em := cMn_e hv hP hi5 t2 t1 hs
  have F := hP.2.2.1 (S 187 i) a.1 t2 (by rw [ab.2]; omega)
  obtain ⟨k1, k2, k3, k4, k5, k6, k7, k8, k9, k10, k11, k12, k13, k0⟩ := cs_c (p := p) (o := o) (i := i) (μ := μ)
  obtain ⟨e187, e188, e189, e190, e191, e192, e193, e194, e195, e196, e197, e198, e199, e200⟩ := st_c (p := p) (out := -1) (i := i) (S := S)
  rw [em] at k2 k3 k4 k5 k6 k7 k8 k9 k10 k11 k12
  rw [t1] at k1 k2 k3 k4 k5 k6 k7 k8 k9 k10 k11 k12
  rw [t4] at k1 k3 k4 k5 k6 k8 k11
  have jb := jf_b (p := p) (i := i) (x := S 187 i + 1) (by omega) (by omega)
  -- jobs of others
  have oth : ∀ k, 0 ≤ k → k < p 61 → k ≠ i → (μ (o + 10) k = 2 ∨ μ (o + 10) k = 3) → μ (o + 12) k ≠ S 187 i := fun k k0 k1 hk he hq => by
    have c := hP.1.1 k k0 (by omega)
    rcases g1 k k0 k1 with ⟨e, _⟩ | ⟨e, _⟩ | ⟨e, u1', u2, u3, _⟩ | ⟨e, u1', u2, u3, _⟩
    · omega
    · omega
    · have := (c.2.2.2.2.2.2.2.2.2.1 (by omega)).2
      rw [u1', hq, ab.2] at this
      omega
    · rw [hq, ab.2] at u3
      omega
  refine ⟨fun k q0 q1 => ?_, fun k q0 q1 => ?_, ?_, ?_, fun j j0 j1 hj => ?_⟩
  · unfold TRel ret0
    rw [k10, k11, k12, k1, k2, k3, k8, e187, e188, e189, e190, e191, e192, e195, e196, e199]
    by_cases hk : k = i
    · subst hk
      by_cases hm : sMn p k S = 0
      · rw [if_pos hm, if_pos hm, if_pos hm, if_pos hm, if_pos hm, if_pos hm, if_pos hm]
        rw [u1_s, u1_s, u1_s, u1_s]
        rcases jb with ⟨x1, x2⟩ | ⟨x1, x2, x3, x4⟩
        · left
          rw [if_pos (by omega)]
          exact ⟨rfl, x2, t3, Or.inl hz⟩
        · right; left
          rw [if_neg (by omega)]
          exact ⟨rfl, x3.symm, x2, t3, rfl, by omega, Or.inl hz⟩
      · rw [if_neg hm, if_neg hm, if_neg hm, if_neg hm, if_neg hm, if_neg hm, if_neg hm]
        rw [u1_s, u1_s, u1_s, u1_s, t1, u1_s, u1_s, u1_s]
        refine Or.inr (Or.inr (Or.inl ⟨rfl, rfl, t2, rfl, ?_, ?_, Or.inl hz, ?_, ?_, ?_⟩))
        · unfold sTm; omega
        · have := ht.1; unfold sTm at this; omega
        · first | rfl | (simp only [u1_s])
        · first | rfl | (simp only [u1_s])
        · first | rfl | (simp only [u1_s])
    · have E187 : (if sMn p i S = 0 then u1 (S 187) i (nx p i (-1) (S 187 i + 1)) else S 187) k = S 187 k := by split <;> first | exact u1_n hk | rfl
      have E188 : (if sMn p i S = 0 then S 188 else u1 (S 188) i (sTm p i S)) k = S 188 k := by split <;> first | exact u1_n hk | rfl
      have E192 : (if sMn p i S = 0 then S 192 else u1 (S 192) i 1) k = S 192 k := by split <;> first | exact u1_n hk | rfl
      have E12 : (if sMn p i S = 0 then u1 (μ (o + 12)) i (jf p i (S 187 i + 1)) else μ (o + 12)) k = μ (o + 12) k := by split <;> first | exact u1_n hk | rfl
      rw [E187, E188, E192, E12, u1_n hk, u1_n hk]
      rcases g1 k q0 q1 with ⟨e, v1, v2, v3⟩ | ⟨e, v1, v2, v3, v4, v5, v6⟩ | ⟨e, v1, v2, v3, v4, v5, v6, v7, v8, v9⟩ | ⟨e, v1, v2, v3, v4, v5, v6, v7, v8, v9⟩
      · exact Or.inl ⟨e, v1, v2, v3⟩
      · exact Or.inr (Or.inl ⟨e, v1, v2, v3, v4, v5, v6⟩)
      · have hq := oth k q0 q1 hk (Or.inl e)
        rw [u1_n hq, u1_n hq, u1_n hq, u1_n hq, u1_n hq]
        exact Or.inr (Or.inr (Or.inl ⟨e, v1, v2, v3, v4, v5, v6, v7, v8, v9⟩))
      · have hq := oth k q0 q1 hk (Or.inr e)
        have E8 : (if sMn p i S = 0 then u1 (μ (o + 8)) (S 187 i) (S 188 i) else μ (o + 8)) (μ (o + 12) k) = μ (o + 8) (μ (o + 12) k) := by split <;> first | exact u1_n hq | rfl
        rw [E8, u1_n hq, u1_n hq, u1_n hq, u1_n hq, u1_n hq, u1_n hq]
        exact Or.inr (Or.inr (Or.inr ⟨e, v1, v2, v3, v4, v5, v6, v7, v8, v9⟩))
  · have b := g2 k q0 q1
    have hsb : sbk (sStarts p (-1) i S) k = sbk S k := by funext x; unfold sbk; rw [e190, e191]
    have hp : s_I (pend p o (cStart p o i μ) k) (p 61) = s_I (pend p o μ k) (p 61) := by
      refine s_Ic (by omega) (fun x x0 x1 => ?_)
      unfold pend
      rw [k10]
      by_cases hx : x = i
      · subst hx
        rw [u1_s, if_neg (fun h => ?_), if_neg (fun h => by omega)]
        have := h.1
        split at this
        · split at this <;> omega
        · omega
      · rw [u1_n hx]
        have E12 : cStart p o i μ (o + 12) x = μ (o + 12) x := by rw [k12]; split <;> first | exact u1_n hx | rfl
        rw [E12]
        by_cases e3 : μ (o + 10) x = 3
        · have hq := oth x x0 x1 hx (Or.inr e3)
          have E7 : cStart p o i μ (o + 7) (μ (o + 12) x) = μ (o + 7) (μ (o + 12) x) := by rw [k7]; split <;> first | exact u1_n hq | rfl
          rw [E7, k2, u1_n hq]
        · rw [if_neg (fun h => e3 h.1), if_neg (fun h => e3 h.1)]
    rw [hp, hsb, k9, e193]
    have hc : 4 * p (62 + 5 * i + 0) + p (88 + 5 * S 187 i + 3) = sCl p i S := rfl
    rw [hc]
    by_cases hkc : k = sCl p i S
    · have c := hs _ hb.2.2.1 hb.2.2.2.1
      rw [hkc, u1_s]
      rw [hkc] at b
      by_cases hm : sMn p i S = 0
      · rw [if_pos hm]; omega
      · rw [if_neg hm, u1_s]; omega
    · rw [u1_n hkc]
      have E : (if sMn p i S = 0 then S 193 else u1 (S 193) (sCl p i S) (S 193 (sCl p i S) - sMn p i S)) k = S 193 k := by split <;> first | exact u1_n hkc | rfl
      rw [E]
      exact b
  · rw [k13, e194]; exact g3
  · rw [k0, e199, g4, s_Iu (by omega) ⟨a.1, t2⟩, F]; omega
  · rw [e187] at hj
    by_cases hjq : j = S 187 i
    · have hm : sMn p i S = 0 := by
        by_cases hm : sMn p i S = 0
        · exact hm
        · rw [if_neg hm, hjq, ab.2] at hj; omega
      unfold CJ
      rw [k1, k2, k3, k4, k5, k6, k7, k8, e195, e196, e197, e198, e199, e200, if_pos hm, if_pos hm, if_pos hm, if_pos hm, if_pos hm, if_pos hm, if_pos hm, hm, hjq]
      repeat rw [u1_s]
      exact ⟨rfl, rfl, by omega, rfl, rfl, fun _ => rfl, fun h => absurd rfl h, fun _ => rfl, fun h => absurd rfl h, by omega⟩
    · have hlow : j < S 187 (p (88 + 5 * j + 0)) := by
        by_cases hm : sMn p i S = 0
        · rw [if_pos hm] at hj
          by_cases hb2 : p (88 + 5 * j + 0) = i
          · rw [hb2, u1_s] at hj
            rw [hb2]
            by_cases hlt : j < S 187 i
            · exact hlt
            · exact absurd hb2 (nx_gap t2 (by omega) hj a.1)
          · rw [u1_n hb2] at hj; exact hj
        · rw [if_neg hm] at hj; exact hj
      have c := g5 j j0 j1 hlow
      have E4 : cStart p o i μ (o + 4) j = μ (o + 4) j := by rw [k4]; split <;> first | exact u1_n hjq | rfl
      have E5 : cStart p o i μ (o + 5) j = μ (o + 5) j := by rw [k5]; split <;> first | exact u1_n hjq | rfl
      have E6 : cStart p o i μ (o + 6) j = μ (o + 6) j := by rw [k6]; split <;> first | exact u1_n hjq | rfl
      have E7 : cStart p o i μ (o + 7) j = μ (o + 7) j := by rw [k7]; split <;> first | exact u1_n hjq | rfl
      have E8 : cStart p o i μ (o + 8) j = μ (o + 8) j := by rw [k8]; split <;> first | exact u1_n hjq | rfl
      have E197 : sStarts p (-1) i S 197 j = S 197 j := by rw [e197]; split <;> first | exact u1_n hjq | rfl
      have E200 : sStarts p (-1) i S 200 j = S 200 j := by rw [e200]; split <;> first | exact u1_n hjq | rfl
      unfold CJ
      rw [E4, E5, E6, E7, E8, E197, E200, k1, k2, k3, e195, e196, e198, e199, u1_n hjq, u1_n hjq, u1_n hjq, u1_n hjq, u1_n hjq, u1_n hjq]
      exact c
theorem cMy_e (hv : PV p) (hP : PI p S) (hi : 0 ≤ i ∧ i < 5) (hj : S 187 i < p 87) (ej : μ (o + 12) i = S 187 i) (et : μ (o + 11) i = S 188 i) (e2 : μ (o + 2) (S 187 i) = S 196 (S 187 i)) (hd : ∀ d, 0 ≤ d → d < 10 → μ (o + 13) d = S 194 d) : cBg p o i μ = sBeg p i S ∧ cMy p o i μ = sMany p i S ∧ cEn p o i μ = sOver p i S := by
  have a := hP.1.1 i hi.1 hi.2
  have ab := a.2.2.2.2.2.2.2.2.2.1 hj
  have hb := sMany_b hv hP.1 hi hj
  have c1 := hv.i hi.1 ab.1
  have c196 := hP.1.2.2.2 (S 187 i) a.1 (by have := hv.n; omega)
  have h1 : cBg p o i μ = sBeg p i S := by
    unfold cBg sBeg
    rw [ej, et, hd _ hb.2.2.2.2.2.2.2.2.2.1 hb.2.2.2.2.2.2.2.2.2.2]
  have z := tdiv_b (a := p (2 + p (88 + 5 * S 187 i + 1)) - sBeg p i S) (b := p (62 + 5 * i + 4)) c1.2.2.2.2.2.2.2.2.1
  have h2 : cMy p o i μ = sMany p i S := by
    unfold cMy sMany
    rw [ej, e2, h1]
    by_cases h : 0 ≤ p (2 + p (88 + 5 * S 187 i + 1)) - sBeg p i S
    · have y := z.1 h
      rw [show max 0 (p (2 + p (88 + 5 * S 187 i + 1)) - sBeg p i S) = p (2 + p (88 + 5 * S 187 i + 1)) - sBeg p i S by omega, ← y.2.2]
      omega
    · have y := z.2 (by omega)
      rw [show max 0 (p (2 + p (88 + 5 * S 187 i + 1)) - sBeg p i S) = 0 by omega, Int.zero_ediv]
      omega
  refine ⟨h1, h2, ?_⟩
  unfold cEn sOver
  rw [h1, h2, et]
  by_cases h : sMany p i S = 0
  · rw [if_pos h, if_pos (by omega)]
  · rw [if_neg h, if_neg (by omega)]
theorem c_reach (hv : PV p) (hP : PI p S) (h : CRel p o μ S (S 188 i)) (hi : 0 ≤ i ∧ i < p 61) (h1 : μ (o + 10) i = 2) (hz : S 191 i = 0) : CRel p o (cReach p o i μ) (sReach p (-1) i S) (S 188 i) := by
  obtain ⟨g1, g2, g3, g4, g5⟩ := h
  have n := hv.n
  obtain ⟨t1, t2, t3, t4, t5, t6, t7⟩ : μ (o + 12) i = S 187 i ∧ S 187 i < p 87 ∧ S 192 i = 1 ∧ μ (o + 11) i = S 188 i ∧ μ (o + 1) (S 187 i) = S 195 (S 187 i) ∧ μ (o + 2) (S 187 i) = S 196 (S 187 i) ∧ μ (o + 3) (S 187 i) = S 195 (S 187 i) + S 196 (S 187 i) * p (62 + 5 * i + 3) := by
    rcases g1 i hi.1 hi.2 with ⟨e, _⟩ | ⟨e, _⟩ | ⟨e, t1, t2, t3, t4, _, _, t7⟩ | ⟨e, _⟩
    · omega
    · omega
    · rw [← t1] at t7
      exact ⟨t1.symm, by omega, t3, t4.symm, t7⟩
    · omega
  have hi5 : 0 ≤ i ∧ i < 5 := by omega
  have a := hP.1.1 i hi5.1 hi5.2
  have ab := a.2.2.2.2.2.2.2.2.2.1 t2
  have aw := a.2.2.2.2.2.2.2.2.2.2 t3
  have hb := sMany_b hv hP.1 hi5 t2
  have hw4 := hP.2.2.2.2.1 i hi5.1 hi5.2 t3
  have F := hP.2.2.1 (S 187 i) a.1 t2 (by rw [ab.2]; omega)
  obtain ⟨eb, ey, ee⟩ := cMy_e hv hP hi5 t2 t1 t4 t6 g3
  have eo : sMany p i S ≠ 0 → sOver p i S = sBeg p i S + sMany p i S * p (62 + 5 * i + 4) := fun h => by unfold sOver; rw [if_neg (by omega)]
  have eo0 : sMany p i S = 0 → sOver p i S = S 188 i := fun h => by unfold sOver; rw [if_pos (by omega)]
  have wkb := wk_b hv a.1 t2
  have hF : S 188 i ≤ sFin p i S := by unfold sFin; omega
  have nb := nx_s (p := p) (i := i) (out := -1) (x := S 187 i + 1) (by omega)
  obtain ⟨k1, k2, k3, k4, k5, k6, k7, k8, k9, k10, k11, k12, k13, k0⟩ := cr_c (p := p) (o := o) (i := i) (μ := μ)
  obtain ⟨e187, e188, e189, e190, e191, e192, e193, e194, e195, e196, e197, e198, e199, e200⟩ := re_c (p := p) (out := -1) (i := i) (S := S)
  rw [t1, t4] at k4 k5
  rw [t1] at k6 k7 k8 k11 k13
  rw [ey] at k5 k7 k13 k0
  rw [eb] at k5
  rw [ee] at k6 k8 k11 k13
  have hFe : sOver p i S + wk p (S 187 i) = sFin p i S := rfl
  rw [hFe] at k8 k11
  have oth : ∀ k, 0 ≤ k → k < p 61 → k ≠ i → (μ (o + 10) k = 2 ∨ μ (o + 10) k = 3) → μ (o + 12) k ≠ S 187 i := fun k k0 k1 hk he hq => by
    have c := hP.1.1 k k0 (by omega)
    rcases g1 k k0 k1 with ⟨e, _⟩ | ⟨e, _⟩ | ⟨e, u1', u2, u3, _⟩ | ⟨e, u1', u2, u3, _⟩
    · omega
    · omega
    · have := (c.2.2.2.2.2.2.2.2.2.1 (by omega)).2
      rw [u1', hq, ab.2] at this
      omega
    · rw [hq, ab.2] at u3
      omega
  refine ⟨fun k q0 q1 => ?_, fun k q0 q1 => ?_, fun d d0 d1 => ?_, ?_, fun j j0 j1 hj => ?_⟩
  · unfold TRel ret0
    rw [k10, k11, k12, k1, k2, k3, k8, e187, e188, e189, e190, e191, e192, e195, e196, e199]
    by_cases hk : k = i
    · subst hk
      rw [u1_s, u1_s, u1_s, u1_s, u1_s, t1, u1_s, u1_s]
      refine Or.inr (Or.inr (Or.inr ⟨rfl, a.1, t2, ab.2, rfl, rfl, rfl, rfl, hF, ?_⟩))
      by_cases hf : sFin p k S = S 188 k
      · rw [if_pos hf, if_pos hf]
        exact Or.inr ⟨by omega, Or.inl hz⟩
      · rw [if_neg hf, if_neg hf, if_neg hf, u1_s, u1_s, u1_s]
        exact Or.inl ⟨rfl, rfl, rfl⟩
    · have E189 : (if sFin p i S = S 188 i then S 189 else u1 (S 189) i (sFin p i S)) k = S 189 k := by split <;> first | exact u1_n hk | rfl
      have E190 : (if sFin p i S = S 188 i then S 190 else u1 (S 190) i (sCl p i S)) k = S 190 k := by split <;> first | exact u1_n hk | rfl
      have E191 : (if sFin p i S = S 188 i then S 191 else u1 (S 191) i (S 196 (S 187 i) - sMany p i S)) k = S 191 k := by split <;> first | exact u1_n hk | rfl
      rw [E189, E190, E191, u1_n hk, u1_n hk, u1_n hk, u1_n hk, u1_n hk]
      rcases g1 k q0 q1 with ⟨e, v1, v2, v3⟩ | ⟨e, v1, v2, v3, v4, v5, v6⟩ | ⟨e, v1, v2, v3, v4, v5, v6, v7, v8, v9⟩ | ⟨e, v1, v2, v3, v4, v5, v6, v7, v8, v9⟩
      · exact Or.inl ⟨e, v1, v2, v3⟩
      · exact Or.inr (Or.inl ⟨e, v1, v2, v3, v4, v5, v6⟩)
      · exact Or.inr (Or.inr (Or.inl ⟨e, v1, v2, v3, v4, v5, v6, v7, v8, v9⟩))
      · have hq := oth k q0 q1 hk (Or.inr e)
        rw [u1_n hq, u1_n hq]
        exact Or.inr (Or.inr (Or.inr ⟨e, v1, v2, v3, v4, v5, v6, v7, v8, v9⟩))
  · have b := g2 k q0 q1
    have hp : ∀ x, 0 ≤ x → x < p 61 → x ≠ i → pend p o (cReach p o i μ) k x = pend p o μ k x := fun x x0 x1 hx => by
      unfold pend
      rw [k10, k12, k2, k7, u1_n hx]
      by_cases e3 : μ (o + 10) x = 3
      · rw [u1_n (oth x x0 x1 hx (Or.inr e3))]
      · rw [if_neg (fun h => e3 h.1), if_neg (fun h => e3 h.1)]
    have p0 : pend p o μ k i = 0 := by unfold pend; rw [if_neg (fun h => by omega)]
    have hc : 4 * p (62 + 5 * i + 0) + p (88 + 5 * S 187 i + 3) = sCl p i S := rfl
    have p1 : pend p o (cReach p o i μ) k i = if sCl p i S = k then S 196 (S 187 i) - sMany p i S else 0 := by
      unfold pend
      rw [k10, k12, k2, k7, u1_s, t1, u1_s, hc, t6]
      by_cases h : sCl p i S = k
      · rw [if_pos h, if_pos ⟨rfl, h⟩]
      · rw [if_neg h, if_neg (fun q => h q.2)]
    rw [s_Ik (by omega) hi hp, p0, p1, k9, e193]
    have z0 : sbk S k i = 0 := by unfold sbk; rw [hz]; split <;> rfl
    by_cases hf : sFin p i S = S 188 i
    · have hsb : sbk (sReach p (-1) i S) k = sbk S k := by funext x; unfold sbk; rw [e190, e191, if_pos hf, if_pos hf]
      rw [hsb, if_pos hf]
      by_cases h : sCl p i S = k
      · rw [if_pos h, h, u1_s]; omega
      · rw [if_neg h, u1_n (fun q => h q.symm)]; omega
    · have hsb : ∀ x, 0 ≤ x → x < 5 → x ≠ i → sbk (sReach p (-1) i S) k x = sbk S k x := fun x x0 x1 hx => by
        unfold sbk
        rw [e190, e191, if_neg hf, if_neg hf, u1_n hx, u1_n hx]
      have s1 : sbk (sReach p (-1) i S) k i = if sCl p i S = k then S 196 (S 187 i) - sMany p i S else 0 := by
        unfold sbk
        rw [e190, e191, if_neg hf, if_neg hf, u1_s, u1_s]
      rw [s_Ik (by omega) hi5 hsb, z0, s1, if_neg hf]
      omega
  · rw [k13, e194]
    by_cases hm : sMany p i S = 0
    · rw [if_pos hm, if_pos (by omega)]; exact g3 d d0 d1
    · rw [if_neg hm, if_neg (by omega)]
      have hdr : 5 * p (88 + 5 * S 187 i + 1) + p (88 + 5 * S 187 i + 2) = sDr p i S := rfl
      rw [hdr]
      unfold u1
      split
      · rfl
      · exact g3 d d0 d1
  · rw [k0, e199, g4, s_Iu (by omega) ⟨a.1, t2⟩, F]; omega
  · rw [e187] at hj
    unfold CJ
    rw [k1, k2, k3, k4, k5, k6, k7, k8, e195, e196, e197, e198, e199, e200]
    by_cases hjq : j = S 187 i
    · rw [hjq, u1_s, u1_s, u1_s, u1_s, u1_s, u1_s, u1_s, u1_s, ab.2]
      refine ⟨t5, t6, t7, rfl, rfl, fun h => by omega, fun _ => by omega, fun h => by rw [if_pos h], fun h => by rw [if_neg h], ?_⟩
      by_cases hm : sMany p i S = 0
      · rw [if_pos hm, hm, eo0 hm]; omega
      · rw [if_neg hm, eo hm]
    · have hlow : j < S 187 (p (88 + 5 * j + 0)) := by
        by_cases hb2 : p (88 + 5 * j + 0) = i
        · rw [hb2, u1_s] at hj
          rw [hb2]
          by_cases hlt : j < S 187 i
          · exact hlt
          · exact absurd hb2 (nx_gap t2 (by omega) hj a.1)
        · rw [u1_n hb2] at hj; exact hj
      rw [u1_n hjq, u1_n hjq, u1_n hjq, u1_n hjq, u1_n hjq, u1_n hjq, u1_n hjq, u1_n hjq]
      exact g5 j j0 j1 hlow
end CD
