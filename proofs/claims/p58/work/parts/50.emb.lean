/-! ===== runs of a plan and of one with jobs left out keep step ===== -/
def Em (p p' : Pl) (out out' : Int) (lab : Int → Int) : Prop :=
  (∀ k, k < 87 → p' k = p k) ∧
  (∀ j, 0 ≤ j → j < p' 87 → 0 ≤ lab j ∧ lab j < p 87 ∧ ∀ w, 0 ≤ w → w < 5 → p' (88 + 5 * j + w) = p (88 + 5 * lab j + w)) ∧
  lab (p' 87) = p 87 ∧
  (∀ j, 0 ≤ j → j < p' 87 → nx p (p' (88 + 5 * j + 0)) out (lab j + 1) = lab (nx p' (p' (88 + 5 * j + 0)) out' (j + 1))) ∧
  (∀ j k, 0 ≤ j → j < p' 87 → 0 ≤ k → k < p' 87 → lab j = lab k → j = k)
def ER (p p' : Pl) (lab : Int → Int) (S S' : Mem) : Prop :=
  (∀ i, 0 ≤ i → i < 5 → S 187 i = lab (S' 187 i) ∧ S 188 i = S' 188 i ∧ S 192 i = S' 192 i ∧ S 191 i = S' 191 i ∧ (S' 191 i ≠ 0 → S 189 i = S' 189 i ∧ S 190 i = S' 190 i)) ∧
  (∀ k, 0 ≤ k → k < 12 → S 193 k = S' 193 k) ∧ (∀ d, 0 ≤ d → d < 10 → S 194 d = S' 194 d) ∧
  (∀ j, 0 ≤ j → j < p' 87 → S 196 (lab j) = S' 196 j ∧ S 199 (lab j) = S' 199 j) ∧
  (∀ x, 0 ≤ x → x < p 87 → (∀ j, 0 ≤ j → j < p' 87 → lab j ≠ x) → S 199 x = 0)
section EM
variable {p p' : Pl} {out out' i : Int} {lab : Int → Int} {S S' : Mem}
theorem em_lt (h : Em p p' out out' lab) {j : Int} (h0 : 0 ≤ j) (h1 : j ≤ p' 87) : (lab j < p 87 ↔ j < p' 87) := by
  constructor
  · intro h2
    by_cases h3 : j < p' 87
    · exact h3
    · rw [show j = p' 87 by omega, h.2.2.1] at h2; omega
  · intro h2
    exact (h.2.1 j h0 h2).2.1
theorem em_wk (h : Em p p' out out' lab) (hv : PV p') {j : Int} (h0 : 0 ≤ j) (h1 : j < p' 87) : wk p (lab j) = wk p' j := by
  have n := hv.n
  have d := (h.2.1 j h0 h1).2.2
  have a := hv.j h0 h1
  have b := hv.i a.1 a.2.1
  have t := hv.t a.2.2.1 a.2.2.2.1
  have e87 := h.1
  unfold wk wkG
  rw [← d 0 (by omega) (by omega), ← d 1 (by omega) (by omega), ← d 2 (by omega) (by omega)]
  rw [← e87 (62 + 5 * p' (88 + 5 * j + 0) + 0) (by omega), ← e87 (62 + 5 * p' (88 + 5 * j + 0) + 2) (by omega), ← e87 (46 + p' (62 + 5 * p' (88 + 5 * j + 0) + 0)) (by omega), ← e87 (6 + 5 * p' (88 + 5 * j + 1) + p' (88 + 5 * j + 2)) (by omega)]
theorem em_fst (h : Em p p' out out' lab) (hr : ER p p' lab S S') (hS : ∀ i, 0 ≤ i → i < 5 → 0 ≤ S' 187 i ∧ S' 187 i ≤ p' 87) : fst_ p S = fst_ p' S' := by
  have q : ∀ i, 0 ≤ i → i < 5 → (S 187 i < p 87 ↔ S' 187 i < p' 87) ∧ S 188 i = S' 188 i := fun i i0 i1 => by
    have a := hr.1 i i0 i1
    have b := hS i i0 i1
    rw [a.1]
    exact ⟨em_lt h b.1 b.2, a.2.1⟩
  rcases fst_s (p := p) (S := S) with ⟨a, b⟩ | ⟨a, b, c, d⟩
  · rcases fst_s (p := p') (S := S') with ⟨a', b'⟩ | ⟨a', b', c', d'⟩
    · omega
    · have := b _ a' b'
      have := q _ a' b'
      omega
  · rcases fst_s (p := p') (S := S') with ⟨a', b'⟩ | ⟨a', b', c', d'⟩
    · have := b' _ a b
      have := q _ a b
      omega
    · have q1 := q _ a b
      have q2 := q _ a' b'
      have r1 := d _ a' b' (by omega)
      have r2 := d' _ a b (by omega)
      omega
theorem em_bb {u : Int} (hr : ER p p' lab S S') : ER p p' lab (bb u S) (bb u S') := by
  obtain ⟨h1, h2, h3, h4, h5⟩ := hr
  have e : ∀ c, c ≠ 193 → c ≠ 191 → bb u S c = S c := fun c a b => bb_c a b
  have e' : ∀ c, c ≠ 193 → c ≠ 191 → bb u S' c = S' c := fun c a b => bb_c a b
  refine ⟨fun i i0 i1 => ?_, fun k k0 k1 => ?_, ?_, ?_, ?_⟩
  · obtain ⟨a, b, c, d, f⟩ := h1 i i0 i1
    rw [e 187 (by decide) (by decide), e 188 (by decide) (by decide), e 192 (by decide) (by decide), e 189 (by decide) (by decide), e 190 (by decide) (by decide), e' 187 (by decide) (by decide), e' 188 (by decide) (by decide), e' 192 (by decide) (by decide), e' 189 (by decide) (by decide), e' 190 (by decide) (by decide), bb_1, bb_1]
    refine ⟨a, b, c, ?_, fun hz => ?_⟩
    · by_cases hz : S' 191 i = 0
      · rw [d, hz]; split <;> split <;> rfl
      · rw [d, (f hz).1]
    · refine f (fun h => hz ?_)
      rw [h]; split <;> rfl
  · rw [bb_3, bb_3, h2 k k0 k1]
    congr 1
    refine s_Ic (by omega) (fun i i0 i1 => ?_)
    obtain ⟨a, b, c, d, f⟩ := h1 i i0 i1
    unfold bkd
    by_cases hz : S' 191 i = 0
    · rw [d, hz]; split <;> split <;> rfl
    · rw [d, (f hz).1, (f hz).2]
  · rw [e 194 (by decide) (by decide), e' 194 (by decide) (by decide)]; exact h3
  · rw [e 196 (by decide) (by decide), e' 196 (by decide) (by decide), e 199 (by decide) (by decide), e' 199 (by decide) (by decide)]; exact h4
  · rw [e 199 (by decide) (by decide)]; exact h5
theorem em_vals (h : Em p p' out out' lab) (hv : PV p') (hr : ER p p' lab S S') (hS : SV p' S') (hi : 0 ≤ i ∧ i < 5) (hj : S' 187 i < p' 87) : sMn p i S = sMn p' i S' ∧ sCl p i S = sCl p' i S' ∧ sTm p i S = sTm p' i S' ∧ sBeg p i S = sBeg p' i S' ∧ sMany p i S = sMany p' i S' ∧ sOver p i S = sOver p' i S' ∧ sFin p i S = sFin p' i S' ∧ sDr p i S = sDr p' i S' := by
  have n := hv.n
  have a := hS.1 i hi.1 hi.2
  have ab := a.2.2.2.2.2.2.2.2.2.1 hj
  have d := (h.2.1 _ a.1 hj).2.2
  have b := hv.i hi.1 ab.1
  have c := hv.j a.1 hj
  have t := hv.t c.2.2.1 c.2.2.2.1
  have e87 := h.1
  have r := hr.1 i hi.1 hi.2
  have ewk := em_wk h hv a.1 hj
  have f0 := e87 (62 + 5 * i + 0) (by omega)
  have f1 := e87 (62 + 5 * i + 1) (by omega)
  have f3 := e87 (62 + 5 * i + 3) (by omega)
  have f4 := e87 (62 + 5 * i + 4) (by omega)
  have g0 := e87 (0 + p' (88 + 5 * S' 187 i + 1)) (by omega)
  have g2 := e87 (2 + p' (88 + 5 * S' 187 i + 1)) (by omega)
  have v1 : sCl p i S = sCl p' i S' := by
    unfold sCl
    rw [r.1, ← d 3 (by omega) (by omega), f0]
  have cl := sMn_b hv hS hi hj
  have v2 : sMn p i S = sMn p' i S' := by
    have e : ∀ (q : Pl) (T : Mem), sMn q i T = min (T 193 (sCl q i T)) (min (q (62 + 5 * i + 1)) (q (88 + 5 * T 187 i + 4))) := fun _ _ => rfl
    rw [e, e, v1, hr.2.1 _ cl.2.2.1 cl.2.2.2.1, r.1, ← d 4 (by omega) (by omega), f1]
  have v3 : sTm p i S = sTm p' i S' := by
    unfold sTm
    rw [v2, r.2.1, r.1, ewk, f3]
  have vd : sDr p i S = sDr p' i S' := by
    unfold sDr
    rw [r.1, ← d 1 (by omega) (by omega), ← d 2 (by omega) (by omega)]
  have v4 : sBeg p i S = sBeg p' i S' := by
    have e : ∀ (q : Pl) (T : Mem), sBeg q i T = max (T 188 i) (max (q (0 + q (88 + 5 * T 187 i + 1))) (T 194 (sDr q i T))) := fun _ _ => rfl
    rw [e, e, vd, hr.2.2.1 (sDr p' i S') (by unfold sDr; omega) (by unfold sDr; omega), r.2.1, r.1, ← d 1 (by omega) (by omega), g0]
  have v5 : sMany p i S = sMany p' i S' := by
    unfold sMany
    rw [v4, r.1, (hr.2.2.2.1 _ a.1 hj).1, ← d 1 (by omega) (by omega), g2, f4]
  have v6 : sOver p i S = sOver p' i S' := by
    unfold sOver
    rw [v4, v5, r.2.1, f4]
  refine ⟨v2, v1, v3, v4, v5, v6, ?_, vd⟩
  unfold sFin
  rw [v6, r.1, ewk]
end EM
