/-! ===== the reference: shares, meals carried ===== -/
section MY
variable {ρ : Rf} {μ : Mem} {σ : Sg}
/-! ### both trains -/
def isS (p : Pl) (k : Int) : Prop := k % 5 < p (4 + k / 5)
def cmpS (p : Pl) (k : Int) : Int := if k < 5 then k else p (4 + 0) + (k - 5)
def slt (p : Pl) (j : Int) : Int := if j < p (4 + 0) then j else 5 + (j - p (4 + 0))
theorem s_Iadd {f : Int → Int} {a b : Int} (ha : 0 ≤ a) (hb : 0 ≤ b) : s_I f (a + b) = s_I f a + s_I (fun k => f (a + k)) b := by
  refine i_ind (P := fun b => s_I f (a + b) = s_I f a + s_I (fun k => f (a + k)) b) ?_ ?_ b hb
  · rw [Int.add_zero, s_I0, Int.add_zero]
  · intro n hn ih
    rw [← Int.add_assoc, s_Is (by omega), s_Is hn, ih]
    omega
theorem slt_s {p : Pl} (hv : PV p) : (∀ j, 0 ≤ j → j < p (4 + 0) + p (4 + 1) → 0 ≤ slt p j ∧ slt p j < 10 ∧ isS p (slt p j) ∧ cmpS p (slt p j) = j) ∧ ∀ k, 0 ≤ k → k < 10 → isS p k → 0 ≤ cmpS p k ∧ cmpS p k < p (4 + 0) + p (4 + 1) ∧ slt p (cmpS p k) = k := by
  have t0 := hv.t (t := 0) (by omega) (by omega)
  have t1 := hv.t (t := 1) (by omega) (by omega)
  refine ⟨fun j j0 j1 => ?_, fun k k0 k1 hk => ?_⟩
  · by_cases e : j < p (4 + 0)
    · have es : slt p j = j := by unfold slt; rw [if_pos e]
      have e5 : j / 5 = 0 := by omega
      rw [es]
      refine ⟨by omega, by omega, ?_, ?_⟩
      · unfold isS; rw [e5]; omega
      · unfold cmpS; rw [if_pos (by omega)]
    · have es : slt p j = 5 + (j - p (4 + 0)) := by unfold slt; rw [if_neg e]
      have e5 : (5 + (j - p (4 + 0))) / 5 = 1 := by omega
      rw [es]
      refine ⟨by omega, by omega, ?_, ?_⟩
      · unfold isS; rw [e5]; omega
      · unfold cmpS; rw [if_neg (by omega)]; omega
  · unfold isS at hk
    by_cases e : k < 5
    · have e5 : k / 5 = 0 := by omega
      rw [e5] at hk
      have es : cmpS p k = k := by unfold cmpS; rw [if_pos e]
      rw [es]
      refine ⟨by omega, by omega, ?_⟩
      unfold slt
      rw [if_pos (by omega)]
    · have e5 : k / 5 = 1 := by omega
      rw [e5] at hk
      have es : cmpS p k = p (4 + 0) + (k - 5) := by unfold cmpS; rw [if_neg e]
      rw [es]
      refine ⟨by omega, by omega, ?_⟩
      unfold slt
      rw [if_neg (by omega)]
      omega
def SLR (p : Pl) (a b : Int → Int) (f : Fp) : Prop := (∀ k, 0 ≤ k → k < 10 → isS p k → a k = f.1 (cmpS p k) ∧ b k = f.2 (cmpS p k)) ∧ (∀ k, 0 ≤ k → k < 10 → ¬ isS p k → b k = -1) ∧ ∀ j, 0 ≤ j → j < p (4 + 0) + p (4 + 1) → -1 ≤ f.2 j
theorem slr_lrg {p : Pl} {a b : Int → Int} {f : Fp} (hv : PV p) (h : SLR p a b f) : lrg b 10 = slt p (lrg f.2 (p (4 + 0) + p (4 + 1))) := by
  have t0 := hv.t (t := 0) (by omega) (by omega)
  have t1 := hv.t (t := 1) (by omega) (by omega)
  obtain ⟨s1, s2⟩ := slt_s hv
  obtain ⟨l0, l1, l2⟩ := lrg_s (r := f.2) (n := p (4 + 0) + p (4 + 1)) (by omega)
  obtain ⟨x0, x1, x2, x3⟩ := s1 _ l0 l1
  have hb : b (slt p (lrg f.2 (p (4 + 0) + p (4 + 1)))) = f.2 (lrg f.2 (p (4 + 0) + p (4 + 1))) := by
    rw [(h.1 _ x0 x1 x2).2, x3]
  refine lrg_u x0 x1 (fun k k0 k1 => ?_)
  rw [hb]
  by_cases hk : isS p k
  · obtain ⟨y0, y1, y2⟩ := s2 k k0 k1 hk
    have := l2 _ y0 y1
    rw [(h.1 k k0 k1 hk).2]
    have mono : lrg f.2 (p (4 + 0) + p (4 + 1)) ≤ cmpS p k → slt p (lrg f.2 (p (4 + 0) + p (4 + 1))) ≤ k := fun q => by
      rw [← y2]
      unfold slt
      split <;> split <;> omega
    omega
  · rw [h.2.1 k k0 k1 hk]
    have q := h.2.2 _ l0 l1
    by_cases e : f.2 (lrg f.2 (p (4 + 0) + p (4 + 1))) = -1
    · right
      refine ⟨e.symm, ?_⟩
      have z := l2 0 (by omega) (by omega)
      have z2 := h.2.2 0 (by omega) (by omega)
      have e0 : lrg f.2 (p (4 + 0) + p (4 + 1)) = 0 := by omega
      rw [e0]
      unfold slt
      rw [if_pos (by omega)]
      omega
    · left; omega
theorem slr_s {p : Pl} {a b : Int → Int} {f : Fp} (hv : PV p) (h : SLR p a b f) : SLR p (u1 a (lrg b 10) (a (lrg b 10) + 1)) (u1 b (lrg b 10) (-1)) (shS (p (4 + 0) + p (4 + 1)) f) := by
  have t0 := hv.t (t := 0) (by omega) (by omega)
  have t1 := hv.t (t := 1) (by omega) (by omega)
  obtain ⟨s1, s2⟩ := slt_s hv
  obtain ⟨l0, l1, l2⟩ := lrg_s (r := f.2) (n := p (4 + 0) + p (4 + 1)) (by omega)
  obtain ⟨x0, x1, x2, x3⟩ := s1 _ l0 l1
  have e := slr_lrg hv h
  have hiff : ∀ k, 0 ≤ k → k < 10 → isS p k → (k = lrg b 10 ↔ cmpS p k = lrg f.2 (p (4 + 0) + p (4 + 1))) := fun k k0 k1 hk => by
    rw [e]
    constructor
    · intro q; rw [q, x3]
    · intro q; rw [← q, (s2 k k0 k1 hk).2.2]
  refine ⟨fun k k0 k1 hk => ?_, fun k k0 k1 hk => ?_, fun j j0 j1 => ?_⟩
  · have hh := h.1 k k0 k1 hk
    unfold shS
    dsimp only
    unfold u1
    by_cases q : k = lrg b 10
    · have q2 := (hiff k k0 k1 hk).mp q
      rw [if_pos q, if_pos q2, if_pos q, if_pos q2, ← q, ← q2, hh.1]
      exact ⟨rfl, rfl⟩
    · have q2 := fun r => q ((hiff k k0 k1 hk).mpr r)
      rw [if_neg q, if_neg q2, if_neg q, if_neg q2]
      exact hh
  · unfold u1
    split
    · rfl
    · exact h.2.1 k k0 k1 hk
  · unfold shS
    dsimp only
    unfold u1
    split
    · omega
    · exact h.2.2 j j0 j1
end MY
