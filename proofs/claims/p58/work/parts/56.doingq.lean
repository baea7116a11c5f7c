/-! ===== stateAt and mealsOn ===== -/
theorem act_b {p : Pl} {S : Mem} {i k tm : Int} : 0 ≤ act p S i k tm ∧ act p S i k tm ≤ 5 := by
  unfold act
  split
  · omega
  · split
    · omega
    · split
      · omega
      · split
        · omega
        · split <;> omega
theorem act_4 {p : Pl} {S : Mem} {i k tm : Int} (h : act p S i k tm = 4) : 0 < S 199 k ∧ S 198 k ≤ tm ∧ tm < S 198 k + S 199 k * p (62 + 5 * i + 4) := by
  unfold act at h
  split at h
  · omega
  · split at h
    · omega
    · split at h
      · omega
      · split at h
        · omega
        · split at h
          · omega
          · omega
section DQ
variable {ρ : Rf} {μ : Mem} {σ : Sg}
theorem act_cg {p : Pl} {o : Nat} {S S' : Mem} {i k tm : Int} (h : CJ p o μ S k) (h' : CJ p o μ S' k) (hz : S 196 k ≠ 0) : act p S i k tm = act p S' i k tm ∧ mlo p S i k tm = mlo p S' i k tm := by
  unfold CJ at h h'
  have e5 : S' 195 k = S 195 k := by omega
  have e6 : S' 196 k = S 196 k := by omega
  have e7 : S' 197 k = S 197 k := by omega
  have e9 : S' 199 k = S 199 k := by omega
  by_cases h9 : S 199 k = 0
  · have ea : act p S i k tm = act p S' i k tm := by
      unfold act
      rw [e5, e6, e7, e9, if_neg (show ¬ (0 < S 199 k ∧ tm < S 198 k) by omega), if_neg (show ¬ (0 < S 199 k ∧ tm < S 198 k + S 199 k * p (62 + 5 * i + 4)) by omega), if_neg (show ¬ (0 < S 199 k ∧ tm < S' 198 k) by omega), if_neg (show ¬ (0 < S 199 k ∧ tm < S' 198 k + S 199 k * p (62 + 5 * i + 4)) by omega)]
    refine ⟨ea, ?_⟩
    unfold mlo
    rw [← ea, e5, e6, e9]
    by_cases h4 : act p S i k tm = 4
    · have := act_4 h4; omega
    · rw [if_neg h4, if_neg h4]
  · have e8 : S' 198 k = S 198 k := by omega
    have ea : act p S i k tm = act p S' i k tm := by
      unfold act
      rw [e5, e6, e7, e8, e9]
    refine ⟨ea, ?_⟩
    unfold mlo
    rw [← ea, e5, e6, e8, e9]
/-- what is known of the job that is found -/
theorem fj_all {p : Pl} {o : Nat} {i tm : Int} (hv : PV p) (hr : RP p o μ) (ht : 0 ≤ tm) : ∀ J : Mem, fj p (μ (o + 8)) i tm = fj p (sGo p (-1) (-1) J 200) i tm ∧ (0 ≤ fj p (μ (o + 8)) i tm → fj p (μ (o + 8)) i tm < p 87 ∧ CJ p o μ (sGo p (-1) (-1) J) (fj p (μ (o + 8)) i tm) ∧ ROk p (sGo p (-1) (-1) J) (fj p (μ (o + 8)) i tm) ∧ p (88 + 5 * fj p (μ (o + 8)) i tm + 0) = i ∧ sGo p (-1) (-1) J 196 (fj p (μ (o + 8)) i tm) ≠ 0 ∧ sGo p (-1) (-1) J 195 (fj p (μ (o + 8)) i tm) ≤ tm ∧ sGo p (-1) (-1) J 196 (fj p (μ (o + 8)) i tm) ≤ 99) := by
  intro J
  have n := hv.n
  have e8 : ∀ j, 0 ≤ j → j < p 87 → μ (o + 8) j = sGo p (-1) (-1) J 200 j := fun j j0 j1 => ((hr J).1 j j0 j1).1.2.2.2.2.1
  have s := fj_s (p := p) (f := μ (o + 8)) (i := i) (tm := tm)
  have e : fj p (μ (o + 8)) i tm = fj p (sGo p (-1) (-1) J 200) i tm := by
    refine fj_u ?_
    rcases s with ⟨a, b⟩ | ⟨a, b, c, d, g⟩
    · exact Or.inl ⟨a, fun j j0 j1 j2 => by rw [← e8 j j0 j1]; exact b j j0 j1 j2⟩
    · exact Or.inr ⟨a, b, c, by rw [← e8 _ a b]; exact d, fun j j0 j1 j2 => by rw [← e8 j j0 (by omega)]; exact g j j0 j1 j2⟩
  refine ⟨e, fun h0 => ?_⟩
  rcases s with ⟨a, b⟩ | ⟨a, b, c, d, g⟩
  · omega
  · have q := (hr J).1 _ a b
    have l := (SV_go (p := p) (wo := -1) (out := -1) (J := J) hv).2.2.2 _ a (by omega)
    have ok := fj_ok (S := sGo p (-1) (-1) J) e h0 ht (by rw [← c]; rw [c]; exact (by have := q.2.2; rw [c] at this; exact this)) q.2.1
    exact ⟨b, q.1, q.2.1, c, ok.2.1, ok.1, l.2.2.2⟩
def fdM (μ : Mem) (w k : Int) : Mem := if k < 0 then up2 μ 178 36 0 else up2 (up2 (up2 μ 178 36 0) 178 36 w) 178 37 k
end DQ
