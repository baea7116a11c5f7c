/-! ===== the reference's lines: meal, stock, trolley ===== -/
section MLO
variable {ρ : Rf} {μ : Mem} {b : Int → Int} {n : Int} {T : Tk} {D : Sg}
/-! ### stock -/
theorem st3_0 (h : (st3 b n D T).1 = 0) : D 5 (stI b n D T) = 0 ∧ st3 b n D T = st2 b n D T := by
  unfold st3 at h ⊢
  by_cases c : D 5 (stI b n D T) = 0
  · rw [if_pos c]; exact ⟨c, rfl⟩
  · rw [if_neg c] at h; exact absurd h (fR_k (by decide))
theorem vMl_b (hv : DV b D) (h : (fMl b n D T).1 = 0) : 0 ≤ vMl b n D T ∧ vMl b n D T < D 1 36 := by
  have cb := hv.2.2.2.2.2.2.2.1
  have f := fMl_0 h
  have := fnd_b (f := D 2) (c := D 1 36) (w := tW b n T.2.2.2) cb.1
  unfold vMl
  omega
end MLO
