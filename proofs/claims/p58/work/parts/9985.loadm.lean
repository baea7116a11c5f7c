section LOM
variable {ρ : Rf} {μ μ0 : Mem} {σ : Sg} {p : Pl}
theorem pT_t {b : Int → Int} {n : Int} (n0 : 0 ≤ n) : TOK n (pT b n) := by
  have z : TOK n (pZ b n).2 := (lns_ok (b := b) (n := n) 901 D0 T0 D0_DV (T0_t n0)).2
  have f : TOK n (fn1 b n (pZ b n).2) := by
    unfold fn1
    split
    · exact fTk_t z
    · exact fR_t (by decide) (fTk_t z)
  by_cases c : cmp (pZ b n).1
  · have e : pT b n = fn1 b n (pZ b n).2 := by unfold pT fn2; rw [if_pos c]
    rw [e]
    exact f
  · have e : pT b n = fR 5 (fn1 b n (pZ b n).2) := by unfold pT fn2; rw [if_neg c]
    rw [e]
    exact fR_t (by decide) f
end LOM
