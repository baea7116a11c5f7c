/-! ===== the text: the reference ===== -/
section MTX
variable {ρ : Rf} {μ μ0 : Mem} {b : Int → Int} {n : Int} {T : Tk} {D : Sg}
theorem fn1_c (h : T.1 ≠ 0) : fn1 b n T = T := by
  unfold fn1
  rw [fTk_c h, fR_c h]
  split <;> rfl
end MTX
