/-! ===== the reference's questions about its run ===== -/
section MH
variable {ρ : Rf} {μ : Mem} {σ : Sg}
/-- the run of a plan keeps its ranges -/
theorem SV_go {p : Pl} {wo out : Int} {J : Mem} (hv : PV p) : SV p (sGo p wo out J) := by
  have a := SV_ini (p := p) (wo := wo) (out := out) (J := J) hv
  exact SV_bb (sRun_e (out := out) hv 300 _ a.1 a.2).1
theorem go_180 {p : Pl} {wo out : Int} (h : μ 180 = p) : sGo p wo out μ 180 = p := by rw [sGo_o (by omega)]; exact h
end MH
