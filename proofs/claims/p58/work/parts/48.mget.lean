/-! ===== the reference's plain questions ===== -/
section MG
variable {ρ : Rf} {μ : Mem} {σ : Sg}
theorem FR.go {p : Pl} {wo out : Int} {μ0 : Mem} (h : FR 178 207 μ0 μ) : FR 178 207 μ0 (sGo p wo out μ) := fun a ha => (sGo_o (by omega)).trans (h a ha)
end MG
