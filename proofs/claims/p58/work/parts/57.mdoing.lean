/-! ===== the reference's stateAt and mealsOn ===== -/
section DM
variable {ρ : Rf} {μ : Mem} {σ : Sg}
theorem FR.fd {w k : Int} {μ0 : Mem} (h : FR 178 207 μ0 μ) : FR 178 207 μ0 (fdM μ w k) := by
  unfold fdM
  split
  · exact FR.up h (by omega)
  · exact FR.up (FR.up (FR.up h (by omega)) (by omega)) (by omega)
theorem fd_c {w k : Int} {c : Nat} (h : c ≠ 178) : fdM μ w k c = μ c := by
  unfold fdM
  split
  · rw [up2_c h]
  · rw [up2_c h, up2_c h, up2_c h]
theorem fd_36 {w k : Int} (hw : k < 0 → w = 0) : fdM μ w k 178 36 = w := by
  unfold fdM
  split
  · rename_i h
    rw [up2_s, hw h]
  · rw [up2_k (by decide), up2_s]
theorem fd_37 {w k : Int} (h : 0 ≤ k) : fdM μ w k 178 37 = k := by
  unfold fdM
  rw [if_neg (by omega), up2_s]
theorem act_0 {p : Pl} {S : Mem} {i k tm : Int} (h : act p S i k tm = 0) : k < 0 := by
  unfold act at h
  split at h
  · assumption
  · split at h
    · omega
    · split at h
      · omega
      · split at h
        · omega
        · split at h <;> omega
end DM
