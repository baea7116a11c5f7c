/-! ===== the reference's takes that need the draft ===== -/
def MD (μ : Mem) (D : Sg) : Prop := (∀ k, 0 ≤ k → k < 188 → μ 181 k = D 1 k) ∧ (∀ m, 0 ≤ m → m < D 1 36 → μ 184 m = D 3 m) ∧ (∀ t, 0 ≤ t → t < 2 → μ 185 t = D 4 t) ∧ ∀ k, 0 ≤ k → k < 12 → μ 186 k = D 5 k
section MOD
variable {ρ : Rf} {μ : Mem} {b : Int → Int} {n : Int} {T : Tk} {D : Sg}
theorem MD.om {μ' : Mem} (h : MD μ D) (o : OM μ μ') : MD μ' D := by
  unfold MD
  rw [o.1 181 (by decide), o.1 184 (by decide), o.1 185 (by decide), o.1 186 (by decide)]
  exact h
theorem fnd_w {p : Int} (hd : MD μ D) (hv : DV b D) (hp : p ≤ n) (hk : tK b n p = 1) : fnd (μ 184) (μ 181 36) (tX b n p) = fnd (D 2) (D 1 36) (tW b n p) := by
  rw [hd.1 36 (by decide) (by decide)]
  refine fnd_c (fun j j0 j1 => ?_)
  rw [hd.2.1 j j0 j1]
  exact ((hv.2.2.2.2.2.2.2.2.2.2 j j0 j1).iff (tok_W hp hk)).symm
end MOD
