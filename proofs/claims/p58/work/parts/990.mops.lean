/-! ===== the reference's takes ===== -/
/-- the current token is the one at the place -/
def Ma (μ : Mem) (b : Int → Int) (n : Int) (T : Tk) : Prop := μ 178 5 = tN b n T.2.2.2 ∧ μ 178 9 = tS b n T.2.2.2 ∧ μ 178 8 = rk (tK b n T.2.2.2) ∧ (tK b n T.2.2.2 = 1 → μ 178 11 = tX b n T.2.2.2) ∧ (tK b n T.2.2.2 = 2 → μ 178 10 = tV b n T.2.2.2)
/-- the current token is the one ahead of the place -/
def Mp (μ : Mem) (T : Tk) : Prop := μ 178 9 = T.2.2.1 ∧ μ 178 5 = T.2.2.2
def MT (μ : Mem) (b : Int → Int) (n : Int) (T : Tk) : Prop := TXm μ b n ∧ μ 178 6 = T.1 ∧ μ 178 7 = T.2.1 ∧ TOK n T
def OM (μ μ' : Mem) : Prop := (∀ a, a ≠ 178 → μ' a = μ a) ∧ ∀ k, (k < 5 ∨ 11 < k) → μ' 178 k = μ 178 k
theorem OM.refl {μ : Mem} : OM μ μ := ⟨fun _ _ => rfl, fun _ _ => rfl⟩
theorem OM.trans {μ0 μ1 μ2 : Mem} (h1 : OM μ0 μ1) (h2 : OM μ1 μ2) : OM μ0 μ2 := ⟨fun a x => (h2.1 a x).trans (h1.1 a x), fun k x => (h2.2 k x).trans (h1.2 k x)⟩
section MOP
variable {ρ : Rf} {μ : Mem} {b : Int → Int} {n : Int} {T : Tk}
theorem Ma.p (h : Ma μ b n T) (hc : T.1 = 0) : Mp μ (fTk b n T) := by
  rw [fTk_o hc]
  exact ⟨h.2.1, h.1⟩
theorem rk_2 {k : Int} (h0 : 0 ≤ k) (h4 : k ≤ 4) : (rk k = 3 ↔ k = 2) ∧ (rk k = 2 ↔ k = 1) ∧ (rk k = 4 ↔ k = 3) ∧ (rk k = 1 ↔ k = 0) := by
  unfold rk
  split <;> omega
theorem OM.ma {μ' : Mem} (h : Ma μ b n T) (hk : ∀ k, k ≠ 6 → k ≠ 7 → μ' 178 k = μ 178 k) : Ma μ' b n T := by
  unfold Ma
  rw [hk 5 (by decide) (by decide), hk 9 (by decide) (by decide), hk 8 (by decide) (by decide), hk 11 (by decide) (by decide), hk 10 (by decide) (by decide)]
  exact h
theorem MT.tk (h : MT μ b n T) (hc : T.1 = 0) : T.2.1 = μ 178 7 ∧ MT μ b n (fTk b n T) := by
  have ht := fTk_t (b := b) h.2.2.2
  refine ⟨h.2.2.1.symm, h.1, by rw [fTk_1]; exact h.2.1, ?_, ht⟩
  rw [fTk_o hc]
  exact h.2.2.1
theorem kw_r (x : Int) : -1 ≤ kwI x ∧ kwI x ≤ 8 := by
  rw [kwI_e]
  repeat' split
  all_goals omega
end MOP
