/-! ===== the reference's lines: train, car, meal, kitchen ===== -/
def PQ (μ μ' : Mem) : Prop := (∀ a, a ≠ 178 → a ≠ 181 → a ≠ 184 → a ≠ 185 → a ≠ 186 → μ' a = μ a) ∧ ∀ k, (k < 5 ∨ 11 < k) → μ' 178 k = μ 178 k
theorem OM.pq {μ μ' : Mem} (o : OM μ μ') : PQ μ μ' := ⟨fun a x _ _ _ _ => o.1 a x, o.2⟩
theorem PQ.trans {μ0 μ1 μ2 : Mem} (h1 : PQ μ0 μ1) (h2 : PQ μ1 μ2) : PQ μ0 μ2 := ⟨fun a x y z w v => (h2.1 a x y z w v).trans (h1.1 a x y z w v), fun k x => (h2.2 k x).trans (h1.2 k x)⟩
theorem PQ.up {μ μ1 : Mem} {c : Nat} {k v : Int} (h : PQ μ μ1) (hc : c = 181 ∨ c = 184 ∨ c = 185 ∨ c = 186) : PQ μ (up2 μ1 c k v) := ⟨fun a x y z w u => by rw [up2_c (by omega)]; exact h.1 a x y z w u, fun k x => by rw [up2_c (by omega)]; exact h.2 k x⟩
section MLI
variable {ρ : Rf} {μ : Mem} {b : Int → Int} {n : Int} {T : Tk} {D : Sg}
theorem MT.up {c : Nat} {k v : Int} (h : MT μ b n T) (hc : c = 181 ∨ c = 184 ∨ c = 185 ∨ c = 186) : MT (up2 μ c k v) b n T := by
  unfold MT TXm at *
  rw [up2_c (by omega), up2_c (by omega)]
  exact h
theorem Ma.up {c : Nat} {k v : Int} (h : Ma μ b n T) (hc : c = 181 ∨ c = 184 ∨ c = 185 ∨ c = 186) : Ma (up2 μ c k v) b n T := by
  unfold Ma at *
  rw [up2_c (by omega)]
  exact h
end MLI
