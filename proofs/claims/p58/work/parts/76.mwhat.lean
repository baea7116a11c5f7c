/-! ===== what-if questions: the worst job, the best swap ===== -/
def KK (μ0 μ : Mem) : Prop := ∀ a, a ≠ 180 → (a < 184 ∨ 207 < a) → μ a = μ0 a
theorem KK.refl {μ : Mem} : KK μ μ := fun _ _ _ => rfl
theorem KK.trans {μ0 μ1 μ2 : Mem} (h : KK μ0 μ1) (h2 : KK μ1 μ2) : KK μ0 μ2 := fun a x y => (h2 a x y).trans (h a x y)
theorem KK.go {μ0 μ : Mem} {p : Pl} {wo out : Int} (h : KK μ0 μ) : KK μ0 (sGo p wo out μ) := fun a x y => (sGo_o (by omega)).trans (h a x y)
theorem KK.set {μ0 μ : Mem} {k v : Int} (h : KK μ0 μ) : KK μ0 (up2 μ 180 k v) := fun a x y => (up2_c x).trans (h a x y)
theorem KK.ff {μ0 μ1 μ : Mem} (h : KK μ0 μ1) (hf : FR 178 207 μ μ0) : FR 178 207 μ μ1 := fun a ha => (h a (by omega) (by omega)).trans (hf a ha)
section MW
variable {ρ : Rf} {μ μ0 : Mem} {p : Pl} {σ : Sg}
/-! ### two jobs exchanged -/
def psw (p : Pl) (a b w : Int) : Pl := fun k => if 88 + 5 * a ≤ k ∧ k < 88 + 5 * a + w then p (k - 5 * a + 5 * b) else if 88 + 5 * b ≤ k ∧ k < 88 + 5 * b + w then p (k - 5 * b + 5 * a) else p k
theorem psw_s {a b w : Int} (hab : a ≠ b) (hw : 0 ≤ w ∧ w < 5) : u1 (u1 (psw p a b w) (88 + 5 * a + w) (psw p a b w (88 + 5 * b + w))) (88 + 5 * b + w) (psw p a b w (88 + 5 * a + w)) = psw p a b (w + 1) := by
  have ea : psw p a b w (88 + 5 * a + w) = p (88 + 5 * a + w) := by
    unfold psw
    rw [if_neg (by omega), if_neg (by omega)]
  have eb : psw p a b w (88 + 5 * b + w) = p (88 + 5 * b + w) := by
    unfold psw
    rw [if_neg (by omega), if_neg (by omega)]
  rw [ea, eb]
  funext k
  by_cases h1 : k = 88 + 5 * b + w
  · rw [h1, u1_s]
    unfold psw
    rw [if_neg (by omega), if_pos (by omega)]
    congr 1
    omega
  · rw [u1_n h1]
    by_cases h2 : k = 88 + 5 * a + w
    · rw [h2, u1_s]
      unfold psw
      rw [if_pos (by omega)]
      congr 1
      omega
    · rw [u1_n h2]
      unfold psw
      by_cases h3 : 88 + 5 * a ≤ k ∧ k < 88 + 5 * a + w
      · rw [if_pos h3, if_pos (by omega)]
      · by_cases h4 : 88 + 5 * b ≤ k ∧ k < 88 + 5 * b + w
        · rw [if_neg h3, if_pos h4, if_neg (by omega), if_pos (by omega)]
        · rw [if_neg h3, if_neg h4, if_neg (by omega), if_neg (by omega)]
/-! ### the best swap -/
def bsT (p : Pl) (x k : Nat) : Int := tot (pSwap p (x : Int) ((x : Int) + 1 + k))
def bsL (x k : Nat) : Int := 100 * (x : Int) + ((x : Int) + 1 + k)
def bo2 (p : Pl) : Nat → Int
  | 0 => tot p
  | x + 1 => fm (bo2 p x) (bsT p x) ((p 87).toNat - (x + 1))
def bo1 (p : Pl) : Nat → Int
  | 0 => -1
  | x + 1 => fa (bo2 p x) (bo1 p x) (bsT p x) (bsL x) ((p 87).toNat - (x + 1))
def bsw (p : Pl) : Int := bo1 p (p 87).toNat
end MW
