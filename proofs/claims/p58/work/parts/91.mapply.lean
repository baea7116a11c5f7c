/-! ===== applyBest: the reference ===== -/
section APm
variable {ρ : Rf} {μ μ0 : Mem} {σ : Sg} {p q : Pl}
def pTk (q p : Pl) (a b w : Int) : Pl := fun x => if 88 + 5 * b ≤ x ∧ x < 88 + 5 * b + w then p (x - 5 * b + 5 * a) else q x
theorem pTk_s {q p : Pl} {a b w : Int} (hw : 0 ≤ w) : u1 (pTk q p a b w) (88 + 5 * b + w) (p (88 + 5 * a + w)) = pTk q p a b (w + 1) := by
  funext x
  unfold u1 pTk
  by_cases c : x = 88 + 5 * b + w
  · rw [if_pos c, if_pos (by omega)]
    congr 1
    omega
  · rw [if_neg c]
    by_cases d : 88 + 5 * b ≤ x ∧ x < 88 + 5 * b + w
    · rw [if_pos d, if_pos (by omega)]
    · rw [if_neg d, if_neg (by omega)]
end APm
