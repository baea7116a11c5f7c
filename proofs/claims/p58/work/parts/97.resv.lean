/-! ===== which of the reserved words a word is ===== -/
def offT : List Int := [1, 7, 11, 16, 24, 30, 38, 42, 47, 50]
def lenT : List Nat := [5, 3, 4, 7, 5, 7, 3, 4, 2]
def kwT : List Int := [500135192942, 6513010, 1835360620, 30233771112949102, 495874696043, 32776920184415609, 6975330, 1718775661, 29807]
def off (n : Nat) : Int := offT.getD n 0
def kwF (x : Int) : Nat → Nat → Int
  | 0, _ => -1
  | m + 1, n => if x = kwT.getD n 0 then (n : Int) else kwF x m (n + 1)
/-- the reserved word's number, or -1 -/
def kwI (x : Int) : Int := kwF x 9 0
theorem off_tab : ∀ n : Nat, n < 9 → kwT.getD n 0 = wd 256 0 resC (off n) (lenT.getD n 0) ∧ lenT.getD n 0 ≤ 7 ∧ 1 ≤ lenT.getD n 0 ∧ resC (off n + (lenT.getD n 0 : Nat)) = 32 ∧ off (n + 1) = off n + (lenT.getD n 0 : Nat) + 1 ∧ 0 ≤ off n ∧ off n + (lenT.getD n 0 : Nat) ≤ 49 := by decide +kernel
theorem off_let : ∀ n : Nat, n < 9 → ∀ j : Nat, j < 8 → j < lenT.getD n 0 → 97 ≤ resC (off n + (j : Nat)) ∧ resC (off n + (j : Nat)) ≤ 122 := by decide +kernel
theorem off_one : ∀ n : Nat, n < 9 → ∀ k : Nat, k < 9 → resC (off n + (k : Nat)) = 32 → (∀ j : Nat, j < k → resC (off n + (j : Nat)) ≠ 32) → k = lenT.getD n 0 := by decide +kernel
section RSV
variable {ρ : Rf} {μ : Mem} {b : Int → Int} {n : Int}
theorem mt_iff {s : Int} {K N : Nat} (hN : N < 9) (hK : K ≤ 8) (hl : ∀ j, s ≤ j → j < s + K → 97 ≤ b j ∧ b j ≤ 122) : wd 256 0 b s K = kwT.getD N 0 ↔ ((∀ j : Int, 0 ≤ j → j < K → resC (off N + j) = b (s + j)) ∧ resC (off N + K) = 32) := by
  obtain ⟨t1, t2, t3, t4, t5, t6, t7⟩ := off_tab N hN
  have lt := off_let N hN
  constructor
  · intro e
    rw [t1] at e
    obtain ⟨rfl, q⟩ := wd_inj (B := 256) (A := 0) (fun x y d e _ _ _ _ _ => by omega) (by decide) K _ (fun j j0 j1 => by have := hl j j0 j1; omega) (fun j j0 j1 => by
      have := lt (j - off N).toNat (by omega) (by omega)
      rw [show off N + (((j - off N).toNat : Nat) : Int) = j by omega] at this
      omega) e
    exact ⟨fun j j0 j1 => (q j j0 j1).symm, t4⟩
  · rintro ⟨h1, h2⟩
    have e := off_one N hN K (by omega) h2 (fun j hj => by
      rw [h1 j (by omega) (by omega)]
      have := hl (s + j) (by omega) (by omega)
      omega)
    rw [t1, ← e]
    exact wd_c K (fun j j0 j1 => (h1 j j0 j1).symm)
end RSV
