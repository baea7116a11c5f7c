/-! ===== the best trolley: the reference; the delay that is needed ===== -/
section MY
variable {ρ : Rf} {μ μ0 : Mem} {p : Pl} {σ : Sg}
/-! ### the delay that is needed -/
def lbN (q : Pl) (t : Int) : Nat → Bool
  | 0 => false
  | k + 1 => lbN q t k || (decide (q (88 + 5 * (k : Int) + 1) = t) && decide (sGo q (-1) (-1) Z0 199 k < sGo q (-1) (-1) Z0 196 k))
def lb (q : Pl) (t : Int) : Bool := lbN q t (q 87).toNat
theorem lbN_m {q : Pl} {t : Int} {m : Nat} (h : lbN q t m = true) : ∀ d, lbN q t (m + d) = true := by
  intro d
  induction d with
  | zero => exact h
  | succ d ih =>
    show (lbN q t (m + d) || _) = true
    rw [ih]
    rfl
theorem lb_at {q : Pl} {t j : Int} (j0 : 0 ≤ j) (j1 : j < q 87) (h1 : q (88 + 5 * j + 1) = t) (h2 : sGo q (-1) (-1) Z0 199 j < sGo q (-1) (-1) Z0 196 j) : lb q t = true := by
  have e : ((j.toNat : Nat) : Int) = j := Int.toNat_of_nonneg j0
  have a : lbN q t (j.toNat + 1) = true := by
    show (lbN q t j.toNat || (decide (q (88 + 5 * ((j.toNat : Nat) : Int) + 1) = t) && decide (sGo q (-1) (-1) Z0 199 ((j.toNat : Nat) : Int) < sGo q (-1) (-1) Z0 196 ((j.toNat : Nat) : Int)))) = true
    rw [e, decide_eq_true h1, decide_eq_true h2]
    simp
  have := lbN_m a ((q 87).toNat - (j.toNat + 1))
  rw [show j.toNat + 1 + ((q 87).toNat - (j.toNat + 1)) = (q 87).toNat by omega] at this
  exact this
theorem lb_no {q : Pl} {t : Int} (h : ∀ j, 0 ≤ j → j < q 87 → ¬ (q (88 + 5 * j + 1) = t ∧ sGo q (-1) (-1) Z0 199 j < sGo q (-1) (-1) Z0 196 j)) : lb q t = false := by
  have : ∀ m : Nat, (m : Int) ≤ q 87 → lbN q t m = false := by
    intro m
    induction m with
    | zero => intro _; rfl
    | succ m ih =>
      intro hm
      show (lbN q t m || (decide (q (88 + 5 * (m : Int) + 1) = t) && decide (sGo q (-1) (-1) Z0 199 m < sGo q (-1) (-1) Z0 196 m))) = false
      rw [ih (by omega), Bool.false_or, Bool.and_eq_false_iff, decide_eq_false_iff_not, decide_eq_false_iff_not]
      have := h m (by omega) (by omega)
      by_cases c : q (88 + 5 * (m : Int) + 1) = t
      · exact Or.inr (fun z => this ⟨c, z⟩)
      · exact Or.inl c
  unfold lb
  by_cases h0 : 0 ≤ q 87
  · exact this _ (by omega)
  · rw [show (q 87).toNat = 0 by omega]
    rfl
theorem k_leavesBehind {q : Pl} {t : Int} (hs : SP μ 55 q) (hv : PV q) (hr : RP q 41 μ) : qE mX3_leavesBehind GG GG [qP 41, qP 55, qI t] ρ μ (fun z ρ' μ' => ((z = 1 ∧ lb q t = true) ∨ (z = 0 ∧ lb q t = false)) ∧ ρ' = ρ ∧ μ' = μ) := by
  have n := hv.n
  have r := hr Z0
  have L : ∀ (k : Nat) (x : Int), (q 87 - x).toNat < k → 0 ≤ x → x ≤ q 87 → (∀ j, 0 ≤ j → j < x → ¬ (q (88 + 5 * j + 1) = t ∧ sGo q (-1) (-1) Z0 199 j < sGo q (-1) (-1) Z0 196 j)) → qX mX3_leavesBehind GG (fun z ρ' μ' => ((z = 1 ∧ lb q t = true) ∨ (z = 0 ∧ lb q t = false)) ∧ ρ' = ρ ∧ μ' = μ) GG (0, 0) 2 [some (qP 41), some (qP 55), some (qI t), some (qI x), none] [] ρ μ := by
    intro k
    induction k with
    | zero => intro x h; omega
    | succ k ih =>
      intro x hk h0 h1 hno
      have F50 : x < q 87 → ¬ (q (88 + 5 * x + 1) = t ∧ sGo q (-1) (-1) Z0 199 x < sGo q (-1) (-1) Z0 196 x) → qX mX3_leavesBehind GG (fun z ρ' μ' => ((z = 1 ∧ lb q t = true) ∨ (z = 0 ∧ lb q t = false)) ∧ ρ' = ρ ∧ μ' = μ) GG (0, 0) 50 [some (qP 41), some (qP 55), some (qI t), some (qI x), none] [] ρ μ := by
        intro xl hx
        refine w_X3_leavesBehind_50 (show isO 3 41 from rfl) (show isO 6 55 from rfl) ?_
        refine ⟨(by unfold i32; omega), ?_⟩
        refine ih _ (by omega) (by omega) (by omega) (fun j j0 j1 => ?_)
        by_cases c : j = x
        · rw [c]; exact hx
        · exact hno j j0 (by omega)
      have F25 : x < q 87 → ∀ s0, s0 = q (88 + 5 * x + 1) → qX mX3_leavesBehind GG (fun z ρ' μ' => ((z = 1 ∧ lb q t = true) ∨ (z = 0 ∧ lb q t = false)) ∧ ρ' = ρ ∧ μ' = μ) GG (0, 0) 25 [some (qP 41), some (qP 55), some (qI t), some (qI x), none] [qI s0] ρ μ := by
        intro xl s0 e0
        have cj := (r.1 x h0 xl).1
        have c1 : μ 43 x = sGo q (-1) (-1) Z0 196 x := cj.2.1
        have c2 : μ 48 x = sGo q (-1) (-1) Z0 199 x := cj.2.2.2.1
        refine w_X3_leavesBehind_25 (show isO 3 41 from rfl) (show isO 6 55 from rfl) ?_
        refine ⟨fun hc1 => ?_, fun hc1 => ?_⟩
        · exact F50 xl (fun z => by omega)
        · refine ⟨(by omega), ?_⟩
          refine ⟨(by omega), ?_⟩
          refine ⟨fun hc5 => ?_, fun hc5 => ?_⟩
          · exact F50 xl (fun z => by have a : μ (41 + 2) x = μ 43 x := rfl; have b : μ (41 + 7) x = μ 48 x := rfl; omega)
          · exact ⟨Or.inl ⟨rfl, lb_at h0 xl (by omega) (by have a : μ (41 + 2) x = μ 43 x := rfl; have b : μ (41 + 7) x = μ 48 x := rfl; omega)⟩, rfl, rfl⟩
      refine w_X3_leavesBehind_2 (show isO 3 41 from rfl) (show isO 6 55 from rfl) ?_
      rw [hs.n]
      refine ⟨fun hc1 => ?_, fun hc1 => ?_⟩
      · exact ⟨Or.inr ⟨rfl, lb_no (fun j j0 j1 => hno j j0 (by omega))⟩, rfl, rfl⟩
      · refine ⟨(by omega), ?_⟩
        have sj := (hs.j h0 (by omega)).2.1
        have aj := hv.j h0 (by omega)
        have tt := hv.t aj.2.2.1 aj.2.2.2.1
        rw [sj]
        refine ⟨fun hc4 => ?_, fun hc4 => ?_⟩
        · exact F25 (by omega) 1 (by omega)
        · exact F25 (by omega) 0 (by omega)
  refine e_X3_leavesBehind (show isO 3 41 from rfl) (show isO 6 55 from rfl) ?_
  exact L _ 0 (Nat.lt_succ_self _) (by omega) (by omega) (fun j j0 j1 => by omega)
end MY
