/-! ===== jobs follow each other; shares and parts of demands ===== -/
section HOL
variable {p : Pl} {S : Mem} {i x t t' : Int}
theorem lastj (hx : 0 ≤ x) : (∃ j, (0 ≤ j ∧ j < x) ∧ p (88 + 5 * j + 0) = i ∧ ∀ q, j < q → q < x → p (88 + 5 * q + 0) ≠ i) ∨ ∀ q, 0 ≤ q → q < x → p (88 + 5 * q + 0) ≠ i := by
  refine i_ind (P := fun x => (∃ j, (0 ≤ j ∧ j < x) ∧ p (88 + 5 * j + 0) = i ∧ ∀ q, j < q → q < x → p (88 + 5 * q + 0) ≠ i) ∨ ∀ q, 0 ≤ q → q < x → p (88 + 5 * q + 0) ≠ i) (Or.inr (fun q q0 q1 => by omega)) ?_ x hx
  intro n hn ih
  by_cases c : p (88 + 5 * n + 0) = i
  · exact Or.inl ⟨n, ⟨hn, by omega⟩, c, fun q q0 q1 => by omega⟩
  · rcases ih with ⟨j, j0, j1, j2⟩ | h
    · refine Or.inl ⟨j, ⟨j0.1, by omega⟩, j1, fun q q0 q1 => ?_⟩
      by_cases e : q = n
      · rw [e]; exact c
      · exact j2 q q0 (by omega)
    · refine Or.inr (fun q q0 q1 => ?_)
      by_cases e : q = n
      · rw [e]; exact c
      · exact h q q0 (by omega)
theorem PrevT_u (hx : 0 ≤ x) (h : PrevT p S i x t) (h' : PrevT p S i x t') : t = t' := by
  rcases lastj (p := p) (i := i) hx with ⟨j, j0, j1, j2⟩ | e
  · exact (h.1 j j0.1 j0.2 j1 j2).symm.trans (h'.1 j j0.1 j0.2 j1 j2)
  · exact (h.2 e).trans (h'.2 e).symm
theorem PrevT_n (hx : 0 ≤ x) (h : PrevT p S i x t) (c : p (88 + 5 * x + 0) ≠ i) : PrevT p S i (x + 1) t := by
  refine ⟨fun j j0 j1 j2 j3 => ?_, fun h2 => h.2 (fun q q0 q1 => h2 q q0 (by omega))⟩
  have e : j ≠ x := fun e => c (by rw [← e]; exact j2)
  exact h.1 j j0 (by omega) j2 (fun q q0 q1 => j3 q q0 (by omega))
theorem PrevT_s (hx : 0 ≤ x) (c : p (88 + 5 * x + 0) = i) : PrevT p S i (x + 1) (S 200 x) := PrevT.mk1 ⟨hx, by omega⟩ c (fun q q0 q1 => by omega) rfl
/-! ### shares of two cars -/
theorem s_I2 {f : Int → Int} : s_I f 2 = f 0 + f 1 := by
  show (0 + f 0) + f 1 = _
  omega
theorem share2 {cl : Int → Int} {a b : Int} (ha : 0 ≤ a) (h0 : 0 ≤ cl 0 ∧ cl 0 ≤ b) (h1 : 0 ≤ cl 1 ∧ cl 1 ≤ b) : lSh 2 cl a 0 + lSh 2 cl a 1 = min a (cl 0 + cl 1) ∧ ∀ c, 0 ≤ c ∧ c < 2 → 0 ≤ lSh 2 cl a c ∧ lSh 2 cl a c ≤ b + 1 ∧ (0 < cl 0 + cl 1 → -(cl 0 + cl 1) < lSh 2 cl a c * (cl 0 + cl 1) - min a (cl 0 + cl 1) * cl c ∧ lSh 2 cl a c * (cl 0 + cl 1) - min a (cl 0 + cl 1) * cl c < cl 0 + cl 1) := by
  have hs := s_I2 (f := cl)
  have cc : ∀ c, 0 ≤ c ∧ c < 2 → 0 ≤ cl c ∧ cl c ≤ b := fun c hc => by
    obtain rfl | rfl : c = 0 ∨ c = 1 := by omega
    · exact h0
    · exact h1
  unfold lSh
  by_cases hq : s_I cl 2 ≤ a
  · rw [if_pos hq, show min a (cl 0 + cl 1) = cl 0 + cl 1 by omega]
    refine ⟨rfl, fun c hc => ⟨(cc c hc).1, by have := (cc c hc).2; omega, fun hp => ?_⟩⟩
    rw [Int.mul_comm (cl c)]
    omega
  · rw [if_neg hq]
    have hqb := q0_b (n := 2) (b := b) (cl := cl) (by decide) ha (by omega) (fun j j0 j1 => cc j ⟨j0, j1⟩)
    have b0 := hqb 0 (by decide) (by decide)
    have b1 := hqb 1 (by decide) (by decide)
    have hl := lrg_s (r := (q0 2 cl a).2) (n := 2) (by decide)
    have m2 : min a (cl 0 + cl 1) = a := by omega
    rw [m2]
    have hsm := s_I2 (f := (q0 2 cl a).1)
    rw [hsm]
    rw [hs] at b0 b1
    generalize (q0 2 cl a) = Q at b0 b1 hl hsm
    obtain ⟨f, r⟩ := Q
    dsimp only at b0 b1 hl hsm ⊢
    have e : r 0 + r 1 = (a - (f 0 + f 1)) * (cl 0 + cl 1) := by
      have g : a * cl 0 + a * cl 1 = a * (cl 0 + cl 1) := (Int.mul_add _ _ _).symm
      have g2 : f 0 * (cl 0 + cl 1) + f 1 * (cl 0 + cl 1) = (f 0 + f 1) * (cl 0 + cl 1) := (Int.add_mul _ _ _).symm
      rw [Int.sub_mul]
      omega
    have hD : 0 < cl 0 + cl 1 := by omega
    have k0 : 0 ≤ a - (f 0 + f 1) := by
      by_cases z : 0 ≤ a - (f 0 + f 1)
      · exact z
      · have := Int.mul_le_mul_of_nonneg_right (show a - (f 0 + f 1) ≤ -1 by omega) (Int.le_of_lt hD)
        omega
    have k1 : a - (f 0 + f 1) < 2 := by
      by_cases z : a - (f 0 + f 1) < 2
      · exact z
      · have := Int.mul_le_mul_of_nonneg_right (show 2 ≤ a - (f 0 + f 1) by omega) (Int.le_of_lt hD)
        omega
    obtain z | z : a - (f 0 + f 1) = 0 ∨ a - (f 0 + f 1) = 1 := by omega
    · rw [z]
      show f 0 + f 1 = a ∧ ∀ c, 0 ≤ c ∧ c < 2 → 0 ≤ f c ∧ f c ≤ b + 1 ∧ (0 < cl 0 + cl 1 → -(cl 0 + cl 1) < f c * (cl 0 + cl 1) - a * cl c ∧ f c * (cl 0 + cl 1) - a * cl c < cl 0 + cl 1)
      refine ⟨by omega, fun c hc => ?_⟩
      obtain rfl | rfl : c = 0 ∨ c = 1 := by omega
      · exact ⟨by omega, by omega, fun _ => ⟨by omega, by omega⟩⟩
      · exact ⟨by omega, by omega, fun _ => ⟨by omega, by omega⟩⟩
    · rw [z]
      rw [z, Int.one_mul] at e
      show u1 f (lrg r 2) (f (lrg r 2) + 1) 0 + u1 f (lrg r 2) (f (lrg r 2) + 1) 1 = a ∧ ∀ c, 0 ≤ c ∧ c < 2 → 0 ≤ u1 f (lrg r 2) (f (lrg r 2) + 1) c ∧ u1 f (lrg r 2) (f (lrg r 2) + 1) c ≤ b + 1 ∧ (0 < cl 0 + cl 1 → -(cl 0 + cl 1) < u1 f (lrg r 2) (f (lrg r 2) + 1) c * (cl 0 + cl 1) - a * cl c ∧ u1 f (lrg r 2) (f (lrg r 2) + 1) c * (cl 0 + cl 1) - a * cl c < cl 0 + cl 1)
      obtain g | g : lrg r 2 = 0 ∨ lrg r 2 = 1 := by omega
      · rw [g, u1_s, u1_n (by decide)]
        refine ⟨by omega, fun c hc => ?_⟩
        obtain rfl | rfl : c = 0 ∨ c = 1 := by omega
        · rw [u1_s, Int.add_mul, Int.one_mul]
          exact ⟨by omega, by omega, fun _ => ⟨by omega, by omega⟩⟩
        · rw [u1_n (by decide)]
          exact ⟨by omega, by omega, fun _ => ⟨by omega, by omega⟩⟩
      · rw [g, u1_s, u1_n (by decide)]
        refine ⟨by omega, fun c hc => ?_⟩
        obtain rfl | rfl : c = 0 ∨ c = 1 := by omega
        · rw [u1_n (by decide)]
          exact ⟨by omega, by omega, fun _ => ⟨by omega, by omega⟩⟩
        · rw [u1_s, Int.add_mul, Int.one_mul]
          exact ⟨by omega, by omega, fun _ => ⟨by omega, by omega⟩⟩
/-! ### coverage -/
theorem cov2 {u : Int → Int} {m : Int} (hv : PV p) (ub : UB p u) (ht : 0 ≤ t ∧ t < 2) (hm : 0 ≤ m ∧ m < p 36) : (dmT p t m = 0 → cov p u t m 0 = 1 ∧ cov p u t m 1 = 1) ∧ cov p u t m 0 * dmT p t m = cov p u t m 1 * min (dlT p u t m) (dmT p t m) ∧ 0 ≤ cov p u t m 0 ∧ cov p u t m 0 ≤ 1980 ∧ 1 ≤ cov p u t m 1 ∧ cov p u t m 1 ≤ 1980 := by
  obtain ⟨a0, a1, a2, a3, a4, a5, a6, a7, a8⟩ := cv_b hv ub ht hm
  have d := dmT_b hv ht.1 ht.2 hm.1 hm.2
  have c0 : cov p u t m 0 = cvA p u t m / cvG p u t m := rfl
  have c1 : cov p u t m 1 = cvB p t m / cvG p u t m := rfl
  rw [c0, c1]
  refine ⟨fun z => ?_, ?_, by omega, by omega, by omega, by omega⟩
  · have eA : cvA p u t m = 1 := if_pos z
    have eB : cvB p t m = 1 := by unfold cvB; rw [z]; rfl
    have eG : cvG p u t m = 1 := by unfold cvG; rw [eA, eB]; rfl
    rw [eA, eB, eG]
    exact ⟨rfl, rfl⟩
  · by_cases z : dmT p t m = 0
    · have l := dlT_b (p := p) (u := u) (t := t) (m := m) (by have := hv.n; omega) (by have := hv.t ht.1 ht.2; omega) ub
      rw [z, show min (dlT p u t m) 0 = 0 by omega]
      omega
    · have eA : cvA p u t m = min (dlT p u t m) (dmT p t m) := by unfold cvA; rw [if_neg z]; omega
      have eB : cvB p t m = dmT p t m := by unfold cvB; omega
      rw [← eA, ← eB]
      generalize cvA p u t m = A at *
      generalize cvB p t m = B at *
      generalize cvG p u t m = g at *
      generalize A / g = x at *
      generalize B / g = y at *
      rw [a6, a7, ← Int.mul_assoc, ← Int.mul_assoc, Int.mul_comm x g, Int.mul_comm y g, Int.mul_assoc, Int.mul_assoc, Int.mul_comm x y]
theorem lcov2 {u : Int → Int} {m : Int} (hv : PV p) (ub : UB p u) (ht : 0 ≤ t ∧ t < 2) (h36 : p 36 = 2) (hm : 0 ≤ m ∧ m < 2) : cov p u t (lcN p u t 2) 0 * cov p u t m 1 ≤ cov p u t m 0 * cov p u t (lcN p u t 2) 1 := by
  have l : lcN p u t 2 = if cvA p u t 1 * cvB p t 0 < cvA p u t 0 * cvB p t 1 then 1 else 0 := by
    have e1 : lcN p u t 1 = 0 := by
      show (if cvA p u t 0 * cvB p t 0 < cvA p u t 0 * cvB p t 0 then (0 : Int) else 0) = 0
      split <;> rfl
    show (if cvA p u t 1 * cvB p t (lcN p u t 1) < cvA p u t (lcN p u t 1) * cvB p t 1 then (1 : Int) else lcN p u t 1) = _
    rw [e1]
  have hL : 0 ≤ lcN p u t 2 ∧ lcN p u t 2 < 2 := by rw [l]; split <;> omega
  have le : cvA p u t (lcN p u t 2) * cvB p t m ≤ cvA p u t m * cvB p t (lcN p u t 2) := by
    rw [l]
    obtain rfl | rfl : m = 0 ∨ m = 1 := by omega
    · split
      · omega
      · exact Int.le_refl _
    · split
      · exact Int.le_refl _
      · omega
  generalize lcN p u t 2 = L at *
  obtain ⟨a0, a1, a2, a3, a4, a5, a6, a7, a8⟩ := cv_b hv ub ht (m := m) (by omega)
  obtain ⟨b0, b1, b2, b3, b4, b5, b6, b7, b8⟩ := cv_b hv ub ht (m := L) (by omega)
  show cvA p u t L / cvG p u t L * (cvB p t m / cvG p u t m) ≤ cvA p u t m / cvG p u t m * (cvB p t L / cvG p u t L)
  generalize cvA p u t L / cvG p u t L = x at *
  generalize cvB p t L / cvG p u t L = y at *
  generalize cvA p u t m / cvG p u t m = z at *
  generalize cvB p t m / cvG p u t m = w at *
  rw [a6, a7, b6, b7] at le
  generalize cvG p u t L = g at *
  generalize cvG p u t m = k at *
  have e1 : g * x * (k * w) = (g * k) * (x * w) := by
    rw [Int.mul_assoc, Int.mul_assoc, Int.mul_left_comm x k w]
  have e2 : k * z * (g * y) = (g * k) * (z * y) := by
    rw [Int.mul_assoc, Int.mul_left_comm z g y, ← Int.mul_assoc, Int.mul_comm k g, Int.mul_assoc]
  rw [e1, e2] at le
  exact Int.le_of_mul_le_mul_left le (Int.mul_pos (by omega) (by omega))
end HOL
