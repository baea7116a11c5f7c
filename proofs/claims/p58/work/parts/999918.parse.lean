/-! ===== the law's plan is loaded ===== -/
/-- behind so many lines: the draft, and what is left of the text -/
def RdS (b : Int → Int) (n : Int) (m0 : Nat) (D : Sg) (r : List Tkn) : Prop := ∃ (T : Tk) (p : Int), S0 T p ∧ Toks b n p r ∧ ∀ m : Nat, lns b n (m + m0) D0 T0 = lns b n m D T
def KD (A E N S : Int → Int) (D : Sg) : Prop := (D 1 2 = A 2 ∧ D 1 3 = A 3 ∧ D 1 4 = A 4 ∧ D 1 5 = A 5 ∧ D 1 36 = A 36 ∧ D 1 45 = A 45 ∧ D 1 61 = A 61 ∧ D 1 87 = A 87 ∧ D 1 63 = A 63 ∧ D 1 68 = A 68 ∧ D 1 73 = A 73) ∧ (D 4 0 = E 0 ∧ D 4 1 = E 1) ∧ (D 2 0 = N 0 ∧ D 2 1 = N 1) ∧ (D 5 0 = S 0 ∧ D 5 1 = S 1 ∧ D 5 4 = S 4 ∧ D 5 5 = S 5)
section PRS
variable {b : Int → Int} {n p : Int} {T : Tk} {D D' : Sg} {r ts : List Tkn} {v w k : Int} {m0 : Nat} {A E N S : Int → Int}
theorem rs_c (h : RdS b n m0 D (ts ++ cT :: r)) (hl : ∀ p, LNx b n p D ts D') : RdS b n (m0 + 1) D' r := by
  obtain ⟨T, p, s, t, e⟩ := h
  obtain ⟨q, t1, s1, d1⟩ := hl p (cT :: r) T s t
  obtain ⟨q2, t2, s2, k2, -, -⟩ := S_tk s1 t1
  refine ⟨_, q2, s2, t2, fun m => ?_⟩
  rw [show m + (m0 + 1) = (m + 1) + m0 by omega, e (m + 1)]
  show (if (rdT b n D T).1 = 0 ∧ tK b n (rdT b n D T).2.2.2 = 3 then lns b n m (rdS b n D T) (fTk b n (rdT b n D T)) else _) = _
  rw [if_pos ⟨s1.1, k2⟩, d1]
theorem rs_m {p1 p2 : Int} (h : RdS b n m0 D ([kT mealW, mT v, nT p1, nT p2] ++ cT :: r)) (hm : D 1 36 < 4) (hf : fnd (D 2) (D 1 36) (mV v) < 0) (h1 : 0 ≤ p1 ∧ p1 ≤ 20) (h2 : 0 ≤ p2 ∧ p2 ≤ 20) : ∃ x, RdS b n (m0 + 1) (meX D (mV v) x p1 p2) r := by
  obtain ⟨T, p, s, t, e⟩ := h
  obtain ⟨q, x, t1, s1, d1⟩ := ln_meaE hm hf h1 h2 s t
  obtain ⟨q2, t2, s2, k2, -, -⟩ := S_tk s1 t1
  refine ⟨x, _, q2, s2, t2, fun m => ?_⟩
  rw [show m + (m0 + 1) = (m + 1) + m0 by omega, e (m + 1)]
  show (if (rdT b n D T).1 = 0 ∧ tK b n (rdT b n D T).2.2.2 = 3 then lns b n m (rdS b n D T) (fTk b n (rdT b n D T)) else _) = _
  rw [if_pos ⟨s1.1, k2⟩, d1]
theorem tK_n : tK b n n = 0 ∧ tN b n n = n := by
  have e : tS b n n = n := rn_n (fun c => by omega)
  unfold tK tN
  rw [e, if_pos (Int.le_refl _), if_pos (Int.le_refl _)]
  exact ⟨rfl, rfl⟩
theorem rs_e (h : RdS b n m0 D ts) (hm : m0 ≤ 900) (hl : ∀ p, LNx b n p D ts D') (hc : cmp D') : (pT b n).1 = 0 ∧ (pZ b n).1 = D' := by
  obtain ⟨T, p, s, t, e⟩ := h
  obtain ⟨q, t1, s1, d1⟩ := hl p [] T s (by rw [List.append_nil]; exact t)
  have hq : q = n := t1
  subst hq
  have k0 := tK_n (b := b) (n := q)
  have ez : pZ b q = (D', rdT b q D T) := by
    unfold pZ
    have e2 := e ((900 - m0) + 1)
    rw [show 900 - m0 + 1 + m0 = 901 by omega] at e2
    rw [e2]
    show (if (rdT b q D T).1 = 0 ∧ tK b q (rdT b q D T).2.2.2 = 3 then lns b q (900 - m0) (rdS b q D T) (fTk b q (rdT b q D T)) else (rdS b q D T, rdT b q D T)) = _
    rw [s1.2, k0.1, if_neg (fun c => by omega), d1]
  refine ⟨?_, by rw [ez]⟩
  have e3 : fn2 b q (D', rdT b q D T) = fn1 b q (rdT b q D T) := by
    unfold fn2
    exact if_pos hc
  unfold pT
  rw [ez, e3]
  unfold fn1
  rw [s1.2, k0.1, if_pos rfl, fTk_o s1.1]
theorem kd_tra {t a d : Int} (h : KD A E N S D) (ht : t = 0 ∨ t = 1) : KD (u1 A (2 + t) d) (u1 E t 1) N S (trX D t a d) := by
  obtain ⟨⟨a1, a2, a3, a4, a5, a6, a7, a8, a9, a10, a11⟩, ⟨b1, b2⟩, ⟨c1, c2⟩, d1, d2, d3, d4⟩ := h
  rcases ht with rfl | rfl <;> simp [KD, trX, u1, *]
theorem kd_car {t p1 p2 p3 : Int} (h : KD A E N S D) (ht : t = 0 ∨ t = 1) (hA : 0 ≤ A (4 + t) ∧ A (4 + t) < 5) : KD (u1 A (4 + t) (A (4 + t) + 1)) E N S (caX D t p1 p2 p3) := by
  obtain ⟨⟨a1, a2, a3, a4, a5, a6, a7, a8, a9, a10, a11⟩, ⟨b1, b2⟩, ⟨c1, c2⟩, d1, d2, d3, d4⟩ := h
  have n1 : ∀ x : Int, (x < 6 ∨ 35 < x) → x ≠ 6 + (5 * t + A (4 + t)) ∧ x ≠ 16 + (5 * t + A (4 + t)) ∧ x ≠ 26 + (5 * t + A (4 + t)) := fun x hx => by omega
  have e : D 1 (4 + t) = A (4 + t) := by
    rcases ht with rfl | rfl
    · exact a3
    · exact a4
  have f : ∀ x : Int, (x < 6 ∨ 35 < x) → caX D t p1 p2 p3 1 x = if x = 4 + t then A (4 + t) + 1 else D 1 x := fun x hx => by
    have := n1 x hx
    show u1 (u1 (u1 (u1 (D 1) (6 + (5 * t + D 1 (4 + t))) p1) (16 + (5 * t + D 1 (4 + t))) p2) (26 + (5 * t + D 1 (4 + t))) p3) (4 + t) (D 1 (4 + t) + 1) x = _
    rw [e]
    by_cases c : x = 4 + t
    · rw [c, u1_s, if_pos rfl]
    · rw [u1_n c, u1_n this.2.2, u1_n this.2.1, u1_n this.1, if_neg c]
  refine ⟨⟨?_, ?_, ?_, ?_, ?_, ?_, ?_, ?_, ?_, ?_, ?_⟩, ⟨b1, b2⟩, ⟨c1, c2⟩, d1, d2, d3, d4⟩
  all_goals (rw [f _ (by omega)]; unfold u1; split <;> first | rfl | assumption)
theorem kd_mea {x p1 p2 : Int} (h : KD A E N S D) (hA : 0 ≤ A 36 ∧ A 36 < 2) : KD (u1 A 36 (A 36 + 1)) E (u1 N (A 36) w) S (meX D w x p1 p2) := by
  obtain ⟨⟨a1, a2, a3, a4, a5, a6, a7, a8, a9, a10, a11⟩, ⟨b1, b2⟩, ⟨c1, c2⟩, d1, d2, d3, d4⟩ := h
  have f : ∀ y : Int, (y < 37 ∨ 44 < y) → meX D w x p1 p2 1 y = if y = 36 then A 36 + 1 else D 1 y := fun y hy => by
    show u1 (u1 (u1 (D 1) (37 + D 1 36) p1) (41 + D 1 36) p2) 36 (D 1 36 + 1) y = _
    rw [a5]
    by_cases c : y = 36
    · rw [c, u1_s, if_pos rfl]
    · rw [u1_n c, u1_n (by omega), u1_n (by omega), if_neg c]
  have g : ∀ y : Int, meX D w x p1 p2 2 y = if y = A 36 then w else D 2 y := fun y => by
    show u1 (D 2) (D 1 36) w y = _
    rw [a5]
    rfl
  refine ⟨⟨?_, ?_, ?_, ?_, ?_, ?_, ?_, ?_, ?_, ?_, ?_⟩, ⟨b1, b2⟩, ⟨?_, ?_⟩, d1, d2, d3, d4⟩
  all_goals first | (rw [f _ (by omega)]; unfold u1; split <;> first | rfl | assumption) | (rw [g]; unfold u1; split <;> first | rfl | assumption)
theorem kd_kit {p1 : Int} (h : KD A E N S D) (hA : 0 ≤ A 45 ∧ A 45 < 3) : KD (u1 A 45 (A 45 + 1)) E N S (kiX D p1) := by
  obtain ⟨⟨a1, a2, a3, a4, a5, a6, a7, a8, a9, a10, a11⟩, ⟨b1, b2⟩, ⟨c1, c2⟩, d1, d2, d3, d4⟩ := h
  have f : ∀ y : Int, (y < 46 ∨ 48 < y) → kiX D p1 1 y = if y = 45 then A 45 + 1 else D 1 y := fun y hy => by
    show u1 (u1 (D 1) (46 + D 1 45) p1) 45 (D 1 45 + 1) y = _
    rw [a6]
    by_cases c : y = 45
    · rw [c, u1_s, if_pos rfl]
    · rw [u1_n c, u1_n (by omega), if_neg c]
  refine ⟨⟨?_, ?_, ?_, ?_, ?_, ?_, ?_, ?_, ?_, ?_, ?_⟩, ⟨b1, b2⟩, ⟨c1, c2⟩, d1, d2, d3, d4⟩
  all_goals (rw [f _ (by omega)]; unfold u1; split <;> first | rfl | assumption)
theorem kd_sto {i q : Int} (h : KD A E N S D) (hi : 0 ≤ i ∧ i < 12) : KD A E N (u1 S i 1) (stX D i q) := by
  obtain ⟨⟨a1, a2, a3, a4, a5, a6, a7, a8, a9, a10, a11⟩, ⟨b1, b2⟩, ⟨c1, c2⟩, d1, d2, d3, d4⟩ := h
  have f : ∀ y : Int, (y < 49 ∨ 60 < y) → stX D i q 1 y = D 1 y := fun y hy => by
    show u1 (D 1) (49 + i) q y = _
    rw [u1_n (by omega)]
  have g : ∀ y : Int, stX D i q 5 y = if y = i then 1 else D 5 y := fun y => rfl
  refine ⟨⟨?_, ?_, ?_, ?_, ?_, ?_, ?_, ?_, ?_, ?_, ?_⟩, ⟨b1, b2⟩, ⟨c1, c2⟩, ?_, ?_, ?_, ?_⟩
  all_goals first | (rw [f _ (by omega)]; assumption) | (rw [g]; unfold u1; split <;> first | rfl | assumption)
theorem kd_tro {k0 c0 v0 l0 w0 : Int} (h : KD A E N S D) (hA : A 61 = 0 ∨ A 61 = 1 ∨ A 61 = 2) : KD (u1 (u1 A (63 + 5 * A 61) c0) 61 (A 61 + 1)) E N S (tyX D k0 c0 v0 l0 w0) := by
  obtain ⟨⟨a1, a2, a3, a4, a5, a6, a7, a8, a9, a10, a11⟩, ⟨b1, b2⟩, ⟨c1, c2⟩, d1, d2, d3, d4⟩ := h
  have f : ∀ y : Int, (y < 62 ∨ 76 < y ∨ y = 63 ∨ y = 68 ∨ y = 73) → tyX D k0 c0 v0 l0 w0 1 y = if y = 61 then A 61 + 1 else if y = 63 + 5 * A 61 then c0 else D 1 y := fun y hy => by
    show u1 (u1 (u1 (u1 (u1 (u1 (D 1) (62 + 5 * D 1 61 + 0) k0) (62 + 5 * D 1 61 + 1) c0) (62 + 5 * D 1 61 + 2) v0) (62 + 5 * D 1 61 + 3) l0) (62 + 5 * D 1 61 + 4) w0) 61 (D 1 61 + 1) y = _
    rw [a7]
    by_cases c : y = 61
    · rw [c, u1_s, if_pos rfl]
    · rw [u1_n c, if_neg c, u1_n (by omega), u1_n (by omega), u1_n (by omega)]
      by_cases c2 : y = 63 + 5 * A 61
      · rw [if_pos c2, show y = 62 + 5 * A 61 + 1 by omega, u1_s]
      · rw [if_neg c2, u1_n (by omega), u1_n (by omega)]
  refine ⟨⟨?_, ?_, ?_, ?_, ?_, ?_, ?_, ?_, ?_, ?_, ?_⟩, ⟨b1, b2⟩, ⟨c1, c2⟩, d1, d2, d3, d4⟩
  all_goals (rw [f _ (by omega)]; unfold u1; split <;> first | rfl | (split <;> first | rfl | assumption))
theorem kd_job {i t c m q : Int} (h : KD A E N S D) (hA : 0 ≤ A 87) : KD (u1 A 87 (A 87 + 1)) E N S (joX D i t c m q) := by
  obtain ⟨⟨a1, a2, a3, a4, a5, a6, a7, a8, a9, a10, a11⟩, ⟨b1, b2⟩, ⟨c1, c2⟩, d1, d2, d3, d4⟩ := h
  have f : ∀ y : Int, y < 88 → joX D i t c m q 1 y = if y = 87 then A 87 + 1 else D 1 y := fun y hy => by
    show u1 (u1 (u1 (u1 (u1 (u1 (D 1) (88 + 5 * D 1 87 + 0) i) (88 + 5 * D 1 87 + 1) t) (88 + 5 * D 1 87 + 2) c) (88 + 5 * D 1 87 + 3) m) (88 + 5 * D 1 87 + 4) q) 87 (D 1 87 + 1) y = _
    rw [a8]
    by_cases e : y = 87
    · rw [e, u1_s, if_pos rfl]
    · rw [u1_n e, if_neg e, u1_n (by omega), u1_n (by omega), u1_n (by omega), u1_n (by omega), u1_n (by omega)]
  refine ⟨⟨?_, ?_, ?_, ?_, ?_, ?_, ?_, ?_, ?_, ?_, ?_⟩, ⟨b1, b2⟩, ⟨c1, c2⟩, d1, d2, d3, d4⟩
  all_goals (rw [f _ (by omega)]; unfold u1; split <;> first | rfl | assumption)
end PRS
