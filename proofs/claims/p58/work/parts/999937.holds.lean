/-! ===== the law's questions together; a trolley's jobs; changes ===== -/
section HOS
variable {ρ ρ0 : Rf} {μ μ0 : Mem} {σ : Sg} {X : List Sh} {W : Int → Int} {x : Nat}
theorem h_holds (P : LPl W σ) (hx : (GX X).2[x]? = some (10, 200)) (h178 : 178 ≤ x) (hw : μ0 x = W) (h6 : 0 ≤ σ 0 6 ∧ σ 0 6 ≤ 1) (hX : X10 X) (hl : X.length < 1000) (C : LQ σ ρ0 μ0 ρ μ) : qE mL_holds (GX X) (GX X) [qP 0, qP x] ρ μ (fun z ρ' μ' => z = 1 ∧ ∃ σ', SEq σ σ' ∧ LQ σ' ρ0 μ0 ρ' μ') := by
  refine e_L_holds hx ?_
  refine ⟨_, h_mealsHold P C, ?_⟩
  rintro z1 ρ2 μ3 ⟨hq1_1, C⟩
  obtain rfl := hq1_1.symm
  refine ⟨fun hc2 => ?_, fun hc2 => ?_⟩
  · omega
  · refine ⟨_, h_jobsHold P C hX hl, ?_⟩
    rintro z5 ρ6 μ7 ⟨hq4_1, C⟩
    obtain rfl := hq4_1.symm
    refine ⟨fun hc5 => ?_, fun hc5 => ?_⟩
    · omega
    · refine ⟨_, h_sharesHold P C, ?_⟩
      rintro z9 ρ10 μ11 ⟨hq7_1, C⟩
      obtain rfl := hq7_1.symm
      refine ⟨fun hc8 => ?_, fun hc8 => ?_⟩
      · omega
      · refine ⟨_, h_bestsHold P hx h178 hw h6 C, ?_⟩
        rintro z13 ρ14 μ15 ⟨hq10_1, C⟩
        obtain rfl := hq10_1.symm
        refine ⟨fun hc11 => ?_, fun hc11 => ?_⟩
        · omega
        · exact ⟨rfl, C⟩
theorem h_jobsOf {i : Int} (P : LPl W σ) (C : LQ σ ρ0 μ0 ρ μ) : qE mL_jobsOf (GX X) (GX X) [qP 0, qI i] ρ μ (fun z ρ' μ' => z = cnt (σ 2) i ∧ LQ σ ρ0 μ0 ρ' μ') := by
  have hv := C.1.pv P
  have n := hv.n
  have L : ∀ (k : Nat) (j : Int) (ρ : Rf) (μ : Mem), (σ 2 87 - j).toNat < k → 0 ≤ j ∧ j ≤ σ 2 87 → LQ σ ρ0 μ0 ρ μ → qX mL_jobsOf (GX X) (fun z ρ' μ' => z = cnt (σ 2) i ∧ LQ σ ρ0 μ0 ρ' μ') (GX X) (0, 0) 4 [some (qP 0), some (qI i), some (qI (owC (σ 2) i j)), some (qI j)] [] ρ μ := by
    intro k
    induction k with
    | zero => intro j ρ μ hk; omega
    | succ k ih =>
      intro j ρ μ hk hj C
      have ob := owC_b (p := σ 2) (i := i) hj.1
      have e := owC_s (p := σ 2) (i := i) hj.1
      refine w_L_jobsOf_4 ?_
      refine ⟨_, C.c (fun L => g_jobCount L P), ?_⟩
      rintro z1 ρ2 μ3 ⟨hq1_1, C⟩
      obtain rfl := hq1_1.symm
      refine ⟨fun hc2 => ?_, fun hc2 => ?_⟩
      · obtain rfl : j = σ 2 87 := by omega
        exact ⟨rfl, C⟩
      · refine ⟨_, C.c (fun L => g_jobTrolley L P (by omega)), ?_⟩
        rintro z5 ρ6 μ7 ⟨hq4_1, C⟩
        obtain rfl := hq4_1.symm
        refine ⟨fun hc5 => ?_, fun hc5 => ?_⟩
        · refine ⟨(by unfold i32; omega), ?_⟩
          refine ⟨(by unfold i32; omega), ?_⟩
          rw [if_neg (by omega)] at e
          rw [← e]
          exact ih _ _ _ (by omega) (by omega) C
        · refine ⟨(by unfold i32; omega), ?_⟩
          refine ⟨(by unfold i32; omega), ?_⟩
          rw [if_pos (by omega)] at e
          rw [← e]
          exact ih _ _ _ (by omega) (by omega) C
  refine e_L_jobsOf ?_
  exact L _ 0 _ _ (Nat.lt_succ_self _) (by omega) C
/-! ### changes -/
theorem PLW.ch {p q : Pl} (h : PLW W p) (F : FEq p q) (h2 : q 2 ≤ 255) (h3 : q 3 ≤ 255) : PLW W q := by
  obtain ⟨-, a4, a5, a36, a45, a61, a63, a68, a73⟩ := h
  exact ⟨⟨h2, h3⟩, (F 4 (by decide)).trans a4, (F 5 (by decide)).trans a5, (F 36 (by decide)).trans a36, (F 45 (by decide)).trans a45, (F 61 (by decide)).trans a61, (F 63 (by decide)).trans a63, (F 68 (by decide)).trans a68, (F 73 (by decide)).trans a73⟩
theorem PLW.lo {p q : Pl} (h : PLW W p) (F : FEq p q) (h2 : q 2 = p 2) (h3 : q 3 = p 3) : PLW W q := h.ch F (by rw [h2]; exact h.1.1) (by rw [h3]; exact h.1.2)
theorem mvF_lo {p : Pl} {a x : Int} (a0 : 0 ≤ a) (hx : x < 88) : ∀ k : Nat, mvF p a k x = p x := by
  intro k
  induction k with
  | zero => rfl
  | succ k ih => exact (swap_o (by omega) (by omega) hx).trans ih
theorem mvG_lo {p : Pl} {a x : Int} (hx : x < 88) : ∀ k : Nat, 0 ≤ a - k → mvG p a k x = p x := by
  intro k
  induction k with
  | zero => intro _; rfl
  | succ k ih => intro h; exact (swap_o (by omega) (by omega) hx).trans (ih (by omega))
theorem mv_lo {p : Pl} {j to x : Int} (j0 : 0 ≤ j) (t0 : 0 ≤ to) (hx : x < 88) : mv p j to x = p x := (mvG_lo hx _ (by omega)).trans (mvF_lo j0 hx _)
/-- what a change of the law's does: it fails and leaves all, or the plan is another one -/
def CHG (W : Int → Int) (σ : Sg) (ρ0 : Rf) (μ0 : Mem) : Int → Rf → Mem → Prop := fun z ρ' μ' => (z = -2147483648 ∧ LQ σ ρ0 μ0 ρ' μ') ∨ (0 ≤ z ∧ ∃ q, PLW W q ∧ LQ (sCh σ q) ρ0 μ0 ρ' μ')
theorem chg_f {M : MI} {as : List AV} {v : Mem → Int} {e c : Int} (C : LQ σ ρ0 μ0 ρ μ) (L : LI ρ μ (sE σ c)) (hE : qE M GG GG as (cR ρ) (cM μ) (PC (cM μ) (cR ρ) v (sE (sE σ c) e))) (hz : v Z0 = -2147483648) (hk : M.2.2.2.1 ≠ 4) (has : rfs as = true) : qE M (GX X) (GX X) as ρ μ (CHG W σ ρ0 μ0) :=
  qE_post (fun _ _ _ h => Or.inl ⟨h.1.trans hz, ⟨_, h.2.1⟩, C.2.trans h.2.2⟩) (lask L hE hk has)
theorem chg_s {M : MI} {as : List AV} {v : Mem → Int} {c : Int} {q : Pl} (C : LQ σ ρ0 μ0 ρ μ) (h4 : σ 0 4 = 1) (L : LI ρ μ (sE σ c)) (hE : qE M GG GG as (cR ρ) (cM μ) (PC (cM μ) (cR ρ) v (sCh (sE σ c) q))) (hz : 0 ≤ v Z0) (ho : OKP q) (hF : FEq (σ 2) q) (hq : PLW W q) (hk : M.2.2.2.1 ≠ 4) (has : rfs as = true) : qE M (GX X) (GX X) as ρ μ (CHG W σ ρ0 μ0) :=
  qE_post (fun _ _ _ h => Or.inr ⟨by rw [h.1]; exact hz, q, hq, h.2.1, C.2.trans h.2.2⟩) (lchg L h4 hE ho hF hk has)
theorem h_addJob {i t c m v : Int} (P : LPl W σ) (C : LQ σ ρ0 μ0 ρ μ) : qE mX7_addJob (GX X) (GX X) [qP 0, qI i, qI t, qI c, qI m, qI v] ρ μ (CHG W σ ρ0 μ0) := by
  have ok := C.1.okp P.1
  have n := ok.1.n
  obtain ⟨e0, L⟩ := id C.1
  have h4 : sE σ e0 0 4 = 1 := by rw [sE_04]; exact P.1
  have hE := c_addJob (i := i) (t := t) (c := c) (m := m) (v := v) L.2.1 L.1
  simp only [sE_2] at hE
  by_cases k : (sE σ e0 0 4 = 1 ∧ 0 ≤ i ∧ i < σ 2 61 ∧ 0 ≤ t ∧ t < 2 ∧ 0 ≤ c ∧ c < σ 2 (4 + t) ∧ 0 ≤ m ∧ m < σ 2 36) ∧ (1 ≤ v ∧ v ≤ 99) ∧ (σ 2 87 < 20 ∧ cnt (σ 2) i < 8)
  · rw [if_pos k, if_pos k] at hE
    exact chg_s C P.1 L hE (by show 0 ≤ σ 2 87 + 1; omega) (add_OKP ok (by omega) (by omega) (by omega) (by omega) (by omega) (by omega) (by omega)) (add_FEq n.2.2.2.2.2.2.1) (P.2.lo (add_FEq n.2.2.2.2.2.2.1) (pAdd_o (by omega) (by omega)) (pAdd_o (by omega) (by omega))) (by decide) rfl
  · rw [if_neg k, if_neg k] at hE
    exact chg_f C L hE rfl (by decide) rfl
theorem h_removeJob {j : Int} (P : LPl W σ) (C : LQ σ ρ0 μ0 ρ μ) : qE mX7_removeJob (GX X) (GX X) [qP 0, qI j] ρ μ (CHG W σ ρ0 μ0) := by
  have ok := C.1.okp P.1
  obtain ⟨e0, L⟩ := id C.1
  have h4 : sE σ e0 0 4 = 1 := by rw [sE_04]; exact P.1
  have hE := c_removeJob (j := j) L.2.1 L.1
  simp only [sE_2] at hE
  by_cases k : sE σ e0 0 4 = 1 ∧ 0 ≤ j ∧ j < σ 2 87
  · rw [if_pos k, if_pos k] at hE
    exact chg_s C P.1 L hE (by show 0 ≤ σ 2 87 - 1; omega) (drop_OKP ok k.2) (drop_FEq k.2.1) (P.2.lo (drop_FEq k.2.1) (drop_lo k.2.1 (by decide)) (drop_lo k.2.1 (by decide))) (by decide) rfl
  · rw [if_neg k, if_neg k] at hE
    exact chg_f C L hE rfl (by decide) rfl
theorem h_moveJob {j to : Int} (P : LPl W σ) (C : LQ σ ρ0 μ0 ρ μ) : qE mX7_moveJob (GX X) (GX X) [qP 0, qI j, qI to] ρ μ (CHG W σ ρ0 μ0) := by
  have ok := C.1.okp P.1
  obtain ⟨e0, L⟩ := id C.1
  have h4 : sE σ e0 0 4 = 1 := by rw [sE_04]; exact P.1
  have hE := c_moveJob (j := j) (to := to) L.2.1 L.1
  simp only [sE_2] at hE
  by_cases k : sE σ e0 0 4 = 1 ∧ 0 ≤ j ∧ j < σ 2 87 ∧ 0 ≤ to ∧ to < σ 2 87
  · rw [if_pos k, if_pos k] at hE
    have m := mv_ok ok (j := j) (to := to) ⟨k.2.1, k.2.2.1⟩ ⟨k.2.2.2.1, k.2.2.2.2⟩
    exact chg_s C P.1 L hE (Int.le_refl _) m.1 m.2 (P.2.lo m.2 (mv_lo k.2.1 k.2.2.2.1 (by decide)) (mv_lo k.2.1 k.2.2.2.1 (by decide))) (by decide) rfl
  · rw [if_neg k, if_neg k] at hE
    exact chg_f C L hE rfl (by decide) rfl
theorem h_setDeparture {t v : Int} (P : LPl W σ) (hv : v ≤ 255) (C : LQ σ ρ0 μ0 ρ μ) : qE mX7_setDeparture (GX X) (GX X) [qP 0, qI t, qI v] ρ μ (CHG W σ ρ0 μ0) := by
  have ok := C.1.okp P.1
  obtain ⟨e0, L⟩ := id C.1
  have h4 : sE σ e0 0 4 = 1 := by rw [sE_04]; exact P.1
  have hE := c_setDeparture (t := t) (v := v) L.2.1 L.1
  simp only [sE_2] at hE
  by_cases k : (sE σ e0 0 4 = 1 ∧ 0 ≤ t ∧ t < 2) ∧ (σ 2 (0 + t) ≤ v ∧ v ≤ 999)
  · rw [if_pos k, if_pos k] at hE
    have tt := ok.1.t k.1.2.1 k.1.2.2
    have u : ∀ x, σ 2 x ≤ 255 → u1 (σ 2) (2 + t) v x ≤ 255 := fun x hx => by
      unfold u1
      split <;> assumption
    exact chg_s C P.1 L hE (by show 0 ≤ σ 2 (2 + t); omega) (u1_OKP ok (by omega) (by omega) (fun j j0 j1 => by omega) (fun _ => k.2.2) (dep_PV ok.1 k.1.2 k.2.1 (by omega))) (dep_FEq k.1.2) (P.2.ch (dep_FEq k.1.2) (u _ P.2.1.1) (u _ P.2.1.2)) (by decide) rfl
  · rw [if_neg k, if_neg k] at hE
    exact chg_f C L hE rfl (by decide) rfl
theorem h_setStock {k m v : Int} (P : LPl W σ) (C : LQ σ ρ0 μ0 ρ μ) : qE mX7_setStock (GX X) (GX X) [qP 0, qI k, qI m, qI v] ρ μ (CHG W σ ρ0 μ0) := by
  have ok := C.1.okp P.1
  have n := ok.1.n
  obtain ⟨e0, L⟩ := id C.1
  have h4 : sE σ e0 0 4 = 1 := by rw [sE_04]; exact P.1
  have hE := c_setStock (k := k) (m := m) (v := v) L.2.1 L.1
  simp only [sE_2] at hE
  by_cases c : (sE σ e0 0 4 = 1 ∧ 0 ≤ k ∧ k < σ 2 45 ∧ 0 ≤ m ∧ m < σ 2 36) ∧ (0 ≤ v ∧ v ≤ 999)
  · rw [if_pos c, if_pos c] at hE
    have hk : 0 ≤ 4 * k + m ∧ 4 * k + m < 12 := by omega
    have ss := ok.1.s hk.1 hk.2
    exact chg_s C P.1 L hE (by show 0 ≤ σ 2 (49 + (4 * k + m)); omega) (u1_OKP ok (by omega) (by omega) (fun j j0 j1 => by omega) (fun h => by omega) (stk_PV ok.1 hk (by omega))) (stk_FEq hk) (P.2.lo (stk_FEq hk) (u1_n (by omega)) (u1_n (by omega))) (by decide) rfl
  · rw [if_neg c, if_neg c] at hE
    exact chg_f C L hE rfl (by decide) rfl
theorem h_applyBest {i : Int} (P : LPl W σ) (hi : 0 ≤ i ∧ i < 3) (C : LQ σ ρ0 μ0 ρ μ) : qE mX7_applyBest (GX X) (GX X) [qP 0, qI i] ρ μ (fun z ρ' μ' => 0 ≤ z ∧ PLW W (apB (σ 2) i) ∧ LQ (sCh σ (apB (σ 2) i)) ρ0 μ0 ρ' μ') := by
  have ok := C.1.okp P.1
  have n := ok.1.n
  have p61 := P.2.2.2.2.2.2.1
  obtain ⟨e0, L⟩ := id C.1
  have h4 : sE σ e0 0 4 = 1 := by rw [sE_04]; exact P.1
  have hE := c_applyBest (i := i) L.2.1 L.1
  simp only [sE_2] at hE
  have c : sE σ e0 0 4 = 1 ∧ 0 ≤ i ∧ i < σ 2 61 := ⟨h4, hi.1, by omega⟩
  rw [if_pos c, if_pos c] at hE
  have a := apB_ok ok hi.1 (by omega : i < σ 2 61)
  have lo := (apB_own ok hi.1 (by omega : i < σ 2 61)).2.1
  have ob := (oN_b (p := σ 2) (i := i) (v := spd (σ 2) i) (s := bst (σ 2) i)).1
  have c0 : 0 ≤ cnt (σ 2) i := (owC_b (p := σ 2) (i := i) n.2.2.2.2.2.2.1).1
  refine qE_post (fun z ρ' μ' h => ⟨?_, P.2.lo a.2 (lo 2 (by decide)) (lo 3 (by decide)), h.2.1, C.2.trans h.2.2⟩) (lchg L P.1 hE a.1 a.2 (by decide) rfl)
  rw [h.1]
  show 0 ≤ cnt (σ 2) i - ((oN (σ 2) i (spd (σ 2) i) (bst (σ 2) i) : Nat) : Int)
  omega
end HOS
