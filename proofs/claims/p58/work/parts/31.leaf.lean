/-! ===== contracts of the class's small methods ===== -/
theorem k_fill {ρ : Rf} {μ : Mem} {a n : Nat} {v : Int} (ha : GG.2[a]? = some (10, n)) (hn : (n : Int) ≤ 100000) : qE mJ7_fill_53178 GG GG [qP a, qI v] ρ μ (fun (_ : Int) (ρ' : Rf) (μ' : Mem) => ρ' = ρ ∧ μ' = filM μ a n v) := by
  have L : ∀ (k : Nat) (x2 : Int), ((n : Int) - x2).toNat < k → 0 ≤ x2 → x2 ≤ n → qX mJ7_fill_53178 GG (fun (_ : Int) (ρ' : Rf) (μ' : Mem) => ρ' = ρ ∧ μ' = filM μ a n v) GG (0, 0) 5 [some (qP a), some (qI v), some (qI x2), some (qI (n : Int))] [] ρ (filM μ a x2 v) := by
    intro k
    induction k with
    | zero => intro x2 h; omega
    | succ k ih =>
      intro x2 hk h0 h1
      refine w_J7_fill_53178_5 ha ?_
      refine ⟨fun hc1 => ?_, fun hc1 => ?_⟩
      · exact ⟨rfl, by rw [show x2 = (n : Int) by omega]⟩
      · refine ⟨(by omega), ?_⟩
        intro μ1 eμ1; subst eμ1
        refine ⟨(by unfold i32; omega), ?_⟩
        rw [filM_1 h0]
        exact ih _ (by omega) (by omega) (by omega)
  refine e_J7_fill_53178 ha ?_
  refine ⟨(by omega), ?_⟩
  have := L _ 0 (Nat.lt_succ_self _) (by omega) (by omega)
  rwa [filM_0] at this
theorem k_compare {ρ : Rf} {μ : Mem} {a b : Int} : qE mJ6_compare_7cf53 GG GG [qI a, qI b] ρ μ (fun z ρ' μ' => ((a < b ∧ z = -1) ∨ (a = b ∧ z = 0) ∨ (b < a ∧ z = 1)) ∧ ρ' = ρ ∧ μ' = μ) := by
  refine e_J6_compare_7cf53 ?_
  refine ⟨fun hc1 => ?_, fun hc1 => ?_⟩
  · refine ⟨fun hc2 => ?_, fun hc2 => ?_⟩
    · exact ⟨by omega, rfl, rfl⟩
    · exact ⟨by omega, rfl, rfl⟩
  · exact ⟨by omega, rfl, rfl⟩
theorem k_wholeParts {ρ : Rf} {μ : Mem} {a b : Int} (ha : 0 ≤ a) (hb : 1 ≤ b) : qE mX7_wholeParts GG GG [qI a, qI b] ρ μ (fun z ρ' μ' => z = a / b ∧ ρ' = ρ ∧ μ' = μ) := by
  refine e_X7_wholeParts ?_
  refine ⟨fun hc1 => ?_, fun hc1 => ?_⟩
  · refine ⟨(by omega), ?_⟩
    exact ⟨rfl, rfl, rfl⟩
  · omega
theorem k_partsUp {ρ : Rf} {μ : Mem} {a b : Int} (ha : 0 ≤ a) (hb : 1 ≤ b) (hr : a + b ≤ 2147483647) : qE mX7_partsRoundedUp GG GG [qI a, qI b] ρ μ (fun z ρ' μ' => z = (a + b - 1) / b ∧ ρ' = ρ ∧ μ' = μ) := by
  refine e_X7_partsRoundedUp ?_
  refine ⟨(by unfold i32; omega), ?_⟩
  refine ⟨(by unfold i32; omega), ?_⟩
  refine ⟨_, k_wholeParts (by omega) (by omega), ?_⟩
  rintro z1 ρ2 μ3 ⟨hq3_1, hq3_2, hq3_3⟩
  obtain rfl := hq3_1.symm
  obtain rfl := hq3_2.symm
  obtain rfl := hq3_3.symm
  exact ⟨rfl, rfl, rfl⟩
theorem k_doorIndex {ρ : Rf} {μ : Mem} {a b : Int} (ha : 0 ≤ a ∧ a < 2) (hb : 0 ≤ b ∧ b ≤ 100) : qE mX7_doorIndex GG GG [qI a, qI b] ρ μ (fun z ρ' μ' => z = 5 * a + b ∧ ρ' = ρ ∧ μ' = μ) := by
  refine e_X7_doorIndex ?_
  refine ⟨(by unfold i32; omega), ?_⟩
  refine ⟨(by unfold i32; omega), ?_⟩
  exact ⟨by omega, rfl, rfl⟩
theorem k_stockIndex {ρ : Rf} {μ : Mem} {a b : Int} (ha : 0 ≤ a ∧ a < 100) (hb : 0 ≤ b ∧ b ≤ 100) : qE mX7_stockIndex GG GG [qI a, qI b] ρ μ (fun z ρ' μ' => z = 4 * a + b ∧ ρ' = ρ ∧ μ' = μ) := by
  refine e_X7_stockIndex ?_
  refine ⟨(by unfold i32; omega), ?_⟩
  refine ⟨(by unfold i32; omega), ?_⟩
  exact ⟨by omega, rfl, rfl⟩
theorem k_isJobQuantity {ρ : Rf} {μ : Mem} {a : Int} : qE mX7_isJobQuantity GG GG [qI a] ρ μ (fun z ρ' μ' => ((z = 1 ∧ 1 ≤ a ∧ a ≤ 99) ∨ (z = 0 ∧ ¬ (1 ≤ a ∧ a ≤ 99))) ∧ ρ' = ρ ∧ μ' = μ) := by
  refine e_X7_isJobQuantity ?_
  refine ⟨fun hc1 => ?_, fun hc1 => ?_⟩
  · exact ⟨by omega, rfl, rfl⟩
  · refine ⟨fun hc3 => ?_, fun hc3 => ?_⟩
    · exact ⟨by omega, rfl, rfl⟩
    · exact ⟨by omega, rfl, rfl⟩
/-! ### a plan's fixed part -/
theorem k_wanted {ρ : Rf} {μ : Mem} {o : Nat} {p : Pl} {t c m d : Int} (ho : isO 0 o) (hf : FP μ o p) (hv : PV p) (h0 : 0 ≤ t) (h1 : t < 2) (h2 : 0 ≤ c) (h3 : c < p (4 + t)) (h4 : 0 ≤ m) (h5 : m < p 36) (hd : d = 5 * t + c) : qE mX0_wanted GG GG [qP o, qI d, qI m] ρ μ (fun z ρ' μ' => z = dem p t c m ∧ ρ' = ρ ∧ μ' = μ) := by
  subst hd
  have a := hv.c h0 h1 h2 h3
  have b := hv.m h4 h5
  have c1 := mulb a.2.2.1 a.2.2.2.1 b.1 b.2.1
  have c2 := mulb a.2.2.2.2.1 a.2.2.2.2.2 b.2.2.1 b.2.2.2
  have n := hv.n
  have tt := hv.t h0 h1
  refine e_X0_wanted ho ?_
  rw [(hf.c h0 h1 h2 h3).2.1, (hf.c h0 h1 h2 h3).2.2, (hf.m h4 h5).1, (hf.m h4 h5).2]
  refine ⟨(by omega), ?_⟩
  refine ⟨(by omega), ?_⟩
  refine ⟨(by unfold i32; omega), ?_⟩
  refine ⟨(by omega), ?_⟩
  refine ⟨(by omega), ?_⟩
  refine ⟨(by unfold i32; omega), ?_⟩
  refine ⟨(by unfold i32; omega), ?_⟩
  refine ⟨_, k_partsUp (by omega) (by omega) (by omega), ?_⟩
  rintro z1 ρ2 μ3 ⟨hq8_1, hq8_2, hq8_3⟩
  obtain rfl := hq8_1.symm
  obtain rfl := hq8_2.symm
  obtain rfl := hq8_3.symm
  exact ⟨by unfold dem; omega, rfl, rfl⟩
theorem k_walk {ρ : Rf} {μ : Mem} {o : Nat} {p : Pl} {i t c d v : Int} (ho : isO 0 o) (hf : FP μ o p) (hv : PV p) (hi0 : 0 ≤ i) (hi1 : i < p 61) (h0 : 0 ≤ t) (h1 : t < 2) (h2 : 0 ≤ c) (h3 : c < p (4 + t)) (hd : d = 5 * t + c) (hs : 1 ≤ v ∧ v ≤ 100) : qE mX0_walk GG GG [qP o, qI i, qI d, qI v] ρ μ (fun z ρ' μ' => z = wkG p i t c v ∧ ρ' = ρ ∧ μ' = μ) := by
  subst hd
  have n := hv.n
  have tt := hv.t h0 h1
  have a := hv.i hi0 hi1
  have b := hv.k a.1 a.2.1
  have d := hv.c h0 h1 h2 h3
  have e1 := (hf.i hi0 hi1).1
  have e2 := hf.k a.1 a.2.1
  refine e_X0_walk ho ?_
  rw [e1, e2, (hf.c h0 h1 h2 h3).1]
  refine ⟨(by omega), ?_⟩
  refine ⟨(by omega), ?_⟩
  refine ⟨(by omega), ?_⟩
  refine ⟨(by unfold i32; omega), ?_⟩
  refine ⟨(by unfold i32; omega), ?_⟩
  refine ⟨_, k_partsUp (by omega) (by omega) (by omega), ?_⟩
  rintro z1 ρ2 μ3 ⟨hq6_1, hq6_2, hq6_3⟩
  obtain rfl := hq6_1.symm
  obtain rfl := hq6_2.symm
  obtain rfl := hq6_3.symm
  exact ⟨rfl, rfl, rfl⟩
theorem k_mostMeals {ρ : Rf} {μ : Mem} {o : Nat} {p : Pl} {i q : Int} (ho : isO 0 o) (hf : FP μ o p) (hv : PV p) (hi0 : 0 ≤ i) (hi1 : i < p 61) : qE mX0_mostMeals GG GG [qP o, qI i, qI q] ρ μ (fun z ρ' μ' => z = min q (p (62 + 5 * i + 1)) ∧ ρ' = ρ ∧ μ' = μ) := by
  have n := hv.n
  refine e_X0_mostMeals ho ?_
  rw [(hf.i hi0 hi1).2.1]
  refine ⟨(by omega), ?_⟩
  exact ⟨rfl, rfl, rfl⟩
/-! ### the part of a plan that changes -/
def CPS (μ : Mem) (x : Nat) (μ' : Mem) (o : Nat) : Prop :=
  (∀ j, 0 ≤ j → j < 20 → μ' (o + 1) j = μ (x + 1) j ∧ μ' (o + 2) j = μ (x + 2) j ∧ μ' (o + 3) j = μ (x + 3) j ∧ μ' (o + 4) j = μ (x + 4) j) ∧
  (∀ t, 0 ≤ t → t < 2 → μ' (o + 5) t = μ (x + 5) t) ∧ (∀ k, 0 ≤ k → k < 12 → μ' (o + 6) k = μ (x + 6) k) ∧ μ' o 6 = μ x 6
theorem CPS.sp {μ μ' : Mem} {x o : Nat} {p : Pl} (h : CPS μ x μ' o) (hs : SP μ x p) (hn : p 87 ≤ 20) : SP μ' o p := by
  refine ⟨fun j h0 h1 => ?_, fun t h0 h1 => ?_, fun k h0 h1 => ?_, ?_⟩
  · have a := h.1 j h0 (by omega)
    have b := hs.j h0 h1
    rw [a.1, a.2.1, a.2.2.1, a.2.2.2]
    exact b
  · rw [h.2.1 t h0 h1]
    exact hs.t h0 h1
  · rw [h.2.2.1 k h0 h1]
    exact hs.k h0 h1
  · rw [h.2.2.2]
    exact hs.n
theorem k_copyFrom {ρ : Rf} {μ : Mem} {o x : Nat} (ho : isO 6 o) (hx : isO 6 x) (hd : x + 6 < o ∨ o + 6 < x) : qE mX6_copyFrom GG GG [qP o, qP x] ρ μ (fun _ ρ' μ' => ρ' = ρ ∧ FR o (o + 6) μ μ' ∧ CPS μ x μ' o) := by
  refine e_X6_copyFrom ho hx ?_
  intro μ1 eμ1; subst eμ1
  intro μ2 eμ2; subst eμ2
  intro μ3 eμ3; subst eμ3
  intro μ4 eμ4; subst eμ4
  intro μ5 eμ5; subst eμ5
  intro μ6 eμ6; subst eμ6
  intro μ7 eμ7; subst eμ7
  refine ⟨rfl, ?_, ?_⟩
  · exact FR.up (FR.cpy (FR.cpy (FR.cpy (FR.cpy (FR.cpy (FR.cpy FR.refl (by omega)) (by omega)) (by omega)) (by omega)) (by omega)) (by omega)) (by omega)
  · refine ⟨fun j h0 h1 => ⟨?_, ?_, ?_, ?_⟩, fun t h0 h1 => ?_, fun k h0 h1 => ?_, ?_⟩
    · rw [up2_c (by omega), cpyM_c (by omega), cpyM_c (by omega), cpyM_c (by omega), cpyM_c (by omega), cpyM_c (by omega), cpyM_s (by omega)]
    · rw [up2_c (by omega), cpyM_c (by omega), cpyM_c (by omega), cpyM_c (by omega), cpyM_c (by omega), cpyM_s (by omega), cpyM_c (by omega)]
    · rw [up2_c (by omega), cpyM_c (by omega), cpyM_c (by omega), cpyM_c (by omega), cpyM_s (by omega), cpyM_c (by omega), cpyM_c (by omega)]
    · rw [up2_c (by omega), cpyM_c (by omega), cpyM_c (by omega), cpyM_s (by omega), cpyM_c (by omega), cpyM_c (by omega), cpyM_c (by omega)]
    · rw [up2_c (by omega), cpyM_c (by omega), cpyM_s (by omega), cpyM_c (by omega), cpyM_c (by omega), cpyM_c (by omega), cpyM_c (by omega)]
    · rw [up2_c (by omega), cpyM_s (by omega), cpyM_c (by omega), cpyM_c (by omega), cpyM_c (by omega), cpyM_c (by omega), cpyM_c (by omega)]
    · rw [up2_s, cpyM_c (by omega), cpyM_c (by omega), cpyM_c (by omega), cpyM_c (by omega), cpyM_c (by omega), cpyM_c (by omega)]
theorem k_jobsOf {ρ : Rf} {μ : Mem} {o : Nat} {p : Pl} {i : Int} (ho : isO 6 o) (hs : SP μ o p) (hn : 0 ≤ p 87 ∧ p 87 ≤ 20) : qE mX6_jobsOf GG GG [qP o, qI i] ρ μ (fun z ρ' μ' => z = cnt p i ∧ ρ' = ρ ∧ μ' = μ) := by
  have hsn := hs.n
  have L : ∀ (k : Nat) (x : Int), (p 87 - x).toNat < k → 0 ≤ x → x ≤ p 87 → qX mX6_jobsOf GG (fun z ρ' μ' => z = cnt p i ∧ ρ' = ρ ∧ μ' = μ) GG (0, 0) 4 [some (qP o), some (qI i), some (qI (s_I (fun j => if p (88 + 5 * j + 0) = i then 1 else 0) x)), some (qI x)] [] ρ μ := by
    intro k
    induction k with
    | zero => intro x h; omega
    | succ k ih =>
      intro x hk h0 h1
      have sb := s_Ib (f := fun j => if p (88 + 5 * j + 0) = i then 1 else 0) (n := x) (b := 1) h0 (fun j _ _ => by split <;> omega)
      refine w_X6_jobsOf_4 ho ?_
      refine ⟨fun hc1 => ?_, fun hc1 => ?_⟩
      · exact ⟨by rw [show x = p 87 by omega]; rfl, rfl, rfl⟩
      · refine ⟨(by omega), ?_⟩
        refine ⟨fun hc4 => ?_, fun hc4 => ?_⟩
        · have e := s_Is (f := fun j => if p (88 + 5 * j + 0) = i then 1 else 0) h0
          refine ⟨(by unfold i32; omega), ?_⟩
          rw [(hs.j h0 (by omega)).1] at hc4
          rw [show (if p (88 + 5 * x + 0) = i then (1 : Int) else 0) = 0 from if_neg hc4, Int.add_zero] at e
          rw [← e]
          exact ih _ (by omega) (by omega) (by omega)
        · have e := s_Is (f := fun j => if p (88 + 5 * j + 0) = i then 1 else 0) h0
          refine ⟨(by unfold i32; omega), ?_⟩
          refine ⟨(by unfold i32; omega), ?_⟩
          rw [(hs.j h0 (by omega)).1] at hc4
          rw [show (if p (88 + 5 * x + 0) = i then (1 : Int) else 0) = 1 from if_pos hc4] at e
          rw [← e]
          exact ih _ (by omega) (by omega) (by omega)
  refine e_X6_jobsOf ho ?_
  exact L _ 0 (Nat.lt_succ_self _) (by omega) (by omega)
/-- the first job of a trolley from one on -/
def isNx (p : Pl) (i x z : Int) : Prop := x ≤ z ∧ z < p 87 ∧ p (88 + 5 * z + 0) = i ∧ ∀ j, x ≤ j → j < z → p (88 + 5 * j + 0) ≠ i
def noNx (p : Pl) (i x : Int) : Prop := ∀ j, x ≤ j → j < p 87 → p (88 + 5 * j + 0) ≠ i
theorem k_jobFrom {ρ : Rf} {μ : Mem} {o : Nat} {p : Pl} {i x0 : Int} (ho : isO 6 o) (hs : SP μ o p) (hn : 0 ≤ p 87 ∧ p 87 ≤ 20) (hx : 0 ≤ x0) : qE mX6_jobFrom GG GG [qP o, qI i, qI x0] ρ μ (fun z ρ' μ' => ((z = -1 ∧ noNx p i x0) ∨ (0 ≤ z ∧ isNx p i x0 z)) ∧ ρ' = ρ ∧ μ' = μ) := by
  have hsn := hs.n
  have L : ∀ (k : Nat) (x : Int), (p 87 - x).toNat < k → x0 ≤ x → (∀ j, x0 ≤ j → j < x → p (88 + 5 * j + 0) ≠ i) → qX mX6_jobFrom GG (fun z ρ' μ' => ((z = -1 ∧ noNx p i x0) ∨ (0 ≤ z ∧ isNx p i x0 z)) ∧ ρ' = ρ ∧ μ' = μ) GG (0, 0) 2 [some (qP o), some (qI i), none, some (qI x)] [] ρ μ := by
    intro k
    induction k with
    | zero => intro x h; omega
    | succ k ih =>
      intro x hk h0 h1
      refine w_X6_jobFrom_2 ho ?_
      refine ⟨fun hc1 => ?_, fun hc1 => ?_⟩
      · exact ⟨Or.inl ⟨rfl, fun j h2 h3 => h1 j h2 (by omega)⟩, rfl, rfl⟩
      · refine ⟨(by omega), ?_⟩
        rw [(hs.j (j := x) (by omega) (by omega)).1]
        refine ⟨fun hc4 => ?_, fun hc4 => ?_⟩
        · refine ⟨(by unfold i32; omega), ?_⟩
          refine ih _ (by omega) (by omega) (fun j h2 h3 => ?_)
          by_cases hj : j = x
          · rw [hj]; exact hc4
          · exact h1 j h2 (by omega)
        · exact ⟨Or.inr ⟨by omega, by omega, by omega, hc4, h1⟩, rfl, rfl⟩
  refine e_X6_jobFrom ho ?_
  exact L _ x0 (Nat.lt_succ_self _) (by omega) (fun j h2 h3 => by omega)
