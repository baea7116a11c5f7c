/-! ===== the class: meals carried, joint shares ===== -/
theorem shI_b {n b : Int} (hn : 1 ≤ n) : ∀ (k : Nat) (f : Fp) (x : Int), (∀ j, 0 ≤ j → j < n → 0 ≤ f.1 j ∧ f.1 j ≤ b + x) → ∀ j, 0 ≤ j → j < n → 0 ≤ (shI n k f).1 j ∧ (shI n k f).1 j ≤ b + x + k := by
  intro k
  induction k with
  | zero => intro f x h j j0 j1; have := h j j0 j1; show 0 ≤ f.1 j ∧ f.1 j ≤ b + x + ((0 : Nat) : Int); omega
  | succ k ih =>
    intro f x h j j0 j1
    have lb := lrg_s (r := f.2) hn
    have q := h _ lb.1 lb.2.1
    have := ih (shS n f) (x + 1) (fun i i0 i1 => by
      have r := h i i0 i1
      unfold shS u1
      dsimp only
      split <;> omega) j j0 j1
    show 0 ≤ (shI n k (shS n f)).1 j ∧ (shI n k (shS n f)).1 j ≤ b + x + ((k + 1 : Nat) : Int)
    omega
theorem lSh_b {n a : Int} {cl : Int → Int} (hn : 1 ≤ n ∧ n ≤ 10) (ha : 0 ≤ a ∧ a ≤ 19800) (hc : ∀ j, 0 ≤ j → j < n → 0 ≤ cl j ∧ cl j ≤ 396) : ∀ j, 0 ≤ j → j < n → 0 ≤ lSh n cl a j ∧ lSh n cl a j ≤ 30000 := fun j j0 j1 => by
  unfold lSh
  split
  · have := hc j j0 j1; omega
  · have qb := q0_b (b := 396) (by omega) ha.1 (by omega) hc
    have ss := s_Ib (f := (q0 n cl a).1) (n := n) (b := 396) (by omega) (fun j j0 j1 => by have := qb j j0 j1; omega)
    have := shI_b (b := 396) hn.1 (a - s_I (q0 n cl a).1 n).toNat (q0 n cl a) 0 (fun j j0 j1 => by have := qb j j0 j1; omega) j j0 j1
    omega
section CY
variable {ρ : Rf} {μ : Mem} {σ : Sg}
theorem c_carried {t m : Int} (h : CI ρ μ σ) (hS : SI σ) : qE mX7_carried GG GG [qP 0, qI t, qI m] ρ μ (PC μ ρ (fun J => if σ 0 4 = 1 ∧ 0 ≤ t ∧ t < 2 ∧ 0 ≤ m ∧ m < σ 2 36 then car (σ 2) (sGo (σ 2) (-1) (-1) J 199) t m else -2147483648) (sE σ (if σ 0 4 = 1 ∧ 0 ≤ t ∧ t < 2 ∧ 0 ≤ m ∧ m < σ 2 36 then 0 else 1))) := by
  have L : (σ 0 4 = 1 ∧ 0 ≤ t ∧ t < 2 ∧ 0 ≤ m ∧ m < σ 2 36) → ∀ ν, FR 151 154 μ ν → (∀ J c, 0 ≤ c → c < σ 2 (4 + t) → ν 154 c = lSh (σ 2 (4 + t)) (fun c => dem (σ 2) t c m) (dlT (σ 2) (sGo (σ 2) (-1) (-1) J 199) t m) c) → ∀ (k : Nat) (x y : Int), (σ 2 (4 + t) - x).toNat < k → 0 ≤ x → x ≤ σ 2 (4 + t) → (∀ J, y = s_I (fun c => max 0 (lSh (σ 2 (4 + t)) (fun c => dem (σ 2) t c m) (dlT (σ 2) (sGo (σ 2) (-1) (-1) J 199) t m) c - dlv (σ 2) (sGo (σ 2) (-1) (-1) J 199) t c m)) x) → qX mX7_carried GG (PC μ ρ (fun J => if σ 0 4 = 1 ∧ 0 ≤ t ∧ t < 2 ∧ 0 ≤ m ∧ m < σ 2 36 then car (σ 2) (sGo (σ 2) (-1) (-1) J 199) t m else -2147483648) (sE σ (if σ 0 4 = 1 ∧ 0 ≤ t ∧ t < 2 ∧ 0 ≤ m ∧ m < σ 2 36 then 0 else 1))) GG (0, 0) 33 [some (qP 0), some (qI t), some (qI m), some (qI y), some (qI x)] [] ρ ν := by
    intro hi ν fν sν
    have h1 : CI ρ ν σ := h.scr hS (fun a ha => fν a (by omega))
    obtain ⟨hv, hf, hs, hr⟩ := h1.pl hS hi.1
    have nn := hv.n
    have tt := hv.t hi.2.1 hi.2.2.1
    have ub := h1.ub hS hi.1
    intro k
    induction k with
    | zero => intro x y h; omega
    | succ k ih =>
      intro x y hk h0 h1' hy
      have yb : 0 ≤ y ∧ y ≤ x * 30000 := by
        rw [hy μ]
        refine s_Ib h0 (fun c c0 c1 => ?_)
        have gu := go_ub (p := σ 2) (wo := -1) (out := -1) (J := μ) hv
        have b1 := lSh_b (n := σ 2 (4 + t)) (a := dlT (σ 2) (sGo (σ 2) (-1) (-1) μ 199) t m) (cl := fun c => dem (σ 2) t c m) (by omega) (by have := dlT_b (p := σ 2) (u := sGo (σ 2) (-1) (-1) μ 199) (t := t) (m := m) (by omega) (by omega) gu; omega) (fun j j0 j1 => dem_b hv hi.2.1 hi.2.2.1 j0 j1 hi.2.2.2.1 hi.2.2.2.2) c c0 (by omega)
        have b2 := dlv_b (p := σ 2) (u := sGo (σ 2) (-1) (-1) μ 199) (t := t) (c := c) (m := m) (by omega) gu
        omega
      refine w_X7_carried_33 ?_
      refine ⟨(by exact h1.1.f), ?_⟩
      refine ⟨(by omega), ?_⟩
      rw [(hf.t hi.2.1 hi.2.2.1).2]
      refine ⟨fun hc3 => ?_, fun hc3 => ?_⟩
      · refine ⟨_, k_answer, ?_⟩
        rintro z2 ρ3 μ4 ⟨hq4_1, hq4_2, hq4_3⟩
        obtain rfl := hq4_1.symm
        obtain rfl := hq4_2.symm
        obtain rfl := hq4_3.symm
        exact pc_fin h1 hS (fν.mono (by omega) (by omega)) (fun J => by rw [if_pos hi, hy J, show x = σ 2 (4 + t) by omega]; rfl) (by rw [if_pos hi])
      · refine ⟨(by omega), ?_⟩
        refine ⟨_, k_doorIndex (by omega) (by omega), ?_⟩
        rintro z6 ρ7 μ8 ⟨hq7_1, hq7_2, hq7_3⟩
        obtain rfl := hq7_1.symm
        obtain rfl := hq7_2.symm
        obtain rfl := hq7_3.symm
        refine ⟨_, k_handedAt h1 hS hi.1 (t := t) (c := x) ⟨hi.2.1, hi.2.2.1⟩ (by omega) rfl, ?_⟩
        rintro z10 ρ11 μ12 ⟨hq8_1, hq8_2, hq8_3⟩
        obtain rfl := hq8_1.symm
        obtain rfl := hq8_2.symm
        obtain rfl := hq8_3.symm
        have gu := go_ub (p := σ 2) (wo := -1) (out := -1) (J := μ) hv
        have b1 := lSh_b (n := σ 2 (4 + t)) (a := dlT (σ 2) (sGo (σ 2) (-1) (-1) μ 199) t m) (cl := fun c => dem (σ 2) t c m) (by omega) (by have := dlT_b (p := σ 2) (u := sGo (σ 2) (-1) (-1) μ 199) (t := t) (m := m) (by omega) (by omega) gu; omega) (fun j j0 j1 => dem_b hv hi.2.1 hi.2.2.1 j0 j1 hi.2.2.2.1 hi.2.2.2.2) x h0 hc3
        have b2 := dlv_b (p := σ 2) (u := ν 34) (t := t) (c := x) (m := m) (by omega) ub.1
        rw [← sν μ x h0 hc3] at b1
        refine ⟨(by unfold i32; omega), ?_⟩
        refine ⟨(by unfold i32; omega), ?_⟩
        refine ⟨(by unfold i32; omega), ?_⟩
        refine ih _ _ (by omega) (by omega) (by omega) (fun J => ?_)
        rw [s_Is h0, ← hy J, sν J x h0 hc3, dlv_c (by omega) (ub.2 J)]
  refine e_X7_carried ?_
  refine ⟨_, k_isTrain h hS, ?_⟩
  rintro z1 ρ2 μ3 ⟨hz, hq1_1, hq1_2⟩
  obtain rfl := hq1_1.symm
  obtain rfl := hq1_2.symm
  refine ⟨fun hc2 => ?_, fun hc2 => ?_⟩
  · refine ⟨_, k_fail, ?_⟩
    rintro z5 ρ6 μ7 ⟨hq3_1, hq3_2, hq3_3⟩
    obtain rfl := hq3_1.symm
    obtain rfl := hq3_2.symm
    obtain rfl := hq3_3.symm
    exact pc_fin h hS FR.refl (fun J => (if_neg (by omega)).symm) (by rw [if_neg (by omega)])
  · refine ⟨_, k_isMeal h hS, ?_⟩
    rintro z9 ρ10 μ11 ⟨hy, hq5_1, hq5_2⟩
    obtain rfl := hq5_1.symm
    obtain rfl := hq5_2.symm
    refine ⟨fun hc6 => ?_, fun hc6 => ?_⟩
    · have tt := (h.pl hS (by omega)).1.t (t := t) (by omega) (by omega)
      refine ⟨_, k_shareInTrain h hS (by omega) (t := t) (m := m) (by omega) (by omega), ?_⟩
      rintro z13 ρ14 μ15 ⟨hq7_1, f1, s1⟩
      obtain rfl := hq7_1.symm
      exact L (by omega) _ f1 s1 _ 0 0 (Nat.lt_succ_self _) (by omega) (by omega) (fun J => rfl)
    · refine ⟨_, k_fail, ?_⟩
      rintro z17 ρ18 μ19 ⟨hq9_1, hq9_2, hq9_3⟩
      obtain rfl := hq9_1.symm
      obtain rfl := hq9_2.symm
      obtain rfl := hq9_3.symm
      exact pc_fin h hS FR.refl (fun J => (if_neg (by omega)).symm) (by rw [if_neg (by omega)])
def cJo (p : Pl) (m : Int) : Int → Int := fun k => if k < p (4 + 0) then dem p 0 k m else dem p 1 (k - p (4 + 0)) m
def jSh (p : Pl) (u : Int → Int) (t c m : Int) : Int := lSh (p (4 + 0) + p (4 + 1)) (cJo p m) (dlT p u 0 m + dlT p u 1 m) (if t = 0 then c else p (4 + 0) + c)
theorem c_jointShare {t c m : Int} (h : CI ρ μ σ) (hS : SI σ) : qE mX7_jointShare GG GG [qP 0, qI t, qI c, qI m] ρ μ (PC μ ρ (fun J => if σ 0 4 = 1 ∧ 0 ≤ t ∧ t < 2 ∧ 0 ≤ c ∧ c < σ 2 (4 + t) ∧ 0 ≤ m ∧ m < σ 2 36 then jSh (σ 2) (sGo (σ 2) (-1) (-1) J 199) t c m else -2147483648) (sE σ (if σ 0 4 = 1 ∧ 0 ≤ t ∧ t < 2 ∧ 0 ≤ c ∧ c < σ 2 (4 + t) ∧ 0 ≤ m ∧ m < σ 2 36 then 0 else 1))) := by
  have L : ∀ (hi : σ 0 4 = 1 ∧ 0 ≤ t ∧ t < 2 ∧ 0 ≤ c ∧ c < σ 2 (4 + t) ∧ 0 ≤ m ∧ m < σ 2 36) ν x, FR 151 154 μ ν → (∀ J k, 0 ≤ k → k < σ 2 (4 + 0) + σ 2 (4 + 1) → ν 154 k = lSh (σ 2 (4 + 0) + σ 2 (4 + 1)) (cJo (σ 2) m) (dlT (σ 2) (sGo (σ 2) (-1) (-1) J 199) 0 m + dlT (σ 2) (sGo (σ 2) (-1) (-1) J 199) 1 m) k) → x = (if t = 0 then 0 else σ 2 (4 + 0)) → qX mX7_jointShare GG (PC μ ρ (fun J => if σ 0 4 = 1 ∧ 0 ≤ t ∧ t < 2 ∧ 0 ≤ c ∧ c < σ 2 (4 + t) ∧ 0 ≤ m ∧ m < σ 2 36 then jSh (σ 2) (sGo (σ 2) (-1) (-1) J 199) t c m else -2147483648) (sE σ (if σ 0 4 = 1 ∧ 0 ≤ t ∧ t < 2 ∧ 0 ≤ c ∧ c < σ 2 (4 + t) ∧ 0 ≤ m ∧ m < σ 2 36 then 0 else 1))) GG (0, 0) 72 [some (qP 0), none, some (qI c), none, none] [qI x] ρ ν := by
    intro hi ν x fν sν hx
    have hv := (h.pl hS hi.1).1
    have t0 := hv.t (t := 0) (by omega) (by omega)
    have t1 := hv.t (t := 1) (by omega) (by omega)
    have hx2 : 0 ≤ x ∧ x + c < σ 2 (4 + 0) + σ 2 (4 + 1) := by
      rw [hx]
      by_cases e : t = 0
      · subst e; rw [if_pos rfl]; omega
      · have e1 : t = 1 := by omega
        subst e1; rw [if_neg (by omega)]; omega
    have e3 : (if t = 0 then c else σ 2 (4 + 0) + c) = x + c := by
      rw [hx]; split <;> omega
    refine w_X7_jointShare_72 ?_
    refine ⟨(by unfold i32; omega), ?_⟩
    refine ⟨(by omega), ?_⟩
    refine ⟨_, k_answer, ?_⟩
    rintro z1 ρ2 μ3 ⟨hq3_1, hq3_2, hq3_3⟩
    obtain rfl := hq3_1.symm
    obtain rfl := hq3_2.symm
    obtain rfl := hq3_3.symm
    exact pc_fin (h.scr hS (fun a ha => fν a (by omega))) hS (fν.mono (by omega) (by omega)) (fun J => by rw [if_pos hi]; unfold jSh; rw [e3]; exact sν J _ (by omega) (by omega)) (by rw [if_pos hi])
  refine e_X7_jointShare ?_
  refine ⟨_, k_isCarMeal (by assumption) (by assumption), ?_⟩
  rintro z1 ρ2 μ3 ⟨hz, hq1_1, hq1_2⟩
  obtain rfl := hq1_1.symm
  obtain rfl := hq1_2.symm
  refine ⟨fun hc2 => ?_, fun hc2 => ?_⟩
  · refine ⟨_, k_clear4, ?_⟩
    rintro z5 ρ6 μ7 ⟨hq3_1, hq3_2⟩
    obtain rfl := hq3_1.symm
    obtain rfl := hq3_2.symm
    obtain ⟨hv, hf, hs, hr⟩ := h.pl hS (by omega)
    have nn := hv.n
    have t0 := hv.t (t := 0) (by omega) (by omega)
    have t1 := hv.t (t := 1) (by omega) (by omega)
    have ub := h.ub hS (by omega)
    have f0 : FR 151 152 μ (up2 (up2 μ 151 3 0) 151 4 0) := FR.up (FR.up FR.refl (by omega)) (by omega)
    have h1 : CI ρ (up2 (up2 μ 151 3 0) 151 4 0) σ := h.scr hS (fun a ha => f0 a (by omega))
    refine ⟨_, k_addClaims (n := 0) (t := 0) h1 hS (by omega) (by omega) (by omega) (by rw [up2_k (by decide), up2_s]) (by omega) (by rw [up2_s]; rfl) (fun j a b => by omega), ?_⟩
    rintro z9 ρ10 μ11 ⟨hq4_1, f1, a1, a2, a3, a4⟩
    obtain rfl := hq4_1.symm
    have f2 := f0.trans f1
    have h2 : CI ρ μ11 σ := h.scr hS (fun a ha => f2 a (by omega))
    rw [Int.zero_add] at a1 a4
    have a3' : ∀ j, 0 ≤ j → j < σ 2 (4 + 0) → μ11 152 j = dem (σ 2) 0 j m := fun j j0 j1 => by
      have := a3 j j0 j1
      rwa [Int.zero_add] at this
    refine ⟨_, k_addClaims (n := σ 2 (4 + 0)) (t := 1) h2 hS (by omega) (by omega) (by omega) a1 (by omega) a4 (fun j j0 j1 => by rw [a3' j j0 j1]; exact dem_b hv (by omega) (by omega) j0 j1 (by omega) (by omega)), ?_⟩
    rintro z13 ρ14 μ15 ⟨hq5_1, f3, b1, b2, b3, b4⟩
    obtain rfl := hq5_1.symm
    have f4 := f2.trans f3
    have h3 : CI ρ μ15 σ := h.scr hS (fun a ha => f4 a (by omega))
    have e34 : μ15 34 = μ 34 := f4 34 (by omega)
    have cl : ∀ j, 0 ≤ j → j < σ 2 (4 + 0) + σ 2 (4 + 1) → μ15 152 j = cJo (σ 2) m j := fun j j0 j1 => by
      unfold cJo
      by_cases e : j < σ 2 (4 + 0)
      · rw [if_pos e, b2 j j0 e, a3' j j0 e]
      · have := b3 (j - σ 2 (4 + 0)) (by omega) (by omega)
        rw [show σ 2 (4 + 0) + (j - σ 2 (4 + 0)) = j by omega] at this
        rw [if_neg e, this]
    have clb : ∀ j, 0 ≤ j → j < σ 2 (4 + 0) + σ 2 (4 + 1) → 0 ≤ μ15 152 j ∧ μ15 152 j ≤ 396 := fun j j0 j1 => by
      rw [cl j j0 j1]
      unfold cJo
      split
      · exact dem_b hv (by omega) (by omega) j0 (by omega) (by omega) (by omega)
      · exact dem_b hv (by omega) (by omega) (by omega) (by omega) (by omega) (by omega)
    refine ⟨_, k_handedToTrain (t := 0) h3 hS (by omega) (by omega), ?_⟩
    rintro z17 ρ18 μ19 ⟨hq6_1, hq6_2, hq6_3⟩
    obtain rfl := hq6_1.symm
    obtain rfl := hq6_2.symm
    obtain rfl := hq6_3.symm
    refine ⟨_, k_handedToTrain (t := 1) h3 hS (by omega) (by omega), ?_⟩
    rintro z21 ρ22 μ23 ⟨hq7_1, hq7_2, hq7_3⟩
    obtain rfl := hq7_1.symm
    obtain rfl := hq7_2.symm
    obtain rfl := hq7_3.symm
    rw [e34]
    have l0 := dlT_b (p := σ 2) (u := μ 34) (t := 0) (m := m) (by omega) (by omega) ub.1
    have l1 := dlT_b (p := σ 2) (u := μ 34) (t := 1) (m := m) (by omega) (by omega) ub.1
    refine ⟨(by unfold i32; omega), ?_⟩
    refine ⟨_, k_shareOut (n := σ 2 (4 + 0) + σ 2 (4 + 1)) (by omega) b4 (by omega) (by omega) clb, ?_⟩
    rintro z25 ρ26 μ27 ⟨hq9_1, f5, s5⟩
    obtain rfl := hq9_1.symm
    have f6 := (f4.mono (show 151 ≤ 151 by omega) (show 152 ≤ 154 by omega)).trans f5
    have s6 : ∀ J k, 0 ≤ k → k < σ 2 (4 + 0) + σ 2 (4 + 1) → μ27 154 k = lSh (σ 2 (4 + 0) + σ 2 (4 + 1)) (cJo (σ 2) m) (dlT (σ 2) (sGo (σ 2) (-1) (-1) J 199) 0 m + dlT (σ 2) (sGo (σ 2) (-1) (-1) J 199) 1 m) k := fun J k k0 k1 => by
      rw [s5 k k0 k1, lSh_c (by omega) cl k k0 k1, dlT_c (by omega) (by omega) (ub.2 J), dlT_c (by omega) (by omega) (ub.2 J)]
    have fn := h.1.fn
    refine ⟨fun hc10 => ?_, fun hc10 => ?_⟩
    · refine ⟨(by exact h.1.f), ?_⟩
      refine L (by omega) _ _ f6 s6 ?_
      rw [if_neg hc10, f6 _ (by omega)]
      exact (hf.t (t := 0) (by omega) (by omega)).2
    · exact L (by omega) _ _ f6 s6 (by rw [if_pos hc10])
  · refine ⟨_, k_fail, ?_⟩
    rintro z30 ρ31 μ32 ⟨hq14_1, hq14_2, hq14_3⟩
    obtain rfl := hq14_1.symm
    obtain rfl := hq14_2.symm
    obtain rfl := hq14_3.symm
    exact pc_fin h hS FR.refl (fun J => (if_neg (by omega)).symm) (by rw [if_neg (by omega)])
end CY
