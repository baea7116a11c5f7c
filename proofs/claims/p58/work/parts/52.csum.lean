/-! ===== the class's sums over jobs and cars ===== -/
def dlv (p : Pl) (u : Int → Int) (t c m : Int) : Int := s_I (fun j => if p (88 + 5 * j + 1) = t ∧ p (88 + 5 * j + 2) = c ∧ p (88 + 5 * j + 3) = m then u j else 0) (p 87)
def dlT (p : Pl) (u : Int → Int) (t m : Int) : Int := s_I (fun c => dlv p u t c m) (p (4 + t))
def UB (p : Pl) (u : Int → Int) : Prop := ∀ j, 0 ≤ j → j < p 87 → 0 ≤ u j ∧ u j ≤ 99
theorem dlv_c {p : Pl} {u u' : Int → Int} {t c m : Int} (hn : 0 ≤ p 87) (h : ∀ j, 0 ≤ j → j < p 87 → u j = u' j) : dlv p u t c m = dlv p u' t c m := s_Ic hn (fun j j0 j1 => by rw [h j j0 j1])
theorem dlT_c {p : Pl} {u u' : Int → Int} {t m : Int} (hn : 0 ≤ p 87) (ht : 0 ≤ p (4 + t)) (h : ∀ j, 0 ≤ j → j < p 87 → u j = u' j) : dlT p u t m = dlT p u' t m := s_Ic ht (fun c _ _ => dlv_c hn h)
theorem dlv_b {p : Pl} {u : Int → Int} {t c m : Int} (hn : 0 ≤ p 87 ∧ p 87 ≤ 20) (h : UB p u) : 0 ≤ dlv p u t c m ∧ dlv p u t c m ≤ 1980 := by
  have := s_Ib (f := fun j => if p (88 + 5 * j + 1) = t ∧ p (88 + 5 * j + 2) = c ∧ p (88 + 5 * j + 3) = m then u j else 0) (n := p 87) (b := 99) hn.1 (fun j j0 j1 => by have := h j j0 j1; split <;> omega)
  unfold dlv
  omega
theorem dlT_b {p : Pl} {u : Int → Int} {t m : Int} (hn : 0 ≤ p 87 ∧ p 87 ≤ 20) (ht : 0 ≤ p (4 + t) ∧ p (4 + t) ≤ 5) (h : UB p u) : 0 ≤ dlT p u t m ∧ dlT p u t m ≤ 9900 := by
  have := s_Ib (f := fun c => dlv p u t c m) (n := p (4 + t)) (b := 1980) ht.1 (fun c _ _ => dlv_b hn h)
  unfold dlT
  omega
section CS
variable {ρ : Rf} {μ : Mem} {σ : Sg}
theorem CI.ub (h : CI ρ μ σ) (hS : SI σ) (hp : σ 0 4 = 1) : UB (σ 2) (μ 34) ∧ ∀ J j, 0 ≤ j → j < σ 2 87 → μ 34 j = sGo (σ 2) (-1) (-1) J 199 j := by
  obtain ⟨hv, hf, hs, hr⟩ := h.pl hS hp
  have n := hv.n
  refine ⟨fun j j0 j1 => ?_, fun J j j0 j1 => ((hr J).1 j j0 j1).1.2.2.2.1⟩
  have a := ((hr (fun _ _ => 0)).1 j j0 j1).1.2.2.2.1
  have b := (SV_go (p := σ 2) (wo := -1) (out := -1) (J := fun _ _ => 0) hv).2.2.2 j j0 (by omega)
  have e : μ (27 + 7) j = μ 34 j := rfl
  omega
theorem k_handedAt {t c m d : Int} (h : CI ρ μ σ) (hS : SI σ) (hp : σ 0 4 = 1) (ht : 0 ≤ t ∧ t < 2) (hc : 0 ≤ c ∧ c < 5) (hd : d = 5 * t + c) : qE mX7_handedAt GG GG [qP 0, qI d, qI m] ρ μ (fun z ρ' μ' => z = dlv (σ 2) (μ 34) t c m ∧ ρ' = ρ ∧ μ' = μ) := by
  obtain ⟨hv, hf, hs, hr⟩ := h.pl hS hp
  have n := hv.n
  have ub := (h.ub hS hp).1
  have hsn := hs.n
  subst hd
  have L : ∀ (k : Nat) (x : Int), (σ 2 87 - x).toNat < k → 0 ≤ x → x ≤ σ 2 87 → qX mX7_handedAt GG (fun z ρ' μ' => z = dlv (σ 2) (μ 34) t c m ∧ ρ' = ρ ∧ μ' = μ) GG (0, 0) 5 [some (qP 0), some (qI (5 * t + c)), some (qI m), some (qI (s_I (fun j => if σ 2 (88 + 5 * j + 1) = t ∧ σ 2 (88 + 5 * j + 2) = c ∧ σ 2 (88 + 5 * j + 3) = m then μ 34 j else 0) x)), some (qI x)] [] ρ μ := by
    intro k
    induction k with
    | zero => intro x h; omega
    | succ k ih =>
      intro x hk h0 h1
      have sb := s_Ib (f := fun j => if σ 2 (88 + 5 * j + 1) = t ∧ σ 2 (88 + 5 * j + 2) = c ∧ σ 2 (88 + 5 * j + 3) = m then μ 34 j else 0) (n := x) (b := 99) h0 (fun j j0 j1 => by have := ub j j0 (by omega); split <;> omega)
      have e := s_Is (f := fun j => if σ 2 (88 + 5 * j + 1) = t ∧ σ 2 (88 + 5 * j + 2) = c ∧ σ 2 (88 + 5 * j + 3) = m then μ 34 j else 0) h0
      refine w_X7_handedAt_5 ?_
      refine ⟨(by exact h.1.s), ?_⟩
      rw [hsn]
      refine ⟨fun hc2 => ?_, fun hc2 => ?_⟩
      · exact ⟨by rw [show x = σ 2 87 by omega]; rfl, rfl, rfl⟩
      · have a := hs.j h0 hc2
        have b := hv.j h0 hc2
        have tt := hv.t b.2.2.1 b.2.2.2.1
        have ubx := ub x h0 hc2
        refine ⟨(by omega), ?_⟩
        rw [a.2.1]
        refine ⟨fun hc5 => ?_, fun hc5 => ?_⟩
        · refine ⟨(by unfold i32; omega), ?_⟩
          rw [show (if σ 2 (88 + 5 * x + 1) = t ∧ σ 2 (88 + 5 * x + 2) = c ∧ σ 2 (88 + 5 * x + 3) = m then μ 34 x else 0) = 0 from if_neg (fun q => hc5 (by rw [q.1, q.2.1])), Int.add_zero] at e
          rw [← e]
          exact ih _ (by omega) (by omega) (by omega)
        · refine ⟨(by omega), ?_⟩
          rw [a.2.2.1]
          refine ⟨fun hc9 => ?_, fun hc9 => ?_⟩
          · refine ⟨(by unfold i32; omega), ?_⟩
            rw [show (if σ 2 (88 + 5 * x + 1) = t ∧ σ 2 (88 + 5 * x + 2) = c ∧ σ 2 (88 + 5 * x + 3) = m then μ 34 x else 0) = 0 from if_neg (fun q => hc9 q.2.2), Int.add_zero] at e
            rw [← e]
            exact ih _ (by omega) (by omega) (by omega)
          · refine ⟨(by omega), ?_⟩
            refine ⟨(by unfold i32; omega), ?_⟩
            refine ⟨(by unfold i32; omega), ?_⟩
            rw [show (if σ 2 (88 + 5 * x + 1) = t ∧ σ 2 (88 + 5 * x + 2) = c ∧ σ 2 (88 + 5 * x + 3) = m then μ 34 x else 0) = μ 34 x from if_pos (by omega)] at e
            rw [← e]
            exact ih _ (by omega) (by omega) (by omega)
  refine e_X7_handedAt ?_
  exact L _ 0 (Nat.lt_succ_self _) (by omega) (by omega)
theorem k_handedToTrain {t m : Int} (h : CI ρ μ σ) (hS : SI σ) (hp : σ 0 4 = 1) (ht : 0 ≤ t ∧ t < 2) : qE mX7_handedToTrain GG GG [qP 0, qI t, qI m] ρ μ (fun z ρ' μ' => z = dlT (σ 2) (μ 34) t m ∧ ρ' = ρ ∧ μ' = μ) := by
  obtain ⟨hv, hf, hs, hr⟩ := h.pl hS hp
  have n := hv.n
  have tt := hv.t ht.1 ht.2
  have ub := (h.ub hS hp).1
  have L : ∀ (k : Nat) (x : Int), (σ 2 (4 + t) - x).toNat < k → 0 ≤ x → x ≤ σ 2 (4 + t) → qX mX7_handedToTrain GG (fun z ρ' μ' => z = dlT (σ 2) (μ 34) t m ∧ ρ' = ρ ∧ μ' = μ) GG (0, 0) 5 [some (qP 0), some (qI t), some (qI m), some (qI (s_I (fun c => dlv (σ 2) (μ 34) t c m) x)), some (qI x)] [] ρ μ := by
    intro k
    induction k with
    | zero => intro x h; omega
    | succ k ih =>
      intro x hk h0 h1
      have sb := s_Ib (f := fun c => dlv (σ 2) (μ 34) t c m) (n := x) (b := 1980) h0 (fun j j0 j1 => dlv_b (by omega) ub)
      have bx := dlv_b (p := σ 2) (u := μ 34) (t := t) (c := x) (m := m) (by omega) ub
      refine w_X7_handedToTrain_5 ?_
      refine ⟨(by exact h.1.f), ?_⟩
      refine ⟨(by omega), ?_⟩
      rw [(hf.t ht.1 ht.2).2]
      refine ⟨fun hc3 => ?_, fun hc3 => ?_⟩
      · exact ⟨by rw [show x = σ 2 (4 + t) by omega]; rfl, rfl, rfl⟩
      · refine ⟨_, k_doorIndex (by omega) (by omega), ?_⟩
        rintro z2 ρ3 μ4 ⟨hq5_1, hq5_2, hq5_3⟩
        obtain rfl := hq5_1.symm
        obtain rfl := hq5_2.symm
        obtain rfl := hq5_3.symm
        refine ⟨_, k_handedAt h hS hp ht (by omega) rfl, ?_⟩
        rintro z6 ρ7 μ8 ⟨hq6_1, hq6_2, hq6_3⟩
        obtain rfl := hq6_1.symm
        obtain rfl := hq6_2.symm
        obtain rfl := hq6_3.symm
        refine ⟨(by unfold i32; omega), ?_⟩
        refine ⟨(by unfold i32; omega), ?_⟩
        rw [← s_Is (f := fun c => dlv (σ 2) (μ 34) t c m) h0]
        exact ih _ (by omega) (by omega) (by omega)
  refine e_X7_handedToTrain ?_
  exact L _ 0 (Nat.lt_succ_self _) (by omega) (by omega)
theorem k_wantedByTrain {t m : Int} (h : CI ρ μ σ) (hS : SI σ) (hp : σ 0 4 = 1) (ht : 0 ≤ t ∧ t < 2) (hm : 0 ≤ m ∧ m < σ 2 36) : qE mX7_wantedByTrain GG GG [qP 0, qI t, qI m] ρ μ (fun z ρ' μ' => z = dmT (σ 2) t m ∧ ρ' = ρ ∧ μ' = μ) := by
  obtain ⟨hv, hf, hs, hr⟩ := h.pl hS hp
  have n := hv.n
  have tt := hv.t ht.1 ht.2
  have L : ∀ (k : Nat) (x : Int), (σ 2 (4 + t) - x).toNat < k → 0 ≤ x → x ≤ σ 2 (4 + t) → qX mX7_wantedByTrain GG (fun z ρ' μ' => z = dmT (σ 2) t m ∧ ρ' = ρ ∧ μ' = μ) GG (0, 0) 5 [some (qP 0), some (qI t), some (qI m), some (qI (s_I (fun c => dem (σ 2) t c m) x)), some (qI x)] [] ρ μ := by
    intro k
    induction k with
    | zero => intro x h; omega
    | succ k ih =>
      intro x hk h0 h1
      have sb := s_Ib (f := fun c => dem (σ 2) t c m) (n := x) (b := 396) h0 (fun j j0 j1 => dem_b hv ht.1 ht.2 j0 (by omega) hm.1 hm.2)
      refine w_X7_wantedByTrain_5 ?_
      refine ⟨(by exact h.1.f), ?_⟩
      refine ⟨(by omega), ?_⟩
      rw [(hf.t ht.1 ht.2).2]
      refine ⟨fun hc3 => ?_, fun hc3 => ?_⟩
      · exact ⟨by rw [show x = σ 2 (4 + t) by omega]; rfl, rfl, rfl⟩
      · refine ⟨_, k_doorIndex (by omega) (by omega), ?_⟩
        rintro z2 ρ3 μ4 ⟨hq5_1, hq5_2, hq5_3⟩
        obtain rfl := hq5_1.symm
        obtain rfl := hq5_2.symm
        obtain rfl := hq5_3.symm
        refine ⟨(by exact h.1.f), ?_⟩
        refine ⟨_, k_wanted h.1.f hf hv (t := t) (c := x) ht.1 ht.2 h0 hc3 hm.1 hm.2 rfl, ?_⟩
        rintro z7 ρ8 μ9 ⟨hq7_1, hq7_2, hq7_3⟩
        obtain rfl := hq7_1.symm
        obtain rfl := hq7_2.symm
        obtain rfl := hq7_3.symm
        have bx := dem_b hv ht.1 ht.2 h0 hc3 hm.1 hm.2
        refine ⟨(by unfold i32; omega), ?_⟩
        refine ⟨(by unfold i32; omega), ?_⟩
        rw [← s_Is (f := fun c => dem (σ 2) t c m) h0]
        exact ih _ (by omega) (by omega) (by omega)
  refine e_X7_wantedByTrain ?_
  exact L _ 0 (Nat.lt_succ_self _) (by omega) (by omega)
theorem c_delivered {t c m : Int} (h : CI ρ μ σ) (hS : SI σ) : qE mX7_delivered GG GG [qP 0, qI t, qI c, qI m] ρ μ (PC μ ρ (fun J => if σ 0 4 = 1 ∧ 0 ≤ t ∧ t < 2 ∧ 0 ≤ c ∧ c < σ 2 (4 + t) ∧ 0 ≤ m ∧ m < σ 2 36 then dlv (σ 2) (sGo (σ 2) (-1) (-1) J 199) t c m else -2147483648) (sE σ (if σ 0 4 = 1 ∧ 0 ≤ t ∧ t < 2 ∧ 0 ≤ c ∧ c < σ 2 (4 + t) ∧ 0 ≤ m ∧ m < σ 2 36 then 0 else 1))) := by
  refine e_X7_delivered ?_
  refine ⟨_, k_isCarMeal (by assumption) (by assumption), ?_⟩
  rintro z1 ρ2 μ3 ⟨hz, hq1_1, hq1_2⟩
  obtain rfl := hq1_1.symm
  obtain rfl := hq1_2.symm
  refine ⟨fun hc2 => ?_, fun hc2 => ?_⟩
  · have hv := (h.pl hS (by omega)).1
    have tt := hv.t (t := t) (by omega) (by omega)
    have n := hv.n
    refine ⟨_, k_doorIndex (by omega) (by omega), ?_⟩
    rintro z5 ρ6 μ7 ⟨hq3_1, hq3_2, hq3_3⟩
    obtain rfl := hq3_1.symm
    obtain rfl := hq3_2.symm
    obtain rfl := hq3_3.symm
    refine ⟨_, k_handedAt h hS (by omega) (t := t) (c := c) (by omega) (by omega) rfl, ?_⟩
    rintro z9 ρ10 μ11 ⟨hq4_1, hq4_2, hq4_3⟩
    obtain rfl := hq4_1.symm
    obtain rfl := hq4_2.symm
    obtain rfl := hq4_3.symm
    refine ⟨_, k_answer, ?_⟩
    rintro z13 ρ14 μ15 ⟨hq5_1, hq5_2, hq5_3⟩
    obtain rfl := hq5_1.symm
    obtain rfl := hq5_2.symm
    obtain rfl := hq5_3.symm
    exact pc_fin h hS FR.refl (fun J => by rw [if_pos (by omega)]; exact dlv_c (by omega) ((h.ub hS (by omega)).2 J)) (by rw [if_pos (by omega)])
  · refine ⟨_, k_fail, ?_⟩
    rintro z17 ρ18 μ19 ⟨hq7_1, hq7_2, hq7_3⟩
    obtain rfl := hq7_1.symm
    obtain rfl := hq7_2.symm
    obtain rfl := hq7_3.symm
    exact pc_fin h hS FR.refl (fun J => (if_neg (by omega)).symm) (by rw [if_neg (by omega)])
theorem c_shortage {t c m : Int} (h : CI ρ μ σ) (hS : SI σ) : qE mX7_shortage GG GG [qP 0, qI t, qI c, qI m] ρ μ (PC μ ρ (fun J => if σ 0 4 = 1 ∧ 0 ≤ t ∧ t < 2 ∧ 0 ≤ c ∧ c < σ 2 (4 + t) ∧ 0 ≤ m ∧ m < σ 2 36 then max 0 (dem (σ 2) t c m - dlv (σ 2) (sGo (σ 2) (-1) (-1) J 199) t c m) else -2147483648) (sE σ (if σ 0 4 = 1 ∧ 0 ≤ t ∧ t < 2 ∧ 0 ≤ c ∧ c < σ 2 (4 + t) ∧ 0 ≤ m ∧ m < σ 2 36 then 0 else 1))) := by
  refine e_X7_shortage ?_
  refine ⟨_, k_isCarMeal (by assumption) (by assumption), ?_⟩
  rintro z1 ρ2 μ3 ⟨hz, hq1_1, hq1_2⟩
  obtain rfl := hq1_1.symm
  obtain rfl := hq1_2.symm
  refine ⟨fun hc2 => ?_, fun hc2 => ?_⟩
  · obtain ⟨hv, hf, hs, hr⟩ := h.pl hS (by omega)
    have tt := hv.t (t := t) (by omega) (by omega)
    have n := hv.n
    have db := dem_b hv (t := t) (c := c) (m := m) (by omega) (by omega) (by omega) (by omega) (by omega) (by omega)
    have lb := dlv_b (p := σ 2) (u := μ 34) (t := t) (c := c) (m := m) (by omega) (h.ub hS (by omega)).1
    refine ⟨_, k_doorIndex (by omega) (by omega), ?_⟩
    rintro z5 ρ6 μ7 ⟨hq3_1, hq3_2, hq3_3⟩
    obtain rfl := hq3_1.symm
    obtain rfl := hq3_2.symm
    obtain rfl := hq3_3.symm
    refine ⟨(by exact h.1.f), ?_⟩
    refine ⟨_, k_wanted h.1.f hf hv (t := t) (c := c) (by omega) (by omega) (by omega) (by omega) (by omega) (by omega) rfl, ?_⟩
    rintro z10 ρ11 μ12 ⟨hq5_1, hq5_2, hq5_3⟩
    obtain rfl := hq5_1.symm
    obtain rfl := hq5_2.symm
    obtain rfl := hq5_3.symm
    refine ⟨_, k_handedAt h hS (by omega) (t := t) (c := c) (by omega) (by omega) rfl, ?_⟩
    rintro z14 ρ15 μ16 ⟨hq6_1, hq6_2, hq6_3⟩
    obtain rfl := hq6_1.symm
    obtain rfl := hq6_2.symm
    obtain rfl := hq6_3.symm
    refine ⟨(by unfold i32; omega), ?_⟩
    refine ⟨_, k_answer, ?_⟩
    rintro z18 ρ19 μ20 ⟨hq8_1, hq8_2, hq8_3⟩
    obtain rfl := hq8_1.symm
    obtain rfl := hq8_2.symm
    obtain rfl := hq8_3.symm
    exact pc_fin h hS FR.refl (fun J => by rw [if_pos (by omega), dlv_c (by omega) ((h.ub hS (by omega)).2 J)]) (by rw [if_pos (by omega)])
  · refine ⟨_, k_fail, ?_⟩
    rintro z22 ρ23 μ24 ⟨hq10_1, hq10_2, hq10_3⟩
    obtain rfl := hq10_1.symm
    obtain rfl := hq10_2.symm
    obtain rfl := hq10_3.symm
    exact pc_fin h hS FR.refl (fun J => (if_neg (by omega)).symm) (by rw [if_neg (by omega)])
def lft (p : Pl) (S : Mem) (i : Int) : Int → Int := fun j => if p (88 + 5 * j + 0) = i then S 196 j - S 199 j else 0
def wtg (p : Pl) (S : Mem) (i : Int) : Int → Int := fun j => if p (88 + 5 * j + 0) = i ∧ 0 < S 199 j then S 198 j - S 197 j else 0
def bsy (p : Pl) (S : Mem) (t c : Int) : Int → Int := fun j => if p (88 + 5 * j + 1) = t ∧ p (88 + 5 * j + 2) = c then S 199 j * p (62 + 5 * p (88 + 5 * j + 0) + 4) else 0
def m_N (f : Int → Int) : Nat → Int
  | 0 => 0
  | k + 1 => max (m_N f k) (f (k : Int))
def m_I (f : Int → Int) (n : Int) : Int := m_N f n.toNat
theorem m_Is {f : Int → Int} {n : Int} (h : 0 ≤ n) : m_I f (n + 1) = max (m_I f n) (f n) := by
  unfold m_I
  have e : (n + 1).toNat = n.toNat + 1 := by omega
  have e2 : ((n.toNat : Nat) : Int) = n := Int.toNat_of_nonneg h
  rw [e]
  show max (m_N f n.toNat) (f ((n.toNat : Nat) : Int)) = _
  rw [e2]
theorem m_I0 {f : Int → Int} {n : Int} (hn : 0 ≤ n) : 0 ≤ m_I f n := by
  refine i_ind (P := fun n => 0 ≤ m_I f n) (Int.le_refl _) ?_ n hn
  intro n hn ih
  rw [m_Is hn]
  omega
theorem m_Ic {f g : Int → Int} {n : Int} (hn : 0 ≤ n) (h : ∀ j, 0 ≤ j → j < n → f j = g j) : m_I f n = m_I g n := by
  revert h
  refine i_ind (P := fun n => (∀ j, 0 ≤ j → j < n → f j = g j) → m_I f n = m_I g n) ?_ ?_ n hn
  · intro _; rfl
  · intro n hn ih h
    rw [m_Is hn, m_Is hn, ih (fun j h1 h2 => h j h1 (by omega)), h n hn (by omega)]
theorem c_leftBehind {i : Int} (h : CI ρ μ σ) (hS : SI σ) : qE mX7_leftBehind GG GG [qP 0, qI i] ρ μ (PC μ ρ (fun J => if σ 0 4 = 1 ∧ 0 ≤ i ∧ i < σ 2 61 then s_I (lft (σ 2) (sGo (σ 2) (-1) (-1) J) i) (σ 2 87) else -2147483648) (sE σ (if σ 0 4 = 1 ∧ 0 ≤ i ∧ i < σ 2 61 then 0 else 1))) := by
  have L : (σ 0 4 = 1 ∧ 0 ≤ i ∧ i < σ 2 61) → ∀ (k : Nat) (x y : Int), (σ 2 87 - x).toNat < k → 0 ≤ x → x ≤ σ 2 87 → (∀ J, y = s_I (lft (σ 2) (sGo (σ 2) (-1) (-1) J) i) x) → qX mX7_leftBehind GG (PC μ ρ (fun J => if σ 0 4 = 1 ∧ 0 ≤ i ∧ i < σ 2 61 then s_I (lft (σ 2) (sGo (σ 2) (-1) (-1) J) i) (σ 2 87) else -2147483648) (sE σ (if σ 0 4 = 1 ∧ 0 ≤ i ∧ i < σ 2 61 then 0 else 1))) GG (0, 0) 18 [some (qP 0), some (qI i), some (qI y), some (qI x)] [] ρ μ := by
    intro hi
    obtain ⟨hv, hf, hs, hr⟩ := h.pl hS hi.1
    have n := hv.n
    have hsn := hs.n
    intro k
    induction k with
    | zero => intro x y h; omega
    | succ k ih =>
      intro x y hk h0 h1 hy
      have rng : ∀ j, 0 ≤ j → j < σ 2 87 → 0 ≤ lft (σ 2) (sGo (σ 2) (-1) (-1) μ) i j ∧ lft (σ 2) (sGo (σ 2) (-1) (-1) μ) i j ≤ 99 := fun j j0 j1 => by
        have a := ((hr μ).1 j j0 j1).2.1
        have b := (SV_go (p := σ 2) (wo := -1) (out := -1) (J := μ) hv).2.2.2 j j0 (by omega)
        unfold ROk at a
        unfold lft
        split <;> omega
      have sb := s_Ib (f := lft (σ 2) (sGo (σ 2) (-1) (-1) μ) i) (n := x) (b := 99) h0 (fun j j0 j1 => rng j j0 (by omega))
      have hy0 := hy μ
      refine w_X7_leftBehind_18 ?_
      refine ⟨(by exact h.1.s), ?_⟩
      rw [hsn]
      refine ⟨fun hc2 => ?_, fun hc2 => ?_⟩
      · refine ⟨_, k_answer, ?_⟩
        rintro z2 ρ3 μ4 ⟨hq3_1, hq3_2, hq3_3⟩
        obtain rfl := hq3_1.symm
        obtain rfl := hq3_2.symm
        obtain rfl := hq3_3.symm
        exact pc_fin h hS FR.refl (fun J => by rw [if_pos hi, hy J, show x = σ 2 87 by omega]) (by rw [if_pos hi])
      · refine ⟨(by omega), ?_⟩
        rw [(hs.j h0 hc2).1]
        refine ⟨fun hc6 => ?_, fun hc6 => ?_⟩
        · refine ⟨(by unfold i32; omega), ?_⟩
          refine ih _ _ (by omega) (by omega) (by omega) (fun J => ?_)
          rw [s_Is h0, ← hy J]
          unfold lft
          rw [if_neg hc6]
          omega
        · have cj : ∀ J, μ 29 x = sGo (σ 2) (-1) (-1) J 196 x ∧ μ 34 x = sGo (σ 2) (-1) (-1) J 199 x := fun J => ⟨((hr J).1 x h0 hc2).1.2.1, ((hr J).1 x h0 hc2).1.2.2.2.1⟩
          have rx := rng x h0 hc2
          have cx := cj μ
          unfold lft at rx
          rw [if_pos hc6] at rx
          refine ⟨(by omega), ?_⟩
          refine ⟨(by omega), ?_⟩
          refine ⟨(by unfold i32; omega), ?_⟩
          refine ⟨(by unfold i32; omega), ?_⟩
          refine ⟨(by unfold i32; omega), ?_⟩
          refine ih _ _ (by omega) (by omega) (by omega) (fun J => ?_)
          rw [s_Is h0, ← hy J]
          unfold lft
          rw [if_pos hc6, (cj J).1, (cj J).2]
  refine e_X7_leftBehind ?_
  refine ⟨_, k_isTrolley (by assumption) (by assumption), ?_⟩
  rintro z1 ρ2 μ3 ⟨hz, hq1_1, hq1_2⟩
  obtain rfl := hq1_1.symm
  obtain rfl := hq1_2.symm
  refine ⟨fun hc2 => ?_, fun hc2 => ?_⟩
  · have hv := (h.pl hS (by omega)).1
    have n := hv.n
    exact L (by omega) _ 0 0 (Nat.lt_succ_self _) (by omega) (by omega) (fun J => rfl)
  · refine ⟨_, k_fail, ?_⟩
    rintro z5 ρ6 μ7 ⟨hq4_1, hq4_2, hq4_3⟩
    obtain rfl := hq4_1.symm
    obtain rfl := hq4_2.symm
    obtain rfl := hq4_3.symm
    exact pc_fin h hS FR.refl (fun J => (if_neg (by omega)).symm) (by rw [if_neg (by omega)])
end CS
