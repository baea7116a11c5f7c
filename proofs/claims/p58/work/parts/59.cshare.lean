/-! ===== the class shares out ===== -/
theorem lSh_c {n a : Int} {cl cl' : Int → Int} (hn : 1 ≤ n) (h : ∀ j, 0 ≤ j → j < n → cl j = cl' j) : ∀ j, 0 ≤ j → j < n → lSh n cl a j = lSh n cl' a j := fun j j0 j1 => by
  have es : s_I cl n = s_I cl' n := s_Ic (by omega) h
  have ag : agF n (q0 n cl a) (q0 n cl' a) := fun k k0 k1 => by
    show a * cl k / s_I cl n = a * cl' k / s_I cl' n ∧ a * cl k % s_I cl n = a * cl' k % s_I cl' n
    rw [es, h k k0 k1]
    exact ⟨rfl, rfl⟩
  have e2 : s_I (q0 n cl a).1 n = s_I (q0 n cl' a).1 n := s_Ic (by omega) (fun k k0 k1 => (ag k k0 k1).1)
  unfold lSh
  rw [es, e2]
  split
  · exact h j j0 j1
  · exact (shI_c hn _ _ _ ag j j0 j1).1
section CX
variable {ρ : Rf} {μ : Mem} {σ : Sg}
/-- what the class scribbles in is no part of what holds between calls -/
theorem CI.scr {μ' : Mem} (h : CI ρ μ σ) (hS : SI σ) (hf : ∀ a, (a < 41 ∨ (61 < a ∧ a < 141) ∨ 154 < a) → μ' a = μ a) : CI ρ μ' σ := by
  obtain ⟨h1, h2, h3, h4, h5, h6, h7, h8, h9, h10⟩ := h
  have fn := h1.fn
  unfold CI
  rw [hf 0 (by omega), hf 1 (by omega), hf 2 (by omega)]
  refine ⟨h1, h2, h3, h4, h5, h6, h7, h8, h9, fun hp => ?_⟩
  obtain ⟨a, b, d, f, g⟩ := h10 hp
  refine ⟨a.ag (fun x x0 x1 => hf x (by omega)), b.ag (fun x x0 x1 => hf x (by omega)), ?_, ⟨?_, fun i i0 i1 => ?_⟩, fun hq => (g hq).ag (fun x x0 x1 => hf x (by omega))⟩
  · unfold RP CJ
    rw [hf (27 + 1) (by omega), hf (27 + 2) (by omega), hf (27 + 3) (by omega), hf (27 + 4) (by omega), hf (27 + 5) (by omega), hf (27 + 6) (by omega), hf (27 + 7) (by omega), hf (27 + 8) (by omega), hf (27 + 9) (by omega), hf 27 (by omega)]
    exact d
  · rw [hf 69 (by omega)]; exact f.1
  · have q := h2.1 i i0 (by have := hS.2.2.2.2.2.1; omega)
    exact (f.2 i i0 i1).ag (fun x x0 x1 => hf x (by omega))
theorem k_clear4 : qE mX4_clear GG GG [qP 151] ρ μ (fun _ ρ' μ' => ρ' = ρ ∧ μ' = up2 (up2 μ 151 3 0) 151 4 0) := by
  refine e_X4_clear ?_
  intro μ1 eμ1; subst eμ1
  intro μ2 eμ2; subst eμ2
  exact ⟨rfl, rfl⟩
theorem k_addClaim {n x : Int} (h3 : μ 151 3 = n) (hn : 0 ≤ n ∧ n < 10) (hx : 0 ≤ x ∧ x ≤ 10000) (h4 : 0 ≤ μ 151 4 ∧ μ 151 4 ≤ 100000) : qE mX4_addClaim GG GG [qP 151, qI x] ρ μ (fun _ ρ' μ' => ρ' = ρ ∧ μ' = up2 (up2 (up2 μ 152 n x) 151 4 (μ 151 4 + x)) 151 3 (n + 1)) := by
  subst h3
  refine e_X4_addClaim ?_
  refine ⟨fun hc1 => ?_, fun hc1 => ?_⟩
  · omega
  · refine ⟨(by omega), ?_⟩
    intro μ1 eμ1; subst eμ1
    rw [up2_c (show 151 ≠ 152 by decide)]
    refine ⟨(by unfold i32; omega), ?_⟩
    intro μ2 eμ2; subst eμ2
    rw [up2_k (show (3 : Int) ≠ 4 by decide), up2_c (show 151 ≠ 152 by decide)]
    refine ⟨(by unfold i32; omega), ?_⟩
    intro μ3 eμ3; subst eμ3
    exact ⟨rfl, rfl⟩
theorem k_addClaims {t m n : Int} (h : CI ρ μ σ) (hS : SI σ) (hp : σ 0 4 = 1) (ht : 0 ≤ t ∧ t < 2) (hm : 0 ≤ m ∧ m < σ 2 36) (h3 : μ 151 3 = n) (hn : 0 ≤ n ∧ n ≤ 5) (h4 : μ 151 4 = s_I (μ 152) n) (hc : ∀ j, 0 ≤ j → j < n → 0 ≤ μ 152 j ∧ μ 152 j ≤ 396) : qE mX7_addClaims GG GG [qP 0, qI t, qI m] ρ μ (fun (_ : Int) (ρ' : Rf) (μ' : Mem) => ρ' = ρ ∧ FR 151 152 μ μ' ∧ μ' 151 3 = n + σ 2 (4 + t) ∧ (∀ j, 0 ≤ j → j < n → μ' 152 j = μ 152 j) ∧ (∀ c, 0 ≤ c → c < σ 2 (4 + t) → μ' 152 (n + c) = dem (σ 2) t c m) ∧ μ' 151 4 = s_I (μ' 152) (n + σ 2 (4 + t))) := by
  obtain ⟨hv, hf, hs, hr⟩ := h.pl hS hp
  have nn := hv.n
  have tt := hv.t ht.1 ht.2
  have fn := h.1.fn
  have L : ∀ (k : Nat) (x : Int) (ν : Mem), (σ 2 (4 + t) - x).toNat < k → 0 ≤ x → x ≤ σ 2 (4 + t) → FR 151 152 μ ν → ν 151 3 = n + x → (∀ j, 0 ≤ j → j < n → ν 152 j = μ 152 j) → (∀ c, 0 ≤ c → c < x → ν 152 (n + c) = dem (σ 2) t c m) → ν 151 4 = s_I (ν 152) (n + x) → qX mX7_addClaims GG (fun (_ : Int) (ρ' : Rf) (μ' : Mem) => ρ' = ρ ∧ FR 151 152 μ μ' ∧ μ' 151 3 = n + σ 2 (4 + t) ∧ (∀ j, 0 ≤ j → j < n → μ' 152 j = μ 152 j) ∧ (∀ c, 0 ≤ c → c < σ 2 (4 + t) → μ' 152 (n + c) = dem (σ 2) t c m) ∧ μ' 151 4 = s_I (μ' 152) (n + σ 2 (4 + t))) GG (0, 0) 2 [some (qP 0), some (qI t), some (qI m), some (qI x)] [] ρ ν := by
    intro k
    induction k with
    | zero => intro x ν h; omega
    | succ k ih =>
      intro x ν hk h0 h1 hfr g3 ga gb g4
      have hf1 : FP ν (ρ 0 8) (σ 2) := hf.ag (hfr.ag (by omega))
      have cl : ∀ j, 0 ≤ j → j < n + x → 0 ≤ ν 152 j ∧ ν 152 j ≤ 396 := fun j j0 j1 => by
        by_cases hj : j < n
        · rw [ga j j0 hj]; exact hc j j0 hj
        · have e := gb (j - n) (by omega) (by omega)
          rw [show n + (j - n) = j by omega] at e
          rw [e]
          exact dem_b hv ht.1 ht.2 (by omega) (by omega) hm.1 hm.2
      have sb := s_Ib (f := ν 152) (n := n + x) (b := 396) (by omega) cl
      refine w_X7_addClaims_2 ?_
      refine ⟨(by exact h.1.f), ?_⟩
      refine ⟨(by omega), ?_⟩
      rw [(hf1.t ht.1 ht.2).2]
      refine ⟨fun hc3 => ?_, fun hc3 => ?_⟩
      · have e : x = σ 2 (4 + t) := by omega
        subst e
        exact ⟨rfl, hfr, g3, ga, gb, g4⟩
      · refine ⟨_, k_doorIndex (by omega) (by omega), ?_⟩
        rintro z2 ρ3 μ4 ⟨hq5_1, hq5_2, hq5_3⟩
        obtain rfl := hq5_1.symm
        obtain rfl := hq5_2.symm
        obtain rfl := hq5_3.symm
        refine ⟨(by exact h.1.f), ?_⟩
        refine ⟨_, k_wanted h.1.f hf1 hv (t := t) (c := x) ht.1 ht.2 h0 hc3 hm.1 hm.2 rfl, ?_⟩
        rintro z7 ρ8 μ9 ⟨hq7_1, hq7_2, hq7_3⟩
        obtain rfl := hq7_1.symm
        obtain rfl := hq7_2.symm
        obtain rfl := hq7_3.symm
        have db := dem_b hv ht.1 ht.2 h0 hc3 hm.1 hm.2
        refine ⟨_, k_addClaim g3 (by omega) (by omega) (by omega), ?_⟩
        rintro z11 ρ12 μ13 ⟨hq8_1, hq8_2⟩
        obtain rfl := hq8_1.symm
        obtain rfl := hq8_2.symm
        refine ⟨(by unfold i32; omega), ?_⟩
        refine ih _ _ (by omega) (by omega) (by omega) (FR.up (FR.up (FR.up hfr (by omega)) (by omega)) (by omega)) ?_ (fun j j0 j1 => ?_) (fun c c0 c1 => ?_) ?_
        · rw [up2_s]; omega
        · rw [up2_c (by decide), up2_c (by decide), up2_k (by omega)]; exact ga j j0 j1
        · rw [up2_c (by decide), up2_c (by decide)]
          by_cases hcx : c = x
          · rw [hcx, up2_s]
          · rw [up2_k (by omega)]; exact gb c c0 (by omega)
        · rw [up2_k (by decide), up2_s, up2_c (show 152 ≠ 151 by decide), up2_c (show 152 ≠ 151 by decide), up2_u, show n + (x + 1) = n + x + 1 by omega, s_Is (by omega), u1_s, g4]
          congr 1
          exact s_Ic (by omega) (fun j j0 j1 => (u1_n (by omega)).symm)
  refine e_X7_addClaims ?_
  exact L _ 0 μ (Nat.lt_succ_self _) (by omega) (by omega) FR.refl (by omega) (fun _ _ _ => rfl) (fun c a b => by omega) (by rw [h4, Int.add_zero])
theorem k_shareInTrain {t m : Int} (h : CI ρ μ σ) (hS : SI σ) (hp : σ 0 4 = 1) (ht : 0 ≤ t ∧ t < 2) (hm : 0 ≤ m ∧ m < σ 2 36) : qE mX7_shareInTrain GG GG [qP 0, qI t, qI m] ρ μ (fun (_ : Int) (ρ' : Rf) (μ' : Mem) => ρ' = ρ ∧ FR 151 154 μ μ' ∧ ∀ J c, 0 ≤ c → c < σ 2 (4 + t) → μ' 154 c = lSh (σ 2 (4 + t)) (fun c => dem (σ 2) t c m) (dlT (σ 2) (sGo (σ 2) (-1) (-1) J 199) t m) c) := by
  obtain ⟨hv, hf, hs, hr⟩ := h.pl hS hp
  have nn := hv.n
  have tt := hv.t ht.1 ht.2
  have ub := h.ub hS hp
  refine e_X7_shareInTrain ?_
  refine ⟨_, k_clear4, ?_⟩
  rintro z1 ρ2 μ3 ⟨hq1_1, hq1_2⟩
  obtain rfl := hq1_1.symm
  obtain rfl := hq1_2.symm
  have f0 : FR 151 152 μ (up2 (up2 μ 151 3 0) 151 4 0) := FR.up (FR.up FR.refl (by omega)) (by omega)
  have h1 : CI ρ (up2 (up2 μ 151 3 0) 151 4 0) σ := h.scr hS (fun a ha => f0 a (by omega))
  refine ⟨_, k_addClaims (n := 0) h1 hS hp ht hm (by rw [up2_k (by decide), up2_s]) (by omega) (by rw [up2_s]; rfl) (fun j a b => by omega), ?_⟩
  rintro z5 ρ6 μ7 ⟨hq2_1, f1, a1, a2, a3, a4⟩
  obtain rfl := hq2_1.symm
  have f2 := f0.trans f1
  have h2 : CI ρ μ7 σ := h.scr hS (fun a ha => f2 a (by omega))
  have e34 : μ7 34 = μ 34 := f2 34 (by omega)
  refine ⟨_, k_handedToTrain h2 hS hp ht, ?_⟩
  rintro z9 ρ10 μ11 ⟨hq3_1, hq3_2, hq3_3⟩
  obtain rfl := hq3_1.symm
  obtain rfl := hq3_2.symm
  obtain rfl := hq3_3.symm
  rw [e34]
  have lb := dlT_b (p := σ 2) (u := μ 34) (t := t) (m := m) (by omega) (by omega) ub.1
  have a3' : ∀ j, 0 ≤ j → j < σ 2 (4 + t) → μ7 152 j = dem (σ 2) t j m := fun j j0 j1 => by
    have := a3 j j0 j1
    rwa [Int.zero_add] at this
  refine ⟨_, k_shareOut (n := σ 2 (4 + t)) (by omega) (by rw [Int.zero_add] at a4; exact a4) (by omega) (by omega) (fun j j0 j1 => by rw [a3' j j0 j1]; exact dem_b hv ht.1 ht.2 j0 j1 hm.1 hm.2), ?_⟩
  rintro z13 ρ14 μ15 ⟨hq4_1, f3, s3⟩
  obtain rfl := hq4_1.symm
  refine ⟨rfl, (f2.mono (by omega) (by omega)).trans f3, fun J c c0 c1 => ?_⟩
  rw [s3 c c0 c1, lSh_c (by omega) a3' c c0 c1, dlT_c (by omega) (by omega) (ub.2 J)]
theorem c_share {t c m : Int} (h : CI ρ μ σ) (hS : SI σ) : qE mX7_share GG GG [qP 0, qI t, qI c, qI m] ρ μ (PC μ ρ (fun J => if σ 0 4 = 1 ∧ 0 ≤ t ∧ t < 2 ∧ 0 ≤ c ∧ c < σ 2 (4 + t) ∧ 0 ≤ m ∧ m < σ 2 36 then lSh (σ 2 (4 + t)) (fun c => dem (σ 2) t c m) (dlT (σ 2) (sGo (σ 2) (-1) (-1) J 199) t m) c else -2147483648) (sE σ (if σ 0 4 = 1 ∧ 0 ≤ t ∧ t < 2 ∧ 0 ≤ c ∧ c < σ 2 (4 + t) ∧ 0 ≤ m ∧ m < σ 2 36 then 0 else 1))) := by
  refine e_X7_share ?_
  refine ⟨_, k_isCarMeal (by assumption) (by assumption), ?_⟩
  rintro z1 ρ2 μ3 ⟨hz, hq1_1, hq1_2⟩
  obtain rfl := hq1_1.symm
  obtain rfl := hq1_2.symm
  refine ⟨fun hc2 => ?_, fun hc2 => ?_⟩
  · have tt := (h.pl hS (by omega)).1.t (t := t) (by omega) (by omega)
    refine ⟨_, k_shareInTrain h hS (by omega) (t := t) (m := m) (by omega) (by omega), ?_⟩
    rintro z5 ρ6 μ7 ⟨hq3_1, f1, s1⟩
    obtain rfl := hq3_1.symm
    refine ⟨(by omega), ?_⟩
    refine ⟨_, k_answer, ?_⟩
    rintro z9 ρ10 μ11 ⟨hq5_1, hq5_2, hq5_3⟩
    obtain rfl := hq5_1.symm
    obtain rfl := hq5_2.symm
    obtain rfl := hq5_3.symm
    exact pc_fin (h.scr hS (fun a ha => f1 a (by omega))) hS (f1.mono (by omega) (by omega)) (fun J => by rw [if_pos (by omega)]; exact s1 J c (by omega) (by omega)) (by rw [if_pos (by omega)])
  · refine ⟨_, k_fail, ?_⟩
    rintro z13 ρ14 μ15 ⟨hq7_1, hq7_2, hq7_3⟩
    obtain rfl := hq7_1.symm
    obtain rfl := hq7_2.symm
    obtain rfl := hq7_3.symm
    exact pc_fin h hS FR.refl (fun J => (if_neg (by omega)).symm) (by rw [if_neg (by omega)])
def car (p : Pl) (u : Int → Int) (t m : Int) : Int := s_I (fun c => max 0 (lSh (p (4 + t)) (fun c => dem p t c m) (dlT p u t m) c - dlv p u t c m)) (p (4 + t))
end CX
