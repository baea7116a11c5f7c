/-! ===== what holds between calls ===== -/
abbrev Sg : Type := Nat → Int → Int
def OKP (p : Pl) : Prop := PV p ∧ p 2 ≤ 999 ∧ p 3 ≤ 999 ∧ (∀ i, cnt p i ≤ 8) ∧ ∀ k, k < 0 ∨ 188 ≤ k → p k = 0
def FEq (p q : Pl) : Prop := ∀ k, (0 ≤ k ∧ k < 2) ∨ (4 ≤ k ∧ k < 49) ∨ (61 ≤ k ∧ k < 87) → q k = p k
def SI (σ : Sg) : Prop :=
  0 ≤ σ 0 0 ∧ σ 0 0 ≤ 900 ∧ (σ 0 4 = 0 ∨ σ 0 4 = 1) ∧ (σ 0 5 = 0 ∨ σ 0 5 = 1) ∧ 0 ≤ σ 0 6 ∧ σ 0 6 ≤ 10 ∧ (∀ k, 0 ≤ σ 1 k ∧ σ 1 k ≤ 255) ∧ (∀ k, k < 0 ∨ 188 ≤ k → σ 2 k = 0) ∧
  (σ 0 4 = 1 → OKP (σ 2) ∧ (∀ i, 0 ≤ i → i < σ 0 6 → OKP (σ (4 + i.toNat)) ∧ FEq (σ 2) (σ (4 + i.toNat))) ∧ (σ 0 5 = 1 → OKP (σ 3) ∧ FEq (σ 2) (σ 3)))
def CF (ρ : Rf) : Prop := (ρ 0 8 = 155 ∧ ρ 0 9 = 171 ∧ ρ 1 5 = 4 ∧ ρ 1 6 = 20) ∨ (ρ 0 8 = 4 ∧ ρ 0 9 = 20 ∧ ρ 1 5 = 155 ∧ ρ 1 6 = 171)
def sb (b : Int) : Int := if b < 128 then b else b - 256
def CI (ρ : Rf) (μ : Mem) (σ : Sg) : Prop :=
  CF ρ ∧ HPm ρ ∧ μ 1 2 = σ 0 0 ∧ (∀ k, 0 ≤ k → k < σ 0 0 → μ 2 k = sb (σ 1 k)) ∧ μ 1 3 = σ 0 1 ∧ μ 1 4 = σ 0 2 ∧ μ 0 12 = σ 0 3 ∧ μ 0 10 = σ 0 4 ∧ μ 0 11 = σ 0 5 ∧
  (σ 0 4 = 1 → FP μ (ρ 0 8) (σ 2) ∧ SP μ (ρ 0 9) (σ 2) ∧ RP (σ 2) 27 μ ∧ HS ρ μ (σ 0 6) (fun i => σ (4 + i.toNat)) ∧ (σ 0 5 = 1 → SP μ 62 (σ 3)))
def sE (σ : Sg) (c : Int) : Sg := up2 σ 0 3 c
theorem sE_c {σ : Sg} {c : Int} {a : Nat} (h : a ≠ 0) : sE σ c a = σ a := up2_c h
theorem sE_k {σ : Sg} {c k : Int} (h : k ≠ 3) : sE σ c 0 k = σ 0 k := up2_k h
theorem sE_3 {σ : Sg} {c : Int} : sE σ c 0 3 = c := up2_s
theorem SI.e {σ : Sg} {c : Int} (h : SI σ) : SI (sE σ c) := by
  unfold SI
  have e : ∀ i : Int, sE σ c (4 + i.toNat) = σ (4 + i.toNat) := fun i => sE_c (by omega)
  simp (disch := omega) only [sE_k, sE_c, e]
  exact h
def PC (μ : Mem) (ρ : Rf) (v : Mem → Int) (σ' : Sg) : Int → Rf → Mem → Prop := fun z ρ' μ' => (∀ J, z = v J) ∧ CI ρ' μ' σ' ∧ FR 0 177 μ μ' ∧ ∀ a, 178 ≤ a → ρ' a = ρ a
section CIs
variable {ρ : Rf} {μ : Mem} {σ : Sg}
theorem CF.f (h : CF ρ) : isO 0 (ρ 0 8) := by rcases h with h | h <;> (rw [h.1]; rfl)
theorem CF.s (h : CF ρ) : isO 6 (ρ 0 9) := by rcases h with h | h <;> (rw [h.2.1]; rfl)
theorem CF.fn (h : CF ρ) : (ρ 0 8 = 155 ∧ ρ 0 9 = 171) ∨ (ρ 0 8 = 4 ∧ ρ 0 9 = 20) := by rcases h with h | h <;> omega
/-- only the code of the last error changes -/
theorem CI.e {c : Int} (h : CI ρ μ σ) (hS : SI σ) : CI ρ (up2 μ 0 12 c) (sE σ c) := by
  obtain ⟨h1, h2, h3, h4, h5, h6, h7, h8, h9, h10⟩ := h
  have fn := h1.fn
  have e : (fun i : Int => sE σ c (4 + i.toNat)) = fun i : Int => σ (4 + i.toNat) := by
    funext i
    exact sE_c (by omega)
  unfold CI
  rw [e]
  simp (disch := omega) only [sE_k, sE_c, sE_3]
  refine ⟨h1, h2, ?_, ?_, ?_, ?_, up2_s, ?_, ?_, fun hp => ?_⟩
  · rw [up2_c (by omega)]; exact h3
  · rw [up2_c (by omega)]; exact h4
  · rw [up2_c (by omega)]; exact h5
  · rw [up2_c (by omega)]; exact h6
  · rw [up2_k (by omega)]; exact h8
  · rw [up2_k (by omega)]; exact h9
  · obtain ⟨a, b, d, f, g⟩ := h10 hp
    refine ⟨a.ag (AG.up AG.refl (by omega)), b.ag (AG.up AG.refl (by omega)), ?_, ⟨?_, fun i i0 i1 => ?_⟩, fun hq => (g hq).ag (AG.up AG.refl (by omega))⟩
    · unfold RP CJ
      simp (disch := omega) only [up2_c]
      exact d
    · rw [up2_c (by omega)]; exact f.1
    · have q := h2.1 i i0 (by have := hS.2.2.2.2.2.1; omega)
      exact (f.2 i i0 i1).ag (AG.up AG.refl (by omega))
theorem pc_fin {v : Mem → Int} {σ' : Sg} {z c : Int} {μ0 : Mem} (h : CI ρ μ σ) (hS : SI σ) (hf : FR 0 177 μ0 μ) (hz : ∀ J, z = v J) (hs : σ' = sE σ c) : PC μ0 ρ v σ' z ρ (up2 μ 0 12 c) := by
  subst hs
  exact ⟨hz, h.e hS, FR.up hf (by omega), fun _ _ => rfl⟩
theorem CI.pl (h : CI ρ μ σ) (hS : SI σ) (hp : σ 0 4 = 1) : PV (σ 2) ∧ FP μ (ρ 0 8) (σ 2) ∧ SP μ (ρ 0 9) (σ 2) ∧ RP (σ 2) 27 μ := by
  have a := h.2.2.2.2.2.2.2.2.2 hp
  exact ⟨(hS.2.2.2.2.2.2.2.2 hp).1.1, a.1, a.2.1, a.2.2.1⟩
theorem k_answer {x : Int} : qE mX7_answer GG GG [qP 0, qI x] ρ μ (fun z ρ' μ' => z = x ∧ ρ' = ρ ∧ μ' = up2 μ 0 12 0) := by
  refine e_X7_answer ?_
  intro μ1 eμ1; subst eμ1
  exact ⟨rfl, rfl, rfl⟩
theorem k_answerLong {x : Int} : qE mX7_answerLong GG GG [qP 0, qJ x] ρ μ (fun z ρ' μ' => z = x ∧ ρ' = ρ ∧ μ' = up2 μ 0 12 0) := by
  refine e_X7_answerLong ?_
  intro μ1 eμ1; subst eμ1
  exact ⟨rfl, rfl, rfl⟩
theorem k_fail {x : Int} : qE mX7_fail GG GG [qP 0, qI x] ρ μ (fun z ρ' μ' => z = -2147483648 ∧ ρ' = ρ ∧ μ' = up2 μ 0 12 x) := by
  refine e_X7_fail ?_
  intro μ1 eμ1; subst eμ1
  exact ⟨rfl, rfl, rfl⟩
theorem k_failLong {x : Int} : qE mX7_failLong GG GG [qP 0, qI x] ρ μ (fun z ρ' μ' => z = -9223372036854775808 ∧ ρ' = ρ ∧ μ' = up2 μ 0 12 x) := by
  refine e_X7_failLong ?_
  intro μ1 eμ1; subst eμ1
  exact ⟨rfl, rfl, rfl⟩
/-! ### what exists -/
theorem k_isTrain {t : Int} (h : CI ρ μ σ) (hS : SI σ) : qE mX7_isTrain GG GG [qP 0, qI t] ρ μ (fun z ρ' μ' => ((z = 1 ∧ σ 0 4 = 1 ∧ 0 ≤ t ∧ t < 2) ∨ (z = 0 ∧ ¬ (σ 0 4 = 1 ∧ 0 ≤ t ∧ t < 2))) ∧ ρ' = ρ ∧ μ' = μ) := by
  have h8 := h.2.2.2.2.2.2.2.1
  have b := hS.2.2.1
  refine e_X7_isTrain ?_
  refine ⟨fun hc1 => ?_, fun hc1 => ?_⟩
  · exact ⟨by omega, rfl, rfl⟩
  · refine ⟨fun hc3 => ?_, fun hc3 => ?_⟩
    · exact ⟨by omega, rfl, rfl⟩
    · refine ⟨fun hc5 => ?_, fun hc5 => ?_⟩
      · exact ⟨by omega, rfl, rfl⟩
      · exact ⟨by omega, rfl, rfl⟩
theorem k_isMeal {m : Int} (h : CI ρ μ σ) (hS : SI σ) : qE mX7_isMeal GG GG [qP 0, qI m] ρ μ (fun z ρ' μ' => ((z = 1 ∧ σ 0 4 = 1 ∧ 0 ≤ m ∧ m < σ 2 36) ∨ (z = 0 ∧ ¬ (σ 0 4 = 1 ∧ 0 ≤ m ∧ m < σ 2 36))) ∧ ρ' = ρ ∧ μ' = μ) := by
  have h8 := h.2.2.2.2.2.2.2.1
  have b := hS.2.2.1
  refine e_X7_isMeal ?_
  refine ⟨fun hc1 => ?_, fun hc1 => ?_⟩
  · exact ⟨by omega, rfl, rfl⟩
  · refine ⟨fun hc3 => ?_, fun hc3 => ?_⟩
    · exact ⟨by omega, rfl, rfl⟩
    · refine ⟨(by exact h.1.f), ?_⟩
      rw [(h.pl hS (by omega)).2.1.n.1]
      refine ⟨fun hc6 => ?_, fun hc6 => ?_⟩
      · exact ⟨by omega, rfl, rfl⟩
      · exact ⟨by omega, rfl, rfl⟩
theorem k_isTrolley {i : Int} (h : CI ρ μ σ) (hS : SI σ) : qE mX7_isTrolley GG GG [qP 0, qI i] ρ μ (fun z ρ' μ' => ((z = 1 ∧ σ 0 4 = 1 ∧ 0 ≤ i ∧ i < σ 2 61) ∨ (z = 0 ∧ ¬ (σ 0 4 = 1 ∧ 0 ≤ i ∧ i < σ 2 61))) ∧ ρ' = ρ ∧ μ' = μ) := by
  have h8 := h.2.2.2.2.2.2.2.1
  have b := hS.2.2.1
  refine e_X7_isTrolley ?_
  refine ⟨fun hc1 => ?_, fun hc1 => ?_⟩
  · exact ⟨by omega, rfl, rfl⟩
  · refine ⟨fun hc3 => ?_, fun hc3 => ?_⟩
    · exact ⟨by omega, rfl, rfl⟩
    · refine ⟨(by exact h.1.f), ?_⟩
      rw [(h.pl hS (by omega)).2.1.n.2.2]
      refine ⟨fun hc6 => ?_, fun hc6 => ?_⟩
      · exact ⟨by omega, rfl, rfl⟩
      · exact ⟨by omega, rfl, rfl⟩
theorem k_isJob {j : Int} (h : CI ρ μ σ) (hS : SI σ) : qE mX7_isJob GG GG [qP 0, qI j] ρ μ (fun z ρ' μ' => ((z = 1 ∧ σ 0 4 = 1 ∧ 0 ≤ j ∧ j < σ 2 87) ∨ (z = 0 ∧ ¬ (σ 0 4 = 1 ∧ 0 ≤ j ∧ j < σ 2 87))) ∧ ρ' = ρ ∧ μ' = μ) := by
  have h8 := h.2.2.2.2.2.2.2.1
  have b := hS.2.2.1
  refine e_X7_isJob ?_
  refine ⟨fun hc1 => ?_, fun hc1 => ?_⟩
  · exact ⟨by omega, rfl, rfl⟩
  · refine ⟨fun hc3 => ?_, fun hc3 => ?_⟩
    · exact ⟨by omega, rfl, rfl⟩
    · refine ⟨(by exact h.1.s), ?_⟩
      rw [(h.pl hS (by omega)).2.2.1.n]
      refine ⟨fun hc6 => ?_, fun hc6 => ?_⟩
      · exact ⟨by omega, rfl, rfl⟩
      · exact ⟨by omega, rfl, rfl⟩
theorem k_isCar {t c : Int} (h : CI ρ μ σ) (hS : SI σ) : qE mX7_isCar GG GG [qP 0, qI t, qI c] ρ μ (fun z ρ' μ' => ((z = 1 ∧ σ 0 4 = 1 ∧ 0 ≤ t ∧ t < 2 ∧ 0 ≤ c ∧ c < σ 2 (4 + t)) ∨ (z = 0 ∧ ¬ (σ 0 4 = 1 ∧ 0 ≤ t ∧ t < 2 ∧ 0 ≤ c ∧ c < σ 2 (4 + t)))) ∧ ρ' = ρ ∧ μ' = μ) := by
  refine e_X7_isCar ?_
  refine ⟨_, k_isTrain (by assumption) (by assumption), ?_⟩
  rintro z1 ρ2 μ3 ⟨hz, hq1_1, hq1_2⟩
  obtain rfl := hq1_1.symm
  obtain rfl := hq1_2.symm
  refine ⟨fun hc2 => ?_, fun hc2 => ?_⟩
  · exact ⟨by omega, rfl, rfl⟩
  · refine ⟨fun hc4 => ?_, fun hc4 => ?_⟩
    · exact ⟨by omega, rfl, rfl⟩
    · refine ⟨(by exact h.1.f), ?_⟩
      refine ⟨(by omega), ?_⟩
      rw [((h.pl hS (by omega)).2.1.t (t := t) (by omega) (by omega)).2]
      refine ⟨fun hc8 => ?_, fun hc8 => ?_⟩
      · exact ⟨by omega, rfl, rfl⟩
      · exact ⟨by omega, rfl, rfl⟩
theorem k_isCarMeal {t c m : Int} (h : CI ρ μ σ) (hS : SI σ) : qE mX7_isCarMeal GG GG [qP 0, qI t, qI c, qI m] ρ μ (fun z ρ' μ' => ((z = 1 ∧ σ 0 4 = 1 ∧ 0 ≤ t ∧ t < 2 ∧ 0 ≤ c ∧ c < σ 2 (4 + t) ∧ 0 ≤ m ∧ m < σ 2 36) ∨ (z = 0 ∧ ¬ (σ 0 4 = 1 ∧ 0 ≤ t ∧ t < 2 ∧ 0 ≤ c ∧ c < σ 2 (4 + t) ∧ 0 ≤ m ∧ m < σ 2 36))) ∧ ρ' = ρ ∧ μ' = μ) := by
  refine e_X7_isCarMeal ?_
  refine ⟨_, k_isCar h hS, ?_⟩
  rintro z1 ρ2 μ3 ⟨hz, hq1_1, hq1_2⟩
  obtain rfl := hq1_1.symm
  obtain rfl := hq1_2.symm
  refine ⟨fun hc2 => ?_, fun hc2 => ?_⟩
  · exact ⟨by omega, rfl, rfl⟩
  · refine ⟨_, k_isMeal h hS, ?_⟩
    rintro z5 ρ6 μ7 ⟨hy, hq4_1, hq4_2⟩
    obtain rfl := hq4_1.symm
    obtain rfl := hq4_2.symm
    refine ⟨fun hc5 => ?_, fun hc5 => ?_⟩
    · exact ⟨by omega, rfl, rfl⟩
    · exact ⟨by omega, rfl, rfl⟩
theorem k_isStock {k m : Int} (h : CI ρ μ σ) (hS : SI σ) : qE mX7_isStock GG GG [qP 0, qI k, qI m] ρ μ (fun z ρ' μ' => ((z = 1 ∧ σ 0 4 = 1 ∧ 0 ≤ k ∧ k < σ 2 45 ∧ 0 ≤ m ∧ m < σ 2 36) ∨ (z = 0 ∧ ¬ (σ 0 4 = 1 ∧ 0 ≤ k ∧ k < σ 2 45 ∧ 0 ≤ m ∧ m < σ 2 36))) ∧ ρ' = ρ ∧ μ' = μ) := by
  refine e_X7_isStock ?_
  refine ⟨_, k_isMeal h hS, ?_⟩
  rintro z1 ρ2 μ3 ⟨hz, hq1_1, hq1_2⟩
  obtain rfl := hq1_1.symm
  obtain rfl := hq1_2.symm
  refine ⟨fun hc2 => ?_, fun hc2 => ?_⟩
  · exact ⟨by omega, rfl, rfl⟩
  · refine ⟨fun hc4 => ?_, fun hc4 => ?_⟩
    · exact ⟨by omega, rfl, rfl⟩
    · refine ⟨(by exact h.1.f), ?_⟩
      rw [(h.pl hS (by omega)).2.1.n.2.1]
      refine ⟨fun hc7 => ?_, fun hc7 => ?_⟩
      · exact ⟨by omega, rfl, rfl⟩
      · exact ⟨by omega, rfl, rfl⟩
end CIs
