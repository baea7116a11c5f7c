/-! ===== which job is the i-th that unloads ===== -/
def sv (g : Int → Int) (n : Int) : Nat → Int → Int → Int
  | 0, _, _ => -1
  | m + 1, j, l => if n ≤ j then -1 else if g j = 0 then sv g n m (j + 1) l else if l = 0 then j else sv g n m (j + 1) (l - 1)
theorem sv_b {g : Int → Int} {n : Int} : ∀ (m : Nat) (j l : Int), 0 ≤ j → sv g n m j l = -1 ∨ 0 ≤ sv g n m j l
  | 0, _, _, _ => Or.inl rfl
  | m + 1, j, l, h => by
    have a := sv_b (g := g) (n := n) m (j + 1) l (by omega)
    have b := sv_b (g := g) (n := n) m (j + 1) (l - 1) (by omega)
    unfold sv
    split
    · exact Or.inl rfl
    · split
      · exact a
      · split
        · exact Or.inr h
        · exact b
noncomputable def svd (σ : Sg) (i : Int) : Int := if σ 0 4 = 1 ∧ 0 ≤ i then sv (sGo (σ 2) (-1) (-1) Z0 199) (σ 2 87) 21 0 i else -1
section SVD
variable {ρ : Rf} {μ μ0 : Mem} {σ : Sg} {p : Pl}
theorem k_jobThat {o s : Nat} {g : Int → Int} {i : Int} (ho : isO 3 o) (hs : isO 6 s) (hn : 0 ≤ μ s 6 ∧ μ s 6 ≤ 20) (hg : ∀ j, 0 ≤ j → j < μ s 6 → μ (o + 7) j = g j ∧ 0 ≤ g j) : qE mX3_jobThatUnloads GG GG [qP o, qP s, qI i] ρ μ (fun z ρ' μ' => z = sv g (μ s 6) 21 0 i ∧ ρ' = ρ ∧ μ' = μ) := by
  have L : ∀ (m : Nat) (j b : Int), 0 ≤ j → j + m = 21 → j ≤ μ s 6 → 0 ≤ b → b ≤ j → qX mX3_jobThatUnloads GG (fun z ρ' μ' => z = sv g (μ s 6) m j (i - b) ∧ ρ' = ρ ∧ μ' = μ) GG (0, 0) 5 [some (qP o), some (qP s), some (qI i), some (qI b), some (qI j)] [] ρ μ := by
    intro m
    induction m with
    | zero => intro j b j0 jm jn; omega
    | succ m ih =>
      intro j b j0 jm jn b0 b1
      refine w_X3_jobThatUnloads_5 ho hs ?_
      refine ⟨fun hc1 => ?_, fun hc1 => ?_⟩
      · exact ⟨(if_pos (by omega)).symm, rfl, rfl⟩
      · refine ⟨(by omega), ?_⟩
        have gj := hg j j0 (by omega)
        refine ⟨fun hc4 => ?_, fun hc4 => ?_⟩
        · refine ⟨(by unfold i32; omega), ?_⟩
          have e : sv g (μ s 6) (m + 1) j (i - b) = sv g (μ s 6) m (j + 1) (i - b) := by
            show (if _ then _ else _ : Int) = _
            rw [if_neg (by omega), if_pos (by omega)]
          rw [e]
          exact ih (j + 1) b (by omega) (by omega) (by omega) b0 (by omega)
        · refine ⟨fun hc7 => ?_, fun hc7 => ?_⟩
          · refine ⟨(by unfold i32; omega), ?_⟩
            refine ⟨(by unfold i32; omega), ?_⟩
            have e : sv g (μ s 6) (m + 1) j (i - b) = sv g (μ s 6) m (j + 1) (i - (b + 1)) := by
              show (if _ then _ else _ : Int) = _
              rw [if_neg (by omega), if_neg (by omega), if_neg (by omega), show i - b - 1 = i - (b + 1) by omega]
            rw [e]
            exact ih (j + 1) (b + 1) (by omega) (by omega) (by omega) (by omega) (by omega)
          · refine ⟨?_, rfl, rfl⟩
            show _ = (if _ then _ else _ : Int)
            rw [if_neg (by omega), if_neg (by omega), if_pos (by omega)]
  refine e_X3_jobThatUnloads ho hs ?_
  have := L 21 0 0 (by omega) (by omega) (by omega) (by omega) (by omega)
  rw [Int.sub_zero] at this
  exact this
theorem q_served {i : Int} (hi : i ≤ 2147483647) (h : MJ μ0 σ) (hS : SI σ) : qE mX8_served GG GG [qP 178, qI i] ρ μ0 (fun z ρ' μ' => ρ' = ρ ∧ MJ μ' σ ∧ FR 178 207 μ0 μ' ∧ ((svd σ i = -1 ∧ z = 0 ∧ μ' 178 0 = 1) ∨ (0 ≤ svd σ i ∧ z = svd σ i ∧ μ' 178 0 = 0))) := by
  have hb := hS.2.2.1
  have h20 : μ0 178 20 = σ 0 4 := h.2.2.2.2.2.1
  have h180 : μ0 180 = σ 2 := h.2.2.2.2.2.2.2.1
  have hn : σ 0 4 = 1 → PV (σ 2) := fun e => (hS.2.2.2.2.2.2.2.2 e).1.1
  have L : ∀ (m : Nat) (j l : Int) (μ : Mem), 0 ≤ j → j + m = 21 → 0 ≤ l → l ≤ i → σ 0 4 = 1 → 0 ≤ i → j ≤ σ 2 87 → MJ μ σ → FR 178 207 μ0 μ → μ 178 0 = 0 → (∀ k, 0 ≤ k → k < σ 2 87 → μ 199 k = sGo (σ 2) (-1) (-1) Z0 199 k) → svd σ i = sv (sGo (σ 2) (-1) (-1) Z0 199) (σ 2 87) m j l → qX mX8_served GG (fun z ρ' μ' => ρ' = ρ ∧ MJ μ' σ ∧ FR 178 207 μ0 μ' ∧ ((svd σ i = -1 ∧ z = 0 ∧ μ' 178 0 = 1) ∨ (0 ≤ svd σ i ∧ z = svd σ i ∧ μ' 178 0 = 0))) GG (0, 0) 20 [some (qP 178), some (qI i), some (qI l), some (qI j)] [] ρ μ := by
    intro m
    induction m with
    | zero =>
      intro j l μ j0 jm l0 li hp i0 jn
      have := (hn hp).n
      omega
    | succ m ih =>
      intro j l μ j0 jm l0 li hp i0 jn c1 f1 th g e
      have n := (hn hp).n
      have t20 : μ 178 20 = σ 0 4 := c1.2.2.2.2.2.1
      have t180 : μ 180 = σ 2 := c1.2.2.2.2.2.2.2.1
      rw [show sv (sGo (σ 2) (-1) (-1) Z0 199) (σ 2 87) (m + 1) j l = (if σ 2 87 ≤ j then -1 else if sGo (σ 2) (-1) (-1) Z0 199 j = 0 then sv (sGo (σ 2) (-1) (-1) Z0 199) (σ 2 87) m (j + 1) l else if l = 0 then j else sv (sGo (σ 2) (-1) (-1) Z0 199) (σ 2 87) m (j + 1) (l - 1)) from rfl] at e
      refine w_X8_served_20 ?_
      refine ⟨fun hc1 => ?_, fun hc1 => ?_⟩
      · intro μ1 eμ1; subst eμ1
        exfalso; omega
      · rw [t180]
        refine ⟨fun hc4 => ?_, fun hc4 => ?_⟩
        · intro μ2 eμ2; subst eμ2
          rw [if_pos (by omega)] at e
          exact ⟨rfl, c1.th, FR.up f1 (by omega), Or.inl ⟨e, rfl, up2_s⟩⟩
        · refine ⟨fun hc7 => ?_, fun hc7 => ?_⟩
          · intro μ3 eμ3; subst eμ3
            exfalso; omega
          · refine ⟨(by omega), ?_⟩
            rw [g j j0 (by omega)]
            refine ⟨fun hc11 => ?_, fun hc11 => ?_⟩
            · refine ⟨fun hc12 => ?_, fun hc12 => ?_⟩
              · refine ⟨(by unfold i32; omega), ?_⟩
                refine ⟨(by unfold i32; omega), ?_⟩
                rw [if_neg (by omega), if_neg (by omega), if_neg (by omega)] at e
                exact ih (j + 1) (l + (-1)) μ (by omega) (by omega) (by omega) (by omega) hp i0 (by omega) c1 f1 th g e
              · rw [if_neg (by omega), if_neg (by omega), if_pos (by omega)] at e
                exact ⟨rfl, c1, f1, Or.inr ⟨by omega, e.symm, th⟩⟩
            · refine ⟨(by unfold i32; omega), ?_⟩
              rw [if_neg (by omega), if_pos (by omega)] at e
              exact ih (j + 1) l μ (by omega) (by omega) (by omega) (by omega) hp i0 (by omega) c1 f1 th g e
  have S0 : ∀ μ : Mem, (σ 0 4 ≠ 1 ∨ i < 0) → MJ μ σ → FR 178 207 μ0 μ → qX mX8_served GG (fun z ρ' μ' => ρ' = ρ ∧ MJ μ' σ ∧ FR 178 207 μ0 μ' ∧ ((svd σ i = -1 ∧ z = 0 ∧ μ' 178 0 = 1) ∨ (0 ≤ svd σ i ∧ z = svd σ i ∧ μ' 178 0 = 0))) GG (0, 0) 20 [some (qP 178), some (qI i), some (qI i), some (qI 0)] [] ρ μ := by
    intro μ hc c1 f1
    have e : svd σ i = -1 := if_neg (by omega)
    have t20 : μ 178 20 = σ 0 4 := c1.2.2.2.2.2.1
    have t180 : μ 180 = σ 2 := c1.2.2.2.2.2.2.2.1
    refine w_X8_served_20 ?_
    refine ⟨fun hc1 => ?_, fun hc1 => ?_⟩
    · intro μ1 eμ1; subst eμ1
      exact ⟨rfl, c1.th, FR.up f1 (by omega), Or.inl ⟨e, rfl, up2_s⟩⟩
    · rw [t180]
      refine ⟨fun hc4 => ?_, fun hc4 => ?_⟩
      · intro μ2 eμ2; subst eμ2
        exact ⟨rfl, c1.th, FR.up f1 (by omega), Or.inl ⟨e, rfl, up2_s⟩⟩
      · refine ⟨fun hc7 => ?_, fun hc7 => ?_⟩
        · intro μ3 eμ3; subst eμ3
          exact ⟨rfl, c1.th, FR.up f1 (by omega), Or.inl ⟨e, rfl, up2_s⟩⟩
        · exfalso; omega
  refine e_X8_served ?_
  intro μ1 eμ1; subst eμ1
  rw [up2_k (show (20 : Int) ≠ 0 by decide), h20]
  refine ⟨fun hc2 => ?_, fun hc2 => ?_⟩
  · exact S0 _ (by omega) h.th (FR.up FR.refl (by omega))
  · refine ⟨_, m_goAll (p := σ 2) (by rw [up2_c (by decide), h180]) (hn (by omega)), ?_⟩
    rintro z2 ρ3 μ4 ⟨hq4_1, hq4_2⟩
    obtain rfl := hq4_1.symm
    obtain rfl := hq4_2.symm
    by_cases c : i < 0
    · exact S0 _ (by omega) h.th.go (FR.go (FR.up FR.refl (by omega)))
    · have hp : σ 0 4 = 1 := by omega
      have n := (hn hp).n
      refine L 21 0 i _ (by omega) (by omega) (by omega) (by omega) hp (by omega) (by omega) h.th.go (FR.go (FR.up FR.refl (by omega))) ?_ (fun k k0 k1 => ((go_core (wo := -1) (out := -1) (J := up2 μ0 178 0 0) (J' := Z0) (hn hp)).2 k k0 k1).2) (if_pos ⟨hp, by omega⟩)
      rw [sGo_o (by decide), up2_s]
end SVD
