/-! ===== changes: what the class saves; the reference's copies ===== -/
section MCp
variable {ρ : Rf} {μ μ0 : Mem} {σ : Sg} {p q : Pl}
theorem c_save (h : CI ρ μ σ) (hS : SI σ) : qE mX7_save GG GG [qP 0] ρ μ (PC μ ρ (fun J => if σ 0 4 = 1 then 0 else -2147483648) (if σ 0 4 = 1 then sSv σ else sE σ 1)) := by
  have h8 := h.2.2.2.2.2.2.2.1
  have hb := hS.2.2.1
  refine e_X7_save ?_
  refine ⟨fun hc1 => ?_, fun hc1 => ?_⟩
  · refine ⟨(by exact h.1.s), ?_⟩
    have hp : σ 0 4 = 1 := by omega
    have pl := h.pl hS hp
    have n := pl.1.n
    have fn := h.1.fn
    refine ⟨_, k_copyFrom (o := 62) rfl h.1.s (by omega), ?_⟩
    rintro z2 ρ3 μ4 ⟨hq3_1, f1, c1⟩
    obtain rfl := hq3_1.symm
    intro μ6 eμ6; subst eμ6
    refine ⟨_, k_answer, ?_⟩
    rintro z7 ρ8 μ9 ⟨hq5_1, hq5_2, hq5_3⟩
    obtain rfl := hq5_1.symm
    obtain rfl := hq5_2.symm
    obtain rfl := hq5_3.symm
    have eh : (fun i : Int => sSv σ (4 + i.toNat)) = fun i : Int => σ (4 + i.toNat) := by
      funext i k
      unfold sSv
      rw [if_neg (by omega), if_neg (by omega)]
    have s1 : SP μ4 62 (σ 2) := c1.sp pl.2.2.1 (by omega)
    obtain ⟨g1, g2, g3, g4, g5, g6, g7, g8, g9, g10⟩ := h
    obtain ⟨d1, d2, d3, d4, d5⟩ := g10 hp
    refine pc_ok (τ := sSv σ) (fun J => by rw [if_pos hp]) (by rw [if_pos hp]) ?_ (FR.up (FR.up (f1.mono (by omega) (by omega)) (by omega)) (by omega)) (fun _ _ => rfl)
    have t0 : ∀ k, k ≠ 3 → k ≠ 5 → sSv σ 0 k = σ 0 k := fun k k3 k5 => by unfold sSv; rw [if_pos rfl, if_neg k3, if_neg k5]
    unfold CI
    rw [eh, show sSv σ 0 3 = 0 from rfl, show sSv σ 0 5 = 1 from rfl, show sSv σ 1 = σ 1 from rfl, show sSv σ 2 = σ 2 from rfl, show sSv σ 3 = σ 2 from rfl]
    simp (disch := omega) only [t0, up2_c, up2_k, up2_s]
    rw [f1 1 (by omega), f1 2 (by omega), f1 0 (by omega)]
    refine ⟨g1, g2, g3, g4, g5, g6, by trivial, g8, by trivial, fun _ => ⟨?_, ?_, ?_, ⟨?_, fun i i0 i1 => ?_⟩, fun _ => ?_⟩⟩
    · exact ((d1.ag (f1.ag (by omega))).ag (AG.up AG.refl (by omega))).ag (AG.up AG.refl (by omega))
    · exact ((d2.ag (f1.ag (by omega))).ag (AG.up AG.refl (by omega))).ag (AG.up AG.refl (by omega))
    · unfold RP CJ
      simp (disch := omega) only [up2_c]
      rw [f1 (27 + 1) (by omega), f1 (27 + 2) (by omega), f1 (27 + 3) (by omega), f1 (27 + 4) (by omega), f1 (27 + 5) (by omega), f1 (27 + 6) (by omega), f1 (27 + 7) (by omega), f1 (27 + 8) (by omega), f1 (27 + 9) (by omega), f1 27 (by omega)]
      exact d3
    · rw [up2_c (by decide), up2_c (by decide), f1 69 (by omega)]
      exact d4.1
    · have q1 := g2.1 i i0 (by have := hS.2.2.2.2.2.1; omega)
      exact (((d4.2 i i0 i1).ag (f1.ag (by omega))).ag (AG.up AG.refl (by omega))).ag (AG.up AG.refl (by omega))
    · exact (s1.ag (AG.up AG.refl (by omega))).ag (AG.up AG.refl (by omega))
  · refine ⟨_, k_fail, ?_⟩
    rintro z11 ρ12 μ13 ⟨hq7_1, hq7_2, hq7_3⟩
    obtain rfl := hq7_1.symm
    obtain rfl := hq7_2.symm
    obtain rfl := hq7_3.symm
    exact pc_fin h hS FR.refl (fun J => (if_neg (by omega)).symm) (by rw [if_neg (by omega)])
/-! ### copies -/
theorem m_copy {a b na nb : Nat} {x y : Int} (ha : GG.2[a]? = some (10, na)) (hb : GG.2[b]? = some (10, nb)) (hab : a ≠ b) (x0 : 0 ≤ x) (y0 : 0 ≤ y) (hx : x + 188 ≤ na) (hy : y + 188 ≤ nb) (l1 : na ≤ 1880) (l2 : nb ≤ 1880) : qE mX8_copy GG GG [qP a, qI x, qP b, qI y] ρ μ0 (fun _ ρ' μ' => ρ' = ρ ∧ (∀ c, c ≠ b → μ' c = μ0 c) ∧ (∀ k, 0 ≤ k → k < 188 → μ' b (y + k) = μ0 a (x + k)) ∧ ∀ k, (k < y ∨ y + 188 ≤ k) → μ' b k = μ0 b k) := by
  have L : ∀ (m : Nat) (k : Int) (μ : Mem), (188 - k).toNat < m → 0 ≤ k → k ≤ 188 → (∀ c, c ≠ b → μ c = μ0 c) → (∀ j, 0 ≤ j → j < k → μ b (y + j) = μ0 a (x + j)) → (∀ j, (j < y ∨ y + k ≤ j) → μ b j = μ0 b j) → qX mX8_copy GG (fun _ ρ' μ' => ρ' = ρ ∧ (∀ c, c ≠ b → μ' c = μ0 c) ∧ (∀ k, 0 ≤ k → k < 188 → μ' b (y + k) = μ0 a (x + k)) ∧ ∀ k, (k < y ∨ y + 188 ≤ k) → μ' b k = μ0 b k) GG (0, 0) 3 [some (qP a), some (qI x), some (qP b), some (qI y), some (qI k)] [] ρ μ := by
    intro m
    induction m with
    | zero => intro k μ h; omega
    | succ m ih =>
      intro k μ hm k0 k1 h1 h2 h3
      refine w_X8_copy_3 ha hb ?_
      refine ⟨fun hc1 => ?_, fun hc1 => ?_⟩
      · have ke : k = 188 := by omega
        subst ke
        exact ⟨rfl, h1, h2, h3⟩
      · refine ⟨(by unfold i32; omega), ?_⟩
        refine ⟨(by unfold i32; omega), ?_⟩
        refine ⟨(by omega), ?_⟩
        refine ⟨(by omega), ?_⟩
        intro μ1 eμ1; subst eμ1
        refine ⟨(by unfold i32; omega), ?_⟩
        refine ih (k + 1) _ (by omega) (by omega) (by omega) (fun c hc => by rw [up2_c hc]; exact h1 c hc) (fun j j0 j1 => ?_) (fun j hj => ?_)
        · rw [up2_u]
          by_cases e : j = k
          · rw [e, u1_s, h1 a hab]
          · rw [u1_n (by omega)]; exact h2 j j0 (by omega)
        · rw [up2_u, u1_n (by omega)]
          exact h3 j (by omega)
  refine e_X8_copy ha hb ?_
  exact L _ 0 _ (Nat.lt_succ_self _) (by omega) (by omega) (fun _ _ => rfl) (fun j j0 j1 => by omega) (fun _ _ => rfl)
theorem m_remember {n : Int} {f : Int → Pl} (hn : μ0 178 19 = n) (n0 : 0 ≤ n ∧ n ≤ 10) (hf : ∀ i b, 0 ≤ i → i < n → 0 ≤ b → b < 188 → μ0 183 (188 * i + b) = f i b) : qE mX8_remember GG GG [qP 178] ρ μ0 (fun _ ρ' μ' => ρ' = ρ ∧ (∀ c, c ≠ 178 → c ≠ 183 → μ' c = μ0 c) ∧ (∀ k, k ≠ 19 → μ' 178 k = μ0 178 k) ∧ μ' 178 19 = hN n ∧ ∀ i b, 0 ≤ i → i < hN n → 0 ≤ b → b < 188 → μ' 183 (188 * i + b) = hPush n f (μ0 180) i b) := by
  have L : n = 10 → ∀ (m : Nat) (x : Int) (μ : Mem), (1880 - x).toNat < m → 188 ≤ x → x ≤ 1880 → (∀ c, c ≠ 183 → μ c = μ0 c) → (∀ k, 0 ≤ k → k < x - 188 → μ 183 k = μ0 183 (k + 188)) → (∀ k, x - 188 ≤ k → μ 183 k = μ0 183 k) → qX mX8_remember GG (fun _ ρ' μ' => ρ' = ρ ∧ (∀ c, c ≠ 178 → c ≠ 183 → μ' c = μ0 c) ∧ (∀ k, k ≠ 19 → μ' 178 k = μ0 178 k) ∧ μ' 178 19 = hN n ∧ ∀ i b, 0 ≤ i → i < hN n → 0 ≤ b → b < 188 → μ' 183 (188 * i + b) = hPush n f (μ0 180) i b) GG (0, 0) 13 [some (qP 178), some (qI x)] [] ρ μ := by
    intro hn10 m
    induction m with
    | zero => intro x μ h; omega
    | succ m ih =>
      intro x μ hm x0 x1 h1 h2 h3
      have e19 : μ 178 19 = 10 := by rw [h1 178 (by decide)]; omega
      refine w_X8_remember_13 ?_
      rw [e19]
      refine ⟨fun hc1 => ?_, fun hc1 => ?_⟩
      · refine ⟨(by unfold i32; omega), ?_⟩
        intro μ1 eμ1; subst eμ1
        rw [up2_s]
        refine ⟨(by unfold i32; omega), ?_⟩
        refine ⟨_, m_copy (a := 180) (b := 183) (na := 188) (nb := 1880) rfl rfl (by decide) (by omega) (by omega) (by omega) (by omega) (by omega) (by omega), ?_⟩
        rintro z2 ρ3 μ4 ⟨hq5_1, c1, c2, c3⟩
        obtain rfl := hq5_1.symm
        rw [c1 178 (by decide), up2_s]
        refine ⟨(by unfold i32; omega), ?_⟩
        intro μ6 eμ6; subst eμ6
        have N10 : hN n = 10 := by unfold hN; rw [if_pos hn10]
        refine ⟨rfl, fun c h h' => by rw [up2_c h, c1 c h', up2_c h]; exact h1 c h', fun k hk => by rw [up2_k hk, c1 178 (by decide), up2_k hk, h1 178 (by decide)], by rw [up2_s, N10]; rfl, fun i b i0 i1 b0 b1 => ?_⟩
        rw [N10] at i1
        rw [up2_c (by decide)]
        unfold hPush
        rw [N10]
        by_cases c : i = 9
        · rw [if_pos (by omega)]
          have := c2 b b0 b1
          rw [up2_c (by decide), h1 180 (by decide)] at this
          rw [show 188 * i + b = 188 * (10 - 1) + b by omega, this]
          congr 1
          omega
        · rw [if_neg (by omega), if_pos hn10, c3 _ (by omega), up2_c (by decide), h2 _ (by omega) (by omega), show 188 * i + b + 188 = 188 * (i + 1) + b by omega]
          exact hf (i + 1) b (by omega) (by omega) b0 b1
      · refine ⟨(by unfold i32; omega), ?_⟩
        refine ⟨(by omega), ?_⟩
        refine ⟨(by omega), ?_⟩
        intro μ7 eμ7; subst eμ7
        refine ⟨(by unfold i32; omega), ?_⟩
        refine ih (x + 1) _ (by omega) (by omega) (by omega) (fun c hc => by rw [up2_c hc]; exact h1 c hc) (fun k k0 k1 => ?_) (fun k hk => ?_)
        · rw [up2_u]
          by_cases e : k = x - 188
          · rw [e, u1_s, h3 x (by omega), show x - 188 + 188 = x by omega]
          · rw [u1_n e]; exact h2 k k0 (by omega)
        · rw [up2_u, u1_n (by omega)]
          exact h3 k (by omega)
  refine e_X8_remember ?_
  rw [hn]
  refine ⟨fun hc1 => ?_, fun hc1 => ?_⟩
  · refine ⟨(by unfold i32; omega), ?_⟩
    refine ⟨_, m_copy (a := 180) (b := 183) (na := 188) (nb := 1880) rfl rfl (by decide) (by omega) (by omega) (by omega) (by omega) (by omega) (by omega), ?_⟩
    rintro z1 ρ2 μ3 ⟨hq3_1, c1, c2, c3⟩
    obtain rfl := hq3_1.symm
    rw [c1 178 (by decide), hn]
    refine ⟨(by unfold i32; omega), ?_⟩
    intro μ5 eμ5; subst eμ5
    have Nn : hN n = n + 1 := by unfold hN; rw [if_neg (by omega)]
    refine ⟨rfl, fun c h h' => by rw [up2_c h]; exact c1 c h', fun k hk => by rw [up2_k hk, c1 178 (by decide)], by rw [up2_s, Nn], fun i b i0 i1 b0 b1 => ?_⟩
    rw [Nn] at i1
    rw [up2_c (by decide)]
    unfold hPush
    rw [Nn]
    by_cases c : i = n
    · rw [if_pos (by omega), c]
      have := c2 b b0 b1
      rw [this]
      congr 1
      omega
    · rw [if_neg (by omega), if_neg (by omega), c3 _ (by omega)]
      exact hf i b i0 (by omega) b0 b1
  · exact L (by omega) _ 188 _ (Nat.lt_succ_self _) (by omega) (by omega) (fun _ _ => rfl) (fun k k0 k1 => by omega) (fun _ _ => rfl)
end MCp
