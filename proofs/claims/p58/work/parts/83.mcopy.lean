/-! ===== changes: what the class saves; the reference's copies ===== -/
section MCp
variable {ρ : Rf} {μ μ0 : Mem} {σ : Sg} {p q : Pl}
theorem c_save (h : CI ρ μ σ) (hS : SI σ) : qE mX7_save GG GG [qP 0] ρ μ (PC μ ρ (fun J => if σ 0 4 = 1 then 0 else -2147483648) (if σ 0 4 = 1 then sSv σ else sE σ 1)) := by
  have h8 := h.2.2.2.2.2.2.2.1
  have hb := hS.2.2.1
  refine e_X7_save ?_
  refine ⟨fun hc1 => ?_, fun hc1 => ?_⟩
  · refine ⟨(by exact h.1.s), ?_⟩
    have hp : σ 0 4 = 1 := by omega
    have pl := h.pl hS hp
    have n := pl.1.n
    have fn := h.1.fn
    refine ⟨_, k_copyFrom (o := 62) rfl h.1.s (by omega), ?_⟩
    rintro z2 ρ3 μ4 ⟨hq3_1, f1, c1⟩
    obtain rfl := hq3_1.symm
    intro μ6 eμ6; subst eμ6
    refine ⟨_, k_answer, ?_⟩
    rintro z7 ρ8 μ9 ⟨hq5_1, hq5_2, hq5_3⟩
    obtain rfl := hq5_1.symm
    obtain rfl := hq5_2.symm
    obtain rfl := hq5_3.symm
    have eh : (fun i : Int => sSv σ (4 + i.toNat)) = fun i : Int => σ (4 + i.toNat) := by
      funext i k
      unfold sSv
      rw [if_neg (by omega), if_neg (by omega)]
    have s1 : SP μ4 62 (σ 2) := c1.sp pl.2.2.1 (by omega)
    obtain ⟨g1, g2, g3, g4, g5, g6, g7, g8, g9, g10⟩ := h
    obtain ⟨d1, d2, d3, d4, d5⟩ := g10 hp
    refine pc_ok (τ := sSv σ) (fun J => by rw [if_pos hp]) (by rw [if_pos hp]) ?_ (FR.up (FR.up (f1.mono (by omega) (by omega)) (by omega)) (by omega)) (fun _ _ => rfl)
    have t0 : ∀ k, k ≠ 3 → k ≠ 5 → sSv σ 0 k = σ 0 k := fun k k3 k5 => by unfold sSv; rw [if_pos rfl, if_neg k3, if_neg k5]
    unfold CI
    rw [eh, show sSv σ 0 3 = 0 from rfl, show sSv σ 0 5 = 1 from rfl, show sSv σ 1 = σ 1 from rfl, show sSv σ 2 = σ 2 from rfl, show sSv σ 3 = σ 2 from rfl]
    simp (disch := omega) only [t0, up2_c, up2_k, up2_s]
    rw [f1 1 (by omega), f1 2 (by omega), f1 0 (by omega)]
    refine ⟨g1, g2, g3, g4, g5, g6, by trivial, g8, by trivial, fun _ => ⟨?_, ?_, ?_, ⟨?_, fun i i0 i1 => ?_⟩, fun _ => ?_⟩⟩
    · exact ((d1.ag (f1.ag (by omega))).ag (AG.up AG.refl (by omega))).ag (AG.up AG.refl (by omega))
    · exact ((d2.ag (f1.ag (by omega))).ag (AG.up AG.refl (by omega))).ag (AG.up AG.refl (by omega))
    · unfold RP CJ
      simp (disch := omega) only [up2_c]
      rw [f1 (27 + 1) (by omega), f1 (27 + 2) (by omega), f1 (27 + 3) (by omega), f1 (27 + 4) (by omega), f1 (27 + 5) (by omega), f1 (27 + 6) (by omega), f1 (27 + 7) (by omega), f1 (27 + 8) (by omega), f1 (27 + 9) (by omega), f1 27 (by omega)]
      exact d3
    · rw [up2_c (by decide), up2_c (by decide), f1 69 (by omega)]
      exact d4.1
    · have q1 := g2.1 i i0 (by have := hS.2.2.2.2.2.1; omega)
      exact (((d4.2 i i0 i1).ag (f1.ag (by omega))).ag (AG.up AG.refl (by omega))).ag (AG.up AG.refl (by omega))
    · exact (s1.ag (AG.up AG.refl (by omega))).ag (AG.up AG.refl (by omega))
  · refine ⟨_, k_fail, ?_⟩
    rintro z11 ρ12 μ13 ⟨hq7_1, hq7_2, hq7_3⟩
    obtain rfl := hq7_1.symm
    obtain rfl := hq7_2.symm
    obtain rfl := hq7_3.symm
    exact pc_fin h hS FR.refl (fun J => (if_neg (by omega)).symm) (by rw [if_neg (by omega)])
end MCp
