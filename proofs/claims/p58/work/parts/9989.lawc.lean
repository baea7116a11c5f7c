/-! ===== one turn of the law's loop ===== -/
theorem CI.fr {ρ : Rf} {μ μ' : Mem} {σ : Sg} (h : CI ρ μ σ) (hS : SI σ) (hm : ∀ a, a < 178 → μ' a = μ a) : CI ρ μ' σ := by
  obtain ⟨g1, g2, g3, g4, g5, g6, g7, g8, g9, g10⟩ := h
  have cf : (ρ 0 8 = 155 ∧ ρ 0 9 = 171 ∧ ρ 1 5 = 4 ∧ ρ 1 6 = 20) ∨ (ρ 0 8 = 4 ∧ ρ 0 9 = 20 ∧ ρ 1 5 = 155 ∧ ρ 1 6 = 171) := g1
  unfold CI
  rw [hm 0 (by decide), hm 1 (by decide), hm 2 (by decide)]
  refine ⟨g1, g2, g3, g4, g5, g6, g7, g8, g9, fun hp => ?_⟩
  obtain ⟨d1, d2, d3, d4, d5⟩ := g10 hp
  refine ⟨d1.ag (fun a x y => hm a (by omega)), d2.ag (fun a x y => hm a (by omega)), ?_, ⟨by rw [hm 69 (by decide)]; exact d4.1, fun i i0 i1 => ?_⟩, fun hq => (d5 hq).ag (fun a x y => hm a (by omega))⟩
  · unfold RP CJ
    rw [hm (27 + 1) (by omega), hm (27 + 2) (by omega), hm (27 + 3) (by omega), hm (27 + 4) (by omega), hm (27 + 5) (by omega), hm (27 + 6) (by omega), hm (27 + 7) (by omega), hm (27 + 8) (by omega), hm (27 + 9) (by omega), hm 27 (by omega)]
    exact d3
  · have q := g2.1 i i0 (by have := hS.2.2.2.2.2.1; omega)
    exact (d4.2 i i0 i1).ag (fun a x y => hm a (by omega))
section LAWC
variable {p : Program} {l : Launch} {e : Env} {s : State} {m : MethodId} {b L : Nat} {xs : Nat → Int32} {below : List Frame} {meth : Method} {c : Code} {D : va_G} {cA : Nat → ClassId} {ad : Nat × Nat} {Q : State → Prop} {φ : Nat → Nat} {ρ : Rf} {μ : Mem} {H : Heap} {locs : List Loc} {cells slots : Nat} {ls : Array Slot} {st : List Value} {pc : Nat}
def LR (Mc : MI) : Prop := (Mc.2.2.2.2.frames + 1 ≤ room_1.frames ∧ 8 + (Mc.2.2.1 + 11) + Mc.2.2.2.2.locals ≤ room_1.locals) ∧ Mc.2.2.2.2.cells = 0 ∧ Mc.2.2.2.2.slots = 0
end LAWC
