/-! ===== the statics, the nest, the script: as the entry gives them ===== -/
def LA (s : State) : Nat → Prop := fun q => s.heap.size ≤ q
section STE
variable {p : Program} {s : State} {m : MethodId} {meth : Method} {c : Code} {b L : Nat} {xs : Nat → Int32}
theorem nest_in : (nwl.all fun q => decide (Cond.methodLinkNest q.1 q.2.1 q.2.2.1 q.2.2.2 ∈ lw_tbl)) = true := by decide +kernel
set_option maxRecDepth 100000 in
set_option maxHeartbeats 4000000 in
theorem st_EN (C0 : lw_At p s m meth c b L xs) : ∃ u : Nat, EN (u, b, L, xs) (LA s) s s.heap := by
  obtain ⟨hx, hb, hr, hml, hown, hts, hX, hbl, hlocks, hgv⟩ := C0
  have hs := flat_of_before _ hgv
  have hA : ∀ a : Nat, a < s.heap.size → ¬ LA s a := fun a h => Nat.not_le.mpr h
  have hex : (Cond.exactly (.static ASU "U" "Ljdk/internal/misc/Unsafe;") UNS).before #[Value.ref b] s = true := hs _ (by decide +kernel)
  obtain ⟨u, c0, cA, kA, q1, -⟩ := Cond.exactly_spec (args := #[Value.ref b]) (first := s) (o := none) (s := s) (idx := []) (t := .static ASU "U" "Ljdk/internal/misc/Unsafe;") (cls := UNS) hex
  refine ⟨u, ?_, ?_, hX, hA b hbl, ?_, ?_, ?_, ?_, ?_⟩
  · intro q hq
    exact va_Nw.of rfl (hts _ (of_decide_eq_true (List.all_eq_true.mp nest_in q hq)))
  · exact va_AO.of (A := #[Value.ref b]) (hts _ (by decide +kernel))
  · exact va_Zof (args := #[Value.ref b]) (hts _ (by decide +kernel)) (hts _ (by decide +kernel)) (va_eqt (hs _ (by decide +kernel))) hA
  · exact va_Zof (args := #[Value.ref b]) (hts _ (by decide +kernel)) (hts _ (by decide +kernel)) (va_eqt (hs _ (by decide +kernel))) hA
  · exact va_Zof (args := #[Value.ref b]) (hts _ (by decide +kernel)) (hts _ (by decide +kernel)) (va_eqt (hs _ (by decide +kernel))) hA
  · exact va_Zof (args := #[Value.ref b]) (hts _ (by decide +kernel)) (hts _ (by decide +kernel)) q1 hA
  · exact va_Oof hex q1 hA
end STE
