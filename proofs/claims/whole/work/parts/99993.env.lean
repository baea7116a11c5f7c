/-! ===== the text constant, the statics, the nest: as the entry gives them ===== -/
section STE
variable {p : Program} {s : State} {m : MethodId} {meth : Method} {c : Code} {b L : Nat} {xs : Nat → Int32}
set_option maxRecDepth 100000 in
theorem text_in : ((List.range 50).all fun j => decide (Cond.eq (.elem (.field (.string RX8 153) "java/lang/String" "value" "[B") (.int (Int32.ofNat j))) (.int (resB.getD j 0)) ∈ flatC (Jvm.Cond.and given_1 narrow_1))) = true := by decide +kernel
theorem nest_in : (nwl.all fun q => decide (Cond.methodLinkNest q.1 q.2.1 q.2.2.1 q.2.2.2 ∈ lw_tbl)) = true := by decide +kernel
set_option maxRecDepth 100000 in
set_option maxHeartbeats 4000000 in
theorem st_EN (C0 : lw_At p s m meth c b L xs) : ∃ ad : Nat × Nat, EN ad (LA s) s s.heap := by
  obtain ⟨hx, hb, hr, hml, hown, hts, hX, hbl, hlocks, hgv⟩ := C0
  have hs := flat_of_before _ hgv
  have hA : ∀ a : Nat, a < s.heap.size → ¬ LA s a := fun a h => Nat.not_le.mpr h
  obtain ⟨adK, adV, h1, h2⟩ := vk_Sof (args := #[Value.ref b]) (s := s) (N := 1) (tm := fun _ => .string RX8 153) (len := [50]) (byt := [resB]) (A := LA s)
    (fun i hi => by have : i = 0 := by omega
                    subst this; decide)
    (fun i hi => hs _ (by decide +kernel)) (fun i hi => hs _ (by decide +kernel)) (fun i hi => hs _ (by decide +kernel)) (fun i hi => by
      have : i = 0 := by omega
      subst this
      exact hs _ (by decide +kernel))
    (fun i hi j hj => by
      have : i = 0 := by omega
      subst this
      have hj : j < 50 := hj
      exact hs _ (of_decide_eq_true (List.all_eq_true.mp text_in j (List.mem_range.mpr hj))))
    (fun i j hi hj hij => absurd (by omega) hij) hA
  refine ⟨(adK 0, adV 0), ?_, ?_, ?_, ?_, ?_, ?_⟩
  · intro q hq
    exact va_Nw.of rfl (hts _ (of_decide_eq_true (List.all_eq_true.mp nest_in q hq)))
  · exact va_AO.of (A := #[Value.ref b]) (hts _ (by decide +kernel))
  · exact vk_R.of (A := #[Value.ref b]) (hts _ (by decide +kernel)) (h2 0 (by omega))
  · exact ⟨fun i hi => by have := h1.1 0 (by omega); have e : i = 0 := by omega
                          subst e; exact this, fun i j hi hj _ => by omega⟩
  · exact va_Zof (args := #[Value.ref b]) (hts _ (by decide +kernel)) (hts _ (by decide +kernel)) (va_eqt (hs _ (by decide +kernel))) hA
  · exact va_Zqof (args := #[Value.ref b]) (hts _ (by decide +kernel)) (hts _ (by decide +kernel)) (hs _ (by decide +kernel)) hA
end STE
