/-! ===== the whole walk ===== -/
theorem xz_in : (xzW.all fun w => decide (w ∈ lw_tbl)) = true := by decide +kernel
section WST
set_option maxRecDepth 100000 in
set_option maxHeartbeats 4000000 in
theorem st_XZ {p : Program} {s : State} {m : MethodId} {meth : Method} {c : Code} {b L : Nat} {xs : Nat → Int32} (C0 : lw_At p s m meth c b L xs) : XZ (LA s) s s.heap := by
  obtain ⟨hx, hb, hr, hml, hown, hts, hX, hbl, hlocks, hgv⟩ := C0
  have hs := flat_of_before _ hgv
  have hA : ∀ a : Nat, a < s.heap.size → ¬ LA s a := fun a h => Nat.not_le.mpr h
  refine ⟨vx_Zqof (args := #[Value.ref b]) (hts _ (by decide +kernel)) (hts _ (by decide +kernel)) (hs _ (by decide +kernel)) hA, vx_Zqof (args := #[Value.ref b]) (hts _ (by decide +kernel)) (hts _ (by decide +kernel)) (hs _ (by decide +kernel)) hA, fun w hw => ?_⟩
  exact va_Nw.of (List.all_eq_true.mp xz_on w hw) (hts w (of_decide_eq_true (List.all_eq_true.mp xz_in w hw)))
theorem whole_start {p : Program} {e : Env} {s : State} {m : MethodId} {below : List Frame} {meth : Method} {c : Code} (l : Launch) (hflags : l.flags = flags0) {b L : Nat} {xs : Nat → Int32} (hL : L ≤ 3072) (C0 : lw_At p s m meth c b L xs) : W p l e room_1 s m #[Value.ref b] below meth c s.heap [] 0 0 (lw_Z below #[Value.ref b] s) (entryFrame m ([Value.ref b] : List Value).toArray 7) := by
  obtain ⟨hx, hb, hr, hml, hown, hts, hX, hbl, hlocks, hgv⟩ := id C0
  have hfl : l.stackTraces = false := by
    unfold Launch.stackTraces
    rw [hflags]
    decide +kernel
  have hw : ∀ w ∈ Wd, w.before #[Value.ref b] s = true := fun w h => hts w (Wd_in h)
  obtain ⟨ad, hE⟩ := st_EN C0
  obtain ⟨D, cA, hK⟩ := st_K hw hE.2.1
  have R : RC RL cL_law p s m #[Value.ref b] c D cA ad (LA s) := ⟨hx, hb, hown, hw, hE, hK, fun q h => h⟩
  have C : LC p s m b L xs c D cA ad := ⟨R, hml, hX, hbl, hL⟩
  have hl := lv_entry ([.ref b]) (n := 7) (Nat.le_of_ble_eq_true rfl)
  rw [lg_entry_eq]
  generalize (lg_sl ([.ref b]) ++ List.replicate (7 - (lg_sl ([.ref b])).length) Slot.unset).toArray = ls at hl ⊢
  have hl : lv_has ls 7 [(0, .ref b)] := hl
  refine l_entry C hl (fun φ ρ μ H locs cells slots ls J hl k1 k2 => ?_)
  refine l_loop (l_53 hfl (st_XZ C0) C) C (fun H locs cells slots ls hS k1 k2 => ?_) _ 0 φ ρ μ H locs cells slots ls (Nat.lt_succ_self _) (by omega) (by omega) J hl (by omega) (by omega)
  refine va_forget (fun q hq => hS.2.2 q hq) ?_
  refine W.widen (k := 601024) (n := 7293034) k1 k2 ?_
  exact lw_ret hx hb hr hlocks dL_law_1963
end WST
