/-! ===== the whole walk ===== -/
section WST
set_option maxRecDepth 100000 in
set_option maxHeartbeats 4000000 in
theorem whole_start {p : Program} {e : Env} {s : State} {m : MethodId} {below : List Frame} {meth : Method} {c : Code} (l : Launch) (hflags : l.flags = flags0) {b L : Nat} {xs : Nat → Int32} (hL : L ≤ 260) (C0 : lw_At p s m meth c b L xs) : W p l e room_1 s m #[Value.ref b] below meth c s.heap [] 0 0 (lw_Z below #[Value.ref b] s) (entryFrame m ([Value.ref b] : List Value).toArray 11) := by
  obtain ⟨hx, hb, hr, hml, hown, hts, hX, hbl, hlocks, hgv⟩ := id C0
  have hw : ∀ w ∈ Wd, w.before #[Value.ref b] s = true := fun w h => hts w (Wd_in h)
  obtain ⟨u, hE⟩ := st_EN C0
  obtain ⟨D, cA, hK⟩ := st_K hw hE.2.1
  have hl := lv_entry ([.ref b]) (n := 11) (Nat.le_of_ble_eq_true rfl)
  rw [lg_entry_eq]
  generalize (lg_sl ([.ref b]) ++ List.replicate (11 - (lg_sl ([.ref b])).length) Slot.unset).toArray = ls at hl ⊢
  have hl : lv_has ls 11 [(0, .ref b)] := hl
  have es : (fun i : Nat => if i = sid then b else if i = uid then u else 0) sid = b := if_pos rfl
  have eu : (fun i : Nat => if i = sid then b else if i = uid then u else 0) uid = u := (if_neg (show uid ≠ sid by decide)).trans (if_pos rfl)
  generalize (fun i : Nat => if i = sid then b else if i = uid then u else 0) = φ at es eu
  have ev : vlf φ (qP sid) = .ref b := by rw [vlf_nn (by decide), es]
  have M0 : MOk (false, ([] : List Sh)) (fun _ _ => nid) (fun _ _ => 0) := ⟨by show 0 < nid; unfold nid; omega, fun o sh h => (by cases h), fun h => (by cases h), fun o _ k => ⟨rfl, rfl⟩⟩
  have P0 : va_P D vwCl (wsOf φ cA (false, ([] : List Sh)).2 (fun _ _ => nid) (fun _ _ => 0)) s.heap := fun k q h => by cases h
  have D0 : va_D (LA s) (wsOf φ cA (false, ([] : List Sh)).2 (fun _ _ => nid) (fun _ _ => 0)) := ⟨fun i j p q h => (by cases h), fun k q h => (by cases h)⟩
  have hlv : qlv φ ls mL_law.2.2.1 [some (qP sid), none, none, none, none, none, none, none, none, none, none] := ⟨hl.1, hl.2.1, fun q hq => by
    obtain ⟨v, h1, h2⟩ := qpr_mem.mp hq
    obtain ⟨i, x⟩ := q
    match i, h1, h2 with
    | 0, h1, h2 =>
      have h1 : qP sid = v := Option.some.inj (Option.some.inj h1)
      have h2 : x = vlf φ v := h2
      rw [h2, ← h1, ev]
      exact hl.2.2 (0, .ref b) List.mem_cons_self
    | i + 1, h1, _ =>
      have hm := List.mem_of_getElem? (show ([none, none, none, none, none, none, none, none, none, none] : List (Option AV))[i]? = some (some v) from h1)
      simp at hm⟩
  have hkl : okL (false, ([] : List Sh)).2.length [some (qP sid), none, none, none, none, none, none, none, none, none, none] := fun v hv => by
    simp at hv
    rw [hv]
    exact Or.inr (by decide)
  refine law_start p l e s m #[Value.ref b] below meth c D cA (u, b, L, xs) (LA s) 0 φ (lw_Z below #[Value.ref b] s) ⟨hx, hb, hml, hown, hw, ⟨hE, es, eu⟩, hK, fun q h => h, fun h => absurd h (by decide), ?_⟩ φ s.heap [] ls (fun _ _ => rfl) (Nat.le_refl _) M0 hlv hkl okS_0 P0 D0 va_S.rf
  intro G φ' ρ μ H locs pc ls' z _ _ _ _ _ hS hz _ _ hd
  have hz : z = 1 := hz
  subst hz
  refine va_forget (fun q hq => hS.2.2 q hq) ?_
  exact lw_ret hx hb hr hlocks hd
end WST
