/-! ===== what the law's entry gives ===== -/
theorem st_K {s : State} {args : Array Value} (hts : ∀ w ∈ Wd, w.before args s = true) (hao : va_AO RX6 s) : ∃ (D : va_G) (cA : Nat → ClassId), va_K D vwCl (tysOf cA) s := by
  have hc : ∀ k : Nat, ∃ x : ClassId × (Nat → Nat), ∀ q : vw_C, vwCl[k]? = some q → u_Kn s q.1 q.2.1 q.2.2 x.1 x.2 := by
    intro k
    cases h : vwCl[k]? with
    | none => exact ⟨(0, fun _ => 0), fun q hq => by cases hq⟩
    | some q =>
      have hi : Cond.instantiable q.1 q.2.2 ∈ Wd := by
        have h1 : (vwCl.all fun q => decide (Cond.instantiable q.1 q.2.2 ∈ Wd)) = true := by decide +kernel
        exact of_decide_eq_true (List.all_eq_true.mp h1 q (List.mem_of_getElem? h))
      obtain ⟨cC, iS, hK⟩ := u_known (C := q.1) (T := q.2.1) (N := q.2.2) (n := q.2.2) hts (lay_in k q h) (hts _ hi)
      exact ⟨(cC, iS), fun q' hq => by cases hq; exact hK⟩
  obtain ⟨f, hf⟩ := Classical.axiomOfChoice hc
  obtain ⟨c0, k0, m0, x0, y0, z0⟩ := Cond.arrayClass_spec (hts _ kA_int)
  obtain ⟨c1, k1, m1, x1, y1, z1⟩ := Cond.arrayClass_spec (hts _ kA_long)
  obtain ⟨c2, k2, m2, x2, y2, z2⟩ := Cond.arrayClass_spec (hts _ kA_byte)
  obtain ⟨c3, k3, m3, x3, y3, z3⟩ := Cond.arrayClass_spec (hts _ kA_boolean)
  obtain ⟨m4, c4, k4, w4, -, y4, z4, x4⟩ := Cond.arrayOver_spec hao
  refine ⟨(fun k => (f k).1, fun k => (f k).2), fun i => if i = 0 then c0 else if i = 1 then c1 else if i = 2 then c2 else if i = 3 then c3 else c4, fun k q hq => hf k q hq, fun k q hq => ?_⟩
  match k, hq with
  | 0, hq => cases hq; exact ⟨fun n z => ⟨fun k h => (by cases h), k0, y0, m0, z0⟩, x0⟩
  | 1, hq => cases hq; exact ⟨fun n z => ⟨fun k h => (by cases h), k1, y1, m1, z1⟩, x1⟩
  | 2, hq => cases hq; exact ⟨fun n z => ⟨fun k h => (by cases h), k2, y2, m2, z2⟩, x2⟩
  | 3, hq => cases hq; exact ⟨fun n z => ⟨fun k h => (by cases h), k3, y3, m3, z3⟩, x3⟩
  | 4, hq => cases hq; exact ⟨fun n z => ⟨fun k h => (by cases h), k4, y4, m4, z4⟩, k4, m4, y4, z4, w4, x4⟩
  | k + 5, hq => cases hq
