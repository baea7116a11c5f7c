/-! ===== served: the class's method, which may throw ===== -/
section WROWS
variable {p : Program} {l : Launch} {e : Env} {R : Room} {s : State} {m : MethodId} {args : Array Value} {below : List Frame} {meth : Method} {c : Code} {D : va_G} {cA : Nat → ClassId} {ad : Nat × Nat} {A : Nat → Prop} {Q : State → Prop} {G Gc : Gx} {ρ : Rf} {μ : Mem} {φ : Nat → Nat} {H : Heap} {locs : List Loc} {cells slots : Nat} {pc : Nat} {ls : Array Slot} {st : List Value} {own : String} {cc : ByteArray} {Post' : Int → Rf → Mem → Prop}
theorem w_getF (C : RC own cc p s m args c D cA ad A) {ix ci k t o n : Nat} {fin : Bool} {ty : FieldType} {v : AV} (hd : decode cc pc = .ok (.getfield ix, 3)) (hf : FS own ix ci k t fin ty) (ho : G.2[o]? = some (ci, n)) (hv : fldV φ t (ρ o k) (μ o k) = vlf φ v) (hP : va_P D vwCl (wsOf φ cA G.2 ρ μ) H) (h : W p l e R s m args below meth c H locs cells slots Q (F0 m (pc + 3) ls (vlf φ v :: st))) : W p l e R s m args below meth c H locs cells slots Q (F0 m pc ls (.ref (φ o) :: st)) := by
  obtain ⟨q, hc, hk, ht, hw, hfin, hty, hown⟩ := hf
  have he := wsOf_get (φ := φ) (cA := cA) (ρ := ρ) (μ := μ) ho
  rw [cellE_obj (vwCl_lt hc)] at he
  refine va_get (C := q.1) (T := q.2.1) (N := q.2.2) C.1 C.2.1 C.2.2.2.1 (lay_in ci q hc) C.2.2.1 C.2.2.2.2.2.1 hP o he hc k hk (C.2.2.2.1 _ hw) (fun _ h9 => h9) (objF_get ht) hd ?_
  rw [hv]
  exact h
theorem w_last (C : RC own cc p s m args c D cA ad A) {a n : Nat} {i z : Int} (hz1 : i64 z) (hi1 : i32 i) (hM : MOk G ρ μ) (hd : decode cc pc = .ok (.lastore, 1)) (ha : G.2[a]? = some (11, n)) (hi : 0 ≤ i ∧ i < (n : Int)) (hP : va_P D vwCl (wsOf φ cA G.2 ρ μ) H) (hD : va_D A (wsOf φ cA G.2 ρ μ)) (hS : va_S A s.heap H locs) (h : ∀ (H1 : Heap) (locs1 : List Loc), MOk G ρ (up2 μ a i z) → va_P D vwCl (wsOf φ cA G.2 ρ (up2 μ a i z)) H1 → va_D A (wsOf φ cA G.2 ρ (up2 μ a i z)) → va_S A s.heap H1 locs1 → W p l e R s m args below meth c H1 locs1 cells slots Q (F0 m (pc + 1) ls st)) : W p l e R s m args below meth c H locs cells slots Q (F0 m pc ls (.long (Int64.ofInt z) :: .int (Int32.ofInt i) :: .ref (φ a) :: st)) := by
  refine va_last C.1 C.2.1 C.2.2.2.2.2.1 hP hD hS a 1 (wsOf_get ha) rfl (q_in hi1 hi) hd (fun H1 locs1 hP1 hD1 hS1 => ?_)
  rw [wsOf_set (ρ' := ρ) (μ' := up2 μ a i z) ha rfl (cst_long hi1 hi.1) (fun _ _ => rfl) (fun x hx => up2_o hx)] at hP1 hD1
  exact h H1 locs1 (MOk_putN hM ha (fun j _ => ⟨(fun e => by cases e), fun _ => hz1⟩)) hP1 hD1 hS1
theorem w_lald (C : RC own cc p s m args c D cA ad A) {a n : Nat} {i : Int} (hi1 : i32 i) (hd : decode cc pc = .ok (.laload, 1)) (ha : G.2[a]? = some (11, n)) (hi : 0 ≤ i ∧ i < (n : Int)) (hP : va_P D vwCl (wsOf φ cA G.2 ρ μ) H) (h : W p l e R s m args below meth c H locs cells slots Q (F0 m (pc + 1) ls (.long (Int64.ofInt (μ a i)) :: st))) : W p l e R s m args below meth c H locs cells slots Q (F0 m pc ls (.int (Int32.ofInt i) :: .ref (φ a) :: st)) := by
  refine va_lald C.1 C.2.1 C.2.2.2.2.2.1 hP a 1 (wsOf_get ha) rfl (q_in hi1 hi) hd ?_
  show W p l e R s m args below meth c H locs cells slots Q (F0 m (pc + 1) ls (.long (Int64.ofInt (μ a ((Int32.ofInt i).toNatClampNeg : Nat))) :: st))
  rw [q_cl hi1 hi.1]
  exact h
theorem w_callQ (C : RC own cc p s m args c D cA ad A) {Mc : MI} {as : List AV} {o ci na n ix : Nat} {g : List Value} (hc : CM own ix ci na Mc) (hE : qE Mc Gc G (qP o :: as) ρ μ Post') (ho : G.2[o]? = some (ci, n)) (has : okS G.2.length as) (hna : as.length = na) (hR : Mc.2.2.2.2.frames + 1 ≤ R.frames ∧ 8 + (Mc.2.2.1 + 11) + Mc.2.2.2.2.locals ≤ R.locals) (hsz : ls.size = c.maxLocals) (hcat : (st.map fun v => v.category).sum ≤ 8) (hcap : cells + Mc.2.2.2.2.cells ≤ R.cells ∧ slots + Mc.2.2.2.2.slots ≤ R.slots)
    (hst : g = (as.map (vlf φ)).reverse ++ .ref (φ o) :: st) (hd : decode cc pc = .ok (.invokevirtual ix, 3)) (hM : MOk G ρ μ) (hP : va_P D vwCl (wsOf φ cA G.2 ρ μ) H) (hD : va_D A (wsOf φ cA G.2 ρ μ)) (hS : va_S A s.heap H locs)
    (kk : ∀ (z : Int) (φ' : Nat → Nat) (ρ' : Rf) (μ' : Mem) (H1 : Heap) (locs1 : List Loc), Post' z ρ' μ' → retOk Mc.2.2.2.1 z → (∀ i, i < G.2.length → φ' i = φ i) → MOk Gc ρ' μ' → va_P D vwCl (wsOf φ' cA Gc.2 ρ' μ') H1 → va_D A (wsOf φ' cA Gc.2 ρ' μ') → va_S A s.heap H1 locs1 → W p l e R s m args below meth c H1 locs1 (cells + Mc.2.2.2.2.cells) (slots + Mc.2.2.2.2.slots) Q (F0 m (pc + 3) ls (retV Mc.2.2.2.1 z ++ st))) : W p l e R s m args below meth c H locs cells slots Q (F0 m pc ls g) := by
  obtain ⟨q, hq, w1, w2, w3, w4, w5, w6, w7⟩ := hc
  have ho1 : okS G.2.length (qP o :: as) := okS_c (Or.inl (MOk_lt hM ho).1) has
  have hMet := hE hM ho1 l D cA ad φ H.size
  have hpc : PcX (qP o :: as) G ρ μ D cA ad φ H.size = PcV (.ref (φ o) :: as.map (vlf φ)) G ρ μ D cA ad φ H.size := by
    unfold PcX PcV
    rw [List.map_cons, vlf_P hM ho]
  rw [hpc] at hMet
  have he := wsOf_get (φ := φ) (cA := cA) (ρ := ρ) (μ := μ) ho
  rw [cellE_obj (vwCl_lt hq)] at he
  exact w_callV (Cn := q.1) (b := φ o) (as := as.map (vlf φ)) (st := st) C hMet w1 w2 w3 w4 w5 w6 w7 hR (va_recv C.2.2.2.2.2.1 hP hq he) (by rw [List.length_map]; exact hna) hsz hcat hst hd hcap hP hD hS kk
end WROWS
