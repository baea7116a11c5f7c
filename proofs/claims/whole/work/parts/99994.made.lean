/-! ===== objects made in a bare frame ===== -/
section WMADE
variable {p : Program} {l : Launch} {e : Env} {R : Room} {s : State} {m : MethodId} {args : Array Value} {below : List Frame} {meth : Method} {c : Code} {D : va_G} {cA : Nat → ClassId} {ad : Nat × Nat} {A : Nat → Prop} {Q : State → Prop} {G Gc : Gx} {ρ : Rf} {μ : Mem} {φ : Nat → Nat} {H : Heap} {locs : List Loc} {cells slots : Nat} {pc : Nat} {ls : Array Slot} {st : List Value} {own : String} {cc : ByteArray} {Post' : Int → Rf → Mem → Prop}
theorem w_new (C : RC own cc p s m args c D cA ad A) (ci : Nat) {ix : Nat} {q : vw_C} (hd : decode cc pc = .ok (.new ix, 3)) (hc : vwCl[ci]? = some q) (hw : Cond.classLink own ix q.1 ∈ Wd) (hw2 : Cond.instantiable q.1 q.2.2 ∈ Wd) (hw3 : Cond.initialized q.1 ∈ Wd) (hz : G.1 = false) (hlen : G.2.length + 1 < nid) (hcap : cells + 1 ≤ R.cells ∧ slots + q.2.2 ≤ R.slots) (hM : MOk G ρ μ) (hP : va_P D vwCl (wsOf φ cA G.2 ρ μ) H) (hD : va_D A (wsOf φ cA G.2 ρ μ)) (hS : va_S A s.heap H locs)
    (kk : ∀ (φ' : Nat → Nat) (H1 : Heap), (∀ i, i < G.2.length → φ' i = φ i) → MOk (G.1, G.2 ++ [(ci, 0)]) ρ μ → va_P D vwCl (wsOf φ' cA (G.2 ++ [(ci, 0)]) ρ μ) H1 → va_D A (wsOf φ' cA (G.2 ++ [(ci, 0)]) ρ μ) → va_S A s.heap H1 locs → W p l e R s m args below meth c H1 locs (cells + 1) (slots + q.2.2) Q (F0 m (pc + 3) ls (.ref (φ' G.2.length) :: st))) : W p l e R s m args below meth c H locs cells slots Q (F0 m pc ls st) := by
  have hts := C.2.2.2.1
  obtain ⟨ty, hty, hdf, hfl⟩ := new_ok ci q hc
  refine va_new (C := q.1) (T := q.2.1) (N := q.2.2) (ci := ci) (fs := objF φ ci (ρ G.2.length) (μ G.2.length)) C.1 C.2.1 hts (lay_in ci q hc) ty hty C.2.2.1 (hts _ hw) (hts _ hw2) (hts _ hw3) C.2.2.2.2.2.1 hP hD hS C.2.2.2.2.2.2 hc (fun j hj => ?_) hcap.1 hcap.2 hd (fun a H1 hP1 hD1 hS1 => ?_)
  · have hjl : j < (fks ci).length := by omega
    have ht : (fks ci)[j]? = some ((fks ci).getD j 0) := by rw [List.getD_eq_getElem?_getD, List.getElem?_eq_getElem hjl]; rfl
    have h1 := objF_get (φ := φ) (r := ρ G.2.length) (f := μ G.2.length) ht
    rw [hdf j hj]
    have h3 : vp_V (objF φ ci (ρ G.2.length) (μ G.2.length)) j = fldV φ ((fks ci).getD j 0) (ρ G.2.length j) (μ G.2.length j) := by
      unfold vp_V
      rw [List.getD_eq_getElem?_getD, h1]
      rfl
    rw [h3, (hM.2.2.2 _ (Nat.le_refl _) (j : Int)).1, (hM.2.2.2 _ (Nat.le_refl _) (j : Int)).2]
    exact fldV_ext (n := 0) (fun _ => Or.inr rfl) (fun i hi => by omega)
  · have e0 : (.inr (ci, objF φ ci (ρ G.2.length) (μ G.2.length)) : va_E) = cellE (phN φ G.2.length a) cA (ci, 0) (ρ G.2.length) (μ G.2.length) := by
      rw [cellE_ext (n := G.2.length) (fun k => ?_) (fun i hi => phN_lt hi), cellE_obj (vwCl_lt hc)]
      obtain ⟨h1, h2⟩ := hM.2.2.2 G.2.length (Nat.le_refl _) (k : Int)
      rw [h1, h2]
      exact ⟨fun _ => i32_0, fun _ => by unfold i64; omega, fun _ => Or.inr rfl⟩
    rw [wsOf_push (sh := (ci, 0)) hM e0] at hP1 hD1
    have h2 := kk (phN φ G.2.length a) H1 (fun i hi => phN_lt hi) (MOk_push hM hz hlen) hP1 hD1 hS1
    rw [phN_n] at h2
    exact h2
theorem w_newJ (C : RC own cc p s m args c D cA ad A) (N : Nat) {z : Int} (hz1 : i32 z) (hd : decode cc pc = .ok (.newarray .long, 2)) (hzN : z = (N : Int)) (hN : N ≤ 100000) (hz : G.1 = false) (hlen : G.2.length + 1 < nid) (hcap : cells + 1 ≤ R.cells ∧ slots + N ≤ R.slots) (hM : MOk G ρ μ) (hP : va_P D vwCl (wsOf φ cA G.2 ρ μ) H) (hD : va_D A (wsOf φ cA G.2 ρ μ)) (hS : va_S A s.heap H locs)
    (kk : ∀ (φ' : Nat → Nat) (H1 : Heap), (∀ i, i < G.2.length → φ' i = φ i) → MOk (G.1, G.2 ++ [(11, N)]) ρ μ → va_P D vwCl (wsOf φ' cA (G.2 ++ [(11, N)]) ρ μ) H1 → va_D A (wsOf φ' cA (G.2 ++ [(11, N)]) ρ μ) → va_S A s.heap H1 locs → W p l e R s m args below meth c H1 locs (cells + 1) (slots + N) Q (F0 m (pc + 2) ls (.ref (φ' G.2.length) :: st))) : W p l e R s m args below meth c H locs cells slots Q (F0 m pc ls (.int (Int32.ofInt z) :: st)) := by
  have hts := C.2.2.2.1
  have hcl := q_cl hz1 (by omega)
  refine va_newa (atype := .long) (ty := .long) (N' := N) (a0 := (N, .inr (.inl fun _ => 0))) C.1 C.2.1 (hts _ kA_long) rfl C.2.2.2.2.2.1 hP hD hS C.2.2.2.2.2.2 (fun _ => rfl) (fun w => by have := (q_lt hz1 i32_0).mp w; omega) (by omega) (by show N * 8 ≤ _; omega) hcap.1 hcap.2 hd (fun a cN H1 hK1 hP1 hD1 hS1 => ?_)
  have hcA : cN = cA 1 := by
    have h1 := (C.2.2.2.2.2.1.2 1 _ (rfl : (tysOf cA)[1]? = some (cA 1, .long))).2
    have h2 := (hK1.2 (tysOf cA).length (cN, .long) (by rw [List.getElem?_append_right (Nat.le_refl _), Nat.sub_self]; rfl)).2
    exact raC h1 h2
  rw [hcA] at hP1 hD1
  have e0 : (.inl (cA 1, N, .inr (.inl fun _ => 0)) : va_E) = cellE (phN φ G.2.length a) cA (11, N) (ρ G.2.length) (μ G.2.length) := by
    show _ = (.inl (cA 1, N, .inr (.inl fun j => Int64.ofInt (μ G.2.length j))) : va_E)
    congr 5
    funext j
    rw [(hM.2.2.2 _ (Nat.le_refl _) (j : Int)).2]
    rfl
  rw [wsOf_push (sh := (11, N)) hM e0] at hP1 hD1
  have h2 := kk (phN φ G.2.length a) H1 (fun i hi => phN_lt hi) (MOk_push hM hz hlen) hP1 hD1 hS1
  rw [phN_n] at h2
  exact h2
set_option maxHeartbeats 4000000 in
theorem w_callI (C : RC own cc p s m args c D cA ad A) {Mc : MI} {o ix : Nat} {sh : Sh} (hc : CIn own ix Mc) (hE : qE Mc Gc G [qP o] ρ μ Post') (ho : G.2[o]? = some sh) (hR : Mc.2.2.2.2.frames + 1 ≤ R.frames ∧ 8 + (Mc.2.2.1 + 11) + Mc.2.2.2.2.locals ≤ R.locals) (hsz : ls.size = c.maxLocals) (hcat : (st.map fun v => v.category).sum ≤ 8) (hcap : cells + Mc.2.2.2.2.cells ≤ R.cells ∧ slots + Mc.2.2.2.2.slots ≤ R.slots) (hd : decode cc pc = .ok (.invokespecial ix, 3)) (hM : MOk G ρ μ) (hP : va_P D vwCl (wsOf φ cA G.2 ρ μ) H) (hD : va_D A (wsOf φ cA G.2 ρ μ)) (hS : va_S A s.heap H locs)
    (kk : ∀ (φ' : Nat → Nat) (ρ' : Rf) (μ' : Mem) (H1 : Heap) (locs1 : List Loc), Post' 0 ρ' μ' → (∀ i, i < G.2.length → φ' i = φ i) → MOk Gc ρ' μ' → va_P D vwCl (wsOf φ' cA Gc.2 ρ' μ') H1 → va_D A (wsOf φ' cA Gc.2 ρ' μ') → va_S A s.heap H1 locs1 → W p l e R s m args below meth c H1 locs1 (cells + Mc.2.2.2.2.cells) (slots + Mc.2.2.2.2.slots) Q (F0 m (pc + 3) ls st)) : W p l e R s m args below meth c H locs cells slots Q (F0 m pc ls (.ref (φ o) :: st)) := by
  obtain ⟨w1, wi, w2, w4, w5, w6, w7, wk⟩ := hc
  have hts := C.2.2.2.1
  have ho1 : okS G.2.length [qP o] := okS_c (Or.inl (MOk_lt hM ho).1) okS_0
  have hMet := hE hM ho1 l D cA ad φ H.size
  have hpc : PcX [qP o] G ρ μ D cA ad φ H.size = PcV [.ref (φ o)] G ρ μ D cA ad φ H.size := by
    unfold PcX PcV
    rw [List.map_cons, vlf_P hM ho]
    rfl
  rw [hpc] at hMet
  have hpre : PreS s H (PcV [.ref (φ o)] G ρ μ D cA ad φ H.size) [.ref (φ o)] := ⟨PcV_blind, fun U hU hW => RC_pre C hP hD hS U hU hW⟩
  rw [wk] at hMet
  refine w_after (k := 0) C.2.2.2.2.2.2 hD hS (va_runI (As := []) (own := own) (n := 0) (ws := qws Mc) ⟨C.1, C.2.1, rfl, C.2.2.1, hts⟩ hMet ⟨⟨rfl, rfl, hR.1, hR.2, pay_in hts (by unfold qws; rw [wk]; exact good_ws w5), by unfold qws; rw [wk]; exact List.mem_cons_self, hts _ w5, hts _ w4, w6, na_of w7, hts _ w1⟩, wi, hts _ w2⟩ hpre rfl rfl hsz rfl (lv_room hcat) hd hcap) ?_
  intro z φ' ρ' μ' H1 locs1 h1 h2 h3 h4 h5 h6 h7
  have z0 : z = 0 := h2
  subst z0
  exact kk φ' ρ' μ' H1 locs1 h1 h3 h4 h5 h6 h7
end WMADE
