/-! ===== rows on the memory: fields, arrays, making ===== -/
def objF (φ : Nat → Nat) (ci : Nat) (r : Int → Nat) (f : Int → Int) : List Value := (List.range (fks ci).length).map fun j => fldV φ ((fks ci).getD j 0) (r j) (f j)
theorem cellE_obj {φ : Nat → Nat} {cA : Nat → ClassId} {ci n : Nat} {r : Int → Nat} {f : Int → Int} (h : ci < 8) : cellE φ cA (ci, n) r f = .inr (ci, objF φ ci r f) := by
  unfold cellE objF
  split <;> first | rfl | (rename_i h1; simp only at h1; omega)
theorem tyOf_obj {ci n k : Nat} (h : ci < 8) : tyOf (ci, n) k = (fks ci).getD k 0 := by
  unfold tyOf
  split <;> first | rfl | (rename_i h1; simp only at h1; omega)
theorem vwCl_lt {ci : Nat} {q : vw_C} (h : vwCl[ci]? = some q) : ci < 8 := by
  have := (List.getElem?_eq_some_iff.mp h).1
  simpa using this
theorem objF_get {φ : Nat → Nat} {ci k t : Nat} {r : Int → Nat} {f : Int → Int} (h : (fks ci)[k]? = some t) : (objF φ ci r f)[k]? = some (fldV φ t (r k) (f k)) := by
  have hl : k < (fks ci).length := (List.getElem?_eq_some_iff.mp h).1
  unfold objF
  rw [List.getElem?_map, List.getElem?_range hl]
  simp [List.getD_eq_getElem?_getD, h]
theorem objF_len {φ : Nat → Nat} {ci : Nat} {r : Int → Nat} {f : Int → Int} : (objF φ ci r f).length = (fks ci).length := by simp [objF]
theorem objF_set {φ : Nat → Nat} {ci k t : Nat} {r r' : Int → Nat} {f f' : Int → Int} {v : Value} (h : (fks ci)[k]? = some t) (hv : v = fldV φ t (r' k) (f' k)) (hr : ∀ j : Nat, j ≠ k → r' j = r j) (hf : ∀ j : Nat, j ≠ k → f' j = f j) : (objF φ ci r f).set k v = objF φ ci r' f' := by
  apply List.ext_getElem?
  intro j
  have hl : k < (fks ci).length := (List.getElem?_eq_some_iff.mp h).1
  by_cases hj : j = k
  · subst hj
    rw [List.getElem?_set_self (by rw [objF_len]; exact hl), objF_get h, hv]
  · rw [List.getElem?_set_ne (Ne.symm hj)]
    by_cases hjl : j < (fks ci).length
    · have h1 : (fks ci)[j]? = some (fks ci)[j] := List.getElem?_eq_getElem hjl
      rw [objF_get h1, objF_get h1, hr j hj, hf j hj]
    · rw [List.getElem?_eq_none (by rw [objF_len]; omega), List.getElem?_eq_none (by rw [objF_len]; omega)]
/-- what an instruction on a field needs of the tables: the kind, whether it is final, its type -/
def FS (own : String) (ix ci k t : Nat) (fin : Bool) (ty : FieldType) : Prop := ∃ q : vw_C, vwCl[ci]? = some q ∧ k < q.2.2 ∧ (fks ci)[k]? = some t ∧ Cond.fieldLink own ix (q.2.1 k).1 (q.2.1 k).2.1 (q.2.1 k).2.2.1 ∈ Wd ∧ (q.2.1 k).2.2.2 = fin ∧ parseFieldDescriptor (q.2.1 k).2.2.1 = some ty ∧ (q.2.1 k).1 = q.1
theorem cls_ok : ∀ (ci : Nat) (q : vw_C), vwCl[ci]? = some q → (∃ ty0 : Nat → FieldType, ∀ k, k < q.2.2 → parseFieldDescriptor (q.2.1 k).2.2.1 = some (ty0 k)) ∧ ∀ a, a < q.2.2 → ∀ b, b < q.2.2 → a ≠ b → (q.2.1 a).2.1 ≠ (q.2.1 b).2.1 := by
  intro ci q h
  match ci, h with
  | 0, h => cases h; exact ⟨⟨tyX0, tyX0_ok⟩, nmX0⟩
  | 1, h => cases h; exact ⟨⟨tyX1, tyX1_ok⟩, nmX1⟩
  | 2, h => cases h; exact ⟨⟨tyX2, tyX2_ok⟩, nmX2⟩
  | 3, h => cases h; exact ⟨⟨tyX3, tyX3_ok⟩, nmX3⟩
  | 4, h => cases h; exact ⟨⟨tyX4, tyX4_ok⟩, nmX4⟩
  | 5, h => cases h; exact ⟨⟨tyX5, tyX5_ok⟩, nmX5⟩
  | 6, h => cases h; exact ⟨⟨tyX6, tyX6_ok⟩, nmX6⟩
  | 7, h => cases h; exact ⟨⟨tyX7, tyX7_ok⟩, nmX7⟩
  | k + 8, h => simp [vwCl] at h
theorem MOk_lt {G : Gx} {ρ : Rf} {μ : Mem} {o : Nat} {sh : Sh} (hM : MOk G ρ μ) (h : G.2[o]? = some sh) : o < G.2.length ∧ o ≠ nid := by
  have hl : o < G.2.length := (List.getElem?_eq_some_iff.mp h).1
  have h1 := hM.1
  exact ⟨hl, by omega⟩
section QHEAP
variable {M : MI} {G : Gx} {Fi : Gx → Int → Rf → Mem → Prop} {kc : Nat × Nat} {pc : Nat} {lv : List (Option AV)} {st : List AV} {ρ : Rf} {μ : Mem}
/-- a field is read: any kind -/
theorem qX_getF {ix ci k t o n : Nat} {fin : Bool} {ty : FieldType} {v : AV} (hd : decode M.2.1 pc = .ok (.getfield ix, 3)) (hf : FS M.1.cls ix ci k t fin ty) (ho : G.2[o]? = some (ci, n)) (hv : ∀ φ, fldV φ t (ρ o k) (μ o k) = vlf φ v) (hok : MOk G ρ μ → avOk G.2.length v) (h : qXF M Fi G kc (pc + 3) lv (v :: st) ρ μ) : qXF M Fi G kc pc lv (qP o :: st) ρ μ := by
  intro p l e s m args below meth c D cA ad A n0 φ0 Q C φ H locs ls hφ hn hM hl hkl hks hP hD hS
  obtain ⟨q, hc, hk, ht, hw, hfin, hty, hown⟩ := hf
  have h2 := h p l e s m args below meth c D cA ad A n0 φ0 Q C φ H locs ls hφ hn hM hl hkl (okS_c (hok hM) (okS_t hks)) hP hD hS
  have he := wsOf_get (φ := φ) (cA := cA) (ρ := ρ) (μ := μ) ho
  rw [cellE_obj (vwCl_lt hc)] at he
  show W _ _ _ _ _ _ _ _ _ _ _ _ _ _ _ (F0 m pc ls (vlf φ (qP o) :: st.map (vlf φ)))
  rw [vlf_P hM ho]
  refine va_get (C := q.1) (T := q.2.1) (N := q.2.2) C.1 C.2.1 C.2.2.2.2.1 (lay_in ci q hc) C.2.2.2.1 C.2.2.2.2.2.2.1 hP o he hc k hk (C.2.2.2.2.1 _ hw) (fun _ h9 => h9) (objF_get ht) hd ?_
  rw [hv φ]
  exact h2
theorem qX_getI (ci k o : Nat) {ix n : Nat} {fin : Bool} {ty : FieldType} (hd : decode M.2.1 pc = .ok (.getfield ix, 3)) (hf : FS M.1.cls ix ci k 0 fin ty) (ho : G.2[o]? = some (ci, n)) (h : qXF M Fi G kc (pc + 3) lv (qI (μ o k) :: st) ρ μ) : qXF M Fi G kc pc lv (qP o :: st) ρ μ := by
  have hf' := hf
  obtain ⟨q, hc, hk, ht, -⟩ := hf'
  refine qX_getF hd hf ho (fun φ => rfl) (fun hM => ?_) h
  exact (hM.2.1 o _ ho k).1 (by rw [tyOf_obj (vwCl_lt hc), List.getD_eq_getElem?_getD, ht]; rfl)
theorem qX_getJ (ci k o : Nat) {ix n : Nat} {fin : Bool} {ty : FieldType} (hd : decode M.2.1 pc = .ok (.getfield ix, 3)) (hf : FS M.1.cls ix ci k 1 fin ty) (ho : G.2[o]? = some (ci, n)) (h : qXF M Fi G kc (pc + 3) lv (qJ (μ o k) :: st) ρ μ) : qXF M Fi G kc pc lv (qP o :: st) ρ μ := by
  have hf' := hf
  obtain ⟨q, hc, hk, ht, -⟩ := hf'
  refine qX_getF hd hf ho (fun φ => rfl) (fun hM => ?_) h
  exact (hM.2.1 o _ ho k).2.1 (by rw [tyOf_obj (vwCl_lt hc), List.getD_eq_getElem?_getD, ht]; rfl)
theorem qX_getR (ci k o : Nat) {ix n : Nat} {fin : Bool} {ty : FieldType} (hd : decode M.2.1 pc = .ok (.getfield ix, 3)) (hf : FS M.1.cls ix ci k 2 fin ty) (ho : G.2[o]? = some (ci, n)) (h : qXF M Fi G kc (pc + 3) lv (qP (ρ o k) :: st) ρ μ) : qXF M Fi G kc pc lv (qP o :: st) ρ μ := by
  have hf' := hf
  obtain ⟨q, hc, hk, ht, -⟩ := hf'
  refine qX_getF hd hf ho (fun φ => rfl) (fun hM => ?_) h
  exact av_r ((hM.2.1 o _ ho k).2.2 (by rw [tyOf_obj (vwCl_lt hc), List.getD_eq_getElem?_getD, ht]; rfl))
/-- a field that holds for ever the cell so many places behind -/
theorem qX_getS (ci k o off : Nat) {ix n : Nat} {fin : Bool} {ty : FieldType} (hd : decode M.2.1 pc = .ok (.getfield ix, 3)) (hf : FS M.1.cls ix ci k 2 fin ty) (hs : sto ci k = some off) (hz : G.1 = true) (ho : G.2[o]? = some (ci, n)) {x : Nat} (hx : x = o + 1 + off) (h : qXF M Fi G kc (pc + 3) lv (qP x :: st) ρ μ) : qXF M Fi G kc pc lv (qP o :: st) ρ μ := by
  intro p l e s m args below meth c D cA ad A n0 φ0 Q C φ H locs ls hφ hn hM hl hkl hks hP hD hS
  have e1 : ρ o k = x := (hM.2.2.1 hz o _ ho k off hs).trans hx.symm
  rw [← e1] at h
  exact qX_getR ci k o hd hf ho h p l e s m args below meth c D cA ad A n0 φ0 Q C φ H locs ls hφ hn hM hl hkl hks hP hD hS
theorem up2_o {α : Type} {f : Nat → Int → α} {o : Nat} {k : Int} {v : α} {x : Nat} (h : x ≠ o) : up2 f o k v x = f x := by
  funext b
  exact up2_n (fun z => h z.1)
theorem up2_k {α : Type} {f : Nat → Int → α} {o : Nat} {k b : Int} {v : α} (h : b ≠ k) : up2 f o k v o b = f o b := up2_n (fun z => h z.2)
/-- a number is put where the shape allows it -/
theorem MOk_putN {o : Nat} {sh : Sh} {k : Int} {z : Int} (hM : MOk G ρ μ) (ho : G.2[o]? = some sh) (hz : ∀ j : Nat, (j : Int) = k → (tyOf sh j = 0 → i32 z) ∧ (tyOf sh j = 1 → i64 z)) : MOk G ρ (up2 μ o k z) := by
  have hl := (MOk_lt hM ho).1
  refine ⟨hM.1, fun x shx hx j => ?_, hM.2.2.1, fun x hx b => ?_⟩
  · have h0 := hM.2.1 x shx hx j
    by_cases hxo : x = o ∧ (j : Int) = k
    · obtain ⟨rfl, hj⟩ := hxo
      cases hx.symm.trans ho
      rw [show up2 μ x k z x (j : Int) = z by rw [hj]; exact up2_s]
      exact ⟨(hz j hj).1, (hz j hj).2, h0.2.2⟩
    · rw [up2_n hxo]
      exact h0
  · rw [up2_n (fun z => by have := z.1; omega)]
    exact hM.2.2.2 x hx b
/-- a reference is put into a field or a place that isn't one of the layout's -/
theorem MOk_putR {o q : Nat} {sh : Sh} {k : Int} (hM : MOk G ρ μ) (ho : G.2[o]? = some sh) (hz : q < G.2.length ∨ q = nid) (hs : G.1 = true → ∀ j : Nat, (j : Int) = k → sto sh.1 j = none) : MOk G (up2 ρ o k q) μ := by
  have hl := (MOk_lt hM ho).1
  refine ⟨hM.1, fun x shx hx j => ?_, fun hG x shx hx j off hj => ?_, fun x hx b => ?_⟩
  · have h0 := hM.2.1 x shx hx j
    refine ⟨h0.1, h0.2.1, fun ht => ?_⟩
    by_cases hxo : x = o ∧ (j : Int) = k
    · rw [hxo.1, hxo.2, up2_s]
      exact hz
    · rw [up2_n hxo]
      exact h0.2.2 ht
  · have h0 := hM.2.2.1 hG x shx hx j off hj
    rw [up2_n (fun z => ?_)]
    · exact h0
    · obtain ⟨rfl, hjk⟩ := z
      cases hx.symm.trans ho
      rw [hs hG j hjk] at hj
      cases hj
  · rw [up2_n (fun z => by have := z.1; omega)]
    exact hM.2.2.2 x hx b
/-- a field is put that isn't final: a number -/
theorem qX_putN {ix ci k t o n : Nat} {ty : FieldType} {v : AV} {z : Int} (hd : decode M.2.1 pc = .ok (.putfield ix, 3)) (hf : FS M.1.cls ix ci k t false ty) (ho : G.2[o]? = some (ci, n)) (hv : ∀ φ r, fldV φ t r z = vlf φ v) (hna : ∀ φ, avOk G.2.length v → narrow ty (vlf φ v) = vlf φ v ∧ fits ty (vlf φ v) = true) (hz : avOk G.2.length v → (t = 0 → i32 z) ∧ (t = 1 → i64 z)) (h : qXF M Fi G kc (pc + 3) lv st ρ (up2 μ o k z)) : qXF M Fi G kc pc lv (v :: qP o :: st) ρ μ := by
  intro p l e s m args below meth c D cA ad A n0 φ0 Q C φ H locs ls hφ hn hM hl hkl hks hP hD hS
  obtain ⟨q, hc, hk, ht, hw, hfin, hty, hown⟩ := hf
  have hvok := okS_h hks
  have hM2 : MOk G ρ (up2 μ o k z) := MOk_putN hM ho (fun j hj => by
    have e1 : j = k := by omega
    subst e1
    rw [tyOf_obj (vwCl_lt hc), List.getD_eq_getElem?_getD, ht]
    exact hz hvok)
  have he := wsOf_get (φ := φ) (cA := cA) (ρ := ρ) (μ := μ) ho
  rw [cellE_obj (vwCl_lt hc)] at he
  show W _ _ _ _ _ _ _ _ _ _ _ _ _ _ _ (F0 m pc ls (vlf φ v :: vlf φ (qP o) :: st.map (vlf φ)))
  rw [vlf_P hM ho]
  obtain ⟨⟨ty0, hty0⟩, hnm⟩ := cls_ok ci q hc
  obtain ⟨hn1, hf1⟩ := hna φ hvok
  refine va_put (C := q.1) (T := q.2.1) (N := q.2.2) C.1 C.2.1 C.2.2.2.2.1 (lay_in ci q hc) ty0 hty0 hnm C.2.2.2.1 C.2.2.2.2.2.2.1 hP hD hS o he hc k hk (C.2.2.2.2.1 _ hw) (fun _ h9 => h9) hfin hty hn1 hf1 (by rw [objF_len]; exact (List.getElem?_eq_some_iff.mp ht).1) hd (fun H1 locs1 hP1 hD1 hS1 => ?_)
  have e2 := wsOf_set (φ := φ) (cA := cA) (ρ := ρ) (ρ' := ρ) (μ := μ) (μ' := up2 μ o k z) (e := .inr (ci, (objF φ ci (ρ o) (μ o)).set k (vlf φ v))) ho rfl (by
    rw [cellE_obj (vwCl_lt hc), objF_set (r' := ρ o) (f' := up2 μ o k z o) ht (by rw [up2_s]; exact (hv φ _).symm) (fun _ _ => rfl) (fun j hj => up2_k (by omega))]) (fun _ _ => rfl) (fun x hx => up2_o hx)
  rw [e2] at hP1 hD1
  exact h p l e s m args below meth c D cA ad A n0 φ0 Q C φ H1 locs1 ls hφ hn hM2 hl hkl (okS_t (okS_t hks)) hP1 hD1 hS1
theorem qX_putI (ci k o : Nat) {ix n : Nat} {z : Int} (hd : decode M.2.1 pc = .ok (.putfield ix, 3)) (hf : FS M.1.cls ix ci k 0 false .int) (ho : G.2[o]? = some (ci, n)) (h : qXF M Fi G kc (pc + 3) lv st ρ (up2 μ o k z)) : qXF M Fi G kc pc lv (qI z :: qP o :: st) ρ μ :=
  qX_putN hd hf ho (fun _ _ => rfl) (fun _ _ => ⟨rfl, rfl⟩) (fun hz => ⟨fun _ => hz, fun e => by cases e⟩) h
theorem qX_putZ (ci k o : Nat) {ix n : Nat} {z : Int} (hd : decode M.2.1 pc = .ok (.putfield ix, 3)) (hf : FS M.1.cls ix ci k 0 false .boolean) (ho : G.2[o]? = some (ci, n)) (hz01 : z = 0 ∨ z = 1) (h : qXF M Fi G kc (pc + 3) lv st ρ (up2 μ o k z)) : qXF M Fi G kc pc lv (qI z :: qP o :: st) ρ μ :=
  qX_putN hd hf ho (fun _ _ => rfl) (fun _ _ => by rcases hz01 with rfl | rfl <;> exact ⟨rfl, rfl⟩) (fun hz => ⟨fun _ => hz, fun e => by cases e⟩) h
theorem qX_putJ (ci k o : Nat) {ix n : Nat} {z : Int} (hd : decode M.2.1 pc = .ok (.putfield ix, 3)) (hf : FS M.1.cls ix ci k 1 false .long) (ho : G.2[o]? = some (ci, n)) (h : qXF M Fi G kc (pc + 3) lv st ρ (up2 μ o k z)) : qXF M Fi G kc pc lv (qJ z :: qP o :: st) ρ μ :=
  qX_putN hd hf ho (fun _ _ => rfl) (fun _ _ => ⟨rfl, rfl⟩) (fun hz => ⟨(fun e => by cases e), fun _ => hz⟩) h
/-- a reference is put: a field that isn't final -/
theorem qX_putR (ci k o : Nat) {ix n q1 : Nat} {ty : FieldType} (hd : decode M.2.1 pc = .ok (.putfield ix, 3)) (hf : FS M.1.cls ix ci k 2 false ty) (ho : G.2[o]? = some (ci, n)) (hna : ∀ a, narrow ty (.ref a) = .ref a ∧ fits ty (.ref a) = true) (hq : q1 < G.2.length) (hs : sto ci k = none) (h : qXF M Fi G kc (pc + 3) lv st (up2 ρ o k q1) μ) : qXF M Fi G kc pc lv (qP q1 :: qP o :: st) ρ μ := by
  intro p l e s m args below meth c D cA ad A n0 φ0 Q C φ H locs ls hφ hn hM hl hkl hks hP hD hS
  obtain ⟨q, hc, hk, ht, hw, hfin, hty, hown⟩ := hf
  have hM2 : MOk G (up2 ρ o k q1) μ := MOk_putR hM ho (Or.inl hq) (fun _ j hj => by
    have e1 : j = k := by omega
    subst e1
    exact hs)
  have he := wsOf_get (φ := φ) (cA := cA) (ρ := ρ) (μ := μ) ho
  rw [cellE_obj (vwCl_lt hc)] at he
  show W _ _ _ _ _ _ _ _ _ _ _ _ _ _ _ (F0 m pc ls (vlf φ (qP q1) :: vlf φ (qP o) :: st.map (vlf φ)))
  have e0 : vlf φ (qP q1) = .ref (φ q1) := by show va_rf (rlf φ q1) = _; rw [rlf_lt hq hM.1]; rfl
  rw [vlf_P hM ho, e0]
  obtain ⟨⟨ty0, hty0⟩, hnm⟩ := cls_ok ci q hc
  obtain ⟨hn1, hf1⟩ := hna (φ q1)
  refine va_put (C := q.1) (T := q.2.1) (N := q.2.2) C.1 C.2.1 C.2.2.2.2.1 (lay_in ci q hc) ty0 hty0 hnm C.2.2.2.1 C.2.2.2.2.2.2.1 hP hD hS o he hc k hk (C.2.2.2.2.1 _ hw) (fun _ h9 => h9) hfin hty hn1 hf1 (by rw [objF_len]; exact (List.getElem?_eq_some_iff.mp ht).1) hd (fun H1 locs1 hP1 hD1 hS1 => ?_)
  have e2 := wsOf_set (φ := φ) (cA := cA) (ρ := ρ) (ρ' := up2 ρ o k q1) (μ := μ) (μ' := μ) (e := .inr (ci, (objF φ ci (ρ o) (μ o)).set k (.ref (φ q1)))) ho rfl (by
    rw [cellE_obj (vwCl_lt hc), objF_set (r' := up2 ρ o k q1 o) (f' := μ o) ht (by rw [up2_s]; exact e0.symm) (fun j hj => up2_k (by omega)) (fun _ _ => rfl)]) (fun x hx => up2_o hx) (fun _ _ => rfl)
  rw [e2] at hP1 hD1
  exact h p l e s m args below meth c D cA ad A n0 φ0 Q C φ H1 locs1 ls hφ hn hM2 hl hkl (okS_t (okS_t hks)) hP1 hD1 hS1
/-- a final field is put, in a constructor -/
theorem qX_putF (ci k o : Nat) {ix n q1 : Nat} {ty : FieldType} (hd : decode M.2.1 pc = .ok (.putfield ix, 3)) (hf : FS M.1.cls ix ci k 2 true ty) (ho : G.2[o]? = some (ci, n)) (hna : ∀ a, narrow ty (.ref a) = .ref a ∧ fits ty (.ref a) = true) (hq : q1 < G.2.length) (hz : G.1 = false) (hi : M.1.name = "<init>") (hme : (vwCl[ci]?).map (fun q => q.1) = some M.1.cls) (h : qXF M Fi G kc (pc + 3) lv st (up2 ρ o k q1) μ) : qXF M Fi G kc pc lv (qP q1 :: qP o :: st) ρ μ := by
  intro p l e s m args below meth c D cA ad A n0 φ0 Q C φ H locs ls hφ hn hM hl hkl hks hP hD hS
  obtain ⟨q, hc, hk, ht, hw, hfin, hty, hown⟩ := hf
  have hM2 : MOk G (up2 ρ o k q1) μ := MOk_putR hM ho (Or.inl hq) (fun e => by rw [hz] at e; cases e)
  have he := wsOf_get (φ := φ) (cA := cA) (ρ := ρ) (μ := μ) ho
  rw [cellE_obj (vwCl_lt hc)] at he
  show W _ _ _ _ _ _ _ _ _ _ _ _ _ _ _ (F0 m pc ls (vlf φ (qP q1) :: vlf φ (qP o) :: st.map (vlf φ)))
  have e0 : vlf φ (qP q1) = .ref (φ q1) := by show va_rf (rlf φ q1) = _; rw [rlf_lt hq hM.1]; rfl
  rw [vlf_P hM ho, e0]
  obtain ⟨⟨ty0, hty0⟩, hnm⟩ := cls_ok ci q hc
  obtain ⟨hn1, hf1⟩ := hna (φ q1)
  have hme2 : q.1 = M.1.cls := by rw [hc] at hme; exact Option.some.inj hme
  refine va_putF (C := q.1) (T := q.2.1) (N := q.2.2) C.1 C.2.1 C.2.2.2.2.1 (lay_in ci q hc) ty0 hty0 hnm C.2.2.2.1 C.2.2.2.2.2.2.1 hP hD hS o he hc k hk (C.2.2.2.2.1 _ hw) (fun _ h9 => h9) hfin (C.2.2.2.2.2.2.2.2.1 hi) (by rw [hown, hme2]) hty hn1 hf1 (by rw [objF_len]; exact (List.getElem?_eq_some_iff.mp ht).1) hd (fun H1 locs1 hP1 hD1 hS1 => ?_)
  have e2 := wsOf_set (φ := φ) (cA := cA) (ρ := ρ) (ρ' := up2 ρ o k q1) (μ := μ) (μ' := μ) (e := .inr (ci, (objF φ ci (ρ o) (μ o)).set k (.ref (φ q1)))) ho rfl (by
    rw [cellE_obj (vwCl_lt hc), objF_set (r' := up2 ρ o k q1 o) (f' := μ o) ht (by rw [up2_s]; exact e0.symm) (fun j hj => up2_k (by omega)) (fun _ _ => rfl)]) (fun x hx => up2_o hx) (fun _ _ => rfl)
  rw [e2] at hP1 hD1
  exact h p l e s m args below meth c D cA ad A n0 φ0 Q C φ H1 locs1 ls hφ hn hM2 hl hkl (okS_t (okS_t hks)) hP1 hD1 hS1
end QHEAP
