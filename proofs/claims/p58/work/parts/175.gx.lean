/-! ===== the law's cells: the class's, and rows of ints behind them ===== -/
def GX (X : List Sh) : Gx := (true, SH ++ X)
set_option maxRecDepth 4000 in
theorem SH_len : SH.length = 178 := rfl
theorem GX_len {X : List Sh} : (GX X).2.length = 178 + X.length := by
  show (SH ++ X).length = _
  rw [List.length_append, SH_len]
theorem shX0 {X : List Sh} : (GX X).2[0]? = some (7, 0) := rfl
theorem shXx {X : List Sh} {k : Nat} : (GX X).2[178 + k]? = X[k]? := by
  show (SH ++ X)[178 + k]? = _
  rw [List.getElem?_append_right (by rw [SH_len]; omega), SH_len, Nat.add_sub_cancel_left]
theorem shXe {X : List Sh} {sh : Sh} : (GX (X ++ [sh])).2[178 + X.length]? = some sh := by
  rw [shXx, List.getElem?_append_right (Nat.le_refl _)]
  simp
theorem shXm {X : List Sh} {o : Nat} {sh sh' : Sh} (h : (GX X).2[o]? = some sh) : (GX (X ++ [sh'])).2[o]? = some sh := by
  show (SH ++ (X ++ [sh']))[o]? = _
  have h : (SH ++ X)[o]? = some sh := h
  rw [← List.append_assoc, List.getElem?_append_left (List.getElem?_eq_some_iff.mp h).1]
  exact h
theorem GX_le {X : List Sh} {sh : Sh} : (GX X).2.length ≤ (GX (X ++ [sh])).2.length := by
  rw [GX_len, GX_len, List.length_append]
  omega
theorem GX_push {X : List Sh} {sh : Sh} : (((GX X).1, (GX X).2 ++ [sh]) : Gx) = GX (X ++ [sh]) := by
  show ((true, (SH ++ X) ++ [sh]) : Gx) = (true, SH ++ (X ++ [sh]))
  rw [List.append_assoc]
