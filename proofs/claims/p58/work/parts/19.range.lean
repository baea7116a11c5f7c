/-! ===== rows of arithmetic that stays in its range ===== -/
section QRNG
variable {M : MI} {G : Gx} {Fi : Gx → Int → Rf → Mem → Prop} {kc : Nat × Nat} {pc : Nat} {lv : List (Option AV)} {st : List AV} {ρ : Rf} {μ : Mem}
theorem qX_ok2 {a b : Int} (h : i32 a → i32 b → qXF M Fi G kc pc lv (qI b :: qI a :: st) ρ μ) : qXF M Fi G kc pc lv (qI b :: qI a :: st) ρ μ := by
  intro p l e s m args below meth c D cA ad A n0 φ0 Q C φ H locs ls hφ hn hM hl hkl hks hP hD hS
  exact h (okS_h (okS_t hks)) (okS_h hks) p l e s m args below meth c D cA ad A n0 φ0 Q C φ H locs ls hφ hn hM hl hkl hks hP hD hS
theorem qR_iadd {a b : Int} (hd : decode M.2.1 pc = .ok (.iadd, 1)) (hr : i32 (a + b)) (h : qXF M Fi G kc (pc + 1) lv (qI (a + b) :: st) ρ μ) : qXF M Fi G kc pc lv (qI b :: qI a :: st) ρ μ := by
  refine qX_iadd hd ?_
  rw [w32_id hr]
  exact h
theorem qR_isub {a b : Int} (hd : decode M.2.1 pc = .ok (.isub, 1)) (hr : i32 (a - b)) (h : qXF M Fi G kc (pc + 1) lv (qI (a - b) :: st) ρ μ) : qXF M Fi G kc pc lv (qI b :: qI a :: st) ρ μ := by
  refine qX_isub hd ?_
  rw [w32_id hr]
  exact h
theorem qR_imul {a b : Int} (hd : decode M.2.1 pc = .ok (.imul, 1)) (hr : i32 (a * b)) (h : qXF M Fi G kc (pc + 1) lv (qI (a * b) :: st) ρ μ) : qXF M Fi G kc pc lv (qI b :: qI a :: st) ρ μ := by
  refine qX_imul hd ?_
  rw [w32_id hr]
  exact h
theorem qR_iinc {i : Nat} {n z : Int} (hd : decode M.2.1 pc = .ok (.iinc i n, 3)) (hv : lv[i]? = some (some (qI z))) (hn1 : i < M.2.2.1) (hL : qnoL lv i = true) (hr : i32 (z + n)) (h : qXF M Fi G kc (pc + 3) (lv.set i (some (qI (z + n)))) st ρ μ) : qXF M Fi G kc pc lv st ρ μ := by
  refine qX_iinc hd hv hn1 hL ?_
  rw [w32_id hr]
  exact h
theorem tdiv_r {a b : Int} (ha : 0 ≤ a) (hb : 0 < b) : 0 ≤ a / b ∧ a / b ≤ a := ⟨Int.ediv_nonneg ha (Int.le_of_lt hb), Int.ediv_le_self b ha⟩
theorem qR_idiv {a b : Int} (hd : decode M.2.1 pc = .ok (.idiv, 1)) (hr : 0 ≤ a ∧ 0 < b) (h : qXF M Fi G kc (pc + 1) lv (qI (a / b) :: st) ρ μ) : qXF M Fi G kc pc lv (qI b :: qI a :: st) ρ μ := by
  refine qX_ok2 fun ha hb => qX_idiv hd (by omega) ?_
  have h1 := tdiv_r hr.1 hr.2
  unfold i32 at ha
  rw [Int.tdiv_eq_ediv_of_nonneg hr.1, w32_id (by unfold i32; omega)]
  exact h
theorem qR_irem {a b : Int} (hd : decode M.2.1 pc = .ok (.irem, 1)) (hr : 0 ≤ a ∧ 0 < b) (h : qXF M Fi G kc (pc + 1) lv (qI (a % b) :: st) ρ μ) : qXF M Fi G kc pc lv (qI b :: qI a :: st) ρ μ := by
  refine qX_ok2 fun ha hb => qX_irem hd (by omega) ?_
  have h1 := Int.emod_nonneg a (show b ≠ 0 by omega)
  have h2 := Int.emod_lt_of_pos a hr.2
  unfold i32 at hb
  rw [Int.tmod_eq_emod_of_nonneg hr.1, w32_id (by unfold i32; omega)]
  exact h
theorem tdiv_neg_r {a b : Int} (hb : 0 < b) (ha : i32 a) : i32 (a.tdiv b) := by
  unfold i32 at ha ⊢
  by_cases h : 0 ≤ a
  · rw [Int.tdiv_eq_ediv_of_nonneg h]
    have := tdiv_r h hb
    omega
  · have h1 := tdiv_r (a := -a) (b := b) (by omega) hb
    have h2 : a.tdiv b = -((-a).tdiv b) := by rw [Int.neg_tdiv]; omega
    rw [h2, Int.tdiv_eq_ediv_of_nonneg (by omega)]
    omega
theorem qR_idivT {a b : Int} (hd : decode M.2.1 pc = .ok (.idiv, 1)) (hr : 0 < b) (h : qXF M Fi G kc (pc + 1) lv (qI (a.tdiv b) :: st) ρ μ) : qXF M Fi G kc pc lv (qI b :: qI a :: st) ρ μ := by
  refine qX_ok2 fun ha hb => qX_idiv hd (by omega) ?_
  rw [w32_id (tdiv_neg_r hr ha)]
  exact h
theorem qR_ladd {a b : Int} (hd : decode M.2.1 pc = .ok (.ladd, 1)) (hr : i64 (a + b)) (h : qXF M Fi G kc (pc + 1) lv (qJ (a + b) :: st) ρ μ) : qXF M Fi G kc pc lv (qJ b :: qJ a :: st) ρ μ := by
  refine qX_ladd hd ?_
  rw [w64_id hr]
  exact h
theorem qR_lsub {a b : Int} (hd : decode M.2.1 pc = .ok (.lsub, 1)) (hr : i64 (a - b)) (h : qXF M Fi G kc (pc + 1) lv (qJ (a - b) :: st) ρ μ) : qXF M Fi G kc pc lv (qJ b :: qJ a :: st) ρ μ := by
  refine qX_lsub hd ?_
  rw [w64_id hr]
  exact h
theorem qR_lmul {a b : Int} (hd : decode M.2.1 pc = .ok (.lmul, 1)) (hr : i64 (a * b)) (h : qXF M Fi G kc (pc + 1) lv (qJ (a * b) :: st) ρ μ) : qXF M Fi G kc pc lv (qJ b :: qJ a :: st) ρ μ := by
  refine qX_lmul hd ?_
  rw [w64_id hr]
  exact h
theorem qR_abs {a : Int} {ix : Nat} (hd : decode M.2.1 pc = .ok (.invokestatic ix, 3)) (hw : Cond.methodLink M.1.cls ix Lib.Math.abs.name ∈ Wd) (hR : 1 ≤ M.2.2.2.2.frames ∧ 21 ≤ M.2.2.2.2.locals) (hst : st.length ≤ 4) (hcap : kc.1 ≤ M.2.2.2.2.cells ∧ kc.2 ≤ M.2.2.2.2.slots) (hr : i32 (-a)) (h : qXF M Fi G kc (pc + 3) lv (qI (max a (-a)) :: st) ρ μ) : qXF M Fi G kc pc lv (qI a :: st) ρ μ := by
  refine qX_abs hd hw hR hst hcap ?_
  have e : abs32 a = max a (-a) := by
    unfold abs32
    split
    · omega
    · rw [show (0 : Int) - a = -a by omega, w32_id hr]; omega
  rw [e]
  exact h
end QRNG
