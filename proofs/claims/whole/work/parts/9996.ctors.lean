/-! ===== the constructors, one by one ===== -/
def al4 : List Sh := [(10, 10), (10, 10), (10, 10)]
def fl4 : List (Nat × Nat) := [(0, 0), (1, 1), (2, 2)]
set_option maxRecDepth 4000 in
theorem ct_X4 {S : List Sh} {ρ : Rf} {μ : Mem} (hl : S.length + 5 < 100000) : qE mX4_init (false, (S ++ [(4, 0)]) ++ al4) (false, S ++ [(4, 0)]) [qP S.length] ρ μ (fun _ ρ' μ' => ρ' = upsF S.length fl4 ρ ∧ μ' = μ) := by
  have hno : S.length ≠ nid := by unfold nid; omega
  have hS : (S ++ [((4, 0) : Sh)]).length = S.length + 1 := by simp
  have ho : (S ++ [((4, 0) : Sh)])[S.length]? = some (4, 0) := by simp
  have ga : ∀ {T : List Sh}, (S ++ [((4, 0) : Sh)])[S.length]? = some (4, 0) → ((S ++ [((4, 0) : Sh)]) ++ T)[S.length]? = some (4, 0) := fun h => by rw [List.getElem?_append_left (by omega)]; exact h
  have hL : ∀ {T : List Sh}, T.length ≤ 3 → ((S ++ [((4, 0) : Sh)]) ++ T).length + 1 < nid := fun h => by rw [List.length_append, hS]; unfold nid; omega
  refine qE_intro pl_X4_init (Nat.le_of_ble_eq_true rfl) (by show (S ++ [((4, 0) : Sh)]).length ≤ ((S ++ [((4, 0) : Sh)]) ++ al4).length; simp) ?_
  show qX mX4_init _ _ (false, S ++ [((4, 0) : Sh)]) (0, 0) 0 [some (qP S.length)] [] ρ μ
  refine qX_aload_n 0 dX4_init_0 rfl rfl hno ?_
  refine qX_objInit dX4_init_1 kM_X4_3 ho (by decide) (by decide) ?_
  refine qX_nil ?_
  refine mk_f (kd := 10) (N := 10) 0 0 rfl hno ho hS rfl dX4_init_4 (fun h => qX_bipush dX4_init_5 (by unfold i32; omega) rfl h) (fun h => qX_newI 10 dX4_init_7 rfl (by decide) rfl (hL (by decide)) (by decide) h) dX4_init_9 fs_X4_9 (fun _ => ⟨rfl, rfl⟩) rfl rfl ?_
  refine mk_f (kd := 10) (N := 10) 1 1 rfl hno ho hS rfl dX4_init_12 (fun h => qX_bipush dX4_init_13 (by unfold i32; omega) rfl h) (fun h => qX_newI 10 dX4_init_15 rfl (by decide) rfl (hL (by decide)) (by decide) h) dX4_init_17 fs_X4_15 (fun _ => ⟨rfl, rfl⟩) rfl rfl ?_
  refine mk_f (kd := 10) (N := 10) 2 2 rfl hno ho hS rfl dX4_init_20 (fun h => qX_bipush dX4_init_21 (by unfold i32; omega) rfl h) (fun h => qX_newI 10 dX4_init_23 rfl (by decide) rfl (hL (by decide)) (by decide) h) dX4_init_25 fs_X4_18 (fun _ => ⟨rfl, rfl⟩) rfl rfl ?_
  exact qX_return rfl dX4_init_28 rfl (by decide) ⟨rfl, rfl⟩
