/-! ===== the constructors, one by one ===== -/
def al0 : List Sh := [(13, 2), (10, 2), (10, 2), (10, 10), (10, 10), (10, 10), (11, 4), (10, 4), (10, 4), (10, 3), (10, 5), (10, 5), (10, 5), (10, 5), (10, 5)]
def fl0 : List (Nat × Nat) := [(0, 0), (1, 1), (2, 2), (3, 3), (4, 4), (5, 5), (6, 6), (7, 7), (8, 8), (9, 9), (10, 10), (11, 11), (12, 12), (13, 13), (14, 14)]
set_option maxRecDepth 4000 in
theorem ct_X0 {S : List Sh} {ρ : Rf} {μ : Mem} (hl : S.length + 17 < 100000) : qE mX0_init (false, (S ++ [(0, 0)]) ++ al0) (false, S ++ [(0, 0)]) [qP S.length] ρ μ (fun _ ρ' μ' => ρ' = upsF S.length fl0 ρ ∧ μ' = μ) := by
  have hno : S.length ≠ nid := by unfold nid; omega
  have hS : (S ++ [((0, 0) : Sh)]).length = S.length + 1 := by simp
  have ho : (S ++ [((0, 0) : Sh)])[S.length]? = some (0, 0) := by simp
  have ga : ∀ {T : List Sh}, (S ++ [((0, 0) : Sh)])[S.length]? = some (0, 0) → ((S ++ [((0, 0) : Sh)]) ++ T)[S.length]? = some (0, 0) := fun h => by rw [List.getElem?_append_left (by omega)]; exact h
  have hL : ∀ {T : List Sh}, T.length ≤ 15 → ((S ++ [((0, 0) : Sh)]) ++ T).length + 1 < nid := fun h => by rw [List.length_append, hS]; unfold nid; omega
  refine qE_intro pl_X0_init (Nat.le_of_ble_eq_true rfl) (by show (S ++ [((0, 0) : Sh)]).length ≤ ((S ++ [((0, 0) : Sh)]) ++ al0).length; simp) ?_
  show qX mX0_init _ _ (false, S ++ [((0, 0) : Sh)]) (0, 0) 0 [some (qP S.length)] [] ρ μ
  refine qX_aload_n 0 dX0_init_0 rfl rfl hno ?_
  refine qX_objInit dX0_init_1 kM_X0_3 ho (by decide) (by decide) ?_
  refine qX_nil ?_
  refine mk_f (kd := 13) (N := 2) 0 0 rfl hno ho hS rfl dX0_init_4 (fun h => qX_iconst dX0_init_5 (by unfold i32; omega) h) (fun h => qX_newZ 2 dX0_init_6 rfl (by decide) rfl (hL (by decide)) (by decide) h) dX0_init_8 fs_X0_9 (fun _ => ⟨rfl, rfl⟩) rfl rfl ?_
  refine mk_f (kd := 10) (N := 2) 1 1 rfl hno ho hS rfl dX0_init_11 (fun h => qX_iconst dX0_init_12 (by unfold i32; omega) h) (fun h => qX_newI 2 dX0_init_13 rfl (by decide) rfl (hL (by decide)) (by decide) h) dX0_init_15 fs_X0_15 (fun _ => ⟨rfl, rfl⟩) rfl rfl ?_
  refine mk_f (kd := 10) (N := 2) 2 2 rfl hno ho hS rfl dX0_init_18 (fun h => qX_iconst dX0_init_19 (by unfold i32; omega) h) (fun h => qX_newI 2 dX0_init_20 rfl (by decide) rfl (hL (by decide)) (by decide) h) dX0_init_22 fs_X0_19 (fun _ => ⟨rfl, rfl⟩) rfl rfl ?_
  refine mk_f (kd := 10) (N := 10) 3 3 rfl hno ho hS rfl dX0_init_25 (fun h => qX_bipush dX0_init_26 (by unfold i32; omega) rfl h) (fun h => qX_newI 10 dX0_init_28 rfl (by decide) rfl (hL (by decide)) (by decide) h) dX0_init_30 fs_X0_22 (fun _ => ⟨rfl, rfl⟩) rfl rfl ?_
  refine mk_f (kd := 10) (N := 10) 4 4 rfl hno ho hS rfl dX0_init_33 (fun h => qX_bipush dX0_init_34 (by unfold i32; omega) rfl h) (fun h => qX_newI 10 dX0_init_36 rfl (by decide) rfl (hL (by decide)) (by decide) h) dX0_init_38 fs_X0_25 (fun _ => ⟨rfl, rfl⟩) rfl rfl ?_
  refine mk_f (kd := 10) (N := 10) 5 5 rfl hno ho hS rfl dX0_init_41 (fun h => qX_bipush dX0_init_42 (by unfold i32; omega) rfl h) (fun h => qX_newI 10 dX0_init_44 rfl (by decide) rfl (hL (by decide)) (by decide) h) dX0_init_46 fs_X0_28 (fun _ => ⟨rfl, rfl⟩) rfl rfl ?_
  refine mk_f (kd := 11) (N := 4) 6 6 rfl hno ho hS rfl dX0_init_49 (fun h => qX_iconst dX0_init_50 (by unfold i32; omega) h) (fun h => qX_newJ 4 dX0_init_51 rfl (by decide) rfl (hL (by decide)) (by decide) h) dX0_init_53 fs_X0_31 (fun _ => ⟨rfl, rfl⟩) rfl rfl ?_
  refine mk_f (kd := 10) (N := 4) 7 7 rfl hno ho hS rfl dX0_init_56 (fun h => qX_iconst dX0_init_57 (by unfold i32; omega) h) (fun h => qX_newI 4 dX0_init_58 rfl (by decide) rfl (hL (by decide)) (by decide) h) dX0_init_60 fs_X0_35 (fun _ => ⟨rfl, rfl⟩) rfl rfl ?_
  refine mk_f (kd := 10) (N := 4) 8 8 rfl hno ho hS rfl dX0_init_63 (fun h => qX_iconst dX0_init_64 (by unfold i32; omega) h) (fun h => qX_newI 4 dX0_init_65 rfl (by decide) rfl (hL (by decide)) (by decide) h) dX0_init_67 fs_X0_38 (fun _ => ⟨rfl, rfl⟩) rfl rfl ?_
  refine mk_f (kd := 10) (N := 3) 9 9 rfl hno ho hS rfl dX0_init_70 (fun h => qX_iconst dX0_init_71 (by unfold i32; omega) h) (fun h => qX_newI 3 dX0_init_72 rfl (by decide) rfl (hL (by decide)) (by decide) h) dX0_init_74 fs_X0_41 (fun _ => ⟨rfl, rfl⟩) rfl rfl ?_
  refine mk_f (kd := 10) (N := 5) 10 10 rfl hno ho hS rfl dX0_init_77 (fun h => qX_iconst dX0_init_78 (by unfold i32; omega) h) (fun h => qX_newI 5 dX0_init_79 rfl (by decide) rfl (hL (by decide)) (by decide) h) dX0_init_81 fs_X0_44 (fun _ => ⟨rfl, rfl⟩) rfl rfl ?_
  refine mk_f (kd := 10) (N := 5) 11 11 rfl hno ho hS rfl dX0_init_84 (fun h => qX_iconst dX0_init_85 (by unfold i32; omega) h) (fun h => qX_newI 5 dX0_init_86 rfl (by decide) rfl (hL (by decide)) (by decide) h) dX0_init_88 fs_X0_47 (fun _ => ⟨rfl, rfl⟩) rfl rfl ?_
  refine mk_f (kd := 10) (N := 5) 12 12 rfl hno ho hS rfl dX0_init_91 (fun h => qX_iconst dX0_init_92 (by unfold i32; omega) h) (fun h => qX_newI 5 dX0_init_93 rfl (by decide) rfl (hL (by decide)) (by decide) h) dX0_init_95 fs_X0_50 (fun _ => ⟨rfl, rfl⟩) rfl rfl ?_
  refine mk_f (kd := 10) (N := 5) 13 13 rfl hno ho hS rfl dX0_init_98 (fun h => qX_iconst dX0_init_99 (by unfold i32; omega) h) (fun h => qX_newI 5 dX0_init_100 rfl (by decide) rfl (hL (by decide)) (by decide) h) dX0_init_102 fs_X0_53 (fun _ => ⟨rfl, rfl⟩) rfl rfl ?_
  refine mk_f (kd := 10) (N := 5) 14 14 rfl hno ho hS rfl dX0_init_105 (fun h => qX_iconst dX0_init_106 (by unfold i32; omega) h) (fun h => qX_newI 5 dX0_init_107 rfl (by decide) rfl (hL (by decide)) (by decide) h) dX0_init_109 fs_X0_56 (fun _ => ⟨rfl, rfl⟩) rfl rfl ?_
  exact qX_return rfl dX0_init_112 rfl (by decide) ⟨rfl, rfl⟩
def al3 : List Sh := [(10, 20), (10, 20), (10, 20), (10, 20), (10, 20), (10, 20), (10, 20), (10, 20), (10, 12), (10, 5), (10, 5), (10, 5), (10, 10)]
def fl3 : List (Nat × Nat) := [(0, 0), (1, 1), (2, 2), (3, 3), (4, 4), (5, 5), (6, 6), (7, 7), (8, 8), (10, 9), (11, 10), (12, 11), (13, 12)]
set_option maxRecDepth 4000 in
theorem ct_X3 {S : List Sh} {ρ : Rf} {μ : Mem} (hl : S.length + 15 < 100000) : qE mX3_init (false, (S ++ [(3, 0)]) ++ al3) (false, S ++ [(3, 0)]) [qP S.length] ρ μ (fun _ ρ' μ' => ρ' = upsF S.length fl3 ρ ∧ μ' = μ) := by
  have hno : S.length ≠ nid := by unfold nid; omega
  have hS : (S ++ [((3, 0) : Sh)]).length = S.length + 1 := by simp
  have ho : (S ++ [((3, 0) : Sh)])[S.length]? = some (3, 0) := by simp
  have ga : ∀ {T : List Sh}, (S ++ [((3, 0) : Sh)])[S.length]? = some (3, 0) → ((S ++ [((3, 0) : Sh)]) ++ T)[S.length]? = some (3, 0) := fun h => by rw [List.getElem?_append_left (by omega)]; exact h
  have hL : ∀ {T : List Sh}, T.length ≤ 13 → ((S ++ [((3, 0) : Sh)]) ++ T).length + 1 < nid := fun h => by rw [List.length_append, hS]; unfold nid; omega
  refine qE_intro pl_X3_init (Nat.le_of_ble_eq_true rfl) (by show (S ++ [((3, 0) : Sh)]).length ≤ ((S ++ [((3, 0) : Sh)]) ++ al3).length; simp) ?_
  show qX mX3_init _ _ (false, S ++ [((3, 0) : Sh)]) (0, 0) 0 [some (qP S.length)] [] ρ μ
  refine qX_aload_n 0 dX3_init_0 rfl rfl hno ?_
  refine qX_objInit dX3_init_1 kM_X3_3 ho (by decide) (by decide) ?_
  refine qX_nil ?_
  refine mk_f (kd := 10) (N := 20) 0 0 rfl hno ho hS rfl dX3_init_4 (fun h => qX_bipush dX3_init_5 (by unfold i32; omega) rfl h) (fun h => qX_newI 20 dX3_init_7 rfl (by decide) rfl (hL (by decide)) (by decide) h) dX3_init_9 fs_X3_9 (fun _ => ⟨rfl, rfl⟩) rfl rfl ?_
  refine mk_f (kd := 10) (N := 20) 1 1 rfl hno ho hS rfl dX3_init_12 (fun h => qX_bipush dX3_init_13 (by unfold i32; omega) rfl h) (fun h => qX_newI 20 dX3_init_15 rfl (by decide) rfl (hL (by decide)) (by decide) h) dX3_init_17 fs_X3_15 (fun _ => ⟨rfl, rfl⟩) rfl rfl ?_
  refine mk_f (kd := 10) (N := 20) 2 2 rfl hno ho hS rfl dX3_init_20 (fun h => qX_bipush dX3_init_21 (by unfold i32; omega) rfl h) (fun h => qX_newI 20 dX3_init_23 rfl (by decide) rfl (hL (by decide)) (by decide) h) dX3_init_25 fs_X3_18 (fun _ => ⟨rfl, rfl⟩) rfl rfl ?_
  refine mk_f (kd := 10) (N := 20) 3 3 rfl hno ho hS rfl dX3_init_28 (fun h => qX_bipush dX3_init_29 (by unfold i32; omega) rfl h) (fun h => qX_newI 20 dX3_init_31 rfl (by decide) rfl (hL (by decide)) (by decide) h) dX3_init_33 fs_X3_21 (fun _ => ⟨rfl, rfl⟩) rfl rfl ?_
  refine mk_f (kd := 10) (N := 20) 4 4 rfl hno ho hS rfl dX3_init_36 (fun h => qX_bipush dX3_init_37 (by unfold i32; omega) rfl h) (fun h => qX_newI 20 dX3_init_39 rfl (by decide) rfl (hL (by decide)) (by decide) h) dX3_init_41 fs_X3_24 (fun _ => ⟨rfl, rfl⟩) rfl rfl ?_
  refine mk_f (kd := 10) (N := 20) 5 5 rfl hno ho hS rfl dX3_init_44 (fun h => qX_bipush dX3_init_45 (by unfold i32; omega) rfl h) (fun h => qX_newI 20 dX3_init_47 rfl (by decide) rfl (hL (by decide)) (by decide) h) dX3_init_49 fs_X3_27 (fun _ => ⟨rfl, rfl⟩) rfl rfl ?_
  refine mk_f (kd := 10) (N := 20) 6 6 rfl hno ho hS rfl dX3_init_52 (fun h => qX_bipush dX3_init_53 (by unfold i32; omega) rfl h) (fun h => qX_newI 20 dX3_init_55 rfl (by decide) rfl (hL (by decide)) (by decide) h) dX3_init_57 fs_X3_30 (fun _ => ⟨rfl, rfl⟩) rfl rfl ?_
  refine mk_f (kd := 10) (N := 20) 7 7 rfl hno ho hS rfl dX3_init_60 (fun h => qX_bipush dX3_init_61 (by unfold i32; omega) rfl h) (fun h => qX_newI 20 dX3_init_63 rfl (by decide) rfl (hL (by decide)) (by decide) h) dX3_init_65 fs_X3_33 (fun _ => ⟨rfl, rfl⟩) rfl rfl ?_
  refine mk_f (kd := 10) (N := 12) 8 8 rfl hno ho hS rfl dX3_init_68 (fun h => qX_bipush dX3_init_69 (by unfold i32; omega) rfl h) (fun h => qX_newI 12 dX3_init_71 rfl (by decide) rfl (hL (by decide)) (by decide) h) dX3_init_73 fs_X3_36 (fun _ => ⟨rfl, rfl⟩) rfl rfl ?_
  refine mk_f (kd := 10) (N := 5) 10 9 rfl hno ho hS rfl dX3_init_76 (fun h => qX_iconst dX3_init_77 (by unfold i32; omega) h) (fun h => qX_newI 5 dX3_init_78 rfl (by decide) rfl (hL (by decide)) (by decide) h) dX3_init_80 fs_X3_39 (fun _ => ⟨rfl, rfl⟩) rfl rfl ?_
  refine mk_f (kd := 10) (N := 5) 11 10 rfl hno ho hS rfl dX3_init_83 (fun h => qX_iconst dX3_init_84 (by unfold i32; omega) h) (fun h => qX_newI 5 dX3_init_85 rfl (by decide) rfl (hL (by decide)) (by decide) h) dX3_init_87 fs_X3_42 (fun _ => ⟨rfl, rfl⟩) rfl rfl ?_
  refine mk_f (kd := 10) (N := 5) 12 11 rfl hno ho hS rfl dX3_init_90 (fun h => qX_iconst dX3_init_91 (by unfold i32; omega) h) (fun h => qX_newI 5 dX3_init_92 rfl (by decide) rfl (hL (by decide)) (by decide) h) dX3_init_94 fs_X3_45 (fun _ => ⟨rfl, rfl⟩) rfl rfl ?_
  refine mk_f (kd := 10) (N := 10) 13 12 rfl hno ho hS rfl dX3_init_97 (fun h => qX_bipush dX3_init_98 (by unfold i32; omega) rfl h) (fun h => qX_newI 10 dX3_init_100 rfl (by decide) rfl (hL (by decide)) (by decide) h) dX3_init_102 fs_X3_48 (fun _ => ⟨rfl, rfl⟩) rfl rfl ?_
  exact qX_return rfl dX3_init_105 rfl (by decide) ⟨rfl, rfl⟩
def al4 : List Sh := [(10, 10), (10, 10), (10, 10)]
def fl4 : List (Nat × Nat) := [(0, 0), (1, 1), (2, 2)]
set_option maxRecDepth 4000 in
theorem ct_X4 {S : List Sh} {ρ : Rf} {μ : Mem} (hl : S.length + 5 < 100000) : qE mX4_init (false, (S ++ [(4, 0)]) ++ al4) (false, S ++ [(4, 0)]) [qP S.length] ρ μ (fun _ ρ' μ' => ρ' = upsF S.length fl4 ρ ∧ μ' = μ) := by
  have hno : S.length ≠ nid := by unfold nid; omega
  have hS : (S ++ [((4, 0) : Sh)]).length = S.length + 1 := by simp
  have ho : (S ++ [((4, 0) : Sh)])[S.length]? = some (4, 0) := by simp
  have ga : ∀ {T : List Sh}, (S ++ [((4, 0) : Sh)])[S.length]? = some (4, 0) → ((S ++ [((4, 0) : Sh)]) ++ T)[S.length]? = some (4, 0) := fun h => by rw [List.getElem?_append_left (by omega)]; exact h
  have hL : ∀ {T : List Sh}, T.length ≤ 3 → ((S ++ [((4, 0) : Sh)]) ++ T).length + 1 < nid := fun h => by rw [List.length_append, hS]; unfold nid; omega
  refine qE_intro pl_X4_init (Nat.le_of_ble_eq_true rfl) (by show (S ++ [((4, 0) : Sh)]).length ≤ ((S ++ [((4, 0) : Sh)]) ++ al4).length; simp) ?_
  show qX mX4_init _ _ (false, S ++ [((4, 0) : Sh)]) (0, 0) 0 [some (qP S.length)] [] ρ μ
  refine qX_aload_n 0 dX4_init_0 rfl rfl hno ?_
  refine qX_objInit dX4_init_1 kM_X4_3 ho (by decide) (by decide) ?_
  refine qX_nil ?_
  refine mk_f (kd := 10) (N := 10) 0 0 rfl hno ho hS rfl dX4_init_4 (fun h => qX_bipush dX4_init_5 (by unfold i32; omega) rfl h) (fun h => qX_newI 10 dX4_init_7 rfl (by decide) rfl (hL (by decide)) (by decide) h) dX4_init_9 fs_X4_9 (fun _ => ⟨rfl, rfl⟩) rfl rfl ?_
  refine mk_f (kd := 10) (N := 10) 1 1 rfl hno ho hS rfl dX4_init_12 (fun h => qX_bipush dX4_init_13 (by unfold i32; omega) rfl h) (fun h => qX_newI 10 dX4_init_15 rfl (by decide) rfl (hL (by decide)) (by decide) h) dX4_init_17 fs_X4_15 (fun _ => ⟨rfl, rfl⟩) rfl rfl ?_
  refine mk_f (kd := 10) (N := 10) 2 2 rfl hno ho hS rfl dX4_init_20 (fun h => qX_bipush dX4_init_21 (by unfold i32; omega) rfl h) (fun h => qX_newI 10 dX4_init_23 rfl (by decide) rfl (hL (by decide)) (by decide) h) dX4_init_25 fs_X4_18 (fun _ => ⟨rfl, rfl⟩) rfl rfl ?_
  exact qX_return rfl dX4_init_28 rfl (by decide) ⟨rfl, rfl⟩
def al5 : List Sh := [(10, 8), (10, 8), (10, 8), (10, 8), (10, 8), (10, 8), (10, 8), (10, 8), (10, 256)]
def fl5 : List (Nat × Nat) := [(0, 0), (1, 1), (5, 2), (6, 3), (7, 4), (8, 5), (9, 6), (10, 7), (11, 8)]
set_option maxRecDepth 4000 in
theorem ct_X5 {S : List Sh} {ρ : Rf} {μ : Mem} (hl : S.length + 11 < 100000) : qE mX5_init (false, (S ++ [(5, 0)]) ++ al5) (false, S ++ [(5, 0)]) [qP S.length] ρ μ (fun _ ρ' μ' => ρ' = upsF S.length fl5 ρ ∧ μ' = μ) := by
  have hno : S.length ≠ nid := by unfold nid; omega
  have hS : (S ++ [((5, 0) : Sh)]).length = S.length + 1 := by simp
  have ho : (S ++ [((5, 0) : Sh)])[S.length]? = some (5, 0) := by simp
  have ga : ∀ {T : List Sh}, (S ++ [((5, 0) : Sh)])[S.length]? = some (5, 0) → ((S ++ [((5, 0) : Sh)]) ++ T)[S.length]? = some (5, 0) := fun h => by rw [List.getElem?_append_left (by omega)]; exact h
  have hL : ∀ {T : List Sh}, T.length ≤ 9 → ((S ++ [((5, 0) : Sh)]) ++ T).length + 1 < nid := fun h => by rw [List.length_append, hS]; unfold nid; omega
  refine qE_intro pl_X5_init (Nat.le_of_ble_eq_true rfl) (by show (S ++ [((5, 0) : Sh)]).length ≤ ((S ++ [((5, 0) : Sh)]) ++ al5).length; simp) ?_
  show qX mX5_init _ _ (false, S ++ [((5, 0) : Sh)]) (0, 0) 0 [some (qP S.length)] [] ρ μ
  refine qX_aload_n 0 dX5_init_0 rfl rfl hno ?_
  refine qX_objInit dX5_init_1 kM_X5_3 ho (by decide) (by decide) ?_
  refine qX_nil ?_
  refine mk_f (kd := 10) (N := 8) 0 0 rfl hno ho hS rfl dX5_init_4 (fun h => qX_bipush dX5_init_5 (by unfold i32; omega) rfl h) (fun h => qX_newI 8 dX5_init_7 rfl (by decide) rfl (hL (by decide)) (by decide) h) dX5_init_9 fs_X5_9 (fun _ => ⟨rfl, rfl⟩) rfl rfl ?_
  refine mk_f (kd := 10) (N := 8) 1 1 rfl hno ho hS rfl dX5_init_12 (fun h => qX_bipush dX5_init_13 (by unfold i32; omega) rfl h) (fun h => qX_newI 8 dX5_init_15 rfl (by decide) rfl (hL (by decide)) (by decide) h) dX5_init_17 fs_X5_15 (fun _ => ⟨rfl, rfl⟩) rfl rfl ?_
  refine mk_f (kd := 10) (N := 8) 5 2 rfl hno ho hS rfl dX5_init_20 (fun h => qX_bipush dX5_init_21 (by unfold i32; omega) rfl h) (fun h => qX_newI 8 dX5_init_23 rfl (by decide) rfl (hL (by decide)) (by decide) h) dX5_init_25 fs_X5_18 (fun _ => ⟨rfl, rfl⟩) rfl rfl ?_
  refine mk_f (kd := 10) (N := 8) 6 3 rfl hno ho hS rfl dX5_init_28 (fun h => qX_bipush dX5_init_29 (by unfold i32; omega) rfl h) (fun h => qX_newI 8 dX5_init_31 rfl (by decide) rfl (hL (by decide)) (by decide) h) dX5_init_33 fs_X5_21 (fun _ => ⟨rfl, rfl⟩) rfl rfl ?_
  refine mk_f (kd := 10) (N := 8) 7 4 rfl hno ho hS rfl dX5_init_36 (fun h => qX_bipush dX5_init_37 (by unfold i32; omega) rfl h) (fun h => qX_newI 8 dX5_init_39 rfl (by decide) rfl (hL (by decide)) (by decide) h) dX5_init_41 fs_X5_24 (fun _ => ⟨rfl, rfl⟩) rfl rfl ?_
  refine mk_f (kd := 10) (N := 8) 8 5 rfl hno ho hS rfl dX5_init_44 (fun h => qX_bipush dX5_init_45 (by unfold i32; omega) rfl h) (fun h => qX_newI 8 dX5_init_47 rfl (by decide) rfl (hL (by decide)) (by decide) h) dX5_init_49 fs_X5_27 (fun _ => ⟨rfl, rfl⟩) rfl rfl ?_
  refine mk_f (kd := 10) (N := 8) 9 6 rfl hno ho hS rfl dX5_init_52 (fun h => qX_bipush dX5_init_53 (by unfold i32; omega) rfl h) (fun h => qX_newI 8 dX5_init_55 rfl (by decide) rfl (hL (by decide)) (by decide) h) dX5_init_57 fs_X5_30 (fun _ => ⟨rfl, rfl⟩) rfl rfl ?_
  refine mk_f (kd := 10) (N := 8) 10 7 rfl hno ho hS rfl dX5_init_60 (fun h => qX_bipush dX5_init_61 (by unfold i32; omega) rfl h) (fun h => qX_newI 8 dX5_init_63 rfl (by decide) rfl (hL (by decide)) (by decide) h) dX5_init_65 fs_X5_33 (fun _ => ⟨rfl, rfl⟩) rfl rfl ?_
  refine mk_f (kd := 10) (N := 256) 11 8 rfl hno ho hS rfl dX5_init_68 (fun h => qX_sipush dX5_init_69 (by unfold i32; omega) rfl h) (fun h => qX_newI 256 dX5_init_72 rfl (by decide) rfl (hL (by decide)) (by decide) h) dX5_init_74 fs_X5_36 (fun _ => ⟨rfl, rfl⟩) rfl rfl ?_
  exact qX_return rfl dX5_init_77 rfl (by decide) ⟨rfl, rfl⟩
def al6 : List Sh := [(10, 20), (10, 20), (10, 20), (10, 20), (10, 2), (10, 12)]
def fl6 : List (Nat × Nat) := [(0, 0), (1, 1), (2, 2), (3, 3), (4, 4), (5, 5)]
set_option maxRecDepth 4000 in
theorem ct_X6 {S : List Sh} {ρ : Rf} {μ : Mem} (hl : S.length + 8 < 100000) : qE mX6_init (false, (S ++ [(6, 0)]) ++ al6) (false, S ++ [(6, 0)]) [qP S.length] ρ μ (fun _ ρ' μ' => ρ' = upsF S.length fl6 ρ ∧ μ' = μ) := by
  have hno : S.length ≠ nid := by unfold nid; omega
  have hS : (S ++ [((6, 0) : Sh)]).length = S.length + 1 := by simp
  have ho : (S ++ [((6, 0) : Sh)])[S.length]? = some (6, 0) := by simp
  have ga : ∀ {T : List Sh}, (S ++ [((6, 0) : Sh)])[S.length]? = some (6, 0) → ((S ++ [((6, 0) : Sh)]) ++ T)[S.length]? = some (6, 0) := fun h => by rw [List.getElem?_append_left (by omega)]; exact h
  have hL : ∀ {T : List Sh}, T.length ≤ 6 → ((S ++ [((6, 0) : Sh)]) ++ T).length + 1 < nid := fun h => by rw [List.length_append, hS]; unfold nid; omega
  refine qE_intro pl_X6_init (Nat.le_of_ble_eq_true rfl) (by show (S ++ [((6, 0) : Sh)]).length ≤ ((S ++ [((6, 0) : Sh)]) ++ al6).length; simp) ?_
  show qX mX6_init _ _ (false, S ++ [((6, 0) : Sh)]) (0, 0) 0 [some (qP S.length)] [] ρ μ
  refine qX_aload_n 0 dX6_init_0 rfl rfl hno ?_
  refine qX_objInit dX6_init_1 kM_X6_3 ho (by decide) (by decide) ?_
  refine qX_nil ?_
  refine mk_f (kd := 10) (N := 20) 0 0 rfl hno ho hS rfl dX6_init_4 (fun h => qX_bipush dX6_init_5 (by unfold i32; omega) rfl h) (fun h => qX_newI 20 dX6_init_7 rfl (by decide) rfl (hL (by decide)) (by decide) h) dX6_init_9 fs_X6_9 (fun _ => ⟨rfl, rfl⟩) rfl rfl ?_
  refine mk_f (kd := 10) (N := 20) 1 1 rfl hno ho hS rfl dX6_init_12 (fun h => qX_bipush dX6_init_13 (by unfold i32; omega) rfl h) (fun h => qX_newI 20 dX6_init_15 rfl (by decide) rfl (hL (by decide)) (by decide) h) dX6_init_17 fs_X6_15 (fun _ => ⟨rfl, rfl⟩) rfl rfl ?_
  refine mk_f (kd := 10) (N := 20) 2 2 rfl hno ho hS rfl dX6_init_20 (fun h => qX_bipush dX6_init_21 (by unfold i32; omega) rfl h) (fun h => qX_newI 20 dX6_init_23 rfl (by decide) rfl (hL (by decide)) (by decide) h) dX6_init_25 fs_X6_18 (fun _ => ⟨rfl, rfl⟩) rfl rfl ?_
  refine mk_f (kd := 10) (N := 20) 3 3 rfl hno ho hS rfl dX6_init_28 (fun h => qX_bipush dX6_init_29 (by unfold i32; omega) rfl h) (fun h => qX_newI 20 dX6_init_31 rfl (by decide) rfl (hL (by decide)) (by decide) h) dX6_init_33 fs_X6_21 (fun _ => ⟨rfl, rfl⟩) rfl rfl ?_
  refine mk_f (kd := 10) (N := 2) 4 4 rfl hno ho hS rfl dX6_init_36 (fun h => qX_iconst dX6_init_37 (by unfold i32; omega) h) (fun h => qX_newI 2 dX6_init_38 rfl (by decide) rfl (hL (by decide)) (by decide) h) dX6_init_40 fs_X6_24 (fun _ => ⟨rfl, rfl⟩) rfl rfl ?_
  refine mk_f (kd := 10) (N := 12) 5 5 rfl hno ho hS rfl dX6_init_43 (fun h => qX_bipush dX6_init_44 (by unfold i32; omega) rfl h) (fun h => qX_newI 12 dX6_init_46 rfl (by decide) rfl (hL (by decide)) (by decide) h) dX6_init_48 fs_X6_27 (fun _ => ⟨rfl, rfl⟩) rfl rfl ?_
  exact qX_return rfl dX6_init_51 rfl (by decide) ⟨rfl, rfl⟩
def al8 : List Sh := [(10, 900), (10, 188), (10, 188), (10, 188), (10, 1880), (11, 4), (13, 2), (13, 12), (10, 5), (10, 5), (10, 5), (10, 5), (10, 5), (13, 5), (10, 12), (10, 10), (10, 20), (10, 20), (10, 20), (10, 20), (10, 20), (10, 20), (10, 10), (10, 10), (10, 5), (10, 5), (10, 8), (10, 256), (10, 8)]
def fl8 : List (Nat × Nat) := [(2, 0), (12, 1), (13, 2), (14, 3), (15, 4), (16, 5), (17, 6), (18, 7), (22, 8), (23, 9), (24, 10), (25, 11), (26, 12), (27, 13), (28, 14), (29, 15), (30, 16), (31, 17), (32, 18), (33, 19), (34, 20), (35, 21), (38, 22), (39, 23), (40, 24), (41, 25), (44, 26), (45, 27), (46, 28)]
