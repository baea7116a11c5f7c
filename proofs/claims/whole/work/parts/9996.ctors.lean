/-! ===== the constructors, one by one ===== -/
def al0 : List Sh := [(13, 2), (10, 2), (10, 2), (10, 10), (10, 10), (10, 10), (11, 4), (10, 4), (10, 4), (10, 3), (10, 5), (10, 5), (10, 5), (10, 5), (10, 5)]
def fl0 : List (Nat × Nat) := [(0, 0), (1, 1), (2, 2), (3, 3), (4, 4), (5, 5), (6, 6), (7, 7), (8, 8), (9, 9), (10, 10), (11, 11), (12, 12), (13, 13), (14, 14)]
set_option maxRecDepth 4000 in
theorem ct_X0 {S : List Sh} {ρ : Rf} {μ : Mem} (hl : S.length + 17 < 100000) : qE mX0_init (false, (S ++ [(0, 0)]) ++ al0) (false, S ++ [(0, 0)]) [qP S.length] ρ μ (fun _ ρ' μ' => ρ' = upsF S.length fl0 ρ ∧ μ' = μ) := by
  have hno : S.length ≠ nid := by unfold nid; omega
  have hS : (S ++ [((0, 0) : Sh)]).length = S.length + 1 := by simp
  have ho : (S ++ [((0, 0) : Sh)])[S.length]? = some (0, 0) := by simp
  have ga : ∀ {T : List Sh}, (S ++ [((0, 0) : Sh)])[S.length]? = some (0, 0) → ((S ++ [((0, 0) : Sh)]) ++ T)[S.length]? = some (0, 0) := fun h => by rw [List.getElem?_append_left (by omega)]; exact h
  have hL : ∀ {T : List Sh}, T.length ≤ 15 → ((S ++ [((0, 0) : Sh)]) ++ T).length + 1 < nid := fun h => by rw [List.length_append, hS]; unfold nid; omega
  refine qE_intro pl_X0_init (Nat.le_of_ble_eq_true rfl) (by show (S ++ [((0, 0) : Sh)]).length ≤ ((S ++ [((0, 0) : Sh)]) ++ al0).length; simp) ?_
  show qX mX0_init _ _ (false, S ++ [((0, 0) : Sh)]) (0, 0) 0 [some (qP S.length)] [] ρ μ
  refine qX_aload_n 0 dX0_init_0 rfl rfl hno ?_
  refine qX_objInit dX0_init_1 kM_X0_3 ho (by decide) (by decide) ?_
  refine qX_nil ?_
  refine mk_f (kd := 13) (N := 2) 0 0 rfl hno ho hS rfl dX0_init_4 (fun h => qX_iconst dX0_init_5 (by unfold i32; omega) h) (fun h => qX_newZ 2 dX0_init_6 rfl (by decide) rfl (hL (by decide)) (by decide) h) dX0_init_8 fs_X0_9 (fun _ => ⟨rfl, rfl⟩) rfl rfl ?_
  refine mk_f (kd := 10) (N := 2) 1 1 rfl hno ho hS rfl dX0_init_11 (fun h => qX_iconst dX0_init_12 (by unfold i32; omega) h) (fun h => qX_newI 2 dX0_init_13 rfl (by decide) rfl (hL (by decide)) (by decide) h) dX0_init_15 fs_X0_15 (fun _ => ⟨rfl, rfl⟩) rfl rfl ?_
  refine mk_f (kd := 10) (N := 2) 2 2 rfl hno ho hS rfl dX0_init_18 (fun h => qX_iconst dX0_init_19 (by unfold i32; omega) h) (fun h => qX_newI 2 dX0_init_20 rfl (by decide) rfl (hL (by decide)) (by decide) h) dX0_init_22 fs_X0_19 (fun _ => ⟨rfl, rfl⟩) rfl rfl ?_
  refine mk_f (kd := 10) (N := 10) 3 3 rfl hno ho hS rfl dX0_init_25 (fun h => qX_bipush dX0_init_26 (by unfold i32; omega) rfl h) (fun h => qX_newI 10 dX0_init_28 rfl (by decide) rfl (hL (by decide)) (by decide) h) dX0_init_30 fs_X0_22 (fun _ => ⟨rfl, rfl⟩) rfl rfl ?_
  refine mk_f (kd := 10) (N := 10) 4 4 rfl hno ho hS rfl dX0_init_33 (fun h => qX_bipush dX0_init_34 (by unfold i32; omega) rfl h) (fun h => qX_newI 10 dX0_init_36 rfl (by decide) rfl (hL (by decide)) (by decide) h) dX0_init_38 fs_X0_25 (fun _ => ⟨rfl, rfl⟩) rfl rfl ?_
  refine mk_f (kd := 10) (N := 10) 5 5 rfl hno ho hS rfl dX0_init_41 (fun h => qX_bipush dX0_init_42 (by unfold i32; omega) rfl h) (fun h => qX_newI 10 dX0_init_44 rfl (by decide) rfl (hL (by decide)) (by decide) h) dX0_init_46 fs_X0_28 (fun _ => ⟨rfl, rfl⟩) rfl rfl ?_
  refine mk_f (kd := 11) (N := 4) 6 6 rfl hno ho hS rfl dX0_init_49 (fun h => qX_iconst dX0_init_50 (by unfold i32; omega) h) (fun h => qX_newJ 4 dX0_init_51 rfl (by decide) rfl (hL (by decide)) (by decide) h) dX0_init_53 fs_X0_31 (fun _ => ⟨rfl, rfl⟩) rfl rfl ?_
  refine mk_f (kd := 10) (N := 4) 7 7 rfl hno ho hS rfl dX0_init_56 (fun h => qX_iconst dX0_init_57 (by unfold i32; omega) h) (fun h => qX_newI 4 dX0_init_58 rfl (by decide) rfl (hL (by decide)) (by decide) h) dX0_init_60 fs_X0_35 (fun _ => ⟨rfl, rfl⟩) rfl rfl ?_
  refine mk_f (kd := 10) (N := 4) 8 8 rfl hno ho hS rfl dX0_init_63 (fun h => qX_iconst dX0_init_64 (by unfold i32; omega) h) (fun h => qX_newI 4 dX0_init_65 rfl (by decide) rfl (hL (by decide)) (by decide) h) dX0_init_67 fs_X0_38 (fun _ => ⟨rfl, rfl⟩) rfl rfl ?_
  refine mk_f (kd := 10) (N := 3) 9 9 rfl hno ho hS rfl dX0_init_70 (fun h => qX_iconst dX0_init_71 (by unfold i32; omega) h) (fun h => qX_newI 3 dX0_init_72 rfl (by decide) rfl (hL (by decide)) (by decide) h) dX0_init_74 fs_X0_41 (fun _ => ⟨rfl, rfl⟩) rfl rfl ?_
  refine mk_f (kd := 10) (N := 5) 10 10 rfl hno ho hS rfl dX0_init_77 (fun h => qX_iconst dX0_init_78 (by unfold i32; omega) h) (fun h => qX_newI 5 dX0_init_79 rfl (by decide) rfl (hL (by decide)) (by decide) h) dX0_init_81 fs_X0_44 (fun _ => ⟨rfl, rfl⟩) rfl rfl ?_
  refine mk_f (kd := 10) (N := 5) 11 11 rfl hno ho hS rfl dX0_init_84 (fun h => qX_iconst dX0_init_85 (by unfold i32; omega) h) (fun h => qX_newI 5 dX0_init_86 rfl (by decide) rfl (hL (by decide)) (by decide) h) dX0_init_88 fs_X0_47 (fun _ => ⟨rfl, rfl⟩) rfl rfl ?_
  refine mk_f (kd := 10) (N := 5) 12 12 rfl hno ho hS rfl dX0_init_91 (fun h => qX_iconst dX0_init_92 (by unfold i32; omega) h) (fun h => qX_newI 5 dX0_init_93 rfl (by decide) rfl (hL (by decide)) (by decide) h) dX0_init_95 fs_X0_50 (fun _ => ⟨rfl, rfl⟩) rfl rfl ?_
  refine mk_f (kd := 10) (N := 5) 13 13 rfl hno ho hS rfl dX0_init_98 (fun h => qX_iconst dX0_init_99 (by unfold i32; omega) h) (fun h => qX_newI 5 dX0_init_100 rfl (by decide) rfl (hL (by decide)) (by decide) h) dX0_init_102 fs_X0_53 (fun _ => ⟨rfl, rfl⟩) rfl rfl ?_
  refine mk_f (kd := 10) (N := 5) 14 14 rfl hno ho hS rfl dX0_init_105 (fun h => qX_iconst dX0_init_106 (by unfold i32; omega) h) (fun h => qX_newI 5 dX0_init_107 rfl (by decide) rfl (hL (by decide)) (by decide) h) dX0_init_109 fs_X0_56 (fun _ => ⟨rfl, rfl⟩) rfl rfl ?_
  exact qX_return rfl dX0_init_112 rfl (by decide) ⟨rfl, rfl⟩
def al3 : List Sh := [(10, 20), (10, 20), (10, 20), (10, 20), (10, 20), (10, 20), (10, 20), (10, 20), (10, 12), (10, 5), (10, 5), (10, 5), (10, 10)]
def fl3 : List (Nat × Nat) := [(0, 0), (1, 1), (2, 2), (3, 3), (4, 4), (5, 5), (6, 6), (7, 7), (8, 8), (10, 9), (11, 10), (12, 11), (13, 12)]
set_option maxRecDepth 4000 in
theorem ct_X3 {S : List Sh} {ρ : Rf} {μ : Mem} (hl : S.length + 15 < 100000) : qE mX3_init (false, (S ++ [(3, 0)]) ++ al3) (false, S ++ [(3, 0)]) [qP S.length] ρ μ (fun _ ρ' μ' => ρ' = upsF S.length fl3 ρ ∧ μ' = μ) := by
  have hno : S.length ≠ nid := by unfold nid; omega
  have hS : (S ++ [((3, 0) : Sh)]).length = S.length + 1 := by simp
  have ho : (S ++ [((3, 0) : Sh)])[S.length]? = some (3, 0) := by simp
  have ga : ∀ {T : List Sh}, (S ++ [((3, 0) : Sh)])[S.length]? = some (3, 0) → ((S ++ [((3, 0) : Sh)]) ++ T)[S.length]? = some (3, 0) := fun h => by rw [List.getElem?_append_left (by omega)]; exact h
  have hL : ∀ {T : List Sh}, T.length ≤ 13 → ((S ++ [((3, 0) : Sh)]) ++ T).length + 1 < nid := fun h => by rw [List.length_append, hS]; unfold nid; omega
  refine qE_intro pl_X3_init (Nat.le_of_ble_eq_true rfl) (by show (S ++ [((3, 0) : Sh)]).length ≤ ((S ++ [((3, 0) : Sh)]) ++ al3).length; simp) ?_
  show qX mX3_init _ _ (false, S ++ [((3, 0) : Sh)]) (0, 0) 0 [some (qP S.length)] [] ρ μ
  refine qX_aload_n 0 dX3_init_0 rfl rfl hno ?_
  refine qX_objInit dX3_init_1 kM_X3_3 ho (by decide) (by decide) ?_
  refine qX_nil ?_
  refine mk_f (kd := 10) (N := 20) 0 0 rfl hno ho hS rfl dX3_init_4 (fun h => qX_bipush dX3_init_5 (by unfold i32; omega) rfl h) (fun h => qX_newI 20 dX3_init_7 rfl (by decide) rfl (hL (by decide)) (by decide) h) dX3_init_9 fs_X3_9 (fun _ => ⟨rfl, rfl⟩) rfl rfl ?_
  refine mk_f (kd := 10) (N := 20) 1 1 rfl hno ho hS rfl dX3_init_12 (fun h => qX_bipush dX3_init_13 (by unfold i32; omega) rfl h) (fun h => qX_newI 20 dX3_init_15 rfl (by decide) rfl (hL (by decide)) (by decide) h) dX3_init_17 fs_X3_15 (fun _ => ⟨rfl, rfl⟩) rfl rfl ?_
  refine mk_f (kd := 10) (N := 20) 2 2 rfl hno ho hS rfl dX3_init_20 (fun h => qX_bipush dX3_init_21 (by unfold i32; omega) rfl h) (fun h => qX_newI 20 dX3_init_23 rfl (by decide) rfl (hL (by decide)) (by decide) h) dX3_init_25 fs_X3_18 (fun _ => ⟨rfl, rfl⟩) rfl rfl ?_
  refine mk_f (kd := 10) (N := 20) 3 3 rfl hno ho hS rfl dX3_init_28 (fun h => qX_bipush dX3_init_29 (by unfold i32; omega) rfl h) (fun h => qX_newI 20 dX3_init_31 rfl (by decide) rfl (hL (by decide)) (by decide) h) dX3_init_33 fs_X3_21 (fun _ => ⟨rfl, rfl⟩) rfl rfl ?_
  refine mk_f (kd := 10) (N := 20) 4 4 rfl hno ho hS rfl dX3_init_36 (fun h => qX_bipush dX3_init_37 (by unfold i32; omega) rfl h) (fun h => qX_newI 20 dX3_init_39 rfl (by decide) rfl (hL (by decide)) (by decide) h) dX3_init_41 fs_X3_24 (fun _ => ⟨rfl, rfl⟩) rfl rfl ?_
  refine mk_f (kd := 10) (N := 20) 5 5 rfl hno ho hS rfl dX3_init_44 (fun h => qX_bipush dX3_init_45 (by unfold i32; omega) rfl h) (fun h => qX_newI 20 dX3_init_47 rfl (by decide) rfl (hL (by decide)) (by decide) h) dX3_init_49 fs_X3_27 (fun _ => ⟨rfl, rfl⟩) rfl rfl ?_
  refine mk_f (kd := 10) (N := 20) 6 6 rfl hno ho hS rfl dX3_init_52 (fun h => qX_bipush dX3_init_53 (by unfold i32; omega) rfl h) (fun h => qX_newI 20 dX3_init_55 rfl (by decide) rfl (hL (by decide)) (by decide) h) dX3_init_57 fs_X3_30 (fun _ => ⟨rfl, rfl⟩) rfl rfl ?_
  refine mk_f (kd := 10) (N := 20) 7 7 rfl hno ho hS rfl dX3_init_60 (fun h => qX_bipush dX3_init_61 (by unfold i32; omega) rfl h) (fun h => qX_newI 20 dX3_init_63 rfl (by decide) rfl (hL (by decide)) (by decide) h) dX3_init_65 fs_X3_33 (fun _ => ⟨rfl, rfl⟩) rfl rfl ?_
  refine mk_f (kd := 10) (N := 12) 8 8 rfl hno ho hS rfl dX3_init_68 (fun h => qX_bipush dX3_init_69 (by unfold i32; omega) rfl h) (fun h => qX_newI 12 dX3_init_71 rfl (by decide) rfl (hL (by decide)) (by decide) h) dX3_init_73 fs_X3_36 (fun _ => ⟨rfl, rfl⟩) rfl rfl ?_
  refine mk_f (kd := 10) (N := 5) 10 9 rfl hno ho hS rfl dX3_init_76 (fun h => qX_iconst dX3_init_77 (by unfold i32; omega) h) (fun h => qX_newI 5 dX3_init_78 rfl (by decide) rfl (hL (by decide)) (by decide) h) dX3_init_80 fs_X3_39 (fun _ => ⟨rfl, rfl⟩) rfl rfl ?_
  refine mk_f (kd := 10) (N := 5) 11 10 rfl hno ho hS rfl dX3_init_83 (fun h => qX_iconst dX3_init_84 (by unfold i32; omega) h) (fun h => qX_newI 5 dX3_init_85 rfl (by decide) rfl (hL (by decide)) (by decide) h) dX3_init_87 fs_X3_42 (fun _ => ⟨rfl, rfl⟩) rfl rfl ?_
  refine mk_f (kd := 10) (N := 5) 12 11 rfl hno ho hS rfl dX3_init_90 (fun h => qX_iconst dX3_init_91 (by unfold i32; omega) h) (fun h => qX_newI 5 dX3_init_92 rfl (by decide) rfl (hL (by decide)) (by decide) h) dX3_init_94 fs_X3_45 (fun _ => ⟨rfl, rfl⟩) rfl rfl ?_
  refine mk_f (kd := 10) (N := 10) 13 12 rfl hno ho hS rfl dX3_init_97 (fun h => qX_bipush dX3_init_98 (by unfold i32; omega) rfl h) (fun h => qX_newI 10 dX3_init_100 rfl (by decide) rfl (hL (by decide)) (by decide) h) dX3_init_102 fs_X3_48 (fun _ => ⟨rfl, rfl⟩) rfl rfl ?_
  exact qX_return rfl dX3_init_105 rfl (by decide) ⟨rfl, rfl⟩
def al4 : List Sh := [(10, 10), (10, 10), (10, 10)]
def fl4 : List (Nat × Nat) := [(0, 0), (1, 1), (2, 2)]
set_option maxRecDepth 4000 in
theorem ct_X4 {S : List Sh} {ρ : Rf} {μ : Mem} (hl : S.length + 5 < 100000) : qE mX4_init (false, (S ++ [(4, 0)]) ++ al4) (false, S ++ [(4, 0)]) [qP S.length] ρ μ (fun _ ρ' μ' => ρ' = upsF S.length fl4 ρ ∧ μ' = μ) := by
  have hno : S.length ≠ nid := by unfold nid; omega
  have hS : (S ++ [((4, 0) : Sh)]).length = S.length + 1 := by simp
  have ho : (S ++ [((4, 0) : Sh)])[S.length]? = some (4, 0) := by simp
  have ga : ∀ {T : List Sh}, (S ++ [((4, 0) : Sh)])[S.length]? = some (4, 0) → ((S ++ [((4, 0) : Sh)]) ++ T)[S.length]? = some (4, 0) := fun h => by rw [List.getElem?_append_left (by omega)]; exact h
  have hL : ∀ {T : List Sh}, T.length ≤ 3 → ((S ++ [((4, 0) : Sh)]) ++ T).length + 1 < nid := fun h => by rw [List.length_append, hS]; unfold nid; omega
  refine qE_intro pl_X4_init (Nat.le_of_ble_eq_true rfl) (by show (S ++ [((4, 0) : Sh)]).length ≤ ((S ++ [((4, 0) : Sh)]) ++ al4).length; simp) ?_
  show qX mX4_init _ _ (false, S ++ [((4, 0) : Sh)]) (0, 0) 0 [some (qP S.length)] [] ρ μ
  refine qX_aload_n 0 dX4_init_0 rfl rfl hno ?_
  refine qX_objInit dX4_init_1 kM_X4_3 ho (by decide) (by decide) ?_
  refine qX_nil ?_
  refine mk_f (kd := 10) (N := 10) 0 0 rfl hno ho hS rfl dX4_init_4 (fun h => qX_bipush dX4_init_5 (by unfold i32; omega) rfl h) (fun h => qX_newI 10 dX4_init_7 rfl (by decide) rfl (hL (by decide)) (by decide) h) dX4_init_9 fs_X4_9 (fun _ => ⟨rfl, rfl⟩) rfl rfl ?_
  refine mk_f (kd := 10) (N := 10) 1 1 rfl hno ho hS rfl dX4_init_12 (fun h => qX_bipush dX4_init_13 (by unfold i32; omega) rfl h) (fun h => qX_newI 10 dX4_init_15 rfl (by decide) rfl (hL (by decide)) (by decide) h) dX4_init_17 fs_X4_15 (fun _ => ⟨rfl, rfl⟩) rfl rfl ?_
  refine mk_f (kd := 10) (N := 10) 2 2 rfl hno ho hS rfl dX4_init_20 (fun h => qX_bipush dX4_init_21 (by unfold i32; omega) rfl h) (fun h => qX_newI 10 dX4_init_23 rfl (by decide) rfl (hL (by decide)) (by decide) h) dX4_init_25 fs_X4_18 (fun _ => ⟨rfl, rfl⟩) rfl rfl ?_
  exact qX_return rfl dX4_init_28 rfl (by decide) ⟨rfl, rfl⟩
def al5 : List Sh := [(10, 8), (10, 8), (10, 8), (10, 8), (10, 8), (10, 8), (10, 8), (10, 8), (10, 256)]
def fl5 : List (Nat × Nat) := [(0, 0), (1, 1), (5, 2), (6, 3), (7, 4), (8, 5), (9, 6), (10, 7), (11, 8)]
set_option maxRecDepth 4000 in
theorem ct_X5 {S : List Sh} {ρ : Rf} {μ : Mem} (hl : S.length + 11 < 100000) : qE mX5_init (false, (S ++ [(5, 0)]) ++ al5) (false, S ++ [(5, 0)]) [qP S.length] ρ μ (fun _ ρ' μ' => ρ' = upsF S.length fl5 ρ ∧ μ' = μ) := by
  have hno : S.length ≠ nid := by unfold nid; omega
  have hS : (S ++ [((5, 0) : Sh)]).length = S.length + 1 := by simp
  have ho : (S ++ [((5, 0) : Sh)])[S.length]? = some (5, 0) := by simp
  have ga : ∀ {T : List Sh}, (S ++ [((5, 0) : Sh)])[S.length]? = some (5, 0) → ((S ++ [((5, 0) : Sh)]) ++ T)[S.length]? = some (5, 0) := fun h => by rw [List.getElem?_append_left (by omega)]; exact h
  have hL : ∀ {T : List Sh}, T.length ≤ 9 → ((S ++ [((5, 0) : Sh)]) ++ T).length + 1 < nid := fun h => by rw [List.length_append, hS]; unfold nid; omega
  refine qE_intro pl_X5_init (Nat.le_of_ble_eq_true rfl) (by show (S ++ [((5, 0) : Sh)]).length ≤ ((S ++ [((5, 0) : Sh)]) ++ al5).length; simp) ?_
  show qX mX5_init _ _ (false, S ++ [((5, 0) : Sh)]) (0, 0) 0 [some (qP S.length)] [] ρ μ
  refine qX_aload_n 0 dX5_init_0 rfl rfl hno ?_
  refine qX_objInit dX5_init_1 kM_X5_3 ho (by decide) (by decide) ?_
  refine qX_nil ?_
  refine mk_f (kd := 10) (N := 8) 0 0 rfl hno ho hS rfl dX5_init_4 (fun h => qX_bipush dX5_init_5 (by unfold i32; omega) rfl h) (fun h => qX_newI 8 dX5_init_7 rfl (by decide) rfl (hL (by decide)) (by decide) h) dX5_init_9 fs_X5_9 (fun _ => ⟨rfl, rfl⟩) rfl rfl ?_
  refine mk_f (kd := 10) (N := 8) 1 1 rfl hno ho hS rfl dX5_init_12 (fun h => qX_bipush dX5_init_13 (by unfold i32; omega) rfl h) (fun h => qX_newI 8 dX5_init_15 rfl (by decide) rfl (hL (by decide)) (by decide) h) dX5_init_17 fs_X5_15 (fun _ => ⟨rfl, rfl⟩) rfl rfl ?_
  refine mk_f (kd := 10) (N := 8) 5 2 rfl hno ho hS rfl dX5_init_20 (fun h => qX_bipush dX5_init_21 (by unfold i32; omega) rfl h) (fun h => qX_newI 8 dX5_init_23 rfl (by decide) rfl (hL (by decide)) (by decide) h) dX5_init_25 fs_X5_18 (fun _ => ⟨rfl, rfl⟩) rfl rfl ?_
  refine mk_f (kd := 10) (N := 8) 6 3 rfl hno ho hS rfl dX5_init_28 (fun h => qX_bipush dX5_init_29 (by unfold i32; omega) rfl h) (fun h => qX_newI 8 dX5_init_31 rfl (by decide) rfl (hL (by decide)) (by decide) h) dX5_init_33 fs_X5_21 (fun _ => ⟨rfl, rfl⟩) rfl rfl ?_
  refine mk_f (kd := 10) (N := 8) 7 4 rfl hno ho hS rfl dX5_init_36 (fun h => qX_bipush dX5_init_37 (by unfold i32; omega) rfl h) (fun h => qX_newI 8 dX5_init_39 rfl (by decide) rfl (hL (by decide)) (by decide) h) dX5_init_41 fs_X5_24 (fun _ => ⟨rfl, rfl⟩) rfl rfl ?_
  refine mk_f (kd := 10) (N := 8) 8 5 rfl hno ho hS rfl dX5_init_44 (fun h => qX_bipush dX5_init_45 (by unfold i32; omega) rfl h) (fun h => qX_newI 8 dX5_init_47 rfl (by decide) rfl (hL (by decide)) (by decide) h) dX5_init_49 fs_X5_27 (fun _ => ⟨rfl, rfl⟩) rfl rfl ?_
  refine mk_f (kd := 10) (N := 8) 9 6 rfl hno ho hS rfl dX5_init_52 (fun h => qX_bipush dX5_init_53 (by unfold i32; omega) rfl h) (fun h => qX_newI 8 dX5_init_55 rfl (by decide) rfl (hL (by decide)) (by decide) h) dX5_init_57 fs_X5_30 (fun _ => ⟨rfl, rfl⟩) rfl rfl ?_
  refine mk_f (kd := 10) (N := 8) 10 7 rfl hno ho hS rfl dX5_init_60 (fun h => qX_bipush dX5_init_61 (by unfold i32; omega) rfl h) (fun h => qX_newI 8 dX5_init_63 rfl (by decide) rfl (hL (by decide)) (by decide) h) dX5_init_65 fs_X5_33 (fun _ => ⟨rfl, rfl⟩) rfl rfl ?_
  refine mk_f (kd := 10) (N := 256) 11 8 rfl hno ho hS rfl dX5_init_68 (fun h => qX_sipush dX5_init_69 (by unfold i32; omega) rfl h) (fun h => qX_newI 256 dX5_init_72 rfl (by decide) rfl (hL (by decide)) (by decide) h) dX5_init_74 fs_X5_36 (fun _ => ⟨rfl, rfl⟩) rfl rfl ?_
  exact qX_return rfl dX5_init_77 rfl (by decide) ⟨rfl, rfl⟩
def al6 : List Sh := [(10, 20), (10, 20), (10, 20), (10, 20), (10, 2), (10, 12)]
def fl6 : List (Nat × Nat) := [(0, 0), (1, 1), (2, 2), (3, 3), (4, 4), (5, 5)]
set_option maxRecDepth 4000 in
theorem ct_X6 {S : List Sh} {ρ : Rf} {μ : Mem} (hl : S.length + 8 < 100000) : qE mX6_init (false, (S ++ [(6, 0)]) ++ al6) (false, S ++ [(6, 0)]) [qP S.length] ρ μ (fun _ ρ' μ' => ρ' = upsF S.length fl6 ρ ∧ μ' = μ) := by
  have hno : S.length ≠ nid := by unfold nid; omega
  have hS : (S ++ [((6, 0) : Sh)]).length = S.length + 1 := by simp
  have ho : (S ++ [((6, 0) : Sh)])[S.length]? = some (6, 0) := by simp
  have ga : ∀ {T : List Sh}, (S ++ [((6, 0) : Sh)])[S.length]? = some (6, 0) → ((S ++ [((6, 0) : Sh)]) ++ T)[S.length]? = some (6, 0) := fun h => by rw [List.getElem?_append_left (by omega)]; exact h
  have hL : ∀ {T : List Sh}, T.length ≤ 6 → ((S ++ [((6, 0) : Sh)]) ++ T).length + 1 < nid := fun h => by rw [List.length_append, hS]; unfold nid; omega
  refine qE_intro pl_X6_init (Nat.le_of_ble_eq_true rfl) (by show (S ++ [((6, 0) : Sh)]).length ≤ ((S ++ [((6, 0) : Sh)]) ++ al6).length; simp) ?_
  show qX mX6_init _ _ (false, S ++ [((6, 0) : Sh)]) (0, 0) 0 [some (qP S.length)] [] ρ μ
  refine qX_aload_n 0 dX6_init_0 rfl rfl hno ?_
  refine qX_objInit dX6_init_1 kM_X6_3 ho (by decide) (by decide) ?_
  refine qX_nil ?_
  refine mk_f (kd := 10) (N := 20) 0 0 rfl hno ho hS rfl dX6_init_4 (fun h => qX_bipush dX6_init_5 (by unfold i32; omega) rfl h) (fun h => qX_newI 20 dX6_init_7 rfl (by decide) rfl (hL (by decide)) (by decide) h) dX6_init_9 fs_X6_9 (fun _ => ⟨rfl, rfl⟩) rfl rfl ?_
  refine mk_f (kd := 10) (N := 20) 1 1 rfl hno ho hS rfl dX6_init_12 (fun h => qX_bipush dX6_init_13 (by unfold i32; omega) rfl h) (fun h => qX_newI 20 dX6_init_15 rfl (by decide) rfl (hL (by decide)) (by decide) h) dX6_init_17 fs_X6_15 (fun _ => ⟨rfl, rfl⟩) rfl rfl ?_
  refine mk_f (kd := 10) (N := 20) 2 2 rfl hno ho hS rfl dX6_init_20 (fun h => qX_bipush dX6_init_21 (by unfold i32; omega) rfl h) (fun h => qX_newI 20 dX6_init_23 rfl (by decide) rfl (hL (by decide)) (by decide) h) dX6_init_25 fs_X6_18 (fun _ => ⟨rfl, rfl⟩) rfl rfl ?_
  refine mk_f (kd := 10) (N := 20) 3 3 rfl hno ho hS rfl dX6_init_28 (fun h => qX_bipush dX6_init_29 (by unfold i32; omega) rfl h) (fun h => qX_newI 20 dX6_init_31 rfl (by decide) rfl (hL (by decide)) (by decide) h) dX6_init_33 fs_X6_21 (fun _ => ⟨rfl, rfl⟩) rfl rfl ?_
  refine mk_f (kd := 10) (N := 2) 4 4 rfl hno ho hS rfl dX6_init_36 (fun h => qX_iconst dX6_init_37 (by unfold i32; omega) h) (fun h => qX_newI 2 dX6_init_38 rfl (by decide) rfl (hL (by decide)) (by decide) h) dX6_init_40 fs_X6_24 (fun _ => ⟨rfl, rfl⟩) rfl rfl ?_
  refine mk_f (kd := 10) (N := 12) 5 5 rfl hno ho hS rfl dX6_init_43 (fun h => qX_bipush dX6_init_44 (by unfold i32; omega) rfl h) (fun h => qX_newI 12 dX6_init_46 rfl (by decide) rfl (hL (by decide)) (by decide) h) dX6_init_48 fs_X6_27 (fun _ => ⟨rfl, rfl⟩) rfl rfl ?_
  exact qX_return rfl dX6_init_51 rfl (by decide) ⟨rfl, rfl⟩
def al8 : List Sh := [(10, 900), (10, 188), (10, 188), (10, 188), (10, 1880), (11, 4), (13, 2), (13, 12), (10, 5), (10, 5), (10, 5), (10, 5), (10, 5), (13, 5), (10, 12), (10, 10), (10, 20), (10, 20), (10, 20), (10, 20), (10, 20), (10, 20), (10, 10), (10, 10), (10, 5), (10, 5), (10, 8), (10, 256), (10, 8)]
def fl8 : List (Nat × Nat) := [(2, 0), (12, 1), (13, 2), (14, 3), (15, 4), (16, 5), (17, 6), (18, 7), (22, 8), (23, 9), (24, 10), (25, 11), (26, 12), (27, 13), (28, 14), (29, 15), (30, 16), (31, 17), (32, 18), (33, 19), (34, 20), (35, 21), (38, 22), (39, 23), (40, 24), (41, 25), (44, 26), (45, 27), (46, 28)]
set_option maxRecDepth 4000 in
theorem ct_X8 {S : List Sh} {ρ : Rf} {μ : Mem} (hl : S.length + 31 < 100000) : qE mX8_init (false, (S ++ [(8, 0)]) ++ al8) (false, S ++ [(8, 0)]) [qP S.length] ρ μ (fun _ ρ' μ' => ρ' = upsF S.length fl8 ρ ∧ μ' = up2 μ S.length (7 : Nat) (-1)) := by
  have hno : S.length ≠ nid := by unfold nid; omega
  have hS : (S ++ [((8, 0) : Sh)]).length = S.length + 1 := by simp
  have ho : (S ++ [((8, 0) : Sh)])[S.length]? = some (8, 0) := by simp
  have ga : ∀ {T : List Sh}, (S ++ [((8, 0) : Sh)])[S.length]? = some (8, 0) → ((S ++ [((8, 0) : Sh)]) ++ T)[S.length]? = some (8, 0) := fun h => by rw [List.getElem?_append_left (by omega)]; exact h
  have hL : ∀ {T : List Sh}, T.length ≤ 29 → ((S ++ [((8, 0) : Sh)]) ++ T).length + 1 < nid := fun h => by rw [List.length_append, hS]; unfold nid; omega
  refine qE_intro pl_X8_init (Nat.le_of_ble_eq_true rfl) (by show (S ++ [((8, 0) : Sh)]).length ≤ ((S ++ [((8, 0) : Sh)]) ++ al8).length; simp) ?_
  show qX mX8_init _ _ (false, S ++ [((8, 0) : Sh)]) (0, 0) 0 [some (qP S.length)] [] ρ μ
  refine qX_aload_n 0 dX8_init_0 rfl rfl hno ?_
  refine qX_objInit dX8_init_1 kM_X8_1 ho (by decide) (by decide) ?_
  refine qX_nil ?_
  refine mk_f (kd := 10) (N := 900) 2 0 rfl hno ho hS rfl dX8_init_4 (fun h => qX_sipush dX8_init_5 (by unfold i32; omega) rfl h) (fun h => qX_newI 900 dX8_init_8 rfl (by decide) rfl (hL (by decide)) (by decide) h) dX8_init_10 fs_X8_9 (fun _ => ⟨rfl, rfl⟩) rfl rfl ?_
  refine qX_aload_n 0 dX8_init_13 rfl rfl hno ?_
  refine qX_iconst dX8_init_14 (by unfold i32; omega) ?_
  refine qX_putI 8 7 S.length dX8_init_15 fs_X8_13 (ga ho) ?_
  refine mk_f (kd := 10) (N := 188) 12 1 rfl hno ho hS rfl dX8_init_18 (fun h => qX_sipush dX8_init_19 (by unfold i32; omega) rfl h) (fun h => qX_newI 188 dX8_init_22 rfl (by decide) rfl (hL (by decide)) (by decide) h) dX8_init_24 fs_X8_17 (fun _ => ⟨rfl, rfl⟩) rfl rfl ?_
  refine mk_f (kd := 10) (N := 188) 13 2 rfl hno ho hS rfl dX8_init_27 (fun h => qX_sipush dX8_init_28 (by unfold i32; omega) rfl h) (fun h => qX_newI 188 dX8_init_31 rfl (by decide) rfl (hL (by decide)) (by decide) h) dX8_init_33 fs_X8_20 (fun _ => ⟨rfl, rfl⟩) rfl rfl ?_
  refine mk_f (kd := 10) (N := 188) 14 3 rfl hno ho hS rfl dX8_init_36 (fun h => qX_sipush dX8_init_37 (by unfold i32; omega) rfl h) (fun h => qX_newI 188 dX8_init_40 rfl (by decide) rfl (hL (by decide)) (by decide) h) dX8_init_42 fs_X8_23 (fun _ => ⟨rfl, rfl⟩) rfl rfl ?_
  refine mk_f (kd := 10) (N := 1880) 15 4 rfl hno ho hS rfl dX8_init_45 (fun h => qX_sipush dX8_init_46 (by unfold i32; omega) rfl h) (fun h => qX_newI 1880 dX8_init_49 rfl (by decide) rfl (hL (by decide)) (by decide) h) dX8_init_51 fs_X8_26 (fun _ => ⟨rfl, rfl⟩) rfl rfl ?_
  refine mk_f (kd := 11) (N := 4) 16 5 rfl hno ho hS rfl dX8_init_54 (fun h => qX_iconst dX8_init_55 (by unfold i32; omega) h) (fun h => qX_newJ 4 dX8_init_56 rfl (by decide) rfl (hL (by decide)) (by decide) h) dX8_init_58 fs_X8_29 (fun _ => ⟨rfl, rfl⟩) rfl rfl ?_
  refine mk_f (kd := 13) (N := 2) 17 6 rfl hno ho hS rfl dX8_init_61 (fun h => qX_iconst dX8_init_62 (by unfold i32; omega) h) (fun h => qX_newZ 2 dX8_init_63 rfl (by decide) rfl (hL (by decide)) (by decide) h) dX8_init_65 fs_X8_33 (fun _ => ⟨rfl, rfl⟩) rfl rfl ?_
  refine mk_f (kd := 13) (N := 12) 18 7 rfl hno ho hS rfl dX8_init_68 (fun h => qX_bipush dX8_init_69 (by unfold i32; omega) rfl h) (fun h => qX_newZ 12 dX8_init_71 rfl (by decide) rfl (hL (by decide)) (by decide) h) dX8_init_73 fs_X8_37 (fun _ => ⟨rfl, rfl⟩) rfl rfl ?_
  refine mk_f (kd := 10) (N := 5) 22 8 rfl hno ho hS rfl dX8_init_76 (fun h => qX_iconst dX8_init_77 (by unfold i32; omega) h) (fun h => qX_newI 5 dX8_init_78 rfl (by decide) rfl (hL (by decide)) (by decide) h) dX8_init_80 fs_X8_40 (fun _ => ⟨rfl, rfl⟩) rfl rfl ?_
  refine mk_f (kd := 10) (N := 5) 23 9 rfl hno ho hS rfl dX8_init_83 (fun h => qX_iconst dX8_init_84 (by unfold i32; omega) h) (fun h => qX_newI 5 dX8_init_85 rfl (by decide) rfl (hL (by decide)) (by decide) h) dX8_init_87 fs_X8_43 (fun _ => ⟨rfl, rfl⟩) rfl rfl ?_
  refine mk_f (kd := 10) (N := 5) 24 10 rfl hno ho hS rfl dX8_init_90 (fun h => qX_iconst dX8_init_91 (by unfold i32; omega) h) (fun h => qX_newI 5 dX8_init_92 rfl (by decide) rfl (hL (by decide)) (by decide) h) dX8_init_94 fs_X8_46 (fun _ => ⟨rfl, rfl⟩) rfl rfl ?_
  refine mk_f (kd := 10) (N := 5) 25 11 rfl hno ho hS rfl dX8_init_97 (fun h => qX_iconst dX8_init_98 (by unfold i32; omega) h) (fun h => qX_newI 5 dX8_init_99 rfl (by decide) rfl (hL (by decide)) (by decide) h) dX8_init_101 fs_X8_49 (fun _ => ⟨rfl, rfl⟩) rfl rfl ?_
  refine mk_f (kd := 10) (N := 5) 26 12 rfl hno ho hS rfl dX8_init_104 (fun h => qX_iconst dX8_init_105 (by unfold i32; omega) h) (fun h => qX_newI 5 dX8_init_106 rfl (by decide) rfl (hL (by decide)) (by decide) h) dX8_init_108 fs_X8_52 (fun _ => ⟨rfl, rfl⟩) rfl rfl ?_
  refine mk_f (kd := 13) (N := 5) 27 13 rfl hno ho hS rfl dX8_init_111 (fun h => qX_iconst dX8_init_112 (by unfold i32; omega) h) (fun h => qX_newZ 5 dX8_init_113 rfl (by decide) rfl (hL (by decide)) (by decide) h) dX8_init_115 fs_X8_55 (fun _ => ⟨rfl, rfl⟩) rfl rfl ?_
  refine mk_f (kd := 10) (N := 12) 28 14 rfl hno ho hS rfl dX8_init_118 (fun h => qX_bipush dX8_init_119 (by unfold i32; omega) rfl h) (fun h => qX_newI 12 dX8_init_121 rfl (by decide) rfl (hL (by decide)) (by decide) h) dX8_init_123 fs_X8_58 (fun _ => ⟨rfl, rfl⟩) rfl rfl ?_
  refine mk_f (kd := 10) (N := 10) 29 15 rfl hno ho hS rfl dX8_init_126 (fun h => qX_bipush dX8_init_127 (by unfold i32; omega) rfl h) (fun h => qX_newI 10 dX8_init_129 rfl (by decide) rfl (hL (by decide)) (by decide) h) dX8_init_131 fs_X8_61 (fun _ => ⟨rfl, rfl⟩) rfl rfl ?_
  refine mk_f (kd := 10) (N := 20) 30 16 rfl hno ho hS rfl dX8_init_134 (fun h => qX_bipush dX8_init_135 (by unfold i32; omega) rfl h) (fun h => qX_newI 20 dX8_init_137 rfl (by decide) rfl (hL (by decide)) (by decide) h) dX8_init_139 fs_X8_64 (fun _ => ⟨rfl, rfl⟩) rfl rfl ?_
  refine mk_f (kd := 10) (N := 20) 31 17 rfl hno ho hS rfl dX8_init_142 (fun h => qX_bipush dX8_init_143 (by unfold i32; omega) rfl h) (fun h => qX_newI 20 dX8_init_145 rfl (by decide) rfl (hL (by decide)) (by decide) h) dX8_init_147 fs_X8_67 (fun _ => ⟨rfl, rfl⟩) rfl rfl ?_
  refine mk_f (kd := 10) (N := 20) 32 18 rfl hno ho hS rfl dX8_init_150 (fun h => qX_bipush dX8_init_151 (by unfold i32; omega) rfl h) (fun h => qX_newI 20 dX8_init_153 rfl (by decide) rfl (hL (by decide)) (by decide) h) dX8_init_155 fs_X8_70 (fun _ => ⟨rfl, rfl⟩) rfl rfl ?_
  refine mk_f (kd := 10) (N := 20) 33 19 rfl hno ho hS rfl dX8_init_158 (fun h => qX_bipush dX8_init_159 (by unfold i32; omega) rfl h) (fun h => qX_newI 20 dX8_init_161 rfl (by decide) rfl (hL (by decide)) (by decide) h) dX8_init_163 fs_X8_73 (fun _ => ⟨rfl, rfl⟩) rfl rfl ?_
  refine mk_f (kd := 10) (N := 20) 34 20 rfl hno ho hS rfl dX8_init_166 (fun h => qX_bipush dX8_init_167 (by unfold i32; omega) rfl h) (fun h => qX_newI 20 dX8_init_169 rfl (by decide) rfl (hL (by decide)) (by decide) h) dX8_init_171 fs_X8_76 (fun _ => ⟨rfl, rfl⟩) rfl rfl ?_
  refine mk_f (kd := 10) (N := 20) 35 21 rfl hno ho hS rfl dX8_init_174 (fun h => qX_bipush dX8_init_175 (by unfold i32; omega) rfl h) (fun h => qX_newI 20 dX8_init_177 rfl (by decide) rfl (hL (by decide)) (by decide) h) dX8_init_179 fs_X8_79 (fun _ => ⟨rfl, rfl⟩) rfl rfl ?_
  refine mk_f (kd := 10) (N := 10) 38 22 rfl hno ho hS rfl dX8_init_182 (fun h => qX_bipush dX8_init_183 (by unfold i32; omega) rfl h) (fun h => qX_newI 10 dX8_init_185 rfl (by decide) rfl (hL (by decide)) (by decide) h) dX8_init_187 fs_X8_82 (fun _ => ⟨rfl, rfl⟩) rfl rfl ?_
  refine mk_f (kd := 10) (N := 10) 39 23 rfl hno ho hS rfl dX8_init_190 (fun h => qX_bipush dX8_init_191 (by unfold i32; omega) rfl h) (fun h => qX_newI 10 dX8_init_193 rfl (by decide) rfl (hL (by decide)) (by decide) h) dX8_init_195 fs_X8_85 (fun _ => ⟨rfl, rfl⟩) rfl rfl ?_
  refine mk_f (kd := 10) (N := 5) 40 24 rfl hno ho hS rfl dX8_init_198 (fun h => qX_iconst dX8_init_199 (by unfold i32; omega) h) (fun h => qX_newI 5 dX8_init_200 rfl (by decide) rfl (hL (by decide)) (by decide) h) dX8_init_202 fs_X8_88 (fun _ => ⟨rfl, rfl⟩) rfl rfl ?_
  refine mk_f (kd := 10) (N := 5) 41 25 rfl hno ho hS rfl dX8_init_205 (fun h => qX_iconst dX8_init_206 (by unfold i32; omega) h) (fun h => qX_newI 5 dX8_init_207 rfl (by decide) rfl (hL (by decide)) (by decide) h) dX8_init_209 fs_X8_91 (fun _ => ⟨rfl, rfl⟩) rfl rfl ?_
  refine mk_f (kd := 10) (N := 8) 44 26 rfl hno ho hS rfl dX8_init_212 (fun h => qX_bipush dX8_init_213 (by unfold i32; omega) rfl h) (fun h => qX_newI 8 dX8_init_215 rfl (by decide) rfl (hL (by decide)) (by decide) h) dX8_init_217 fs_X8_94 (fun _ => ⟨rfl, rfl⟩) rfl rfl ?_
  refine mk_f (kd := 10) (N := 256) 45 27 rfl hno ho hS rfl dX8_init_220 (fun h => qX_sipush dX8_init_221 (by unfold i32; omega) rfl h) (fun h => qX_newI 256 dX8_init_224 rfl (by decide) rfl (hL (by decide)) (by decide) h) dX8_init_226 fs_X8_97 (fun _ => ⟨rfl, rfl⟩) rfl rfl ?_
  refine mk_f (kd := 10) (N := 8) 46 28 rfl hno ho hS rfl dX8_init_229 (fun h => qX_bipush dX8_init_230 (by unfold i32; omega) rfl h) (fun h => qX_newI 8 dX8_init_232 rfl (by decide) rfl (hL (by decide)) (by decide) h) dX8_init_234 fs_X8_100 (fun _ => ⟨rfl, rfl⟩) rfl rfl ?_
  exact qX_return rfl dX8_init_237 rfl (by decide) ⟨rfl, rfl⟩
