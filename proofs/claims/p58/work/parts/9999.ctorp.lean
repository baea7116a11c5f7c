/-! ===== the whole class made ===== -/
def al7 : List Sh := ((((((((((([] : List Sh) ++ ((2, 0) :: al2)) ++ ((3, 0) :: al3)) ++ ((3, 0) :: al3)) ++ ((6, 0) :: al6)) ++ ((6, 0) :: al6)) ++ ((1, 0) :: al1)) ++ ((5, 0) :: al5)) ++ ((4, 0) :: al4)) ++ ((0, 0) :: al0)) ++ ((6, 0) :: al6))
theorem st7 {T U : List Sh} {ρ ρ' : Rf} {t cj : Nat} {k : Int} {q : Nat} (h : LY 1 T ρ) (ht : T.length = t) (hf : ∀ a, a < 1 + t → ρ' a = ρ a) (hy : LY (1 + t) ((cj, 0) :: U) ρ') : LY 1 (T ++ ((cj, 0) :: U)) (up2 ρ' 0 k q) := by
  refine LY.fr (LY.app (LY.fr h (fun a a0 a1 => hf a (by omega))) (by rw [ht]; exact hy)) (fun a a0 a1 => up2_c (by omega))
set_option maxRecDepth 8000 in
theorem ct_X7 {ρ : Rf} {μ : Mem} : qE mX7_init (false, (7, 0) :: al7) (false, [(7, 0)]) [qP 0] ρ μ (fun _ ρ' μ' => LY 0 ((7, 0) :: al7) ρ' ∧ (ρ' 0 8 = 155 ∧ ρ' 0 9 = 171 ∧ ρ' 1 5 = 4 ∧ ρ' 1 6 = 20 ∧ ∀ j : Nat, j < 10 → ρ' 70 (j : Nat) = 71 + 7 * j) ∧ μ' = up2 μ 1 (4 : Nat) (-1)) := by
  have hno : (0 : Nat) ≠ nid := by unfold nid; omega
  refine qE_intro pl_X7_init (Nat.le_of_ble_eq_true rfl) (Nat.le_of_ble_eq_true rfl) ?_
  show qX mX7_init _ _ (false, [((7, 0) : Sh)]) (0, 0) 0 [some (qP 0)] [] ρ μ
  refine qX_aload_n 0 dX7_init_0 rfl rfl hno ?_
  refine qX_objInit (sh := (7, 0)) dX7_init_1 kM_X7_3 rfl (by decide) (by decide) ?_
  refine qX_nil ?_
  have y0 : LY 1 ([] : List Sh) ρ := fun x sh hx => by cases hx
  refine mk_oN 0 (cj := 2) (PP := fun o ρ' μ' => (∀ a, a < o → ρ' a = (ρ) a) ∧ LY o ((2, 0) :: al2) ρ' ∧ ρ' o (5 : Nat) = o + 3 ∧ ρ' o (6 : Nat) = o + 19 ∧ μ' = up2 μ o (4 : Nat) (-1)) mX2_init al2 rfl hno (n0 := 0) (ci := 7) rfl rfl rfl dX7_init_4 dX7_init_5 dX7_init_8 dX7_init_9 rfl kL_X7_9 kN_X2 kZ_X2 (by unfold nid; omega) (by decide) cm_X7_11 ⟨by decide, by decide⟩ (by decide) (fun X hX => ct_X2 (S := X) (by omega)) (fun r0 m0 p0 => ?_)
  obtain ⟨f0, w0, s5, s6, rfl⟩ := p0
  refine qX_putF 7 0 0 (n := 0) dX7_init_12 fs_X7_12 rfl (fun _ => ⟨rfl, rfl⟩) (Nat.le_of_ble_eq_true rfl) rfl rfl rfl ?_
  have y1 := st7 (k := ((0 : Nat) : Int)) (q := 0 + 1 + 0) y0 (t := 0) rfl (fun a ha => f0 a (by omega)) w0
  refine mk_oN 26 (cj := 3) (PP := fun o ρ' μ' => ρ' = upsF o fl3 (up2 r0 0 ((0 : Nat) : Int) (0 + 1 + 0)) ∧ μ' = _) mX3_init al3 rfl hno (n0 := 0) (ci := 7) rfl rfl rfl dX7_init_15 dX7_init_16 dX7_init_19 dX7_init_20 rfl kL_X7_16 kN_X3 kZ_X3 (by unfold nid; omega) (by decide) cm_X7_18 ⟨by decide, by decide⟩ (by decide) (fun X hX => ct_X3 (S := X) (by omega)) (fun r1 m1 p1 => ?_)
  obtain ⟨p1, rfl⟩ := p1
  obtain ⟨w1, f1⟩ := ly3 p1
  refine qX_putF 7 1 0 (n := 0) dX7_init_23 fs_X7_19 rfl (fun _ => ⟨rfl, rfl⟩) (Nat.le_of_ble_eq_true rfl) rfl rfl rfl ?_
  have y2 := st7 (k := ((1 : Nat) : Int)) (q := 0 + 1 + 26) y1 (t := 26) rfl (fun a ha => f1 a (by omega)) w1
  refine mk_oN 40 (cj := 3) (PP := fun o ρ' μ' => ρ' = upsF o fl3 (up2 r1 0 ((1 : Nat) : Int) (0 + 1 + 26)) ∧ μ' = _) mX3_init al3 rfl hno (n0 := 0) (ci := 7) rfl rfl rfl dX7_init_26 dX7_init_27 dX7_init_30 dX7_init_31 rfl kL_X7_16 kN_X3 kZ_X3 (by unfold nid; omega) (by decide) cm_X7_18 ⟨by decide, by decide⟩ (by decide) (fun X hX => ct_X3 (S := X) (by omega)) (fun r2 m2 p2 => ?_)
  obtain ⟨p2, rfl⟩ := p2
  obtain ⟨w2, f2⟩ := ly3 p2
  refine qX_putF 7 2 0 (n := 0) dX7_init_34 fs_X7_23 rfl (fun _ => ⟨rfl, rfl⟩) (Nat.le_of_ble_eq_true rfl) rfl rfl rfl ?_
  have y3 := st7 (k := ((2 : Nat) : Int)) (q := 0 + 1 + 40) y2 (t := 40) rfl (fun a ha => f2 a (by omega)) w2
  refine mk_oN 54 (cj := 6) (PP := fun o ρ' μ' => ρ' = upsF o fl6 (up2 r2 0 ((2 : Nat) : Int) (0 + 1 + 40)) ∧ μ' = _) mX6_init al6 rfl hno (n0 := 0) (ci := 7) rfl rfl rfl dX7_init_37 dX7_init_38 dX7_init_41 dX7_init_42 rfl kL_X7_26 kN_X6 kZ_X6 (by unfold nid; omega) (by decide) cm_X7_28 ⟨by decide, by decide⟩ (by decide) (fun X hX => ct_X6 (S := X) (by omega)) (fun r3 m3 p3 => ?_)
  obtain ⟨p3, rfl⟩ := p3
  obtain ⟨w3, f3⟩ := ly6 p3
  refine qX_putF 7 3 0 (n := 0) dX7_init_45 fs_X7_29 rfl (fun _ => ⟨rfl, rfl⟩) (Nat.le_of_ble_eq_true rfl) rfl rfl rfl ?_
  have y4 := st7 (k := ((3 : Nat) : Int)) (q := 0 + 1 + 54) y3 (t := 54) rfl (fun a ha => f3 a (by omega)) w3
  refine mk_oN 61 (cj := 6) (PP := fun o ρ' μ' => ρ' = upsF o fl6 (up2 r3 0 ((3 : Nat) : Int) (0 + 1 + 54)) ∧ μ' = _) mX6_init al6 rfl hno (n0 := 0) (ci := 7) rfl rfl rfl dX7_init_48 dX7_init_49 dX7_init_52 dX7_init_53 rfl kL_X7_26 kN_X6 kZ_X6 (by unfold nid; omega) (by decide) cm_X7_28 ⟨by decide, by decide⟩ (by decide) (fun X hX => ct_X6 (S := X) (by omega)) (fun r4 m4 p4 => ?_)
  obtain ⟨p4, rfl⟩ := p4
  obtain ⟨w4, f4⟩ := ly6 p4
  refine qX_putF 7 4 0 (n := 0) dX7_init_56 fs_X7_33 rfl (fun _ => ⟨rfl, rfl⟩) (Nat.le_of_ble_eq_true rfl) rfl rfl rfl ?_
  have y5 := st7 (k := ((4 : Nat) : Int)) (q := 0 + 1 + 61) y4 (t := 61) rfl (fun a ha => f4 a (by omega)) w4
  refine mk_oI 68 (cj := 1) (PP := fun o ρ' μ' => (∀ a, a < o → ρ' a = (up2 r4 0 ((4 : Nat) : Int) (0 + 1 + 61)) a) ∧ LY o ((1, 0) :: al1) ρ' ∧ (∀ j : Nat, j < 10 → ρ' (o + 1) (j : Nat) = o + 2 + 7 * j) ∧ μ' = _) mX1_init al1 rfl hno (n0 := 0) (ci := 7) rfl rfl rfl dX7_init_59 dX7_init_60 dX7_init_63 dX7_init_64 rfl kL_X7_36 kN_X1 kZ_X1 (by unfold nid; omega) (by decide) cm_X7_38 ⟨by decide, by decide⟩ (by decide) (fun X hX => ct_X1 (S := X) (by omega)) (fun r5 m5 p5 => ?_)
  obtain ⟨f5, w5, sh, rfl⟩ := p5
  refine qX_putF 7 5 0 (n := 0) dX7_init_67 fs_X7_39 rfl (fun _ => ⟨rfl, rfl⟩) (Nat.le_of_ble_eq_true rfl) rfl rfl rfl ?_
  have y6 := st7 (k := ((5 : Nat) : Int)) (q := 0 + 1 + 68) y5 (t := 68) rfl (fun a ha => f5 a (by omega)) w5
  refine mk_oN 140 (cj := 5) (PP := fun o ρ' μ' => ρ' = upsF o fl5 (up2 r5 0 ((5 : Nat) : Int) (0 + 1 + 68)) ∧ μ' = _) mX5_init al5 rfl hno (n0 := 0) (ci := 7) rfl rfl rfl dX7_init_70 dX7_init_71 dX7_init_74 dX7_init_75 rfl kL_X7_43 kN_X5 kZ_X5 (by unfold nid; omega) (by decide) cm_X7_45 ⟨by decide, by decide⟩ (by decide) (fun X hX => ct_X5 (S := X) (by omega)) (fun r6 m6 p6 => ?_)
  obtain ⟨p6, rfl⟩ := p6
  obtain ⟨w6, f6⟩ := ly5 p6
  refine qX_putF 7 6 0 (n := 0) dX7_init_78 fs_X7_46 rfl (fun _ => ⟨rfl, rfl⟩) (Nat.le_of_ble_eq_true rfl) rfl rfl rfl ?_
  have y7 := st7 (k := ((6 : Nat) : Int)) (q := 0 + 1 + 140) y6 (t := 140) rfl (fun a ha => f6 a (by omega)) w6
  refine mk_oN 150 (cj := 4) (PP := fun o ρ' μ' => ρ' = upsF o fl4 (up2 r6 0 ((6 : Nat) : Int) (0 + 1 + 140)) ∧ μ' = _) mX4_init al4 rfl hno (n0 := 0) (ci := 7) rfl rfl rfl dX7_init_81 dX7_init_82 dX7_init_85 dX7_init_86 rfl kL_X7_50 kN_X4 kZ_X4 (by unfold nid; omega) (by decide) cm_X7_52 ⟨by decide, by decide⟩ (by decide) (fun X hX => ct_X4 (S := X) (by omega)) (fun r7 m7 p7 => ?_)
  obtain ⟨p7, rfl⟩ := p7
  obtain ⟨w7, f7⟩ := ly4 p7
  refine qX_putF 7 7 0 (n := 0) dX7_init_89 fs_X7_53 rfl (fun _ => ⟨rfl, rfl⟩) (Nat.le_of_ble_eq_true rfl) rfl rfl rfl ?_
  have y8 := st7 (k := ((7 : Nat) : Int)) (q := 0 + 1 + 150) y7 (t := 150) rfl (fun a ha => f7 a (by omega)) w7
  refine mk_oN 154 (cj := 0) (PP := fun o ρ' μ' => ρ' = upsF o fl0 (up2 r7 0 ((7 : Nat) : Int) (0 + 1 + 150)) ∧ μ' = _) mX0_init al0 rfl hno (n0 := 0) (ci := 7) rfl rfl rfl dX7_init_92 dX7_init_93 dX7_init_96 dX7_init_97 rfl kL_X7_57 kN_X0 kZ_X0 (by unfold nid; omega) (by decide) cm_X7_59 ⟨by decide, by decide⟩ (by decide) (fun X hX => ct_X0 (S := X) (by omega)) (fun r8 m8 p8 => ?_)
  obtain ⟨p8, rfl⟩ := p8
  obtain ⟨w8, f8⟩ := ly0 p8
  refine qX_putR 7 8 0 (n := 0) dX7_init_100 fs_X7_60 rfl (fun _ => ⟨rfl, rfl⟩) (Nat.le_of_ble_eq_true rfl) rfl ?_
  have y9 := st7 (k := ((8 : Nat) : Int)) (q := 0 + 1 + 154) y8 (t := 154) rfl (fun a ha => f8 a (by omega)) w8
  refine mk_oN 170 (cj := 6) (PP := fun o ρ' μ' => ρ' = upsF o fl6 (up2 r8 0 ((8 : Nat) : Int) (0 + 1 + 154)) ∧ μ' = _) mX6_init al6 rfl hno (n0 := 0) (ci := 7) rfl rfl rfl dX7_init_103 dX7_init_104 dX7_init_107 dX7_init_108 rfl kL_X7_26 kN_X6 kZ_X6 (by unfold nid; omega) (by decide) cm_X7_28 ⟨by decide, by decide⟩ (by decide) (fun X hX => ct_X6 (S := X) (by omega)) (fun r9 m9 p9 => ?_)
  obtain ⟨p9, rfl⟩ := p9
  obtain ⟨w9, f9⟩ := ly6 p9
  refine qX_putR 7 9 0 (n := 0) dX7_init_111 fs_X7_64 rfl (fun _ => ⟨rfl, rfl⟩) (Nat.le_of_ble_eq_true rfl) rfl ?_
  have y10 := st7 (k := ((9 : Nat) : Int)) (q := 0 + 1 + 170) y9 (t := 170) rfl (fun a ha => f9 a (by omega)) w9
  refine qX_return rfl dX7_init_114 rfl (by decide) ?_
  refine ⟨LY.app (a := ([(7, 0)] : List Sh)) (b := al7) (LY.one [(0, 0), (1, 26), (2, 40), (3, 54), (4, 61), (5, 68), (6, 140), (7, 150)] (by decide) (fun k t hk => ?_)) y10, ⟨?_, ?_, ?_, ?_, fun j hj => ?_⟩, rfl⟩
  · simp only [List.mem_cons, List.not_mem_nil, or_false, Prod.mk.injEq] at hk
    rcases hk with ⟨rfl, rfl⟩ | ⟨rfl, rfl⟩ | ⟨rfl, rfl⟩ | ⟨rfl, rfl⟩ | ⟨rfl, rfl⟩ | ⟨rfl, rfl⟩ | ⟨rfl, rfl⟩ | ⟨rfl, rfl⟩
    · rw [up2_k (by decide), f9 0 (by omega), up2_k (by decide), f8 0 (by omega), up2_k (by decide), f7 0 (by omega), up2_k (by decide), f6 0 (by omega), up2_k (by decide), f5 0 (by omega), up2_k (by decide), f4 0 (by omega), up2_k (by decide), f3 0 (by omega), up2_k (by decide), f2 0 (by omega), up2_k (by decide), f1 0 (by omega), up2_s]
    · rw [up2_k (by decide), f9 0 (by omega), up2_k (by decide), f8 0 (by omega), up2_k (by decide), f7 0 (by omega), up2_k (by decide), f6 0 (by omega), up2_k (by decide), f5 0 (by omega), up2_k (by decide), f4 0 (by omega), up2_k (by decide), f3 0 (by omega), up2_k (by decide), f2 0 (by omega), up2_s]
    · rw [up2_k (by decide), f9 0 (by omega), up2_k (by decide), f8 0 (by omega), up2_k (by decide), f7 0 (by omega), up2_k (by decide), f6 0 (by omega), up2_k (by decide), f5 0 (by omega), up2_k (by decide), f4 0 (by omega), up2_k (by decide), f3 0 (by omega), up2_s]
    · rw [up2_k (by decide), f9 0 (by omega), up2_k (by decide), f8 0 (by omega), up2_k (by decide), f7 0 (by omega), up2_k (by decide), f6 0 (by omega), up2_k (by decide), f5 0 (by omega), up2_k (by decide), f4 0 (by omega), up2_s]
    · rw [up2_k (by decide), f9 0 (by omega), up2_k (by decide), f8 0 (by omega), up2_k (by decide), f7 0 (by omega), up2_k (by decide), f6 0 (by omega), up2_k (by decide), f5 0 (by omega), up2_s]
    · rw [up2_k (by decide), f9 0 (by omega), up2_k (by decide), f8 0 (by omega), up2_k (by decide), f7 0 (by omega), up2_k (by decide), f6 0 (by omega), up2_s]
    · rw [up2_k (by decide), f9 0 (by omega), up2_k (by decide), f8 0 (by omega), up2_k (by decide), f7 0 (by omega), up2_s]
    · rw [up2_k (by decide), f9 0 (by omega), up2_k (by decide), f8 0 (by omega), up2_s]
  · show up2 _ _ _ _ 0 ((8 : Nat) : Int) = _
    rw [up2_k (by decide), f9 0 (by omega), up2_s]
  · show up2 _ _ _ _ 0 ((9 : Nat) : Int) = _
    rw [up2_s]
  · rw [up2_c (by decide), f9 1 (by omega), up2_c (by decide), f8 1 (by omega), up2_c (by decide), f7 1 (by omega), up2_c (by decide), f6 1 (by omega), up2_c (by decide), f5 1 (by omega), up2_c (by decide), f4 1 (by omega), up2_c (by decide), f3 1 (by omega), up2_c (by decide), f2 1 (by omega), up2_c (by decide), f1 1 (by omega), up2_c (by decide)]
    exact s5
  · rw [up2_c (by decide), f9 1 (by omega), up2_c (by decide), f8 1 (by omega), up2_c (by decide), f7 1 (by omega), up2_c (by decide), f6 1 (by omega), up2_c (by decide), f5 1 (by omega), up2_c (by decide), f4 1 (by omega), up2_c (by decide), f3 1 (by omega), up2_c (by decide), f2 1 (by omega), up2_c (by decide), f1 1 (by omega), up2_c (by decide)]
    exact s6
  · rw [up2_c (by decide), f9 70 (by omega), up2_c (by decide), f8 70 (by omega), up2_c (by decide), f7 70 (by omega), up2_c (by decide), f6 70 (by omega), up2_c (by decide)]
    exact sh j hj
