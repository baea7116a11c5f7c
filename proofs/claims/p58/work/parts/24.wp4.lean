/-! ===== conditions of the methods, from cut to cut (generated, part 4) ===== -/
set_option maxRecDepth 20000 in
theorem e_L_says {Post : Int → Rf → Mem → Prop} {ρ : Rf} {μ : Mem} {X : List Sh} {x1 nx1 : Nat} (hx1 : (GX X).2[x1]? = some (10, nx1)) {x2 nx2 : Nat} (hx2 : (GX X).2[x2]? = some (10, nx2))
  (h : qX mL_says (GX X) Post (GX X) (0, 0) 2 [some (qP 0), some (qP x1), some (qP x2), some (qI 1), none] [] ρ μ) : qE mL_says (GX X) (GX X) [qP 0, qP x1, qP x2] ρ μ Post := by
  refine qE_intro pl_L_says (Nat.le_of_ble_eq_true rfl) (Nat.le_refl _) ?_
  refine qX_iconst dL_says_0 (i32_of rfl) ?_
  refine qX_istore_n 3 dL_says_1 rfl (Nat.le_of_ble_eq_true rfl) rfl ?_
  exact qX_mask [true, true, true, true, false] h
set_option maxRecDepth 20000 in
theorem w_L_says_2 {Post : Int → Rf → Mem → Prop} {ρ : Rf} {μ : Mem} {X : List Sh} {x1 nx1 : Nat} (hx1 : (GX X).2[x1]? = some (10, nx1)) {x2 nx2 : Nat} (hx2 : (GX X).2[x2]? = some (10, nx2)) {x3 : Int}
  (h : ((x3 < 0 → qX mL_says (GX X) Post (GX X) (0, 0) 69 [some (qP 0), some (qP x1), some (qP x2), some (qI 0), none] [] ρ μ) ∧ (0 ≤ x3 → ∃ P : Int → Rf → Mem → Prop, qE mL_say (GX X) (GX X) [qP 0, qP x1, qJ 500135192942] ρ μ P ∧ ∀ (z1 : Int) (ρ2 : Rf) (μ3 : Mem), P z1 ρ2 μ3 → ∃ P : Int → Rf → Mem → Prop, qE mL_part (GX X) (GX X) [qP 0, qP x1, qI x3] ρ2 μ3 P ∧ ∀ (z5 : Int) (ρ6 : Rf) (μ7 : Mem), P z5 ρ6 μ7 → ∃ P : Int → Rf → Mem → Prop, qE mL_say (GX X) (GX X) [qP 0, qP x1, qJ 139157729133] ρ6 μ7 P ∧ ∀ (z9 : Int) (ρ10 : Rf) (μ11 : Mem), P z9 ρ10 μ11 → (0 ≤ x3 ∧ x3 < nx2) ∧ ∃ P : Int → Rf → Mem → Prop, qE mL_part (GX X) (GX X) [qP 0, qP x1, qI (μ11 x2 x3)] ρ10 μ11 P ∧ ∀ (z13 : Int) (ρ14 : Rf) (μ15 : Mem), P z13 ρ14 μ15 → ∃ P : Int → Rf → Mem → Prop, qE mL_say (GX X) (GX X) [qP 0, qP x1, qJ 2126959] ρ14 μ15 P ∧ ∀ (z17 : Int) (ρ18 : Rf) (μ19 : Mem), P z17 ρ18 μ19 → i32 (2 + x3) ∧ (0 ≤ 2 + x3 ∧ 2 + x3 < nx2) ∧ ∃ P : Int → Rf → Mem → Prop, qE mL_part (GX X) (GX X) [qP 0, qP x1, qI (μ19 x2 (2 + x3))] ρ18 μ19 P ∧ ∀ (z21 : Int) (ρ22 : Rf) (μ23 : Mem), P z21 ρ22 μ23 → ∃ P : Int → Rf → Mem → Prop, qE mL_put (GX X) (GX X) [qP 0, qP x1, qI 59] ρ22 μ23 P ∧ ∀ (z25 : Int) (ρ26 : Rf) (μ27 : Mem), P z25 ρ26 μ27 → i32 (x3 + (-1)) ∧ qX mL_says (GX X) Post (GX X) (0, 0) 2 [some (qP 0), some (qP x1), some (qP x2), some (qI (x3 + (-1))), none] [] ρ26 μ27))) : qX mL_says (GX X) Post (GX X) (0, 0) 2 [some (qP 0), some (qP x1), some (qP x2), some (qI x3), none] [] ρ μ := by
  refine qX_iload_n 3 dL_says_2 rfl rfl ?_
  refine qX_if_lt 67 dL_says_3 rfl (fun hc => ?_) (fun hc => ?_)
  · replace h := h.1 hc
    refine qX_iconst dL_says_67 (i32_of rfl) ?_
    refine qX_istore_n 3 dL_says_68 rfl (Nat.le_of_ble_eq_true rfl) rfl ?_
    exact qX_mask [true, true, true, true, false] h
  · replace h := h.2 hc
    refine qM_aload_n 0 dL_says_6 rfl rfl shX0 ?_
    refine qM_aload_n 1 dL_says_7 rfl rfl hx1 ?_
    refine qX_ldc2 (n := 500135192942) dL_says_8 kK_L_40 (i64_of rfl) ?_
    obtain ⟨P, hE4, h⟩ := h
    refine qM_callS mL_say [_, _, _] [] dL_says_11 cm_L_34 ⟨(Nat.le_of_ble_eq_true rfl), (Nat.le_of_ble_eq_true rfl)⟩ rfl rfl (Nat.le_of_ble_eq_true rfl) ⟨rfl, rfl⟩ ⟨(Nat.le_of_ble_eq_true rfl), (Nat.le_of_ble_eq_true rfl)⟩ hE4 (fun z1 ρ2 μ3 hz => ?_)
    replace h := h _ _ _ hz
    refine qM_aload_n 0 dL_says_14 rfl rfl shX0 ?_
    refine qM_aload_n 1 dL_says_15 rfl rfl hx1 ?_
    refine qX_iload_n 3 dL_says_16 rfl rfl ?_
    obtain ⟨P, hE8, h⟩ := h
    refine qM_callS mL_part [_, _, _] [] dL_says_17 cm_L_42 ⟨(Nat.le_of_ble_eq_true rfl), (Nat.le_of_ble_eq_true rfl)⟩ rfl rfl (Nat.le_of_ble_eq_true rfl) ⟨rfl, rfl⟩ ⟨(Nat.le_of_ble_eq_true rfl), (Nat.le_of_ble_eq_true rfl)⟩ hE8 (fun z5 ρ6 μ7 hz => ?_)
    replace h := h _ _ _ hz
    refine qM_aload_n 0 dL_says_20 rfl rfl shX0 ?_
    refine qM_aload_n 1 dL_says_21 rfl rfl hx1 ?_
    refine qX_ldc2 (n := 139157729133) dL_says_22 kK_L_45 (i64_of rfl) ?_
    obtain ⟨P, hE12, h⟩ := h
    refine qM_callS mL_say [_, _, _] [] dL_says_25 cm_L_34 ⟨(Nat.le_of_ble_eq_true rfl), (Nat.le_of_ble_eq_true rfl)⟩ rfl rfl (Nat.le_of_ble_eq_true rfl) ⟨rfl, rfl⟩ ⟨(Nat.le_of_ble_eq_true rfl), (Nat.le_of_ble_eq_true rfl)⟩ hE12 (fun z9 ρ10 μ11 hz => ?_)
    replace h := h _ _ _ hz
    refine qM_aload_n 0 dL_says_28 rfl rfl shX0 ?_
    refine qM_aload_n 1 dL_says_29 rfl rfl hx1 ?_
    refine qM_aload_n 2 dL_says_30 rfl rfl hx2 ?_
    refine qX_iload_n 3 dL_says_31 rfl rfl ?_
    refine qX_iald dL_says_32 hx2 h.1 ?_
    replace h := h.2
    obtain ⟨P, hE16, h⟩ := h
    refine qM_callS mL_part [_, _, _] [] dL_says_33 cm_L_42 ⟨(Nat.le_of_ble_eq_true rfl), (Nat.le_of_ble_eq_true rfl)⟩ rfl rfl (Nat.le_of_ble_eq_true rfl) ⟨rfl, rfl⟩ ⟨(Nat.le_of_ble_eq_true rfl), (Nat.le_of_ble_eq_true rfl)⟩ hE16 (fun z13 ρ14 μ15 hz => ?_)
    replace h := h _ _ _ hz
    refine qM_aload_n 0 dL_says_36 rfl rfl shX0 ?_
    refine qM_aload_n 1 dL_says_37 rfl rfl hx1 ?_
    refine qX_ldc2 (n := 2126959) dL_says_38 kK_L_47 (i64_of rfl) ?_
    obtain ⟨P, hE20, h⟩ := h
    refine qM_callS mL_say [_, _, _] [] dL_says_41 cm_L_34 ⟨(Nat.le_of_ble_eq_true rfl), (Nat.le_of_ble_eq_true rfl)⟩ rfl rfl (Nat.le_of_ble_eq_true rfl) ⟨rfl, rfl⟩ ⟨(Nat.le_of_ble_eq_true rfl), (Nat.le_of_ble_eq_true rfl)⟩ hE20 (fun z17 ρ18 μ19 hz => ?_)
    replace h := h _ _ _ hz
    refine qM_aload_n 0 dL_says_44 rfl rfl shX0 ?_
    refine qM_aload_n 1 dL_says_45 rfl rfl hx1 ?_
    refine qM_aload_n 2 dL_says_46 rfl rfl hx2 ?_
    refine qX_iconst dL_says_47 (i32_of rfl) ?_
    refine qX_iload_n 3 dL_says_48 rfl rfl ?_
    refine qR_iadd dL_says_49 h.1 ?_
    replace h := h.2
    refine qX_iald dL_says_50 hx2 h.1 ?_
    replace h := h.2
    obtain ⟨P, hE24, h⟩ := h
    refine qM_callS mL_part [_, _, _] [] dL_says_51 cm_L_42 ⟨(Nat.le_of_ble_eq_true rfl), (Nat.le_of_ble_eq_true rfl)⟩ rfl rfl (Nat.le_of_ble_eq_true rfl) ⟨rfl, rfl⟩ ⟨(Nat.le_of_ble_eq_true rfl), (Nat.le_of_ble_eq_true rfl)⟩ hE24 (fun z21 ρ22 μ23 hz => ?_)
    replace h := h _ _ _ hz
    refine qM_aload_n 0 dL_says_54 rfl rfl shX0 ?_
    refine qM_aload_n 1 dL_says_55 rfl rfl hx1 ?_
    refine qX_bip dL_says_56 rfl ?_
    obtain ⟨P, hE28, h⟩ := h
    refine qM_callS mL_put [_, _, _] [] dL_says_58 cm_L_21 ⟨(Nat.le_of_ble_eq_true rfl), (Nat.le_of_ble_eq_true rfl)⟩ rfl rfl (Nat.le_of_ble_eq_true rfl) ⟨rfl, rfl⟩ ⟨(Nat.le_of_ble_eq_true rfl), (Nat.le_of_ble_eq_true rfl)⟩ hE28 (fun z25 ρ26 μ27 hz => ?_)
    replace h := h _ _ _ hz
    refine qR_iinc dL_says_61 rfl (Nat.le_of_ble_eq_true rfl) rfl h.1 ?_
    replace h := h.2
    refine qX_goto 2 dL_says_64 rfl ?_
    exact qX_mask [true, true, true, true, false] h
set_option maxRecDepth 20000 in
theorem w_L_says_69 {Post : Int → Rf → Mem → Prop} {ρ : Rf} {μ : Mem} {X : List Sh} {x1 nx1 : Nat} (hx1 : (GX X).2[x1]? = some (10, nx1)) {x2 nx2 : Nat} (hx2 : (GX X).2[x2]? = some (10, nx2)) {x3 : Int}
  (h : ((4 ≤ x3 → qX mL_says (GX X) Post (GX X) (0, 0) 136 [some (qP 0), some (qP x1), some (qP x2), some (qI 0), none] [] ρ μ) ∧ (x3 < 4 → ∃ P : Int → Rf → Mem → Prop, qE mL_say (GX X) (GX X) [qP 0, qP x1, qJ 6513010] ρ μ P ∧ ∀ (z1 : Int) (ρ2 : Rf) (μ3 : Mem), P z1 ρ2 μ3 → (0 ≤ x3 ∧ 0 < (2 : Int)) ∧ ∃ P : Int → Rf → Mem → Prop, qE mL_part (GX X) (GX X) [qP 0, qP x1, qI (x3 / 2)] ρ2 μ3 P ∧ ∀ (z5 : Int) (ρ6 : Rf) (μ7 : Mem), P z5 ρ6 μ7 → qX mL_says (GX X) Post (GX X) (0, 0) 93 [some (qP 0), some (qP x1), some (qP x2), some (qI x3), some (qI 0)] [] ρ6 μ7))) : qX mL_says (GX X) Post (GX X) (0, 0) 69 [some (qP 0), some (qP x1), some (qP x2), some (qI x3), none] [] ρ μ := by
  refine qX_iload_n 3 dL_says_69 rfl rfl ?_
  refine qX_iconst dL_says_70 (i32_of rfl) ?_
  refine qX_icmp_ge 134 dL_says_71 rfl (fun hc => ?_) (fun hc => ?_)
  · replace h := h.1 hc
    refine qX_iconst dL_says_134 (i32_of rfl) ?_
    refine qX_istore_n 3 dL_says_135 rfl (Nat.le_of_ble_eq_true rfl) rfl ?_
    exact qX_mask [true, true, true, true, false] h
  · replace h := h.2 hc
    refine qM_aload_n 0 dL_says_74 rfl rfl shX0 ?_
    refine qM_aload_n 1 dL_says_75 rfl rfl hx1 ?_
    refine qX_ldc2 (n := 6513010) dL_says_76 kK_L_49 (i64_of rfl) ?_
    obtain ⟨P, hE4, h⟩ := h
    refine qM_callS mL_say [_, _, _] [] dL_says_79 cm_L_34 ⟨(Nat.le_of_ble_eq_true rfl), (Nat.le_of_ble_eq_true rfl)⟩ rfl rfl (Nat.le_of_ble_eq_true rfl) ⟨rfl, rfl⟩ ⟨(Nat.le_of_ble_eq_true rfl), (Nat.le_of_ble_eq_true rfl)⟩ hE4 (fun z1 ρ2 μ3 hz => ?_)
    replace h := h _ _ _ hz
    refine qM_aload_n 0 dL_says_82 rfl rfl shX0 ?_
    refine qM_aload_n 1 dL_says_83 rfl rfl hx1 ?_
    refine qX_iload_n 3 dL_says_84 rfl rfl ?_
    refine qX_iconst dL_says_85 (i32_of rfl) ?_
    refine qR_idiv dL_says_86 h.1 ?_
    replace h := h.2
    obtain ⟨P, hE8, h⟩ := h
    refine qM_callS mL_part [_, _, _] [] dL_says_87 cm_L_42 ⟨(Nat.le_of_ble_eq_true rfl), (Nat.le_of_ble_eq_true rfl)⟩ rfl rfl (Nat.le_of_ble_eq_true rfl) ⟨rfl, rfl⟩ ⟨(Nat.le_of_ble_eq_true rfl), (Nat.le_of_ble_eq_true rfl)⟩ hE8 (fun z5 ρ6 μ7 hz => ?_)
    replace h := h _ _ _ hz
    refine qX_iconst dL_says_90 (i32_of rfl) ?_
    refine qX_istore dL_says_91 (Nat.le_of_ble_eq_true rfl) rfl ?_
    exact qX_mask [true, true, true, true, true] h
set_option maxRecDepth 20000 in
theorem w_L_says_136 {Post : Int → Rf → Mem → Prop} {ρ : Rf} {μ : Mem} {X : List Sh} {x1 nx1 : Nat} (hx1 : (GX X).2[x1]? = some (10, nx1)) {x2 nx2 : Nat} (hx2 : (GX X).2[x2]? = some (10, nx2)) {x3 : Int}
  (h : ((2 ≤ x3 → qX mL_says (GX X) Post (GX X) (0, 0) 196 [some (qP 0), some (qP x1), some (qP x2), some (qI 0), none] [] ρ μ) ∧ (x3 < 2 → ∃ P : Int → Rf → Mem → Prop, qE mL_say (GX X) (GX X) [qP 0, qP x1, qJ 1835360620] ρ μ P ∧ ∀ (z1 : Int) (ρ2 : Rf) (μ3 : Mem), P z1 ρ2 μ3 → ∃ P : Int → Rf → Mem → Prop, qE mL_mealName (GX X) (GX X) [qP 0, qP x1, qI x3] ρ2 μ3 P ∧ ∀ (z5 : Int) (ρ6 : Rf) (μ7 : Mem), P z5 ρ6 μ7 → i32 (2 * x3) ∧ i32 (30 + (2 * x3)) ∧ (0 ≤ 30 + (2 * x3) ∧ 30 + (2 * x3) < nx2) ∧ ∃ P : Int → Rf → Mem → Prop, qE mL_part (GX X) (GX X) [qP 0, qP x1, qI (μ7 x2 (30 + (2 * x3)))] ρ6 μ7 P ∧ ∀ (z9 : Int) (ρ10 : Rf) (μ11 : Mem), P z9 ρ10 μ11 → i32 (2 * x3) ∧ i32 (31 + (2 * x3)) ∧ (0 ≤ 31 + (2 * x3) ∧ 31 + (2 * x3) < nx2) ∧ ∃ P : Int → Rf → Mem → Prop, qE mL_part (GX X) (GX X) [qP 0, qP x1, qI (μ11 x2 (31 + (2 * x3)))] ρ10 μ11 P ∧ ∀ (z13 : Int) (ρ14 : Rf) (μ15 : Mem), P z13 ρ14 μ15 → ∃ P : Int → Rf → Mem → Prop, qE mL_put (GX X) (GX X) [qP 0, qP x1, qI 59] ρ14 μ15 P ∧ ∀ (z17 : Int) (ρ18 : Rf) (μ19 : Mem), P z17 ρ18 μ19 → i32 (x3 + 1) ∧ qX mL_says (GX X) Post (GX X) (0, 0) 136 [some (qP 0), some (qP x1), some (qP x2), some (qI (x3 + 1)), none] [] ρ18 μ19))) : qX mL_says (GX X) Post (GX X) (0, 0) 136 [some (qP 0), some (qP x1), some (qP x2), some (qI x3), none] [] ρ μ := by
  refine qX_iload_n 3 dL_says_136 rfl rfl ?_
  refine qX_iconst dL_says_137 (i32_of rfl) ?_
  refine qX_icmp_ge 194 dL_says_138 rfl (fun hc => ?_) (fun hc => ?_)
  · replace h := h.1 hc
    refine qX_iconst dL_says_194 (i32_of rfl) ?_
    refine qX_istore_n 3 dL_says_195 rfl (Nat.le_of_ble_eq_true rfl) rfl ?_
    exact qX_mask [true, true, true, true, false] h
  · replace h := h.2 hc
    refine qM_aload_n 0 dL_says_141 rfl rfl shX0 ?_
    refine qM_aload_n 1 dL_says_142 rfl rfl hx1 ?_
    refine qX_ldc2 (n := 1835360620) dL_says_143 kK_L_51 (i64_of rfl) ?_
    obtain ⟨P, hE4, h⟩ := h
    refine qM_callS mL_say [_, _, _] [] dL_says_146 cm_L_34 ⟨(Nat.le_of_ble_eq_true rfl), (Nat.le_of_ble_eq_true rfl)⟩ rfl rfl (Nat.le_of_ble_eq_true rfl) ⟨rfl, rfl⟩ ⟨(Nat.le_of_ble_eq_true rfl), (Nat.le_of_ble_eq_true rfl)⟩ hE4 (fun z1 ρ2 μ3 hz => ?_)
    replace h := h _ _ _ hz
    refine qM_aload_n 0 dL_says_149 rfl rfl shX0 ?_
    refine qM_aload_n 1 dL_says_150 rfl rfl hx1 ?_
    refine qX_iload_n 3 dL_says_151 rfl rfl ?_
    obtain ⟨P, hE8, h⟩ := h
    refine qM_callS mL_mealName [_, _, _] [] dL_says_152 cm_L_53 ⟨(Nat.le_of_ble_eq_true rfl), (Nat.le_of_ble_eq_true rfl)⟩ rfl rfl (Nat.le_of_ble_eq_true rfl) ⟨rfl, rfl⟩ ⟨(Nat.le_of_ble_eq_true rfl), (Nat.le_of_ble_eq_true rfl)⟩ hE8 (fun z5 ρ6 μ7 hz => ?_)
    replace h := h _ _ _ hz
    refine qM_aload_n 0 dL_says_155 rfl rfl shX0 ?_
    refine qM_aload_n 1 dL_says_156 rfl rfl hx1 ?_
    refine qM_aload_n 2 dL_says_157 rfl rfl hx2 ?_
    refine qX_bip dL_says_158 rfl ?_
    refine qX_iconst dL_says_160 (i32_of rfl) ?_
    refine qX_iload_n 3 dL_says_161 rfl rfl ?_
    refine qR_imul dL_says_162 h.1 ?_
    replace h := h.2
    refine qR_iadd dL_says_163 h.1 ?_
    replace h := h.2
    refine qX_iald dL_says_164 hx2 h.1 ?_
    replace h := h.2
    obtain ⟨P, hE12, h⟩ := h
    refine qM_callS mL_part [_, _, _] [] dL_says_165 cm_L_42 ⟨(Nat.le_of_ble_eq_true rfl), (Nat.le_of_ble_eq_true rfl)⟩ rfl rfl (Nat.le_of_ble_eq_true rfl) ⟨rfl, rfl⟩ ⟨(Nat.le_of_ble_eq_true rfl), (Nat.le_of_ble_eq_true rfl)⟩ hE12 (fun z9 ρ10 μ11 hz => ?_)
    replace h := h _ _ _ hz
    refine qM_aload_n 0 dL_says_168 rfl rfl shX0 ?_
    refine qM_aload_n 1 dL_says_169 rfl rfl hx1 ?_
    refine qM_aload_n 2 dL_says_170 rfl rfl hx2 ?_
    refine qX_bip dL_says_171 rfl ?_
    refine qX_iconst dL_says_173 (i32_of rfl) ?_
    refine qX_iload_n 3 dL_says_174 rfl rfl ?_
    refine qR_imul dL_says_175 h.1 ?_
    replace h := h.2
    refine qR_iadd dL_says_176 h.1 ?_
    replace h := h.2
    refine qX_iald dL_says_177 hx2 h.1 ?_
    replace h := h.2
    obtain ⟨P, hE16, h⟩ := h
    refine qM_callS mL_part [_, _, _] [] dL_says_178 cm_L_42 ⟨(Nat.le_of_ble_eq_true rfl), (Nat.le_of_ble_eq_true rfl)⟩ rfl rfl (Nat.le_of_ble_eq_true rfl) ⟨rfl, rfl⟩ ⟨(Nat.le_of_ble_eq_true rfl), (Nat.le_of_ble_eq_true rfl)⟩ hE16 (fun z13 ρ14 μ15 hz => ?_)
    replace h := h _ _ _ hz
    refine qM_aload_n 0 dL_says_181 rfl rfl shX0 ?_
    refine qM_aload_n 1 dL_says_182 rfl rfl hx1 ?_
    refine qX_bip dL_says_183 rfl ?_
    obtain ⟨P, hE20, h⟩ := h
    refine qM_callS mL_put [_, _, _] [] dL_says_185 cm_L_21 ⟨(Nat.le_of_ble_eq_true rfl), (Nat.le_of_ble_eq_true rfl)⟩ rfl rfl (Nat.le_of_ble_eq_true rfl) ⟨rfl, rfl⟩ ⟨(Nat.le_of_ble_eq_true rfl), (Nat.le_of_ble_eq_true rfl)⟩ hE20 (fun z17 ρ18 μ19 hz => ?_)
    replace h := h _ _ _ hz
    refine qR_iinc dL_says_188 rfl (Nat.le_of_ble_eq_true rfl) rfl h.1 ?_
    replace h := h.2
    refine qX_goto 136 dL_says_191 rfl ?_
    exact qX_mask [true, true, true, true, false] h
set_option maxRecDepth 20000 in
theorem w_L_says_93 {Post : Int → Rf → Mem → Prop} {ρ : Rf} {μ : Mem} {X : List Sh} {x1 nx1 : Nat} (hx1 : (GX X).2[x1]? = some (10, nx1)) {x2 nx2 : Nat} (hx2 : (GX X).2[x2]? = some (10, nx2)) {x3 : Int} {x4 : Int}
  (h : ((3 ≤ x4 → ∃ P : Int → Rf → Mem → Prop, qE mL_put (GX X) (GX X) [qP 0, qP x1, qI 59] ρ μ P ∧ ∀ (z1 : Int) (ρ2 : Rf) (μ3 : Mem), P z1 ρ2 μ3 → i32 (x3 + 1) ∧ qX mL_says (GX X) Post (GX X) (0, 0) 69 [some (qP 0), some (qP x1), some (qP x2), some (qI (x3 + 1)), none] [] ρ2 μ3) ∧ (x4 < 3 → i32 (3 * x3) ∧ i32 (10 + (3 * x3)) ∧ i32 ((10 + (3 * x3)) + x4) ∧ (0 ≤ (10 + (3 * x3)) + x4 ∧ (10 + (3 * x3)) + x4 < nx2) ∧ ∃ P : Int → Rf → Mem → Prop, qE mL_part (GX X) (GX X) [qP 0, qP x1, qI (μ x2 ((10 + (3 * x3)) + x4))] ρ μ P ∧ ∀ (z5 : Int) (ρ6 : Rf) (μ7 : Mem), P z5 ρ6 μ7 → i32 (x4 + 1) ∧ qX mL_says (GX X) Post (GX X) (0, 0) 93 [some (qP 0), some (qP x1), some (qP x2), some (qI x3), some (qI (x4 + 1))] [] ρ6 μ7))) : qX mL_says (GX X) Post (GX X) (0, 0) 93 [some (qP 0), some (qP x1), some (qP x2), some (qI x3), some (qI x4)] [] ρ μ := by
  refine qX_iload dL_says_93 rfl ?_
  refine qX_iconst dL_says_95 (i32_of rfl) ?_
  refine qX_icmp_ge 121 dL_says_96 rfl (fun hc => ?_) (fun hc => ?_)
  · replace h := h.1 hc
    refine qM_aload_n 0 dL_says_121 rfl rfl shX0 ?_
    refine qM_aload_n 1 dL_says_122 rfl rfl hx1 ?_
    refine qX_bip dL_says_123 rfl ?_
    obtain ⟨P, hE4, h⟩ := h
    refine qM_callS mL_put [_, _, _] [] dL_says_125 cm_L_21 ⟨(Nat.le_of_ble_eq_true rfl), (Nat.le_of_ble_eq_true rfl)⟩ rfl rfl (Nat.le_of_ble_eq_true rfl) ⟨rfl, rfl⟩ ⟨(Nat.le_of_ble_eq_true rfl), (Nat.le_of_ble_eq_true rfl)⟩ hE4 (fun z1 ρ2 μ3 hz => ?_)
    replace h := h _ _ _ hz
    refine qR_iinc dL_says_128 rfl (Nat.le_of_ble_eq_true rfl) rfl h.1 ?_
    replace h := h.2
    refine qX_goto 69 dL_says_131 rfl ?_
    exact qX_mask [true, true, true, true, false] h
  · replace h := h.2 hc
    refine qM_aload_n 0 dL_says_99 rfl rfl shX0 ?_
    refine qM_aload_n 1 dL_says_100 rfl rfl hx1 ?_
    refine qM_aload_n 2 dL_says_101 rfl rfl hx2 ?_
    refine qX_bip dL_says_102 rfl ?_
    refine qX_iconst dL_says_104 (i32_of rfl) ?_
    refine qX_iload_n 3 dL_says_105 rfl rfl ?_
    refine qR_imul dL_says_106 h.1 ?_
    replace h := h.2
    refine qR_iadd dL_says_107 h.1 ?_
    replace h := h.2
    refine qX_iload dL_says_108 rfl ?_
    refine qR_iadd dL_says_110 h.1 ?_
    replace h := h.2
    refine qX_iald dL_says_111 hx2 h.1 ?_
    replace h := h.2
    obtain ⟨P, hE8, h⟩ := h
    refine qM_callS mL_part [_, _, _] [] dL_says_112 cm_L_42 ⟨(Nat.le_of_ble_eq_true rfl), (Nat.le_of_ble_eq_true rfl)⟩ rfl rfl (Nat.le_of_ble_eq_true rfl) ⟨rfl, rfl⟩ ⟨(Nat.le_of_ble_eq_true rfl), (Nat.le_of_ble_eq_true rfl)⟩ hE8 (fun z5 ρ6 μ7 hz => ?_)
    replace h := h _ _ _ hz
    refine qR_iinc dL_says_115 rfl (Nat.le_of_ble_eq_true rfl) rfl h.1 ?_
    replace h := h.2
    refine qX_goto 93 dL_says_118 rfl ?_
    exact qX_mask [true, true, true, true, true] h
set_option maxRecDepth 20000 in
theorem w_L_says_196 {Post : Int → Rf → Mem → Prop} {ρ : Rf} {μ : Mem} {X : List Sh} {x1 nx1 : Nat} (hx1 : (GX X).2[x1]? = some (10, nx1)) {x2 nx2 : Nat} (hx2 : (GX X).2[x2]? = some (10, nx2)) {x3 : Int}
  (h : ((2 ≤ x3 → qX mL_says (GX X) Post (GX X) (0, 0) 294 [some (qP 0), some (qP x1), some (qP x2), some (qI 0), none] [] ρ μ) ∧ (x3 < 2 → ∃ P : Int → Rf → Mem → Prop, qE mL_say (GX X) (GX X) [qP 0, qP x1, qJ 30233771112949102] ρ μ P ∧ ∀ (z1 : Int) (ρ2 : Rf) (μ3 : Mem), P z1 ρ2 μ3 → i32 (40 + x3) ∧ (0 ≤ 40 + x3 ∧ 40 + x3 < nx2) ∧ ∃ P : Int → Rf → Mem → Prop, qE mL_part (GX X) (GX X) [qP 0, qP x1, qI (μ3 x2 (40 + x3))] ρ2 μ3 P ∧ ∀ (z5 : Int) (ρ6 : Rf) (μ7 : Mem), P z5 ρ6 μ7 → ∃ P : Int → Rf → Mem → Prop, qE mL_put (GX X) (GX X) [qP 0, qP x1, qI 59] ρ6 μ7 P ∧ ∀ (z9 : Int) (ρ10 : Rf) (μ11 : Mem), P z9 ρ10 μ11 → qX mL_says (GX X) Post (GX X) (0, 0) 230 [some (qP 0), some (qP x1), some (qP x2), some (qI x3), some (qI 0)] [] ρ10 μ11))) : qX mL_says (GX X) Post (GX X) (0, 0) 196 [some (qP 0), some (qP x1), some (qP x2), some (qI x3), none] [] ρ μ := by
  refine qX_iload_n 3 dL_says_196 rfl rfl ?_
  refine qX_iconst dL_says_197 (i32_of rfl) ?_
  refine qX_icmp_ge 292 dL_says_198 rfl (fun hc => ?_) (fun hc => ?_)
  · replace h := h.1 hc
    refine qX_iconst dL_says_292 (i32_of rfl) ?_
    refine qX_istore_n 3 dL_says_293 rfl (Nat.le_of_ble_eq_true rfl) rfl ?_
    exact qX_mask [true, true, true, true, false] h
  · replace h := h.2 hc
    refine qM_aload_n 0 dL_says_201 rfl rfl shX0 ?_
    refine qM_aload_n 1 dL_says_202 rfl rfl hx1 ?_
    refine qX_ldc2 (n := 30233771112949102) dL_says_203 kK_L_56 (i64_of rfl) ?_
    obtain ⟨P, hE4, h⟩ := h
    refine qM_callS mL_say [_, _, _] [] dL_says_206 cm_L_34 ⟨(Nat.le_of_ble_eq_true rfl), (Nat.le_of_ble_eq_true rfl)⟩ rfl rfl (Nat.le_of_ble_eq_true rfl) ⟨rfl, rfl⟩ ⟨(Nat.le_of_ble_eq_true rfl), (Nat.le_of_ble_eq_true rfl)⟩ hE4 (fun z1 ρ2 μ3 hz => ?_)
    replace h := h _ _ _ hz
    refine qM_aload_n 0 dL_says_209 rfl rfl shX0 ?_
    refine qM_aload_n 1 dL_says_210 rfl rfl hx1 ?_
    refine qM_aload_n 2 dL_says_211 rfl rfl hx2 ?_
    refine qX_bip dL_says_212 rfl ?_
    refine qX_iload_n 3 dL_says_214 rfl rfl ?_
    refine qR_iadd dL_says_215 h.1 ?_
    replace h := h.2
    refine qX_iald dL_says_216 hx2 h.1 ?_
    replace h := h.2
    obtain ⟨P, hE8, h⟩ := h
    refine qM_callS mL_part [_, _, _] [] dL_says_217 cm_L_42 ⟨(Nat.le_of_ble_eq_true rfl), (Nat.le_of_ble_eq_true rfl)⟩ rfl rfl (Nat.le_of_ble_eq_true rfl) ⟨rfl, rfl⟩ ⟨(Nat.le_of_ble_eq_true rfl), (Nat.le_of_ble_eq_true rfl)⟩ hE8 (fun z5 ρ6 μ7 hz => ?_)
    replace h := h _ _ _ hz
    refine qM_aload_n 0 dL_says_220 rfl rfl shX0 ?_
    refine qM_aload_n 1 dL_says_221 rfl rfl hx1 ?_
    refine qX_bip dL_says_222 rfl ?_
    obtain ⟨P, hE12, h⟩ := h
    refine qM_callS mL_put [_, _, _] [] dL_says_224 cm_L_21 ⟨(Nat.le_of_ble_eq_true rfl), (Nat.le_of_ble_eq_true rfl)⟩ rfl rfl (Nat.le_of_ble_eq_true rfl) ⟨rfl, rfl⟩ ⟨(Nat.le_of_ble_eq_true rfl), (Nat.le_of_ble_eq_true rfl)⟩ hE12 (fun z9 ρ10 μ11 hz => ?_)
    replace h := h _ _ _ hz
    refine qX_iconst dL_says_227 (i32_of rfl) ?_
    refine qX_istore dL_says_228 (Nat.le_of_ble_eq_true rfl) rfl ?_
    exact qX_mask [true, true, true, true, true] h
set_option maxRecDepth 20000 in
theorem w_L_says_294 {Post : Int → Rf → Mem → Prop} {ρ : Rf} {μ : Mem} {X : List Sh} {x1 nx1 : Nat} (hx1 : (GX X).2[x1]? = some (10, nx1)) {x2 nx2 : Nat} (hx2 : (GX X).2[x2]? = some (10, nx2)) {x3 : Int}
  (h : ((3 ≤ x3 → qX mL_says (GX X) Post (GX X) (0, 0) 357 [some (qP 0), some (qP x1), some (qP x2), some (qI 0), none] [] ρ μ) ∧ (x3 < 3 → ((x3 ≤ 0 → qX mL_says (GX X) Post (GX X) (0, 0) 310 [some (qP 0), some (qP x1), some (qP x2), some (qI x3), none] [] ρ μ) ∧ (0 < x3 → ∃ P : Int → Rf → Mem → Prop, qE mL_put (GX X) (GX X) [qP 0, qP x1, qI 59] ρ μ P ∧ ∀ (z1 : Int) (ρ2 : Rf) (μ3 : Mem), P z1 ρ2 μ3 → qX mL_says (GX X) Post (GX X) (0, 0) 310 [some (qP 0), some (qP x1), some (qP x2), some (qI x3), none] [] ρ2 μ3))))) : qX mL_says (GX X) Post (GX X) (0, 0) 294 [some (qP 0), some (qP x1), some (qP x2), some (qI x3), none] [] ρ μ := by
  refine qX_iload_n 3 dL_says_294 rfl rfl ?_
  refine qX_iconst dL_says_295 (i32_of rfl) ?_
  refine qX_icmp_ge 355 dL_says_296 rfl (fun hc => ?_) (fun hc => ?_)
  · replace h := h.1 hc
    refine qX_iconst dL_says_355 (i32_of rfl) ?_
    refine qX_istore_n 3 dL_says_356 rfl (Nat.le_of_ble_eq_true rfl) rfl ?_
    exact qX_mask [true, true, true, true, false] h
  · replace h := h.2 hc
    refine qX_iload_n 3 dL_says_299 rfl rfl ?_
    refine qX_if_le 310 dL_says_300 rfl (fun hc => ?_) (fun hc => ?_)
    · replace h := h.1 hc
      exact qX_mask [true, true, true, true, false] h
    · replace h := h.2 hc
      refine qM_aload_n 0 dL_says_303 rfl rfl shX0 ?_
      refine qM_aload_n 1 dL_says_304 rfl rfl hx1 ?_
      refine qX_bip dL_says_305 rfl ?_
      obtain ⟨P, hE4, h⟩ := h
      refine qM_callS mL_put [_, _, _] [] dL_says_307 cm_L_21 ⟨(Nat.le_of_ble_eq_true rfl), (Nat.le_of_ble_eq_true rfl)⟩ rfl rfl (Nat.le_of_ble_eq_true rfl) ⟨rfl, rfl⟩ ⟨(Nat.le_of_ble_eq_true rfl), (Nat.le_of_ble_eq_true rfl)⟩ hE4 (fun z1 ρ2 μ3 hz => ?_)
      replace h := h _ _ _ hz
      exact qX_mask [true, true, true, true, false] h
set_option maxRecDepth 20000 in
theorem w_L_says_230 {Post : Int → Rf → Mem → Prop} {ρ : Rf} {μ : Mem} {X : List Sh} {x1 nx1 : Nat} (hx1 : (GX X).2[x1]? = some (10, nx1)) {x2 nx2 : Nat} (hx2 : (GX X).2[x2]? = some (10, nx2)) {x3 : Int} {x4 : Int}
  (h : ((2 ≤ x4 → i32 (x3 + 1) ∧ qX mL_says (GX X) Post (GX X) (0, 0) 196 [some (qP 0), some (qP x1), some (qP x2), some (qI (x3 + 1)), none] [] ρ μ) ∧ (x4 < 2 → ∃ P : Int → Rf → Mem → Prop, qE mL_say (GX X) (GX X) [qP 0, qP x1, qJ 495874696043] ρ μ P ∧ ∀ (z1 : Int) (ρ2 : Rf) (μ3 : Mem), P z1 ρ2 μ3 → ∃ P : Int → Rf → Mem → Prop, qE mL_part (GX X) (GX X) [qP 0, qP x1, qI x3] ρ2 μ3 P ∧ ∀ (z5 : Int) (ρ6 : Rf) (μ7 : Mem), P z5 ρ6 μ7 → ∃ P : Int → Rf → Mem → Prop, qE mL_mealName (GX X) (GX X) [qP 0, qP x1, qI x4] ρ6 μ7 P ∧ ∀ (z9 : Int) (ρ10 : Rf) (μ11 : Mem), P z9 ρ10 μ11 → i32 (2 * x3) ∧ i32 (42 + (2 * x3)) ∧ i32 ((42 + (2 * x3)) + x4) ∧ (0 ≤ (42 + (2 * x3)) + x4 ∧ (42 + (2 * x3)) + x4 < nx2) ∧ ∃ P : Int → Rf → Mem → Prop, qE mL_part (GX X) (GX X) [qP 0, qP x1, qI (μ11 x2 ((42 + (2 * x3)) + x4))] ρ10 μ11 P ∧ ∀ (z13 : Int) (ρ14 : Rf) (μ15 : Mem), P z13 ρ14 μ15 → ∃ P : Int → Rf → Mem → Prop, qE mL_put (GX X) (GX X) [qP 0, qP x1, qI 59] ρ14 μ15 P ∧ ∀ (z17 : Int) (ρ18 : Rf) (μ19 : Mem), P z17 ρ18 μ19 → i32 (x4 + 1) ∧ qX mL_says (GX X) Post (GX X) (0, 0) 230 [some (qP 0), some (qP x1), some (qP x2), some (qI x3), some (qI (x4 + 1))] [] ρ18 μ19))) : qX mL_says (GX X) Post (GX X) (0, 0) 230 [some (qP 0), some (qP x1), some (qP x2), some (qI x3), some (qI x4)] [] ρ μ := by
  refine qX_iload dL_says_230 rfl ?_
  refine qX_iconst dL_says_232 (i32_of rfl) ?_
  refine qX_icmp_ge 286 dL_says_233 rfl (fun hc => ?_) (fun hc => ?_)
  · replace h := h.1 hc
    refine qR_iinc dL_says_286 rfl (Nat.le_of_ble_eq_true rfl) rfl h.1 ?_
    replace h := h.2
    refine qX_goto 196 dL_says_289 rfl ?_
    exact qX_mask [true, true, true, true, false] h
  · replace h := h.2 hc
    refine qM_aload_n 0 dL_says_236 rfl rfl shX0 ?_
    refine qM_aload_n 1 dL_says_237 rfl rfl hx1 ?_
    refine qX_ldc2 (n := 495874696043) dL_says_238 kK_L_58 (i64_of rfl) ?_
    obtain ⟨P, hE4, h⟩ := h
    refine qM_callS mL_say [_, _, _] [] dL_says_241 cm_L_34 ⟨(Nat.le_of_ble_eq_true rfl), (Nat.le_of_ble_eq_true rfl)⟩ rfl rfl (Nat.le_of_ble_eq_true rfl) ⟨rfl, rfl⟩ ⟨(Nat.le_of_ble_eq_true rfl), (Nat.le_of_ble_eq_true rfl)⟩ hE4 (fun z1 ρ2 μ3 hz => ?_)
    replace h := h _ _ _ hz
    refine qM_aload_n 0 dL_says_244 rfl rfl shX0 ?_
    refine qM_aload_n 1 dL_says_245 rfl rfl hx1 ?_
    refine qX_iload_n 3 dL_says_246 rfl rfl ?_
    obtain ⟨P, hE8, h⟩ := h
    refine qM_callS mL_part [_, _, _] [] dL_says_247 cm_L_42 ⟨(Nat.le_of_ble_eq_true rfl), (Nat.le_of_ble_eq_true rfl)⟩ rfl rfl (Nat.le_of_ble_eq_true rfl) ⟨rfl, rfl⟩ ⟨(Nat.le_of_ble_eq_true rfl), (Nat.le_of_ble_eq_true rfl)⟩ hE8 (fun z5 ρ6 μ7 hz => ?_)
    replace h := h _ _ _ hz
    refine qM_aload_n 0 dL_says_250 rfl rfl shX0 ?_
    refine qM_aload_n 1 dL_says_251 rfl rfl hx1 ?_
    refine qX_iload dL_says_252 rfl ?_
    obtain ⟨P, hE12, h⟩ := h
    refine qM_callS mL_mealName [_, _, _] [] dL_says_254 cm_L_53 ⟨(Nat.le_of_ble_eq_true rfl), (Nat.le_of_ble_eq_true rfl)⟩ rfl rfl (Nat.le_of_ble_eq_true rfl) ⟨rfl, rfl⟩ ⟨(Nat.le_of_ble_eq_true rfl), (Nat.le_of_ble_eq_true rfl)⟩ hE12 (fun z9 ρ10 μ11 hz => ?_)
    replace h := h _ _ _ hz
    refine qM_aload_n 0 dL_says_257 rfl rfl shX0 ?_
    refine qM_aload_n 1 dL_says_258 rfl rfl hx1 ?_
    refine qM_aload_n 2 dL_says_259 rfl rfl hx2 ?_
    refine qX_bip dL_says_260 rfl ?_
    refine qX_iconst dL_says_262 (i32_of rfl) ?_
    refine qX_iload_n 3 dL_says_263 rfl rfl ?_
    refine qR_imul dL_says_264 h.1 ?_
    replace h := h.2
    refine qR_iadd dL_says_265 h.1 ?_
    replace h := h.2
    refine qX_iload dL_says_266 rfl ?_
    refine qR_iadd dL_says_268 h.1 ?_
    replace h := h.2
    refine qX_iald dL_says_269 hx2 h.1 ?_
    replace h := h.2
    obtain ⟨P, hE16, h⟩ := h
    refine qM_callS mL_part [_, _, _] [] dL_says_270 cm_L_42 ⟨(Nat.le_of_ble_eq_true rfl), (Nat.le_of_ble_eq_true rfl)⟩ rfl rfl (Nat.le_of_ble_eq_true rfl) ⟨rfl, rfl⟩ ⟨(Nat.le_of_ble_eq_true rfl), (Nat.le_of_ble_eq_true rfl)⟩ hE16 (fun z13 ρ14 μ15 hz => ?_)
    replace h := h _ _ _ hz
    refine qM_aload_n 0 dL_says_273 rfl rfl shX0 ?_
    refine qM_aload_n 1 dL_says_274 rfl rfl hx1 ?_
    refine qX_bip dL_says_275 rfl ?_
    obtain ⟨P, hE20, h⟩ := h
    refine qM_callS mL_put [_, _, _] [] dL_says_277 cm_L_21 ⟨(Nat.le_of_ble_eq_true rfl), (Nat.le_of_ble_eq_true rfl)⟩ rfl rfl (Nat.le_of_ble_eq_true rfl) ⟨rfl, rfl⟩ ⟨(Nat.le_of_ble_eq_true rfl), (Nat.le_of_ble_eq_true rfl)⟩ hE20 (fun z17 ρ18 μ19 hz => ?_)
    replace h := h _ _ _ hz
    refine qR_iinc dL_says_280 rfl (Nat.le_of_ble_eq_true rfl) rfl h.1 ?_
    replace h := h.2
    refine qX_goto 230 dL_says_283 rfl ?_
    exact qX_mask [true, true, true, true, true] h
set_option maxRecDepth 20000 in
theorem w_L_says_357 {Post : Int → Rf → Mem → Prop} {ρ : Rf} {μ : Mem} {X : List Sh} {x1 nx1 : Nat} (hx1 : (GX X).2[x1]? = some (10, nx1)) {x2 nx2 : Nat} (hx2 : (GX X).2[x2]? = some (10, nx2)) {x3 : Int}
  (h : (0 ≤ (70 : Int) ∧ (70 : Int) < nx2) ∧ ((μ x2 70 ≤ x3 → ∃ P : Int → Rf → Mem → Prop, qE mL_said (GX X) (GX X) [qP 0, qP x1] ρ μ P ∧ ∀ (z1 : Int) (ρ2 : Rf) (μ3 : Mem), P z1 ρ2 μ3 → ∃ P : Int → Rf → Mem → Prop, qE mX7_load (GX X) (GX X) [qP 0, qI z1] ρ2 μ3 P ∧ ∀ (z5 : Int) (ρ6 : Rf) (μ7 : Mem), P z5 ρ6 μ7 → Post z5 ρ6 μ7) ∧ (x3 < μ x2 70 → ∃ P : Int → Rf → Mem → Prop, qE mL_say (GX X) (GX X) [qP 0, qP x1, qJ 996831074] ρ μ P ∧ ∀ (z9 : Int) (ρ10 : Rf) (μ11 : Mem), P z9 ρ10 μ11 → qX mL_says (GX X) Post (GX X) (0, 0) 376 [some (qP 0), some (qP x1), some (qP x2), some (qI x3), some (qI 0)] [] ρ10 μ11))) : qX mL_says (GX X) Post (GX X) (0, 0) 357 [some (qP 0), some (qP x1), some (qP x2), some (qI x3), none] [] ρ μ := by
  refine qX_iload_n 3 dL_says_357 rfl rfl ?_
  refine qM_aload_n 2 dL_says_358 rfl rfl hx2 ?_
  refine qX_bip dL_says_359 rfl ?_
  refine qX_iald dL_says_361 hx2 h.1 ?_
  replace h := h.2
  refine qX_icmp_ge 436 dL_says_362 rfl (fun hc => ?_) (fun hc => ?_)
  · replace h := h.1 hc
    refine qM_aload_n 0 dL_says_436 rfl rfl shX0 ?_
    refine qM_aload_n 0 dL_says_437 rfl rfl shX0 ?_
    refine qM_aload_n 1 dL_says_438 rfl rfl hx1 ?_
    obtain ⟨P, hE4, h⟩ := h
    refine qM_callS mL_said [_, _] [_] dL_says_439 cm_L_64 ⟨(Nat.le_of_ble_eq_true rfl), (Nat.le_of_ble_eq_true rfl)⟩ rfl rfl (Nat.le_of_ble_eq_true rfl) ⟨rfl, rfl⟩ ⟨(Nat.le_of_ble_eq_true rfl), (Nat.le_of_ble_eq_true rfl)⟩ hE4 (fun z1 ρ2 μ3 hz => ?_)
    replace h := h _ _ _ hz
    obtain ⟨P, hE8, h⟩ := h
    refine qM_callV mX7_load [_] _ 7 [] dL_says_442 cm_L_68 ⟨(Nat.le_of_ble_eq_true rfl), (Nat.le_of_ble_eq_true rfl)⟩ rfl rfl shX0 (Nat.le_of_ble_eq_true rfl) ⟨rfl, rfl⟩ ⟨(Nat.le_of_ble_eq_true rfl), (Nat.le_of_ble_eq_true rfl)⟩ hE8 (fun z5 ρ6 μ7 hz => ?_)
    replace h := h _ _ _ hz
    exact qX_ireturn rfl dL_says_445 rfl ⟨(Nat.le_of_ble_eq_true rfl), (Nat.le_of_ble_eq_true rfl)⟩ h
  · replace h := h.2 hc
    refine qM_aload_n 0 dL_says_365 rfl rfl shX0 ?_
    refine qM_aload_n 1 dL_says_366 rfl rfl hx1 ?_
    refine qX_ldc2 (n := 996831074) dL_says_367 kK_L_62 (i64_of rfl) ?_
    obtain ⟨P, hE12, h⟩ := h
    refine qM_callS mL_say [_, _, _] [] dL_says_370 cm_L_34 ⟨(Nat.le_of_ble_eq_true rfl), (Nat.le_of_ble_eq_true rfl)⟩ rfl rfl (Nat.le_of_ble_eq_true rfl) ⟨rfl, rfl⟩ ⟨(Nat.le_of_ble_eq_true rfl), (Nat.le_of_ble_eq_true rfl)⟩ hE12 (fun z9 ρ10 μ11 hz => ?_)
    replace h := h _ _ _ hz
    refine qX_iconst dL_says_373 (i32_of rfl) ?_
    refine qX_istore dL_says_374 (Nat.le_of_ble_eq_true rfl) rfl ?_
    exact qX_mask [true, true, true, true, true] h
set_option maxRecDepth 20000 in
theorem w_L_says_310 {Post : Int → Rf → Mem → Prop} {ρ : Rf} {μ : Mem} {X : List Sh} {x1 nx1 : Nat} (hx1 : (GX X).2[x1]? = some (10, nx1)) {x2 nx2 : Nat} (hx2 : (GX X).2[x2]? = some (10, nx2)) {x3 : Int}
  (h : ∃ P : Int → Rf → Mem → Prop, qE mL_say (GX X) (GX X) [qP 0, qP x1, qJ 32776920184415609] ρ μ P ∧ ∀ (z1 : Int) (ρ2 : Rf) (μ3 : Mem), P z1 ρ2 μ3 → qX mL_says (GX X) Post (GX X) (0, 0) 321 [some (qP 0), some (qP x1), some (qP x2), some (qI x3), some (qI 0)] [] ρ2 μ3) : qX mL_says (GX X) Post (GX X) (0, 0) 310 [some (qP 0), some (qP x1), some (qP x2), some (qI x3), none] [] ρ μ := by
  refine qM_aload_n 0 dL_says_310 rfl rfl shX0 ?_
  refine qM_aload_n 1 dL_says_311 rfl rfl hx1 ?_
  refine qX_ldc2 (n := 32776920184415609) dL_says_312 kK_L_60 (i64_of rfl) ?_
  obtain ⟨P, hE4, h⟩ := h
  refine qM_callS mL_say [_, _, _] [] dL_says_315 cm_L_34 ⟨(Nat.le_of_ble_eq_true rfl), (Nat.le_of_ble_eq_true rfl)⟩ rfl rfl (Nat.le_of_ble_eq_true rfl) ⟨rfl, rfl⟩ ⟨(Nat.le_of_ble_eq_true rfl), (Nat.le_of_ble_eq_true rfl)⟩ hE4 (fun z1 ρ2 μ3 hz => ?_)
  replace h := h _ _ _ hz
  refine qX_iconst dL_says_318 (i32_of rfl) ?_
  refine qX_istore dL_says_319 (Nat.le_of_ble_eq_true rfl) rfl ?_
  exact qX_mask [true, true, true, true, true] h
set_option maxRecDepth 20000 in
theorem w_L_says_376 {Post : Int → Rf → Mem → Prop} {ρ : Rf} {μ : Mem} {X : List Sh} {x1 nx1 : Nat} (hx1 : (GX X).2[x1]? = some (10, nx1)) {x2 nx2 : Nat} (hx2 : (GX X).2[x2]? = some (10, nx2)) {x3 : Int} {x4 : Int}
  (h : ((3 ≤ x4 → i32 (5 * x3) ∧ i32 (74 + (5 * x3)) ∧ (0 ≤ 74 + (5 * x3) ∧ 74 + (5 * x3) < nx2) ∧ ∃ P : Int → Rf → Mem → Prop, qE mL_mealName (GX X) (GX X) [qP 0, qP x1, qI (μ x2 (74 + (5 * x3)))] ρ μ P ∧ ∀ (z1 : Int) (ρ2 : Rf) (μ3 : Mem), P z1 ρ2 μ3 → i32 (5 * x3) ∧ i32 (75 + (5 * x3)) ∧ (0 ≤ 75 + (5 * x3) ∧ 75 + (5 * x3) < nx2) ∧ ∃ P : Int → Rf → Mem → Prop, qE mL_part (GX X) (GX X) [qP 0, qP x1, qI (μ3 x2 (75 + (5 * x3)))] ρ2 μ3 P ∧ ∀ (z5 : Int) (ρ6 : Rf) (μ7 : Mem), P z5 ρ6 μ7 → i32 (x3 + 1) ∧ qX mL_says (GX X) Post (GX X) (0, 0) 357 [some (qP 0), some (qP x1), some (qP x2), some (qI (x3 + 1)), none] [] ρ6 μ7) ∧ (x4 < 3 → i32 (5 * x3) ∧ i32 (71 + (5 * x3)) ∧ i32 ((71 + (5 * x3)) + x4) ∧ (0 ≤ (71 + (5 * x3)) + x4 ∧ (71 + (5 * x3)) + x4 < nx2) ∧ ∃ P : Int → Rf → Mem → Prop, qE mL_part (GX X) (GX X) [qP 0, qP x1, qI (μ x2 ((71 + (5 * x3)) + x4))] ρ μ P ∧ ∀ (z9 : Int) (ρ10 : Rf) (μ11 : Mem), P z9 ρ10 μ11 → i32 (x4 + 1) ∧ qX mL_says (GX X) Post (GX X) (0, 0) 376 [some (qP 0), some (qP x1), some (qP x2), some (qI x3), some (qI (x4 + 1))] [] ρ10 μ11))) : qX mL_says (GX X) Post (GX X) (0, 0) 376 [some (qP 0), some (qP x1), some (qP x2), some (qI x3), some (qI x4)] [] ρ μ := by
  refine qX_iload dL_says_376 rfl ?_
  refine qX_iconst dL_says_378 (i32_of rfl) ?_
  refine qX_icmp_ge 404 dL_says_379 rfl (fun hc => ?_) (fun hc => ?_)
  · replace h := h.1 hc
    refine qM_aload_n 0 dL_says_404 rfl rfl shX0 ?_
    refine qM_aload_n 1 dL_says_405 rfl rfl hx1 ?_
    refine qM_aload_n 2 dL_says_406 rfl rfl hx2 ?_
    refine qX_bip dL_says_407 rfl ?_
    refine qX_iconst dL_says_409 (i32_of rfl) ?_
    refine qX_iload_n 3 dL_says_410 rfl rfl ?_
    refine qR_imul dL_says_411 h.1 ?_
    replace h := h.2
    refine qR_iadd dL_says_412 h.1 ?_
    replace h := h.2
    refine qX_iald dL_says_413 hx2 h.1 ?_
    replace h := h.2
    obtain ⟨P, hE4, h⟩ := h
    refine qM_callS mL_mealName [_, _, _] [] dL_says_414 cm_L_53 ⟨(Nat.le_of_ble_eq_true rfl), (Nat.le_of_ble_eq_true rfl)⟩ rfl rfl (Nat.le_of_ble_eq_true rfl) ⟨rfl, rfl⟩ ⟨(Nat.le_of_ble_eq_true rfl), (Nat.le_of_ble_eq_true rfl)⟩ hE4 (fun z1 ρ2 μ3 hz => ?_)
    replace h := h _ _ _ hz
    refine qM_aload_n 0 dL_says_417 rfl rfl shX0 ?_
    refine qM_aload_n 1 dL_says_418 rfl rfl hx1 ?_
    refine qM_aload_n 2 dL_says_419 rfl rfl hx2 ?_
    refine qX_bip dL_says_420 rfl ?_
    refine qX_iconst dL_says_422 (i32_of rfl) ?_
    refine qX_iload_n 3 dL_says_423 rfl rfl ?_
    refine qR_imul dL_says_424 h.1 ?_
    replace h := h.2
    refine qR_iadd dL_says_425 h.1 ?_
    replace h := h.2
    refine qX_iald dL_says_426 hx2 h.1 ?_
    replace h := h.2
    obtain ⟨P, hE8, h⟩ := h
    refine qM_callS mL_part [_, _, _] [] dL_says_427 cm_L_42 ⟨(Nat.le_of_ble_eq_true rfl), (Nat.le_of_ble_eq_true rfl)⟩ rfl rfl (Nat.le_of_ble_eq_true rfl) ⟨rfl, rfl⟩ ⟨(Nat.le_of_ble_eq_true rfl), (Nat.le_of_ble_eq_true rfl)⟩ hE8 (fun z5 ρ6 μ7 hz => ?_)
    replace h := h _ _ _ hz
    refine qR_iinc dL_says_430 rfl (Nat.le_of_ble_eq_true rfl) rfl h.1 ?_
    replace h := h.2
    refine qX_goto 357 dL_says_433 rfl ?_
    exact qX_mask [true, true, true, true, false] h
  · replace h := h.2 hc
    refine qM_aload_n 0 dL_says_382 rfl rfl shX0 ?_
    refine qM_aload_n 1 dL_says_383 rfl rfl hx1 ?_
    refine qM_aload_n 2 dL_says_384 rfl rfl hx2 ?_
    refine qX_bip dL_says_385 rfl ?_
    refine qX_iconst dL_says_387 (i32_of rfl) ?_
    refine qX_iload_n 3 dL_says_388 rfl rfl ?_
    refine qR_imul dL_says_389 h.1 ?_
    replace h := h.2
    refine qR_iadd dL_says_390 h.1 ?_
    replace h := h.2
    refine qX_iload dL_says_391 rfl ?_
    refine qR_iadd dL_says_393 h.1 ?_
    replace h := h.2
    refine qX_iald dL_says_394 hx2 h.1 ?_
    replace h := h.2
    obtain ⟨P, hE12, h⟩ := h
    refine qM_callS mL_part [_, _, _] [] dL_says_395 cm_L_42 ⟨(Nat.le_of_ble_eq_true rfl), (Nat.le_of_ble_eq_true rfl)⟩ rfl rfl (Nat.le_of_ble_eq_true rfl) ⟨rfl, rfl⟩ ⟨(Nat.le_of_ble_eq_true rfl), (Nat.le_of_ble_eq_true rfl)⟩ hE12 (fun z9 ρ10 μ11 hz => ?_)
    replace h := h _ _ _ hz
    refine qR_iinc dL_says_398 rfl (Nat.le_of_ble_eq_true rfl) rfl h.1 ?_
    replace h := h.2
    refine qX_goto 376 dL_says_401 rfl ?_
    exact qX_mask [true, true, true, true, true] h
set_option maxRecDepth 20000 in
theorem w_L_says_321 {Post : Int → Rf → Mem → Prop} {ρ : Rf} {μ : Mem} {X : List Sh} {x1 nx1 : Nat} (hx1 : (GX X).2[x1]? = some (10, nx1)) {x2 nx2 : Nat} (hx2 : (GX X).2[x2]? = some (10, nx2)) {x3 : Int} {x4 : Int}
  (h : ((5 ≤ x4 → i32 (x3 + 1) ∧ qX mL_says (GX X) Post (GX X) (0, 0) 294 [some (qP 0), some (qP x1), some (qP x2), some (qI (x3 + 1)), none] [] ρ μ) ∧ (x4 < 5 → i32 (5 * x3) ∧ i32 (50 + (5 * x3)) ∧ i32 ((50 + (5 * x3)) + x4) ∧ (0 ≤ (50 + (5 * x3)) + x4 ∧ (50 + (5 * x3)) + x4 < nx2) ∧ ∃ P : Int → Rf → Mem → Prop, qE mL_part (GX X) (GX X) [qP 0, qP x1, qI (μ x2 ((50 + (5 * x3)) + x4))] ρ μ P ∧ ∀ (z1 : Int) (ρ2 : Rf) (μ3 : Mem), P z1 ρ2 μ3 → i32 (x4 + 1) ∧ qX mL_says (GX X) Post (GX X) (0, 0) 321 [some (qP 0), some (qP x1), some (qP x2), some (qI x3), some (qI (x4 + 1))] [] ρ2 μ3))) : qX mL_says (GX X) Post (GX X) (0, 0) 321 [some (qP 0), some (qP x1), some (qP x2), some (qI x3), some (qI x4)] [] ρ μ := by
  refine qX_iload dL_says_321 rfl ?_
  refine qX_iconst dL_says_323 (i32_of rfl) ?_
  refine qX_icmp_ge 349 dL_says_324 rfl (fun hc => ?_) (fun hc => ?_)
  · replace h := h.1 hc
    refine qR_iinc dL_says_349 rfl (Nat.le_of_ble_eq_true rfl) rfl h.1 ?_
    replace h := h.2
    refine qX_goto 294 dL_says_352 rfl ?_
    exact qX_mask [true, true, true, true, false] h
  · replace h := h.2 hc
    refine qM_aload_n 0 dL_says_327 rfl rfl shX0 ?_
    refine qM_aload_n 1 dL_says_328 rfl rfl hx1 ?_
    refine qM_aload_n 2 dL_says_329 rfl rfl hx2 ?_
    refine qX_bip dL_says_330 rfl ?_
    refine qX_iconst dL_says_332 (i32_of rfl) ?_
    refine qX_iload_n 3 dL_says_333 rfl rfl ?_
    refine qR_imul dL_says_334 h.1 ?_
    replace h := h.2
    refine qR_iadd dL_says_335 h.1 ?_
    replace h := h.2
    refine qX_iload dL_says_336 rfl ?_
    refine qR_iadd dL_says_338 h.1 ?_
    replace h := h.2
    refine qX_iald dL_says_339 hx2 h.1 ?_
    replace h := h.2
    obtain ⟨P, hE4, h⟩ := h
    refine qM_callS mL_part [_, _, _] [] dL_says_340 cm_L_42 ⟨(Nat.le_of_ble_eq_true rfl), (Nat.le_of_ble_eq_true rfl)⟩ rfl rfl (Nat.le_of_ble_eq_true rfl) ⟨rfl, rfl⟩ ⟨(Nat.le_of_ble_eq_true rfl), (Nat.le_of_ble_eq_true rfl)⟩ hE4 (fun z1 ρ2 μ3 hz => ?_)
    replace h := h _ _ _ hz
    refine qR_iinc dL_says_343 rfl (Nat.le_of_ble_eq_true rfl) rfl h.1 ?_
    replace h := h.2
    refine qX_goto 321 dL_says_346 rfl ?_
    exact qX_mask [true, true, true, true, true] h
set_option maxRecDepth 20000 in
theorem e_L_jobsOf {Post : Int → Rf → Mem → Prop} {ρ : Rf} {μ : Mem} {X : List Sh} {x1 : Int}
  (h : qX mL_jobsOf (GX X) Post (GX X) (0, 0) 4 [some (qP 0), some (qI x1), some (qI 0), some (qI 0)] [] ρ μ) : qE mL_jobsOf (GX X) (GX X) [qP 0, qI x1] ρ μ Post := by
  refine qE_intro pl_L_jobsOf (Nat.le_of_ble_eq_true rfl) (Nat.le_refl _) ?_
  refine qX_iconst dL_jobsOf_0 (i32_of rfl) ?_
  refine qX_istore_n 2 dL_jobsOf_1 rfl (Nat.le_of_ble_eq_true rfl) rfl ?_
  refine qX_iconst dL_jobsOf_2 (i32_of rfl) ?_
  refine qX_istore_n 3 dL_jobsOf_3 rfl (Nat.le_of_ble_eq_true rfl) rfl ?_
  exact qX_mask [true, true, true, true] h
set_option maxRecDepth 20000 in
theorem w_L_jobsOf_4 {Post : Int → Rf → Mem → Prop} {ρ : Rf} {μ : Mem} {X : List Sh} {x1 : Int} {x2 : Int} {x3 : Int}
  (h : ∃ P : Int → Rf → Mem → Prop, qE mX7_jobCount (GX X) (GX X) [qP 0] ρ μ P ∧ ∀ (z1 : Int) (ρ2 : Rf) (μ3 : Mem), P z1 ρ2 μ3 → ((z1 ≤ x3 → Post x2 ρ2 μ3) ∧ (x3 < z1 → ∃ P : Int → Rf → Mem → Prop, qE mX7_jobTrolley (GX X) (GX X) [qP 0, qI x3] ρ2 μ3 P ∧ ∀ (z5 : Int) (ρ6 : Rf) (μ7 : Mem), P z5 ρ6 μ7 → ((z5 ≠ x1 → i32 (x2 + 0) ∧ i32 (x3 + 1) ∧ qX mL_jobsOf (GX X) Post (GX X) (0, 0) 4 [some (qP 0), some (qI x1), some (qI (x2 + 0)), some (qI (x3 + 1))] [] ρ6 μ7) ∧ (z5 = x1 → i32 (x2 + 1) ∧ i32 (x3 + 1) ∧ qX mL_jobsOf (GX X) Post (GX X) (0, 0) 4 [some (qP 0), some (qI x1), some (qI (x2 + 1)), some (qI (x3 + 1))] [] ρ6 μ7))))) : qX mL_jobsOf (GX X) Post (GX X) (0, 0) 4 [some (qP 0), some (qI x1), some (qI x2), some (qI x3)] [] ρ μ := by
  refine qX_iload_n 3 dL_jobsOf_4 rfl rfl ?_
  refine qM_aload_n 0 dL_jobsOf_5 rfl rfl shX0 ?_
  obtain ⟨P, hE4, h⟩ := h
  refine qM_callV mX7_jobCount [] _ 7 [_] dL_jobsOf_6 cm_L_136 ⟨(Nat.le_of_ble_eq_true rfl), (Nat.le_of_ble_eq_true rfl)⟩ rfl rfl shX0 (Nat.le_of_ble_eq_true rfl) ⟨rfl, rfl⟩ ⟨(Nat.le_of_ble_eq_true rfl), (Nat.le_of_ble_eq_true rfl)⟩ hE4 (fun z1 ρ2 μ3 hz => ?_)
  replace h := h _ _ _ hz
  refine qX_icmp_ge 35 dL_jobsOf_9 rfl (fun hc => ?_) (fun hc => ?_)
  · replace h := h.1 hc
    refine qX_iload_n 2 dL_jobsOf_35 rfl rfl ?_
    exact qX_ireturn rfl dL_jobsOf_36 rfl ⟨(Nat.le_of_ble_eq_true rfl), (Nat.le_of_ble_eq_true rfl)⟩ h
  · replace h := h.2 hc
    refine qX_iload_n 2 dL_jobsOf_12 rfl rfl ?_
    refine qM_aload_n 0 dL_jobsOf_13 rfl rfl shX0 ?_
    refine qX_iload_n 3 dL_jobsOf_14 rfl rfl ?_
    obtain ⟨P, hE8, h⟩ := h
    refine qM_callV mX7_jobTrolley [_] _ 7 [_] dL_jobsOf_15 cm_L_147 ⟨(Nat.le_of_ble_eq_true rfl), (Nat.le_of_ble_eq_true rfl)⟩ rfl rfl shX0 (Nat.le_of_ble_eq_true rfl) ⟨rfl, rfl⟩ ⟨(Nat.le_of_ble_eq_true rfl), (Nat.le_of_ble_eq_true rfl)⟩ hE8 (fun z5 ρ6 μ7 hz => ?_)
    replace h := h _ _ _ hz
    refine qX_iload_n 1 dL_jobsOf_18 rfl rfl ?_
    refine qX_icmp_ne 26 dL_jobsOf_19 rfl (fun hc => ?_) (fun hc => ?_)
    · replace h := h.1 hc
      refine qX_iconst dL_jobsOf_26 (i32_of rfl) ?_
      refine qR_iadd dL_jobsOf_27 h.1 ?_
      replace h := h.2
      refine qX_istore_n 2 dL_jobsOf_28 rfl (Nat.le_of_ble_eq_true rfl) rfl ?_
      refine qR_iinc dL_jobsOf_29 rfl (Nat.le_of_ble_eq_true rfl) rfl h.1 ?_
      replace h := h.2
      refine qX_goto 4 dL_jobsOf_32 rfl ?_
      exact qX_mask [true, true, true, true] h
    · replace h := h.2 hc
      refine qX_iconst dL_jobsOf_22 (i32_of rfl) ?_
      refine qX_goto 27 dL_jobsOf_23 rfl ?_
      refine qR_iadd dL_jobsOf_27 h.1 ?_
      replace h := h.2
      refine qX_istore_n 2 dL_jobsOf_28 rfl (Nat.le_of_ble_eq_true rfl) rfl ?_
      refine qR_iinc dL_jobsOf_29 rfl (Nat.le_of_ble_eq_true rfl) rfl h.1 ?_
      replace h := h.2
      refine qX_goto 4 dL_jobsOf_32 rfl ?_
      exact qX_mask [true, true, true, true] h
set_option maxRecDepth 20000 in
theorem e_L_holds {Post : Int → Rf → Mem → Prop} {ρ : Rf} {μ : Mem} {X : List Sh} {x1 nx1 : Nat} (hx1 : (GX X).2[x1]? = some (10, nx1))
  (h : ∃ P : Int → Rf → Mem → Prop, qE mL_mealsHold (GX X) (GX X) [qP 0] ρ μ P ∧ ∀ (z1 : Int) (ρ2 : Rf) (μ3 : Mem), P z1 ρ2 μ3 → ((z1 = 0 → Post 0 ρ2 μ3) ∧ (z1 ≠ 0 → ∃ P : Int → Rf → Mem → Prop, qE mL_jobsHold (GX X) (GX X) [qP 0] ρ2 μ3 P ∧ ∀ (z5 : Int) (ρ6 : Rf) (μ7 : Mem), P z5 ρ6 μ7 → ((z5 = 0 → Post 0 ρ6 μ7) ∧ (z5 ≠ 0 → ∃ P : Int → Rf → Mem → Prop, qE mL_sharesHold (GX X) (GX X) [qP 0] ρ6 μ7 P ∧ ∀ (z9 : Int) (ρ10 : Rf) (μ11 : Mem), P z9 ρ10 μ11 → ((z9 = 0 → Post 0 ρ10 μ11) ∧ (z9 ≠ 0 → ∃ P : Int → Rf → Mem → Prop, qE mL_bestsHold (GX X) (GX X) [qP 0, qP x1] ρ10 μ11 P ∧ ∀ (z13 : Int) (ρ14 : Rf) (μ15 : Mem), P z13 ρ14 μ15 → ((z13 = 0 → Post 0 ρ14 μ15) ∧ (z13 ≠ 0 → Post 1 ρ14 μ15))))))))) : qE mL_holds (GX X) (GX X) [qP 0, qP x1] ρ μ Post := by
  refine qE_intro pl_L_holds (Nat.le_of_ble_eq_true rfl) (Nat.le_refl _) ?_
  refine qM_aload_n 0 dL_holds_0 rfl rfl shX0 ?_
  obtain ⟨P, hE4, h⟩ := h
  refine qM_callS mL_mealsHold [_] [] dL_holds_1 cm_L_265 ⟨(Nat.le_of_ble_eq_true rfl), (Nat.le_of_ble_eq_true rfl)⟩ rfl rfl (Nat.le_of_ble_eq_true rfl) ⟨rfl, rfl⟩ ⟨(Nat.le_of_ble_eq_true rfl), (Nat.le_of_ble_eq_true rfl)⟩ hE4 (fun z1 ρ2 μ3 hz => ?_)
  replace h := h _ _ _ hz
  refine qX_if_eq 33 dL_holds_4 rfl (fun hc => ?_) (fun hc => ?_)
  · replace h := h.1 hc
    refine qX_iconst dL_holds_33 (i32_of rfl) ?_
    exact qX_zreturn rfl dL_holds_34 rfl ⟨(Nat.le_of_ble_eq_true rfl), (Nat.le_of_ble_eq_true rfl)⟩ (by decide) h
  · replace h := h.2 hc
    refine qM_aload_n 0 dL_holds_7 rfl rfl shX0 ?_
    obtain ⟨P, hE8, h⟩ := h
    refine qX_callS mL_jobsHold [_] [] dL_holds_8 cm_L_269 ⟨(Nat.le_of_ble_eq_true rfl), (Nat.le_of_ble_eq_true rfl)⟩ rfl rfl (Nat.le_of_ble_eq_true rfl) ⟨(Nat.le_of_ble_eq_true rfl), (Nat.le_of_ble_eq_true rfl)⟩ hE8 (Nat.le_refl _) (fun z5 ρ6 μ7 hz => ?_)
    replace h := h _ _ _ hz
    refine qX_if_eq 33 dL_holds_11 rfl (fun hc => ?_) (fun hc => ?_)
    · replace h := h.1 hc
      refine qX_iconst dL_holds_33 (i32_of rfl) ?_
      exact qX_zreturn rfl dL_holds_34 rfl ⟨(Nat.le_of_ble_eq_true rfl), (Nat.le_of_ble_eq_true rfl)⟩ (by decide) h
    · replace h := h.2 hc
      refine qM_aload_n 0 dL_holds_14 rfl rfl shX0 ?_
      obtain ⟨P, hE12, h⟩ := h
      refine qM_callS mL_sharesHold [_] [] dL_holds_15 cm_L_272 ⟨(Nat.le_of_ble_eq_true rfl), (Nat.le_of_ble_eq_true rfl)⟩ rfl rfl (Nat.le_of_ble_eq_true rfl) ⟨rfl, rfl⟩ ⟨(Nat.le_of_ble_eq_true rfl), (Nat.le_of_ble_eq_true rfl)⟩ hE12 (fun z9 ρ10 μ11 hz => ?_)
      replace h := h _ _ _ hz
      refine qX_if_eq 33 dL_holds_18 rfl (fun hc => ?_) (fun hc => ?_)
      · replace h := h.1 hc
        refine qX_iconst dL_holds_33 (i32_of rfl) ?_
        exact qX_zreturn rfl dL_holds_34 rfl ⟨(Nat.le_of_ble_eq_true rfl), (Nat.le_of_ble_eq_true rfl)⟩ (by decide) h
      · replace h := h.2 hc
        refine qM_aload_n 0 dL_holds_21 rfl rfl shX0 ?_
        refine qM_aload_n 1 dL_holds_22 rfl rfl hx1 ?_
        obtain ⟨P, hE16, h⟩ := h
        refine qM_callS mL_bestsHold [_, _] [] dL_holds_23 cm_L_275 ⟨(Nat.le_of_ble_eq_true rfl), (Nat.le_of_ble_eq_true rfl)⟩ rfl rfl (Nat.le_of_ble_eq_true rfl) ⟨rfl, rfl⟩ ⟨(Nat.le_of_ble_eq_true rfl), (Nat.le_of_ble_eq_true rfl)⟩ hE16 (fun z13 ρ14 μ15 hz => ?_)
        replace h := h _ _ _ hz
        refine qX_if_eq 33 dL_holds_26 rfl (fun hc => ?_) (fun hc => ?_)
        · replace h := h.1 hc
          refine qX_iconst dL_holds_33 (i32_of rfl) ?_
          exact qX_zreturn rfl dL_holds_34 rfl ⟨(Nat.le_of_ble_eq_true rfl), (Nat.le_of_ble_eq_true rfl)⟩ (by decide) h
        · replace h := h.2 hc
          refine qX_iconst dL_holds_29 (i32_of rfl) ?_
          refine qX_goto 34 dL_holds_30 rfl ?_
          exact qX_zreturn rfl dL_holds_34 rfl ⟨(Nat.le_of_ble_eq_true rfl), (Nat.le_of_ble_eq_true rfl)⟩ (by decide) h
set_option maxRecDepth 20000 in
theorem e_L_mealsHold {Post : Int → Rf → Mem → Prop} {ρ : Rf} {μ : Mem} {X : List Sh} 
  (h : qX mL_mealsHold (GX X) Post (GX X) (0, 0) 4 [some (qP 0), some (qI 0), some (qI 0), none, none, none, none, none] [] ρ μ) : qE mL_mealsHold (GX X) (GX X) [qP 0] ρ μ Post := by
  refine qE_intro pl_L_mealsHold (Nat.le_of_ble_eq_true rfl) (Nat.le_refl _) ?_
  refine qX_iconst dL_mealsHold_0 (i32_of rfl) ?_
  refine qX_istore_n 1 dL_mealsHold_1 rfl (Nat.le_of_ble_eq_true rfl) rfl ?_
  refine qX_iconst dL_mealsHold_2 (i32_of rfl) ?_
  refine qX_istore_n 2 dL_mealsHold_3 rfl (Nat.le_of_ble_eq_true rfl) rfl ?_
  exact qX_mask [true, true, true, false, false, false, false, false] h
set_option maxRecDepth 20000 in
theorem w_L_mealsHold_4 {Post : Int → Rf → Mem → Prop} {ρ : Rf} {μ : Mem} {X : List Sh} {x1 : Int} {x2 : Int}
  (h : ((2 ≤ x2 → ∃ P : Int → Rf → Mem → Prop, qE mX7_deliveredTotal (GX X) (GX X) [qP 0] ρ μ P ∧ ∀ (z1 : Int) (ρ2 : Rf) (μ3 : Mem), P z1 ρ2 μ3 → ((z1 ≠ x1 → Post 0 ρ2 μ3) ∧ (z1 = x1 → Post 1 ρ2 μ3))) ∧ (x2 < 2 → ∃ P : Int → Rf → Mem → Prop, qE mX7_stock (GX X) (GX X) [qP 0, qI 0, qI x2] ρ μ P ∧ ∀ (z5 : Int) (ρ6 : Rf) (μ7 : Mem), P z5 ρ6 μ7 → ∃ P : Int → Rf → Mem → Prop, qE mX7_stock (GX X) (GX X) [qP 0, qI 1, qI x2] ρ6 μ7 P ∧ ∀ (z9 : Int) (ρ10 : Rf) (μ11 : Mem), P z9 ρ10 μ11 → i32 (z5 + z9) ∧ ∃ P : Int → Rf → Mem → Prop, qE mX7_finalStock (GX X) (GX X) [qP 0, qI 0, qI x2] ρ10 μ11 P ∧ ∀ (z13 : Int) (ρ14 : Rf) (μ15 : Mem), P z13 ρ14 μ15 → ∃ P : Int → Rf → Mem → Prop, qE mX7_finalStock (GX X) (GX X) [qP 0, qI 1, qI x2] ρ14 μ15 P ∧ ∀ (z17 : Int) (ρ18 : Rf) (μ19 : Mem), P z17 ρ18 μ19 → i32 (z13 + z17) ∧ qX mL_mealsHold (GX X) Post (GX X) (0, 0) 41 [some (qP 0), some (qI x1), some (qI x2), some (qI (z5 + z9)), some (qI (z13 + z17)), some (qI 0), none, none] [] ρ18 μ19))) : qX mL_mealsHold (GX X) Post (GX X) (0, 0) 4 [some (qP 0), some (qI x1), some (qI x2), none, none, none, none, none] [] ρ μ := by
  refine qX_iload_n 2 dL_mealsHold_4 rfl rfl ?_
  refine qX_iconst dL_mealsHold_5 (i32_of rfl) ?_
  refine qX_icmp_ge 135 dL_mealsHold_6 rfl (fun hc => ?_) (fun hc => ?_)
  · replace h := h.1 hc
    refine qM_aload_n 0 dL_mealsHold_135 rfl rfl shX0 ?_
    obtain ⟨P, hE4, h⟩ := h
    refine qM_callV mX7_deliveredTotal [] _ 7 [] dL_mealsHold_136 cm_L_140 ⟨(Nat.le_of_ble_eq_true rfl), (Nat.le_of_ble_eq_true rfl)⟩ rfl rfl shX0 (Nat.le_of_ble_eq_true rfl) ⟨rfl, rfl⟩ ⟨(Nat.le_of_ble_eq_true rfl), (Nat.le_of_ble_eq_true rfl)⟩ hE4 (fun z1 ρ2 μ3 hz => ?_)
    replace h := h _ _ _ hz
    refine qX_iload_n 1 dL_mealsHold_139 rfl rfl ?_
    refine qX_icmp_ne 147 dL_mealsHold_140 rfl (fun hc => ?_) (fun hc => ?_)
    · replace h := h.1 hc
      refine qX_iconst dL_mealsHold_147 (i32_of rfl) ?_
      exact qX_zreturn rfl dL_mealsHold_148 rfl ⟨(Nat.le_of_ble_eq_true rfl), (Nat.le_of_ble_eq_true rfl)⟩ (by decide) h
    · replace h := h.2 hc
      refine qX_iconst dL_mealsHold_143 (i32_of rfl) ?_
      refine qX_goto 148 dL_mealsHold_144 rfl ?_
      exact qX_zreturn rfl dL_mealsHold_148 rfl ⟨(Nat.le_of_ble_eq_true rfl), (Nat.le_of_ble_eq_true rfl)⟩ (by decide) h
  · replace h := h.2 hc
    refine qM_aload_n 0 dL_mealsHold_9 rfl rfl shX0 ?_
    refine qX_iconst dL_mealsHold_10 (i32_of rfl) ?_
    refine qX_iload_n 2 dL_mealsHold_11 rfl rfl ?_
    obtain ⟨P, hE8, h⟩ := h
    refine qM_callV mX7_stock [_, _] _ 7 [] dL_mealsHold_12 cm_L_181 ⟨(Nat.le_of_ble_eq_true rfl), (Nat.le_of_ble_eq_true rfl)⟩ rfl rfl shX0 (Nat.le_of_ble_eq_true rfl) ⟨rfl, rfl⟩ ⟨(Nat.le_of_ble_eq_true rfl), (Nat.le_of_ble_eq_true rfl)⟩ hE8 (fun z5 ρ6 μ7 hz => ?_)
    replace h := h _ _ _ hz
    refine qM_aload_n 0 dL_mealsHold_15 rfl rfl shX0 ?_
    refine qX_iconst dL_mealsHold_16 (i32_of rfl) ?_
    refine qX_iload_n 2 dL_mealsHold_17 rfl rfl ?_
    obtain ⟨P, hE12, h⟩ := h
    refine qM_callV mX7_stock [_, _] _ 7 [_] dL_mealsHold_18 cm_L_181 ⟨(Nat.le_of_ble_eq_true rfl), (Nat.le_of_ble_eq_true rfl)⟩ rfl rfl shX0 (Nat.le_of_ble_eq_true rfl) ⟨rfl, rfl⟩ ⟨(Nat.le_of_ble_eq_true rfl), (Nat.le_of_ble_eq_true rfl)⟩ hE12 (fun z9 ρ10 μ11 hz => ?_)
    replace h := h _ _ _ hz
    refine qR_iadd dL_mealsHold_21 h.1 ?_
    replace h := h.2
    refine qX_istore_n 3 dL_mealsHold_22 rfl (Nat.le_of_ble_eq_true rfl) rfl ?_
    refine qM_aload_n 0 dL_mealsHold_23 rfl rfl shX0 ?_
    refine qX_iconst dL_mealsHold_24 (i32_of rfl) ?_
    refine qX_iload_n 2 dL_mealsHold_25 rfl rfl ?_
    obtain ⟨P, hE16, h⟩ := h
    refine qM_callV mX7_finalStock [_, _] _ 7 [] dL_mealsHold_26 cm_L_184 ⟨(Nat.le_of_ble_eq_true rfl), (Nat.le_of_ble_eq_true rfl)⟩ rfl rfl shX0 (Nat.le_of_ble_eq_true rfl) ⟨rfl, rfl⟩ ⟨(Nat.le_of_ble_eq_true rfl), (Nat.le_of_ble_eq_true rfl)⟩ hE16 (fun z13 ρ14 μ15 hz => ?_)
    replace h := h _ _ _ hz
    refine qM_aload_n 0 dL_mealsHold_29 rfl rfl shX0 ?_
    refine qX_iconst dL_mealsHold_30 (i32_of rfl) ?_
    refine qX_iload_n 2 dL_mealsHold_31 rfl rfl ?_
    obtain ⟨P, hE20, h⟩ := h
    refine qM_callV mX7_finalStock [_, _] _ 7 [_] dL_mealsHold_32 cm_L_184 ⟨(Nat.le_of_ble_eq_true rfl), (Nat.le_of_ble_eq_true rfl)⟩ rfl rfl shX0 (Nat.le_of_ble_eq_true rfl) ⟨rfl, rfl⟩ ⟨(Nat.le_of_ble_eq_true rfl), (Nat.le_of_ble_eq_true rfl)⟩ hE20 (fun z17 ρ18 μ19 hz => ?_)
    replace h := h _ _ _ hz
    refine qR_iadd dL_mealsHold_35 h.1 ?_
    replace h := h.2
    refine qX_istore dL_mealsHold_36 (Nat.le_of_ble_eq_true rfl) rfl ?_
    refine qX_iconst dL_mealsHold_38 (i32_of rfl) ?_
    refine qX_istore dL_mealsHold_39 (Nat.le_of_ble_eq_true rfl) rfl ?_
    exact qX_mask [true, true, true, true, true, true, false, false] h
set_option maxRecDepth 20000 in
theorem w_L_mealsHold_41 {Post : Int → Rf → Mem → Prop} {ρ : Rf} {μ : Mem} {X : List Sh} {x1 : Int} {x2 : Int} {x3 : Int} {x4 : Int} {x5 : Int}
  (h : ((2 ≤ x5 → ((x3 = x4 → i32 (x2 + 1) ∧ qX mL_mealsHold (GX X) Post (GX X) (0, 0) 4 [some (qP 0), some (qI x1), some (qI (x2 + 1)), none, none, none, none, none] [] ρ μ) ∧ (x3 ≠ x4 → Post 0 ρ μ))) ∧ (x5 < 2 → qX mL_mealsHold (GX X) Post (GX X) (0, 0) 50 [some (qP 0), some (qI x1), some (qI x2), some (qI x3), some (qI x4), some (qI x5), some (qI 0), none] [] ρ μ))) : qX mL_mealsHold (GX X) Post (GX X) (0, 0) 41 [some (qP 0), some (qI x1), some (qI x2), some (qI x3), some (qI x4), some (qI x5), none, none] [] ρ μ := by
  refine qX_iload dL_mealsHold_41 rfl ?_
  refine qX_iconst dL_mealsHold_43 (i32_of rfl) ?_
  refine qX_icmp_ge 121 dL_mealsHold_44 rfl (fun hc => ?_) (fun hc => ?_)
  · replace h := h.1 hc
    refine qX_iload_n 3 dL_mealsHold_121 rfl rfl ?_
    refine qX_iload dL_mealsHold_122 rfl ?_
    refine qX_icmp_eq 129 dL_mealsHold_124 rfl (fun hc => ?_) (fun hc => ?_)
    · replace h := h.1 hc
      refine qR_iinc dL_mealsHold_129 rfl (Nat.le_of_ble_eq_true rfl) rfl h.1 ?_
      replace h := h.2
      refine qX_goto 4 dL_mealsHold_132 rfl ?_
      exact qX_mask [true, true, true, false, false, false, false, false] h
    · replace h := h.2 hc
      refine qX_iconst dL_mealsHold_127 (i32_of rfl) ?_
      exact qX_zreturn rfl dL_mealsHold_128 rfl ⟨(Nat.le_of_ble_eq_true rfl), (Nat.le_of_ble_eq_true rfl)⟩ (by decide) h
  · replace h := h.2 hc
    refine qX_iconst dL_mealsHold_47 (i32_of rfl) ?_
    refine qX_istore dL_mealsHold_48 (Nat.le_of_ble_eq_true rfl) rfl ?_
    exact qX_mask [true, true, true, true, true, true, true, false] h
set_option maxRecDepth 20000 in
theorem w_L_mealsHold_50 {Post : Int → Rf → Mem → Prop} {ρ : Rf} {μ : Mem} {X : List Sh} {x1 : Int} {x2 : Int} {x3 : Int} {x4 : Int} {x5 : Int} {x6 : Int}
  (h : ((2 ≤ x6 → i32 (x5 + 1) ∧ qX mL_mealsHold (GX X) Post (GX X) (0, 0) 41 [some (qP 0), some (qI x1), some (qI x2), some (qI x3), some (qI x4), some (qI (x5 + 1)), none, none] [] ρ μ) ∧ (x6 < 2 → ∃ P : Int → Rf → Mem → Prop, qE mX7_delivered (GX X) (GX X) [qP 0, qI x5, qI x6, qI x2] ρ μ P ∧ ∀ (z1 : Int) (ρ2 : Rf) (μ3 : Mem), P z1 ρ2 μ3 → ∃ P : Int → Rf → Mem → Prop, qE mX7_shortage (GX X) (GX X) [qP 0, qI x5, qI x6, qI x2] ρ2 μ3 P ∧ ∀ (z5 : Int) (ρ6 : Rf) (μ7 : Mem), P z5 ρ6 μ7 → ∃ P : Int → Rf → Mem → Prop, qE mX7_demand (GX X) (GX X) [qP 0, qI x5, qI x6, qI x2] ρ6 μ7 P ∧ ∀ (z9 : Int) (ρ10 : Rf) (μ11 : Mem), P z9 ρ10 μ11 → i32 (z9 - z1) ∧ ((z5 = max 0 (z9 - z1) → i32 (x4 + z1) ∧ i32 (x1 + z1) ∧ i32 (x6 + 1) ∧ qX mL_mealsHold (GX X) Post (GX X) (0, 0) 50 [some (qP 0), some (qI (x1 + z1)), some (qI x2), some (qI x3), some (qI (x4 + z1)), some (qI x5), some (qI (x6 + 1)), none] [] ρ10 μ11) ∧ (z5 ≠ max 0 (z9 - z1) → Post 0 ρ10 μ11))))) : qX mL_mealsHold (GX X) Post (GX X) (0, 0) 50 [some (qP 0), some (qI x1), some (qI x2), some (qI x3), some (qI x4), some (qI x5), some (qI x6), none] [] ρ μ := by
  refine qX_iload dL_mealsHold_50 rfl ?_
  refine qX_iconst dL_mealsHold_52 (i32_of rfl) ?_
  refine qX_icmp_ge 115 dL_mealsHold_53 rfl (fun hc => ?_) (fun hc => ?_)
  · replace h := h.1 hc
    refine qR_iinc dL_mealsHold_115 rfl (Nat.le_of_ble_eq_true rfl) rfl h.1 ?_
    replace h := h.2
    refine qX_goto 41 dL_mealsHold_118 rfl ?_
    exact qX_mask [true, true, true, true, true, true, false, false] h
  · replace h := h.2 hc
    refine qM_aload_n 0 dL_mealsHold_56 rfl rfl shX0 ?_
    refine qX_iload dL_mealsHold_57 rfl ?_
    refine qX_iload dL_mealsHold_59 rfl ?_
    refine qX_iload_n 2 dL_mealsHold_61 rfl rfl ?_
    obtain ⟨P, hE4, h⟩ := h
    refine qM_callV mX7_delivered [_, _, _] _ 7 [] dL_mealsHold_62 cm_L_197 ⟨(Nat.le_of_ble_eq_true rfl), (Nat.le_of_ble_eq_true rfl)⟩ rfl rfl shX0 (Nat.le_of_ble_eq_true rfl) ⟨rfl, rfl⟩ ⟨(Nat.le_of_ble_eq_true rfl), (Nat.le_of_ble_eq_true rfl)⟩ hE4 (fun z1 ρ2 μ3 hz => ?_)
    replace h := h _ _ _ hz
    refine qX_istore dL_mealsHold_65 (Nat.le_of_ble_eq_true rfl) rfl ?_
    refine qM_aload_n 0 dL_mealsHold_67 rfl rfl shX0 ?_
    refine qX_iload dL_mealsHold_68 rfl ?_
    refine qX_iload dL_mealsHold_70 rfl ?_
    refine qX_iload_n 2 dL_mealsHold_72 rfl rfl ?_
    obtain ⟨P, hE8, h⟩ := h
    refine qM_callV mX7_shortage [_, _, _] _ 7 [] dL_mealsHold_73 cm_L_199 ⟨(Nat.le_of_ble_eq_true rfl), (Nat.le_of_ble_eq_true rfl)⟩ rfl rfl shX0 (Nat.le_of_ble_eq_true rfl) ⟨rfl, rfl⟩ ⟨(Nat.le_of_ble_eq_true rfl), (Nat.le_of_ble_eq_true rfl)⟩ hE8 (fun z5 ρ6 μ7 hz => ?_)
    replace h := h _ _ _ hz
    refine qX_iconst dL_mealsHold_76 (i32_of rfl) ?_
    refine qM_aload_n 0 dL_mealsHold_77 rfl rfl shX0 ?_
    refine qX_iload dL_mealsHold_78 rfl ?_
    refine qX_iload dL_mealsHold_80 rfl ?_
    refine qX_iload_n 2 dL_mealsHold_82 rfl rfl ?_
    obtain ⟨P, hE12, h⟩ := h
    refine qM_callV mX7_demand [_, _, _] _ 7 [_, _] dL_mealsHold_83 cm_L_194 ⟨(Nat.le_of_ble_eq_true rfl), (Nat.le_of_ble_eq_true rfl)⟩ rfl rfl shX0 (Nat.le_of_ble_eq_true rfl) ⟨rfl, rfl⟩ ⟨(Nat.le_of_ble_eq_true rfl), (Nat.le_of_ble_eq_true rfl)⟩ hE12 (fun z9 ρ10 μ11 hz => ?_)
    replace h := h _ _ _ hz
    refine qX_iload dL_mealsHold_86 rfl ?_
    refine qR_isub dL_mealsHold_88 h.1 ?_
    replace h := h.2
    refine qX_max dL_mealsHold_89 kM_L_88 ⟨(Nat.le_of_ble_eq_true rfl), (Nat.le_of_ble_eq_true rfl)⟩ (Nat.le_of_ble_eq_true rfl) ⟨(Nat.le_of_ble_eq_true rfl), (Nat.le_of_ble_eq_true rfl)⟩ ?_
    refine qX_icmp_eq 97 dL_mealsHold_92 rfl (fun hc => ?_) (fun hc => ?_)
    · replace h := h.1 hc
      refine qX_iload dL_mealsHold_97 rfl ?_
      refine qX_iload dL_mealsHold_99 rfl ?_
      refine qR_iadd dL_mealsHold_101 h.1 ?_
      replace h := h.2
      refine qX_istore dL_mealsHold_102 (Nat.le_of_ble_eq_true rfl) rfl ?_
      refine qX_iload_n 1 dL_mealsHold_104 rfl rfl ?_
      refine qX_iload dL_mealsHold_105 rfl ?_
      refine qR_iadd dL_mealsHold_107 h.1 ?_
      replace h := h.2
      refine qX_istore_n 1 dL_mealsHold_108 rfl (Nat.le_of_ble_eq_true rfl) rfl ?_
      refine qR_iinc dL_mealsHold_109 rfl (Nat.le_of_ble_eq_true rfl) rfl h.1 ?_
      replace h := h.2
      refine qX_goto 50 dL_mealsHold_112 rfl ?_
      exact qX_mask [true, true, true, true, true, true, true, false] h
    · replace h := h.2 hc
      refine qX_iconst dL_mealsHold_95 (i32_of rfl) ?_
      exact qX_zreturn rfl dL_mealsHold_96 rfl ⟨(Nat.le_of_ble_eq_true rfl), (Nat.le_of_ble_eq_true rfl)⟩ (by decide) h
set_option maxRecDepth 20000 in
theorem e_L_jobsHold {Post : Int → Rf → Mem → Prop} {ρ : Rf} {μ : Mem} {X : List Sh} 
  (h : X.length < 1000 ∧ qX mL_jobsHold (GX (X ++ [(10, 3)])) Post (GX (X ++ [(10, 3)])) (1, 3) 11 [some (qP 0), some (qP (178 + X.length)), some (qI 0), some (qI 0), some (qI 0), none] [] ρ μ) : qE mL_jobsHold (GX (X ++ [(10, 3)])) (GX X) [qP 0] ρ μ Post := by
  refine qE_intro pl_L_jobsHold (Nat.le_of_ble_eq_true rfl) GX_le ?_
  refine qX_iconst dL_jobsHold_0 (i32_of rfl) ?_
  refine qM_newI 3 dL_jobsHold_1 rfl (by decide) ⟨(Nat.le_of_ble_eq_true rfl), (Nat.le_of_ble_eq_true rfl)⟩ h.1 ?_
  replace h := h.2
  refine qM_astore_n 1 dL_jobsHold_3 rfl (Nat.le_of_ble_eq_true rfl) rfl shXe ?_
  refine qX_iconst dL_jobsHold_4 (i32_of rfl) ?_
  refine qX_istore_n 2 dL_jobsHold_5 rfl (Nat.le_of_ble_eq_true rfl) rfl ?_
  refine qX_iconst dL_jobsHold_6 (i32_of rfl) ?_
  refine qX_istore_n 3 dL_jobsHold_7 rfl (Nat.le_of_ble_eq_true rfl) rfl ?_
  refine qX_iconst dL_jobsHold_8 (i32_of rfl) ?_
  refine qX_istore dL_jobsHold_9 (Nat.le_of_ble_eq_true rfl) rfl ?_
  exact qX_mask [true, true, true, true, true, false] h
set_option maxRecDepth 20000 in
theorem w_L_jobsHold_11 {Post : Int → Rf → Mem → Prop} {ρ : Rf} {μ : Mem} {X : List Sh} {x1 nx1 : Nat} (hx1 : (GX X).2[x1]? = some (10, nx1)) {x2 : Int} {x3 : Int} {x4 : Int}
  (h : ∃ P : Int → Rf → Mem → Prop, qE mX7_jobCount (GX X) (GX X) [qP 0] ρ μ P ∧ ∀ (z1 : Int) (ρ2 : Rf) (μ3 : Mem), P z1 ρ2 μ3 → ((z1 ≤ x4 → ∃ P : Int → Rf → Mem → Prop, qE mX7_deliveredTotal (GX X) (GX X) [qP 0] ρ2 μ3 P ∧ ∀ (z5 : Int) (ρ6 : Rf) (μ7 : Mem), P z5 ρ6 μ7 → ((x2 ≠ z5 → Post 0 ρ6 μ7) ∧ (x2 = z5 → ∃ P : Int → Rf → Mem → Prop, qE mX7_leftBehind (GX X) (GX X) [qP 0, qI 0] ρ6 μ7 P ∧ ∀ (z9 : Int) (ρ10 : Rf) (μ11 : Mem), P z9 ρ10 μ11 → ∃ P : Int → Rf → Mem → Prop, qE mX7_leftBehind (GX X) (GX X) [qP 0, qI 1] ρ10 μ11 P ∧ ∀ (z13 : Int) (ρ14 : Rf) (μ15 : Mem), P z13 ρ14 μ15 → i32 (z9 + z13) ∧ ∃ P : Int → Rf → Mem → Prop, qE mX7_leftBehind (GX X) (GX X) [qP 0, qI 2] ρ14 μ15 P ∧ ∀ (z17 : Int) (ρ18 : Rf) (μ19 : Mem), P z17 ρ18 μ19 → i32 ((z9 + z13) + z17) ∧ ((x3 ≠ (z9 + z13) + z17 → Post 0 ρ18 μ19) ∧ (x3 = (z9 + z13) + z17 → Post 1 ρ18 μ19))))) ∧ (x4 < z1 → ∃ P : Int → Rf → Mem → Prop, qE mX7_jobTrolley (GX X) (GX X) [qP 0, qI x4] ρ2 μ3 P ∧ ∀ (z21 : Int) (ρ22 : Rf) (μ23 : Mem), P z21 ρ22 μ23 → ∃ P : Int → Rf → Mem → Prop, qE mX7_startTime (GX X) (GX X) [qP 0, qI x4] ρ22 μ23 P ∧ ∀ (z25 : Int) (ρ26 : Rf) (μ27 : Mem), P z25 ρ26 μ27 → (0 ≤ z21 ∧ z21 < nx1) ∧ ((z25 ≠ μ27 x1 z21 → Post 0 ρ26 μ27) ∧ (z25 = μ27 x1 z21 → ∃ P : Int → Rf → Mem → Prop, qE mX7_finishTime (GX X) (GX X) [qP 0, qI x4] ρ26 μ27 P ∧ ∀ (z29 : Int) (ρ30 : Rf) (μ31 : Mem), P z29 ρ30 μ31 → (0 ≤ z21 ∧ z21 < nx1) ∧ ((z29 < μ31 x1 z21 → Post 0 ρ30 μ31) ∧ (μ31 x1 z21 ≤ z29 → ∃ P : Int → Rf → Mem → Prop, qE mX7_loaded (GX X) (GX X) [qP 0, qI x4] ρ30 μ31 P ∧ ∀ (z33 : Int) (ρ34 : Rf) (μ35 : Mem), P z33 ρ34 μ35 → ∃ P : Int → Rf → Mem → Prop, qE mX7_jobQuantity (GX X) (GX X) [qP 0, qI x4] ρ34 μ35 P ∧ ∀ (z37 : Int) (ρ38 : Rf) (μ39 : Mem), P z37 ρ38 μ39 → ((z37 < z33 → Post 0 ρ38 μ39) ∧ (z33 ≤ z37 → ∃ P : Int → Rf → Mem → Prop, qE mX7_unloaded (GX X) (GX X) [qP 0, qI x4] ρ38 μ39 P ∧ ∀ (z41 : Int) (ρ42 : Rf) (μ43 : Mem), P z41 ρ42 μ43 → ∃ P : Int → Rf → Mem → Prop, qE mX7_loaded (GX X) (GX X) [qP 0, qI x4] ρ42 μ43 P ∧ ∀ (z45 : Int) (ρ46 : Rf) (μ47 : Mem), P z45 ρ46 μ47 → ((z45 < z41 → Post 0 ρ46 μ47) ∧ (z41 ≤ z45 → ∃ P : Int → Rf → Mem → Prop, qE mX7_loaded (GX X) (GX X) [qP 0, qI x4] ρ46 μ47 P ∧ ∀ (z49 : Int) (ρ50 : Rf) (μ51 : Mem), P z49 ρ50 μ51 → ((z49 ≠ 0 → qX mL_jobsHold (GX X) Post (GX X) (1, 3) 108 [some (qP 0), some (qP x1), some (qI x2), some (qI x3), some (qI x4), some (qI z21)] [] ρ50 μ51) ∧ (z49 = 0 → ∃ P : Int → Rf → Mem → Prop, qE mX7_finishTime (GX X) (GX X) [qP 0, qI x4] ρ50 μ51 P ∧ ∀ (z53 : Int) (ρ54 : Rf) (μ55 : Mem), P z53 ρ54 μ55 → (0 ≤ z21 ∧ z21 < nx1) ∧ ((z53 = μ55 x1 z21 → qX mL_jobsHold (GX X) Post (GX X) (1, 3) 108 [some (qP 0), some (qP x1), some (qI x2), some (qI x3), some (qI x4), some (qI z21)] [] ρ54 μ55) ∧ (z53 ≠ μ55 x1 z21 → Post 0 ρ54 μ55))))))))))))))) : qX mL_jobsHold (GX X) Post (GX X) (1, 3) 11 [some (qP 0), some (qP x1), some (qI x2), some (qI x3), some (qI x4), none] [] ρ μ := by
  refine qX_iload dL_jobsHold_11 rfl ?_
  refine qM_aload_n 0 dL_jobsHold_13 rfl rfl shX0 ?_
  obtain ⟨P, hE4, h⟩ := h
  refine qM_callV mX7_jobCount [] _ 7 [_] dL_jobsHold_14 cm_L_136 ⟨(Nat.le_of_ble_eq_true rfl), (Nat.le_of_ble_eq_true rfl)⟩ rfl rfl shX0 (Nat.le_of_ble_eq_true rfl) ⟨rfl, rfl⟩ ⟨(Nat.le_of_ble_eq_true rfl), (Nat.le_of_ble_eq_true rfl)⟩ hE4 (fun z1 ρ2 μ3 hz => ?_)
  replace h := h _ _ _ hz
  refine qX_icmp_ge 204 dL_jobsHold_17 rfl (fun hc => ?_) (fun hc => ?_)
  · replace h := h.1 hc
    refine qX_iload_n 2 dL_jobsHold_204 rfl rfl ?_
    refine qM_aload_n 0 dL_jobsHold_205 rfl rfl shX0 ?_
    obtain ⟨P, hE8, h⟩ := h
    refine qM_callV mX7_deliveredTotal [] _ 7 [_] dL_jobsHold_206 cm_L_140 ⟨(Nat.le_of_ble_eq_true rfl), (Nat.le_of_ble_eq_true rfl)⟩ rfl rfl shX0 (Nat.le_of_ble_eq_true rfl) ⟨rfl, rfl⟩ ⟨(Nat.le_of_ble_eq_true rfl), (Nat.le_of_ble_eq_true rfl)⟩ hE8 (fun z5 ρ6 μ7 hz => ?_)
    replace h := h _ _ _ hz
    refine qX_icmp_ne 237 dL_jobsHold_209 rfl (fun hc => ?_) (fun hc => ?_)
    · replace h := h.1 hc
      refine qX_iconst dL_jobsHold_237 (i32_of rfl) ?_
      exact qX_zreturn rfl dL_jobsHold_238 rfl ⟨(Nat.le_of_ble_eq_true rfl), (Nat.le_of_ble_eq_true rfl)⟩ (by decide) h
    · replace h := h.2 hc
      refine qX_iload_n 3 dL_jobsHold_212 rfl rfl ?_
      refine qM_aload_n 0 dL_jobsHold_213 rfl rfl shX0 ?_
      refine qX_iconst dL_jobsHold_214 (i32_of rfl) ?_
      obtain ⟨P, hE12, h⟩ := h
      refine qM_callV mX7_leftBehind [_] _ 7 [_] dL_jobsHold_215 cm_L_175 ⟨(Nat.le_of_ble_eq_true rfl), (Nat.le_of_ble_eq_true rfl)⟩ rfl rfl shX0 (Nat.le_of_ble_eq_true rfl) ⟨rfl, rfl⟩ ⟨(Nat.le_of_ble_eq_true rfl), (Nat.le_of_ble_eq_true rfl)⟩ hE12 (fun z9 ρ10 μ11 hz => ?_)
      replace h := h _ _ _ hz
      refine qM_aload_n 0 dL_jobsHold_218 rfl rfl shX0 ?_
      refine qX_iconst dL_jobsHold_219 (i32_of rfl) ?_
      obtain ⟨P, hE16, h⟩ := h
      refine qM_callV mX7_leftBehind [_] _ 7 [_, _] dL_jobsHold_220 cm_L_175 ⟨(Nat.le_of_ble_eq_true rfl), (Nat.le_of_ble_eq_true rfl)⟩ rfl rfl shX0 (Nat.le_of_ble_eq_true rfl) ⟨rfl, rfl⟩ ⟨(Nat.le_of_ble_eq_true rfl), (Nat.le_of_ble_eq_true rfl)⟩ hE16 (fun z13 ρ14 μ15 hz => ?_)
      replace h := h _ _ _ hz
      refine qR_iadd dL_jobsHold_223 h.1 ?_
      replace h := h.2
      refine qM_aload_n 0 dL_jobsHold_224 rfl rfl shX0 ?_
      refine qX_iconst dL_jobsHold_225 (i32_of rfl) ?_
      obtain ⟨P, hE20, h⟩ := h
      refine qM_callV mX7_leftBehind [_] _ 7 [_, _] dL_jobsHold_226 cm_L_175 ⟨(Nat.le_of_ble_eq_true rfl), (Nat.le_of_ble_eq_true rfl)⟩ rfl rfl shX0 (Nat.le_of_ble_eq_true rfl) ⟨rfl, rfl⟩ ⟨(Nat.le_of_ble_eq_true rfl), (Nat.le_of_ble_eq_true rfl)⟩ hE20 (fun z17 ρ18 μ19 hz => ?_)
      replace h := h _ _ _ hz
      refine qR_iadd dL_jobsHold_229 h.1 ?_
      replace h := h.2
      refine qX_icmp_ne 237 dL_jobsHold_230 rfl (fun hc => ?_) (fun hc => ?_)
      · replace h := h.1 hc
        refine qX_iconst dL_jobsHold_237 (i32_of rfl) ?_
        exact qX_zreturn rfl dL_jobsHold_238 rfl ⟨(Nat.le_of_ble_eq_true rfl), (Nat.le_of_ble_eq_true rfl)⟩ (by decide) h
      · replace h := h.2 hc
        refine qX_iconst dL_jobsHold_233 (i32_of rfl) ?_
        refine qX_goto 238 dL_jobsHold_234 rfl ?_
        exact qX_zreturn rfl dL_jobsHold_238 rfl ⟨(Nat.le_of_ble_eq_true rfl), (Nat.le_of_ble_eq_true rfl)⟩ (by decide) h
  · replace h := h.2 hc
    refine qM_aload_n 0 dL_jobsHold_20 rfl rfl shX0 ?_
    refine qX_iload dL_jobsHold_21 rfl ?_
    obtain ⟨P, hE24, h⟩ := h
    refine qM_callV mX7_jobTrolley [_] _ 7 [] dL_jobsHold_23 cm_L_147 ⟨(Nat.le_of_ble_eq_true rfl), (Nat.le_of_ble_eq_true rfl)⟩ rfl rfl shX0 (Nat.le_of_ble_eq_true rfl) ⟨rfl, rfl⟩ ⟨(Nat.le_of_ble_eq_true rfl), (Nat.le_of_ble_eq_true rfl)⟩ hE24 (fun z21 ρ22 μ23 hz => ?_)
    replace h := h _ _ _ hz
    refine qX_istore dL_jobsHold_26 (Nat.le_of_ble_eq_true rfl) rfl ?_
    refine qM_aload_n 0 dL_jobsHold_28 rfl rfl shX0 ?_
    refine qX_iload dL_jobsHold_29 rfl ?_
    obtain ⟨P, hE28, h⟩ := h
    refine qM_callV mX7_startTime [_] _ 7 [] dL_jobsHold_31 cm_L_153 ⟨(Nat.le_of_ble_eq_true rfl), (Nat.le_of_ble_eq_true rfl)⟩ rfl rfl shX0 (Nat.le_of_ble_eq_true rfl) ⟨rfl, rfl⟩ ⟨(Nat.le_of_ble_eq_true rfl), (Nat.le_of_ble_eq_true rfl)⟩ hE28 (fun z25 ρ26 μ27 hz => ?_)
    replace h := h _ _ _ hz
    refine qM_aload_n 1 dL_jobsHold_34 rfl rfl hx1 ?_
    refine qX_iload dL_jobsHold_35 rfl ?_
    refine qX_iald dL_jobsHold_37 hx1 h.1 ?_
    replace h := h.2
    refine qX_icmp_ne 106 dL_jobsHold_38 rfl (fun hc => ?_) (fun hc => ?_)
    · replace h := h.1 hc
      refine qX_iconst dL_jobsHold_106 (i32_of rfl) ?_
      exact qX_zreturn rfl dL_jobsHold_107 rfl ⟨(Nat.le_of_ble_eq_true rfl), (Nat.le_of_ble_eq_true rfl)⟩ (by decide) h
    · replace h := h.2 hc
      refine qM_aload_n 0 dL_jobsHold_41 rfl rfl shX0 ?_
      refine qX_iload dL_jobsHold_42 rfl ?_
      obtain ⟨P, hE32, h⟩ := h
      refine qM_callV mX7_finishTime [_] _ 7 [] dL_jobsHold_44 cm_L_162 ⟨(Nat.le_of_ble_eq_true rfl), (Nat.le_of_ble_eq_true rfl)⟩ rfl rfl shX0 (Nat.le_of_ble_eq_true rfl) ⟨rfl, rfl⟩ ⟨(Nat.le_of_ble_eq_true rfl), (Nat.le_of_ble_eq_true rfl)⟩ hE32 (fun z29 ρ30 μ31 hz => ?_)
      replace h := h _ _ _ hz
      refine qM_aload_n 1 dL_jobsHold_47 rfl rfl hx1 ?_
      refine qX_iload dL_jobsHold_48 rfl ?_
      refine qX_iald dL_jobsHold_50 hx1 h.1 ?_
      replace h := h.2
      refine qX_icmp_lt 106 dL_jobsHold_51 rfl (fun hc => ?_) (fun hc => ?_)
      · replace h := h.1 hc
        refine qX_iconst dL_jobsHold_106 (i32_of rfl) ?_
        exact qX_zreturn rfl dL_jobsHold_107 rfl ⟨(Nat.le_of_ble_eq_true rfl), (Nat.le_of_ble_eq_true rfl)⟩ (by decide) h
      · replace h := h.2 hc
        refine qM_aload_n 0 dL_jobsHold_54 rfl rfl shX0 ?_
        refine qX_iload dL_jobsHold_55 rfl ?_
        obtain ⟨P, hE36, h⟩ := h
        refine qM_callV mX7_loaded [_] _ 7 [] dL_jobsHold_57 cm_L_156 ⟨(Nat.le_of_ble_eq_true rfl), (Nat.le_of_ble_eq_true rfl)⟩ rfl rfl shX0 (Nat.le_of_ble_eq_true rfl) ⟨rfl, rfl⟩ ⟨(Nat.le_of_ble_eq_true rfl), (Nat.le_of_ble_eq_true rfl)⟩ hE36 (fun z33 ρ34 μ35 hz => ?_)
        replace h := h _ _ _ hz
        refine qM_aload_n 0 dL_jobsHold_60 rfl rfl shX0 ?_
        refine qX_iload dL_jobsHold_61 rfl ?_
        obtain ⟨P, hE40, h⟩ := h
        refine qM_callV mX7_jobQuantity [_] _ 7 [_] dL_jobsHold_63 cm_L_150 ⟨(Nat.le_of_ble_eq_true rfl), (Nat.le_of_ble_eq_true rfl)⟩ rfl rfl shX0 (Nat.le_of_ble_eq_true rfl) ⟨rfl, rfl⟩ ⟨(Nat.le_of_ble_eq_true rfl), (Nat.le_of_ble_eq_true rfl)⟩ hE40 (fun z37 ρ38 μ39 hz => ?_)
        replace h := h _ _ _ hz
        refine qX_icmp_gt 106 dL_jobsHold_66 rfl (fun hc => ?_) (fun hc => ?_)
        · replace h := h.1 hc
          refine qX_iconst dL_jobsHold_106 (i32_of rfl) ?_
          exact qX_zreturn rfl dL_jobsHold_107 rfl ⟨(Nat.le_of_ble_eq_true rfl), (Nat.le_of_ble_eq_true rfl)⟩ (by decide) h
        · replace h := h.2 hc
          refine qM_aload_n 0 dL_jobsHold_69 rfl rfl shX0 ?_
          refine qX_iload dL_jobsHold_70 rfl ?_
          obtain ⟨P, hE44, h⟩ := h
          refine qM_callV mX7_unloaded [_] _ 7 [] dL_jobsHold_72 cm_L_159 ⟨(Nat.le_of_ble_eq_true rfl), (Nat.le_of_ble_eq_true rfl)⟩ rfl rfl shX0 (Nat.le_of_ble_eq_true rfl) ⟨rfl, rfl⟩ ⟨(Nat.le_of_ble_eq_true rfl), (Nat.le_of_ble_eq_true rfl)⟩ hE44 (fun z41 ρ42 μ43 hz => ?_)
          replace h := h _ _ _ hz
          refine qM_aload_n 0 dL_jobsHold_75 rfl rfl shX0 ?_
          refine qX_iload dL_jobsHold_76 rfl ?_
          obtain ⟨P, hE48, h⟩ := h
          refine qM_callV mX7_loaded [_] _ 7 [_] dL_jobsHold_78 cm_L_156 ⟨(Nat.le_of_ble_eq_true rfl), (Nat.le_of_ble_eq_true rfl)⟩ rfl rfl shX0 (Nat.le_of_ble_eq_true rfl) ⟨rfl, rfl⟩ ⟨(Nat.le_of_ble_eq_true rfl), (Nat.le_of_ble_eq_true rfl)⟩ hE48 (fun z45 ρ46 μ47 hz => ?_)
          replace h := h _ _ _ hz
          refine qX_icmp_gt 106 dL_jobsHold_81 rfl (fun hc => ?_) (fun hc => ?_)
          · replace h := h.1 hc
            refine qX_iconst dL_jobsHold_106 (i32_of rfl) ?_
            exact qX_zreturn rfl dL_jobsHold_107 rfl ⟨(Nat.le_of_ble_eq_true rfl), (Nat.le_of_ble_eq_true rfl)⟩ (by decide) h
          · replace h := h.2 hc
            refine qM_aload_n 0 dL_jobsHold_84 rfl rfl shX0 ?_
            refine qX_iload dL_jobsHold_85 rfl ?_
            obtain ⟨P, hE52, h⟩ := h
            refine qM_callV mX7_loaded [_] _ 7 [] dL_jobsHold_87 cm_L_156 ⟨(Nat.le_of_ble_eq_true rfl), (Nat.le_of_ble_eq_true rfl)⟩ rfl rfl shX0 (Nat.le_of_ble_eq_true rfl) ⟨rfl, rfl⟩ ⟨(Nat.le_of_ble_eq_true rfl), (Nat.le_of_ble_eq_true rfl)⟩ hE52 (fun z49 ρ50 μ51 hz => ?_)
            replace h := h _ _ _ hz
            refine qX_if_ne 108 dL_jobsHold_90 rfl (fun hc => ?_) (fun hc => ?_)
            · replace h := h.1 hc
              exact qX_mask [true, true, true, true, true, true] h
            · replace h := h.2 hc
              refine qM_aload_n 0 dL_jobsHold_93 rfl rfl shX0 ?_
              refine qX_iload dL_jobsHold_94 rfl ?_
              obtain ⟨P, hE56, h⟩ := h
              refine qM_callV mX7_finishTime [_] _ 7 [] dL_jobsHold_96 cm_L_162 ⟨(Nat.le_of_ble_eq_true rfl), (Nat.le_of_ble_eq_true rfl)⟩ rfl rfl shX0 (Nat.le_of_ble_eq_true rfl) ⟨rfl, rfl⟩ ⟨(Nat.le_of_ble_eq_true rfl), (Nat.le_of_ble_eq_true rfl)⟩ hE56 (fun z53 ρ54 μ55 hz => ?_)
              replace h := h _ _ _ hz
              refine qM_aload_n 1 dL_jobsHold_99 rfl rfl hx1 ?_
              refine qX_iload dL_jobsHold_100 rfl ?_
              refine qX_iald dL_jobsHold_102 hx1 h.1 ?_
              replace h := h.2
              refine qX_icmp_eq 108 dL_jobsHold_103 rfl (fun hc => ?_) (fun hc => ?_)
              · replace h := h.1 hc
                exact qX_mask [true, true, true, true, true, true] h
              · replace h := h.2 hc
                refine qX_iconst dL_jobsHold_106 (i32_of rfl) ?_
                exact qX_zreturn rfl dL_jobsHold_107 rfl ⟨(Nat.le_of_ble_eq_true rfl), (Nat.le_of_ble_eq_true rfl)⟩ (by decide) h
set_option maxRecDepth 20000 in
theorem w_L_jobsHold_108 {Post : Int → Rf → Mem → Prop} {ρ : Rf} {μ : Mem} {X : List Sh} {x1 nx1 : Nat} (hx1 : (GX X).2[x1]? = some (10, nx1)) {x2 : Int} {x3 : Int} {x4 : Int} {x5 : Int}
  (h : ∃ P : Int → Rf → Mem → Prop, qE mX7_unloaded (GX X) (GX X) [qP 0, qI x4] ρ μ P ∧ ∀ (z1 : Int) (ρ2 : Rf) (μ3 : Mem), P z1 ρ2 μ3 → ((z1 ≤ 0 → qX mL_jobsHold (GX X) Post (GX X) (1, 3) 163 [some (qP 0), some (qP x1), some (qI x2), some (qI x3), some (qI x4), some (qI x5)] [] ρ2 μ3) ∧ (0 < z1 → ∃ P : Int → Rf → Mem → Prop, qE mX7_unloadTime (GX X) (GX X) [qP 0, qI x4] ρ2 μ3 P ∧ ∀ (z5 : Int) (ρ6 : Rf) (μ7 : Mem), P z5 ρ6 μ7 → ∃ P : Int → Rf → Mem → Prop, qE mX7_startTime (GX X) (GX X) [qP 0, qI x4] ρ6 μ7 P ∧ ∀ (z9 : Int) (ρ10 : Rf) (μ11 : Mem), P z9 ρ10 μ11 → ∃ P : Int → Rf → Mem → Prop, qE mX7_loaded (GX X) (GX X) [qP 0, qI x4] ρ10 μ11 P ∧ ∀ (z13 : Int) (ρ14 : Rf) (μ15 : Mem), P z13 ρ14 μ15 → i32 (z9 + z13) ∧ ((z5 < z9 + z13 → Post 0 ρ14 μ15) ∧ (z9 + z13 ≤ z5 → ∃ P : Int → Rf → Mem → Prop, qE mX7_finishTime (GX X) (GX X) [qP 0, qI x4] ρ14 μ15 P ∧ ∀ (z17 : Int) (ρ18 : Rf) (μ19 : Mem), P z17 ρ18 μ19 → ∃ P : Int → Rf → Mem → Prop, qE mX7_unloadTime (GX X) (GX X) [qP 0, qI x4] ρ18 μ19 P ∧ ∀ (z21 : Int) (ρ22 : Rf) (μ23 : Mem), P z21 ρ22 μ23 → ∃ P : Int → Rf → Mem → Prop, qE mX7_unloaded (GX X) (GX X) [qP 0, qI x4] ρ22 μ23 P ∧ ∀ (z25 : Int) (ρ26 : Rf) (μ27 : Mem), P z25 ρ26 μ27 → i32 (z21 + z25) ∧ ((z21 + z25 ≤ z17 → qX mL_jobsHold (GX X) Post (GX X) (1, 3) 163 [some (qP 0), some (qP x1), some (qI x2), some (qI x3), some (qI x4), some (qI x5)] [] ρ26 μ27) ∧ (z17 < z21 + z25 → Post 0 ρ26 μ27))))))) : qX mL_jobsHold (GX X) Post (GX X) (1, 3) 108 [some (qP 0), some (qP x1), some (qI x2), some (qI x3), some (qI x4), some (qI x5)] [] ρ μ := by
  refine qM_aload_n 0 dL_jobsHold_108 rfl rfl shX0 ?_
  refine qX_iload dL_jobsHold_109 rfl ?_
  obtain ⟨P, hE4, h⟩ := h
  refine qM_callV mX7_unloaded [_] _ 7 [] dL_jobsHold_111 cm_L_159 ⟨(Nat.le_of_ble_eq_true rfl), (Nat.le_of_ble_eq_true rfl)⟩ rfl rfl shX0 (Nat.le_of_ble_eq_true rfl) ⟨rfl, rfl⟩ ⟨(Nat.le_of_ble_eq_true rfl), (Nat.le_of_ble_eq_true rfl)⟩ hE4 (fun z1 ρ2 μ3 hz => ?_)
  replace h := h _ _ _ hz
  refine qX_if_le 163 dL_jobsHold_114 rfl (fun hc => ?_) (fun hc => ?_)
  · replace h := h.1 hc
    exact qX_mask [true, true, true, true, true, true] h
  · replace h := h.2 hc
    refine qM_aload_n 0 dL_jobsHold_117 rfl rfl shX0 ?_
    refine qX_iload dL_jobsHold_118 rfl ?_
    obtain ⟨P, hE8, h⟩ := h
    refine qM_callV mX7_unloadTime [_] _ 7 [] dL_jobsHold_120 cm_L_165 ⟨(Nat.le_of_ble_eq_true rfl), (Nat.le_of_ble_eq_true rfl)⟩ rfl rfl shX0 (Nat.le_of_ble_eq_true rfl) ⟨rfl, rfl⟩ ⟨(Nat.le_of_ble_eq_true rfl), (Nat.le_of_ble_eq_true rfl)⟩ hE8 (fun z5 ρ6 μ7 hz => ?_)
    replace h := h _ _ _ hz
    refine qM_aload_n 0 dL_jobsHold_123 rfl rfl shX0 ?_
    refine qX_iload dL_jobsHold_124 rfl ?_
    obtain ⟨P, hE12, h⟩ := h
    refine qM_callV mX7_startTime [_] _ 7 [_] dL_jobsHold_126 cm_L_153 ⟨(Nat.le_of_ble_eq_true rfl), (Nat.le_of_ble_eq_true rfl)⟩ rfl rfl shX0 (Nat.le_of_ble_eq_true rfl) ⟨rfl, rfl⟩ ⟨(Nat.le_of_ble_eq_true rfl), (Nat.le_of_ble_eq_true rfl)⟩ hE12 (fun z9 ρ10 μ11 hz => ?_)
    replace h := h _ _ _ hz
    refine qM_aload_n 0 dL_jobsHold_129 rfl rfl shX0 ?_
    refine qX_iload dL_jobsHold_130 rfl ?_
    obtain ⟨P, hE16, h⟩ := h
    refine qM_callV mX7_loaded [_] _ 7 [_, _] dL_jobsHold_132 cm_L_156 ⟨(Nat.le_of_ble_eq_true rfl), (Nat.le_of_ble_eq_true rfl)⟩ rfl rfl shX0 (Nat.le_of_ble_eq_true rfl) ⟨rfl, rfl⟩ ⟨(Nat.le_of_ble_eq_true rfl), (Nat.le_of_ble_eq_true rfl)⟩ hE16 (fun z13 ρ14 μ15 hz => ?_)
    replace h := h _ _ _ hz
    refine qR_iadd dL_jobsHold_135 h.1 ?_
    replace h := h.2
    refine qX_icmp_lt 161 dL_jobsHold_136 rfl (fun hc => ?_) (fun hc => ?_)
    · replace h := h.1 hc
      refine qX_iconst dL_jobsHold_161 (i32_of rfl) ?_
      exact qX_zreturn rfl dL_jobsHold_162 rfl ⟨(Nat.le_of_ble_eq_true rfl), (Nat.le_of_ble_eq_true rfl)⟩ (by decide) h
    · replace h := h.2 hc
      refine qM_aload_n 0 dL_jobsHold_139 rfl rfl shX0 ?_
      refine qX_iload dL_jobsHold_140 rfl ?_
      obtain ⟨P, hE20, h⟩ := h
      refine qM_callV mX7_finishTime [_] _ 7 [] dL_jobsHold_142 cm_L_162 ⟨(Nat.le_of_ble_eq_true rfl), (Nat.le_of_ble_eq_true rfl)⟩ rfl rfl shX0 (Nat.le_of_ble_eq_true rfl) ⟨rfl, rfl⟩ ⟨(Nat.le_of_ble_eq_true rfl), (Nat.le_of_ble_eq_true rfl)⟩ hE20 (fun z17 ρ18 μ19 hz => ?_)
      replace h := h _ _ _ hz
      refine qM_aload_n 0 dL_jobsHold_145 rfl rfl shX0 ?_
      refine qX_iload dL_jobsHold_146 rfl ?_
      obtain ⟨P, hE24, h⟩ := h
      refine qM_callV mX7_unloadTime [_] _ 7 [_] dL_jobsHold_148 cm_L_165 ⟨(Nat.le_of_ble_eq_true rfl), (Nat.le_of_ble_eq_true rfl)⟩ rfl rfl shX0 (Nat.le_of_ble_eq_true rfl) ⟨rfl, rfl⟩ ⟨(Nat.le_of_ble_eq_true rfl), (Nat.le_of_ble_eq_true rfl)⟩ hE24 (fun z21 ρ22 μ23 hz => ?_)
      replace h := h _ _ _ hz
      refine qM_aload_n 0 dL_jobsHold_151 rfl rfl shX0 ?_
      refine qX_iload dL_jobsHold_152 rfl ?_
      obtain ⟨P, hE28, h⟩ := h
      refine qM_callV mX7_unloaded [_] _ 7 [_, _] dL_jobsHold_154 cm_L_159 ⟨(Nat.le_of_ble_eq_true rfl), (Nat.le_of_ble_eq_true rfl)⟩ rfl rfl shX0 (Nat.le_of_ble_eq_true rfl) ⟨rfl, rfl⟩ ⟨(Nat.le_of_ble_eq_true rfl), (Nat.le_of_ble_eq_true rfl)⟩ hE28 (fun z25 ρ26 μ27 hz => ?_)
      replace h := h _ _ _ hz
      refine qR_iadd dL_jobsHold_157 h.1 ?_
      replace h := h.2
      refine qX_icmp_ge 163 dL_jobsHold_158 rfl (fun hc => ?_) (fun hc => ?_)
      · replace h := h.1 hc
        exact qX_mask [true, true, true, true, true, true] h
      · replace h := h.2 hc
        refine qX_iconst dL_jobsHold_161 (i32_of rfl) ?_
        exact qX_zreturn rfl dL_jobsHold_162 rfl ⟨(Nat.le_of_ble_eq_true rfl), (Nat.le_of_ble_eq_true rfl)⟩ (by decide) h
set_option maxRecDepth 20000 in
theorem w_L_jobsHold_163 {Post : Int → Rf → Mem → Prop} {ρ : Rf} {μ : Mem} {X : List Sh} {x1 nx1 : Nat} (hx1 : (GX X).2[x1]? = some (10, nx1)) {x2 : Int} {x3 : Int} {x4 : Int} {x5 : Int}
  (h : ∃ P : Int → Rf → Mem → Prop, qE mX7_finishTime (GX X) (GX X) [qP 0, qI x4] ρ μ P ∧ ∀ (z1 : Int) (ρ2 : Rf) (μ3 : Mem), P z1 ρ2 μ3 → (0 ≤ x5 ∧ x5 < nx1) ∧ ∀ μ5, μ5 = up2 μ3 x1 x5 z1 → ∃ P : Int → Rf → Mem → Prop, qE mX7_unloaded (GX X) (GX X) [qP 0, qI x4] ρ2 μ5 P ∧ ∀ (z6 : Int) (ρ7 : Rf) (μ8 : Mem), P z6 ρ7 μ8 → i32 (x2 + z6) ∧ ∃ P : Int → Rf → Mem → Prop, qE mX7_loaded (GX X) (GX X) [qP 0, qI x4] ρ7 μ8 P ∧ ∀ (z10 : Int) (ρ11 : Rf) (μ12 : Mem), P z10 ρ11 μ12 → ∃ P : Int → Rf → Mem → Prop, qE mX7_unloaded (GX X) (GX X) [qP 0, qI x4] ρ11 μ12 P ∧ ∀ (z14 : Int) (ρ15 : Rf) (μ16 : Mem), P z14 ρ15 μ16 → i32 (z10 - z14) ∧ i32 (x3 + (z10 - z14)) ∧ i32 (x4 + 1) ∧ qX mL_jobsHold (GX X) Post (GX X) (1, 3) 11 [some (qP 0), some (qP x1), some (qI (x2 + z6)), some (qI (x3 + (z10 - z14))), some (qI (x4 + 1)), none] [] ρ15 μ16) : qX mL_jobsHold (GX X) Post (GX X) (1, 3) 163 [some (qP 0), some (qP x1), some (qI x2), some (qI x3), some (qI x4), some (qI x5)] [] ρ μ := by
  refine qM_aload_n 1 dL_jobsHold_163 rfl rfl hx1 ?_
  refine qX_iload dL_jobsHold_164 rfl ?_
  refine qM_aload_n 0 dL_jobsHold_166 rfl rfl shX0 ?_
  refine qX_iload dL_jobsHold_167 rfl ?_
  obtain ⟨P, hE4, h⟩ := h
  refine qM_callV mX7_finishTime [_] _ 7 [_, _] dL_jobsHold_169 cm_L_162 ⟨(Nat.le_of_ble_eq_true rfl), (Nat.le_of_ble_eq_true rfl)⟩ rfl rfl shX0 (Nat.le_of_ble_eq_true rfl) ⟨rfl, rfl⟩ ⟨(Nat.le_of_ble_eq_true rfl), (Nat.le_of_ble_eq_true rfl)⟩ hE4 (fun z1 ρ2 μ3 hz => ?_)
  replace h := h _ _ _ hz
  refine qX_iast dL_jobsHold_172 hx1 h.1 ?_
  replace h := h.2
  replace h := h _ rfl
  refine qX_iload_n 2 dL_jobsHold_173 rfl rfl ?_
  refine qM_aload_n 0 dL_jobsHold_174 rfl rfl shX0 ?_
  refine qX_iload dL_jobsHold_175 rfl ?_
  obtain ⟨P, hE9, h⟩ := h
  refine qM_callV mX7_unloaded [_] _ 7 [_] dL_jobsHold_177 cm_L_159 ⟨(Nat.le_of_ble_eq_true rfl), (Nat.le_of_ble_eq_true rfl)⟩ rfl rfl shX0 (Nat.le_of_ble_eq_true rfl) ⟨rfl, rfl⟩ ⟨(Nat.le_of_ble_eq_true rfl), (Nat.le_of_ble_eq_true rfl)⟩ hE9 (fun z6 ρ7 μ8 hz => ?_)
  replace h := h _ _ _ hz
  refine qR_iadd dL_jobsHold_180 h.1 ?_
  replace h := h.2
  refine qX_istore_n 2 dL_jobsHold_181 rfl (Nat.le_of_ble_eq_true rfl) rfl ?_
  refine qX_iload_n 3 dL_jobsHold_182 rfl rfl ?_
  refine qM_aload_n 0 dL_jobsHold_183 rfl rfl shX0 ?_
  refine qX_iload dL_jobsHold_184 rfl ?_
  obtain ⟨P, hE13, h⟩ := h
  refine qM_callV mX7_loaded [_] _ 7 [_] dL_jobsHold_186 cm_L_156 ⟨(Nat.le_of_ble_eq_true rfl), (Nat.le_of_ble_eq_true rfl)⟩ rfl rfl shX0 (Nat.le_of_ble_eq_true rfl) ⟨rfl, rfl⟩ ⟨(Nat.le_of_ble_eq_true rfl), (Nat.le_of_ble_eq_true rfl)⟩ hE13 (fun z10 ρ11 μ12 hz => ?_)
  replace h := h _ _ _ hz
  refine qM_aload_n 0 dL_jobsHold_189 rfl rfl shX0 ?_
  refine qX_iload dL_jobsHold_190 rfl ?_
  obtain ⟨P, hE17, h⟩ := h
  refine qM_callV mX7_unloaded [_] _ 7 [_, _] dL_jobsHold_192 cm_L_159 ⟨(Nat.le_of_ble_eq_true rfl), (Nat.le_of_ble_eq_true rfl)⟩ rfl rfl shX0 (Nat.le_of_ble_eq_true rfl) ⟨rfl, rfl⟩ ⟨(Nat.le_of_ble_eq_true rfl), (Nat.le_of_ble_eq_true rfl)⟩ hE17 (fun z14 ρ15 μ16 hz => ?_)
  replace h := h _ _ _ hz
  refine qR_isub dL_jobsHold_195 h.1 ?_
  replace h := h.2
  refine qR_iadd dL_jobsHold_196 h.1 ?_
  replace h := h.2
  refine qX_istore_n 3 dL_jobsHold_197 rfl (Nat.le_of_ble_eq_true rfl) rfl ?_
  refine qR_iinc dL_jobsHold_198 rfl (Nat.le_of_ble_eq_true rfl) rfl h.1 ?_
  replace h := h.2
  refine qX_goto 11 dL_jobsHold_201 rfl ?_
  exact qX_mask [true, true, true, true, true, false] h
set_option maxRecDepth 20000 in
theorem e_L_sharesHold {Post : Int → Rf → Mem → Prop} {ρ : Rf} {μ : Mem} {X : List Sh} 
  (h : qX mL_sharesHold (GX X) Post (GX X) (0, 0) 2 [some (qP 0), some (qI 0), none, none, none, none, none, none, none, none] [] ρ μ) : qE mL_sharesHold (GX X) (GX X) [qP 0] ρ μ Post := by
  refine qE_intro pl_L_sharesHold (Nat.le_of_ble_eq_true rfl) (Nat.le_refl _) ?_
  refine qX_iconst dL_sharesHold_0 (i32_of rfl) ?_
  refine qX_istore_n 1 dL_sharesHold_1 rfl (Nat.le_of_ble_eq_true rfl) rfl ?_
  exact qX_mask [true, true, false, false, false, false, false, false, false, false] h
set_option maxRecDepth 20000 in
theorem w_L_sharesHold_2 {Post : Int → Rf → Mem → Prop} {ρ : Rf} {μ : Mem} {X : List Sh} {x1 : Int}
  (h : ((2 ≤ x1 → Post 1 ρ μ) ∧ (x1 < 2 → qX mL_sharesHold (GX X) Post (GX X) (0, 0) 9 [some (qP 0), some (qI x1), some (qI 0), none, none, none, none, none, none, none] [] ρ μ))) : qX mL_sharesHold (GX X) Post (GX X) (0, 0) 2 [some (qP 0), some (qI x1), none, none, none, none, none, none, none, none] [] ρ μ := by
  refine qX_iload_n 1 dL_sharesHold_2 rfl rfl ?_
  refine qX_iconst dL_sharesHold_3 (i32_of rfl) ?_
  refine qX_icmp_ge 227 dL_sharesHold_4 rfl (fun hc => ?_) (fun hc => ?_)
  · replace h := h.1 hc
    refine qX_iconst dL_sharesHold_227 (i32_of rfl) ?_
    exact qX_zreturn rfl dL_sharesHold_228 rfl ⟨(Nat.le_of_ble_eq_true rfl), (Nat.le_of_ble_eq_true rfl)⟩ (by decide) h
  · replace h := h.2 hc
    refine qX_iconst dL_sharesHold_7 (i32_of rfl) ?_
    refine qX_istore_n 2 dL_sharesHold_8 rfl (Nat.le_of_ble_eq_true rfl) rfl ?_
    exact qX_mask [true, true, true, false, false, false, false, false, false, false] h
set_option maxRecDepth 20000 in
theorem w_L_sharesHold_9 {Post : Int → Rf → Mem → Prop} {ρ : Rf} {μ : Mem} {X : List Sh} {x1 : Int} {x2 : Int}
  (h : ((2 ≤ x2 → i32 (x1 + 1) ∧ qX mL_sharesHold (GX X) Post (GX X) (0, 0) 2 [some (qP 0), some (qI (x1 + 1)), none, none, none, none, none, none, none, none] [] ρ μ) ∧ (x2 < 2 → ∃ P : Int → Rf → Mem → Prop, qE mX7_demand (GX X) (GX X) [qP 0, qI x1, qI 0, qI x2] ρ μ P ∧ ∀ (z1 : Int) (ρ2 : Rf) (μ3 : Mem), P z1 ρ2 μ3 → ∃ P : Int → Rf → Mem → Prop, qE mX7_demand (GX X) (GX X) [qP 0, qI x1, qI 1, qI x2] ρ2 μ3 P ∧ ∀ (z5 : Int) (ρ6 : Rf) (μ7 : Mem), P z5 ρ6 μ7 → i32 (z1 + z5) ∧ ∃ P : Int → Rf → Mem → Prop, qE mX7_delivered (GX X) (GX X) [qP 0, qI x1, qI 0, qI x2] ρ6 μ7 P ∧ ∀ (z9 : Int) (ρ10 : Rf) (μ11 : Mem), P z9 ρ10 μ11 → ∃ P : Int → Rf → Mem → Prop, qE mX7_delivered (GX X) (GX X) [qP 0, qI x1, qI 1, qI x2] ρ10 μ11 P ∧ ∀ (z13 : Int) (ρ14 : Rf) (μ15 : Mem), P z13 ρ14 μ15 → i32 (z9 + z13) ∧ ∃ P : Int → Rf → Mem → Prop, qE mX7_share (GX X) (GX X) [qP 0, qI x1, qI 0, qI x2] ρ14 μ15 P ∧ ∀ (z17 : Int) (ρ18 : Rf) (μ19 : Mem), P z17 ρ18 μ19 → ∃ P : Int → Rf → Mem → Prop, qE mX7_share (GX X) (GX X) [qP 0, qI x1, qI 1, qI x2] ρ18 μ19 P ∧ ∀ (z21 : Int) (ρ22 : Rf) (μ23 : Mem), P z21 ρ22 μ23 → i32 (z17 + z21) ∧ ((z17 + z21 = min (z9 + z13) (z1 + z5) → qX mL_sharesHold (GX X) Post (GX X) (0, 0) 80 [some (qP 0), some (qI x1), some (qI x2), some (qI (z1 + z5)), some (qI (z9 + z13)), none, some (qI 0), none, none, none] [] ρ22 μ23) ∧ (z17 + z21 ≠ min (z9 + z13) (z1 + z5) → Post 0 ρ22 μ23))))) : qX mL_sharesHold (GX X) Post (GX X) (0, 0) 9 [some (qP 0), some (qI x1), some (qI x2), none, none, none, none, none, none, none] [] ρ μ := by
  refine qX_iload_n 2 dL_sharesHold_9 rfl rfl ?_
  refine qX_iconst dL_sharesHold_10 (i32_of rfl) ?_
  refine qX_icmp_ge 221 dL_sharesHold_11 rfl (fun hc => ?_) (fun hc => ?_)
  · replace h := h.1 hc
    refine qR_iinc dL_sharesHold_221 rfl (Nat.le_of_ble_eq_true rfl) rfl h.1 ?_
    replace h := h.2
    refine qX_goto 2 dL_sharesHold_224 rfl ?_
    exact qX_mask [true, true, false, false, false, false, false, false, false, false] h
  · replace h := h.2 hc
    refine qM_aload_n 0 dL_sharesHold_14 rfl rfl shX0 ?_
    refine qX_iload_n 1 dL_sharesHold_15 rfl rfl ?_
    refine qX_iconst dL_sharesHold_16 (i32_of rfl) ?_
    refine qX_iload_n 2 dL_sharesHold_17 rfl rfl ?_
    obtain ⟨P, hE4, h⟩ := h
    refine qM_callV mX7_demand [_, _, _] _ 7 [] dL_sharesHold_18 cm_L_194 ⟨(Nat.le_of_ble_eq_true rfl), (Nat.le_of_ble_eq_true rfl)⟩ rfl rfl shX0 (Nat.le_of_ble_eq_true rfl) ⟨rfl, rfl⟩ ⟨(Nat.le_of_ble_eq_true rfl), (Nat.le_of_ble_eq_true rfl)⟩ hE4 (fun z1 ρ2 μ3 hz => ?_)
    replace h := h _ _ _ hz
    refine qM_aload_n 0 dL_sharesHold_21 rfl rfl shX0 ?_
    refine qX_iload_n 1 dL_sharesHold_22 rfl rfl ?_
    refine qX_iconst dL_sharesHold_23 (i32_of rfl) ?_
    refine qX_iload_n 2 dL_sharesHold_24 rfl rfl ?_
    obtain ⟨P, hE8, h⟩ := h
    refine qM_callV mX7_demand [_, _, _] _ 7 [_] dL_sharesHold_25 cm_L_194 ⟨(Nat.le_of_ble_eq_true rfl), (Nat.le_of_ble_eq_true rfl)⟩ rfl rfl shX0 (Nat.le_of_ble_eq_true rfl) ⟨rfl, rfl⟩ ⟨(Nat.le_of_ble_eq_true rfl), (Nat.le_of_ble_eq_true rfl)⟩ hE8 (fun z5 ρ6 μ7 hz => ?_)
    replace h := h _ _ _ hz
    refine qR_iadd dL_sharesHold_28 h.1 ?_
    replace h := h.2
    refine qX_istore_n 3 dL_sharesHold_29 rfl (Nat.le_of_ble_eq_true rfl) rfl ?_
    refine qM_aload_n 0 dL_sharesHold_30 rfl rfl shX0 ?_
    refine qX_iload_n 1 dL_sharesHold_31 rfl rfl ?_
    refine qX_iconst dL_sharesHold_32 (i32_of rfl) ?_
    refine qX_iload_n 2 dL_sharesHold_33 rfl rfl ?_
    obtain ⟨P, hE12, h⟩ := h
    refine qM_callV mX7_delivered [_, _, _] _ 7 [] dL_sharesHold_34 cm_L_197 ⟨(Nat.le_of_ble_eq_true rfl), (Nat.le_of_ble_eq_true rfl)⟩ rfl rfl shX0 (Nat.le_of_ble_eq_true rfl) ⟨rfl, rfl⟩ ⟨(Nat.le_of_ble_eq_true rfl), (Nat.le_of_ble_eq_true rfl)⟩ hE12 (fun z9 ρ10 μ11 hz => ?_)
    replace h := h _ _ _ hz
    refine qM_aload_n 0 dL_sharesHold_37 rfl rfl shX0 ?_
    refine qX_iload_n 1 dL_sharesHold_38 rfl rfl ?_
    refine qX_iconst dL_sharesHold_39 (i32_of rfl) ?_
    refine qX_iload_n 2 dL_sharesHold_40 rfl rfl ?_
    obtain ⟨P, hE16, h⟩ := h
    refine qM_callV mX7_delivered [_, _, _] _ 7 [_] dL_sharesHold_41 cm_L_197 ⟨(Nat.le_of_ble_eq_true rfl), (Nat.le_of_ble_eq_true rfl)⟩ rfl rfl shX0 (Nat.le_of_ble_eq_true rfl) ⟨rfl, rfl⟩ ⟨(Nat.le_of_ble_eq_true rfl), (Nat.le_of_ble_eq_true rfl)⟩ hE16 (fun z13 ρ14 μ15 hz => ?_)
    replace h := h _ _ _ hz
    refine qR_iadd dL_sharesHold_44 h.1 ?_
    replace h := h.2
    refine qX_istore dL_sharesHold_45 (Nat.le_of_ble_eq_true rfl) rfl ?_
    refine qM_aload_n 0 dL_sharesHold_47 rfl rfl shX0 ?_
    refine qX_iload_n 1 dL_sharesHold_48 rfl rfl ?_
    refine qX_iconst dL_sharesHold_49 (i32_of rfl) ?_
    refine qX_iload_n 2 dL_sharesHold_50 rfl rfl ?_
    obtain ⟨P, hE20, h⟩ := h
    refine qM_callV mX7_share [_, _, _] _ 7 [] dL_sharesHold_51 cm_L_202 ⟨(Nat.le_of_ble_eq_true rfl), (Nat.le_of_ble_eq_true rfl)⟩ rfl rfl shX0 (Nat.le_of_ble_eq_true rfl) ⟨rfl, rfl⟩ ⟨(Nat.le_of_ble_eq_true rfl), (Nat.le_of_ble_eq_true rfl)⟩ hE20 (fun z17 ρ18 μ19 hz => ?_)
    replace h := h _ _ _ hz
    refine qM_aload_n 0 dL_sharesHold_54 rfl rfl shX0 ?_
    refine qX_iload_n 1 dL_sharesHold_55 rfl rfl ?_
    refine qX_iconst dL_sharesHold_56 (i32_of rfl) ?_
    refine qX_iload_n 2 dL_sharesHold_57 rfl rfl ?_
    obtain ⟨P, hE24, h⟩ := h
    refine qM_callV mX7_share [_, _, _] _ 7 [_] dL_sharesHold_58 cm_L_202 ⟨(Nat.le_of_ble_eq_true rfl), (Nat.le_of_ble_eq_true rfl)⟩ rfl rfl shX0 (Nat.le_of_ble_eq_true rfl) ⟨rfl, rfl⟩ ⟨(Nat.le_of_ble_eq_true rfl), (Nat.le_of_ble_eq_true rfl)⟩ hE24 (fun z21 ρ22 μ23 hz => ?_)
    replace h := h _ _ _ hz
    refine qR_iadd dL_sharesHold_61 h.1 ?_
    replace h := h.2
    refine qX_istore dL_sharesHold_62 (Nat.le_of_ble_eq_true rfl) rfl ?_
    refine qX_iload dL_sharesHold_64 rfl ?_
    refine qX_iload dL_sharesHold_66 rfl ?_
    refine qX_iload_n 3 dL_sharesHold_68 rfl rfl ?_
    refine qX_min dL_sharesHold_69 kM_L_81 ⟨(Nat.le_of_ble_eq_true rfl), (Nat.le_of_ble_eq_true rfl)⟩ (Nat.le_of_ble_eq_true rfl) ⟨(Nat.le_of_ble_eq_true rfl), (Nat.le_of_ble_eq_true rfl)⟩ ?_
    refine qX_icmp_eq 77 dL_sharesHold_72 rfl (fun hc => ?_) (fun hc => ?_)
    · replace h := h.1 hc
      refine qX_iconst dL_sharesHold_77 (i32_of rfl) ?_
      refine qX_istore dL_sharesHold_78 (Nat.le_of_ble_eq_true rfl) rfl ?_
      exact qX_mask [true, true, true, true, true, false, true, false, false, false] h
    · replace h := h.2 hc
      refine qX_iconst dL_sharesHold_75 (i32_of rfl) ?_
      exact qX_zreturn rfl dL_sharesHold_76 rfl ⟨(Nat.le_of_ble_eq_true rfl), (Nat.le_of_ble_eq_true rfl)⟩ (by decide) h
set_option maxRecDepth 20000 in
theorem w_L_sharesHold_80 {Post : Int → Rf → Mem → Prop} {ρ : Rf} {μ : Mem} {X : List Sh} {x1 : Int} {x2 : Int} {x3 : Int} {x4 : Int} {x6 : Int}
  (h : ((2 ≤ x6 → ∃ P : Int → Rf → Mem → Prop, qE mX7_coverage (GX X) (GX X) [qP 0, qI x1, qI x2, qI 0] ρ μ P ∧ ∀ (z1 : Int) (ρ2 : Rf) (μ3 : Mem), P z1 ρ2 μ3 → ∃ P : Int → Rf → Mem → Prop, qE mX7_coverage (GX X) (GX X) [qP 0, qI x1, qI x2, qI 1] ρ2 μ3 P ∧ ∀ (z5 : Int) (ρ6 : Rf) (μ7 : Mem), P z5 ρ6 μ7 → ((x3 ≠ 0 → i64 (z1 * x3) ∧ i64 (z5 * (min x4 x3)) ∧ ((z1 * x3 = z5 * (min x4 x3) → qX mL_sharesHold (GX X) Post (GX X) (0, 0) 191 [some (qP 0), some (qI x1), some (qI x2), none, none, none, some (qJ z1), none, some (qJ z5), none] [] ρ6 μ7) ∧ (z1 * x3 ≠ z5 * (min x4 x3) → Post 0 ρ6 μ7))) ∧ (x3 = 0 → ((z1 ≠ 1 → Post 0 ρ6 μ7) ∧ (z1 = 1 → ((z5 = 1 → qX mL_sharesHold (GX X) Post (GX X) (0, 0) 191 [some (qP 0), some (qI x1), some (qI x2), none, none, none, some (qJ z1), none, some (qJ z5), none] [] ρ6 μ7) ∧ (z5 ≠ 1 → Post 0 ρ6 μ7))))))) ∧ (x6 < 2 → ∃ P : Int → Rf → Mem → Prop, qE mX7_share (GX X) (GX X) [qP 0, qI x1, qI x6, qI x2] ρ μ P ∧ ∀ (z9 : Int) (ρ10 : Rf) (μ11 : Mem), P z9 ρ10 μ11 → i32 (z9 * x3) ∧ ∃ P : Int → Rf → Mem → Prop, qE mX7_demand (GX X) (GX X) [qP 0, qI x1, qI x6, qI x2] ρ10 μ11 P ∧ ∀ (z13 : Int) (ρ14 : Rf) (μ15 : Mem), P z13 ρ14 μ15 → i32 ((min x4 x3) * z13) ∧ i32 ((z9 * x3) - ((min x4 x3) * z13)) ∧ i32 (-((z9 * x3) - ((min x4 x3) * z13))) ∧ ((max ((z9 * x3) - ((min x4 x3) * z13)) (-((z9 * x3) - ((min x4 x3) * z13))) < x3 → qX mL_sharesHold (GX X) Post (GX X) (0, 0) 125 [some (qP 0), some (qI x1), some (qI x2), some (qI x3), some (qI x4), none, some (qI x6), none, none, none] [] ρ14 μ15) ∧ (x3 ≤ max ((z9 * x3) - ((min x4 x3) * z13)) (-((z9 * x3) - ((min x4 x3) * z13))) → ((x3 ≤ 0 → qX mL_sharesHold (GX X) Post (GX X) (0, 0) 125 [some (qP 0), some (qI x1), some (qI x2), some (qI x3), some (qI x4), none, some (qI x6), none, none, none] [] ρ14 μ15) ∧ (0 < x3 → Post 0 ρ14 μ15))))))) : qX mL_sharesHold (GX X) Post (GX X) (0, 0) 80 [some (qP 0), some (qI x1), some (qI x2), some (qI x3), some (qI x4), none, some (qI x6), none, none, none] [] ρ μ := by
  refine qX_iload dL_sharesHold_80 rfl ?_
  refine qX_iconst dL_sharesHold_82 (i32_of rfl) ?_
  refine qX_icmp_ge 131 dL_sharesHold_83 rfl (fun hc => ?_) (fun hc => ?_)
  · replace h := h.1 hc
    refine qM_aload_n 0 dL_sharesHold_131 rfl rfl shX0 ?_
    refine qX_iload_n 1 dL_sharesHold_132 rfl rfl ?_
    refine qX_iload_n 2 dL_sharesHold_133 rfl rfl ?_
    refine qX_iconst dL_sharesHold_134 (i32_of rfl) ?_
    obtain ⟨P, hE4, h⟩ := h
    refine qM_callV mX7_coverage [_, _, _] _ 7 [] dL_sharesHold_135 cm_L_278 ⟨(Nat.le_of_ble_eq_true rfl), (Nat.le_of_ble_eq_true rfl)⟩ rfl rfl shX0 (Nat.le_of_ble_eq_true rfl) ⟨rfl, rfl⟩ ⟨(Nat.le_of_ble_eq_true rfl), (Nat.le_of_ble_eq_true rfl)⟩ hE4 (fun z1 ρ2 μ3 hz => ?_)
    replace h := h _ _ _ hz
    refine qX_lstore dL_sharesHold_138 (Nat.le_of_ble_eq_true rfl) rfl ?_
    refine qM_aload_n 0 dL_sharesHold_140 rfl rfl shX0 ?_
    refine qX_iload_n 1 dL_sharesHold_141 rfl rfl ?_
    refine qX_iload_n 2 dL_sharesHold_142 rfl rfl ?_
    refine qX_iconst dL_sharesHold_143 (i32_of rfl) ?_
    obtain ⟨P, hE8, h⟩ := h
    refine qM_callV mX7_coverage [_, _, _] _ 7 [] dL_sharesHold_144 cm_L_278 ⟨(Nat.le_of_ble_eq_true rfl), (Nat.le_of_ble_eq_true rfl)⟩ rfl rfl shX0 (Nat.le_of_ble_eq_true rfl) ⟨rfl, rfl⟩ ⟨(Nat.le_of_ble_eq_true rfl), (Nat.le_of_ble_eq_true rfl)⟩ hE8 (fun z5 ρ6 μ7 hz => ?_)
    replace h := h _ _ _ hz
    refine qX_lstore dL_sharesHold_147 (Nat.le_of_ble_eq_true rfl) rfl ?_
    refine qX_iload_n 3 dL_sharesHold_149 rfl rfl ?_
    refine qX_if_ne 170 dL_sharesHold_150 rfl (fun hc => ?_) (fun hc => ?_)
    · replace h := h.1 hc
      refine qX_lload dL_sharesHold_170 rfl ?_
      refine qX_iload_n 3 dL_sharesHold_172 rfl rfl ?_
      refine qX_i2l dL_sharesHold_173 ?_
      refine qR_lmul dL_sharesHold_174 h.1 ?_
      replace h := h.2
      refine qX_lload dL_sharesHold_175 rfl ?_
      refine qX_iload dL_sharesHold_177 rfl ?_
      refine qX_iload_n 3 dL_sharesHold_179 rfl rfl ?_
      refine qX_min dL_sharesHold_180 kM_L_81 ⟨(Nat.le_of_ble_eq_true rfl), (Nat.le_of_ble_eq_true rfl)⟩ (Nat.le_of_ble_eq_true rfl) ⟨(Nat.le_of_ble_eq_true rfl), (Nat.le_of_ble_eq_true rfl)⟩ ?_
      refine qX_i2l dL_sharesHold_183 ?_
      refine qR_lmul dL_sharesHold_184 h.1 ?_
      replace h := h.2
      refine qX_lcmp dL_sharesHold_185 ?_
      refine qX_if_eq 191 dL_sharesHold_186 rfl (fun hc => ?_) (fun hc => ?_)
      · replace h := h.1 (cmpL_eq0.mp hc)
        exact qX_mask [true, true, true, false, false, false, true, false, true, false] h
      · replace h := h.2 (fun e => hc (cmpL_eq0.mpr e))
        refine qX_iconst dL_sharesHold_189 (i32_of rfl) ?_
        exact qX_zreturn rfl dL_sharesHold_190 rfl ⟨(Nat.le_of_ble_eq_true rfl), (Nat.le_of_ble_eq_true rfl)⟩ (by decide) h
    · replace h := h.2 hc
      refine qX_lload dL_sharesHold_153 rfl ?_
      refine qX_lconst 1 dL_sharesHold_155 rfl (i64_of rfl) ?_
      refine qX_lcmp dL_sharesHold_156 ?_
      refine qX_if_ne 189 dL_sharesHold_157 rfl (fun hc => ?_) (fun hc => ?_)
      · replace h := h.1 (fun e => hc (cmpL_eq0.mpr e))
        refine qX_iconst dL_sharesHold_189 (i32_of rfl) ?_
        exact qX_zreturn rfl dL_sharesHold_190 rfl ⟨(Nat.le_of_ble_eq_true rfl), (Nat.le_of_ble_eq_true rfl)⟩ (by decide) h
      · replace h := h.2 (cmpL_eq0.mp hc)
        refine qX_lload dL_sharesHold_160 rfl ?_
        refine qX_lconst 1 dL_sharesHold_162 rfl (i64_of rfl) ?_
        refine qX_lcmp dL_sharesHold_163 ?_
        refine qX_if_eq 191 dL_sharesHold_164 rfl (fun hc => ?_) (fun hc => ?_)
        · replace h := h.1 (cmpL_eq0.mp hc)
          exact qX_mask [true, true, true, false, false, false, true, false, true, false] h
        · replace h := h.2 (fun e => hc (cmpL_eq0.mpr e))
          refine qX_goto 189 dL_sharesHold_167 rfl ?_
          refine qX_iconst dL_sharesHold_189 (i32_of rfl) ?_
          exact qX_zreturn rfl dL_sharesHold_190 rfl ⟨(Nat.le_of_ble_eq_true rfl), (Nat.le_of_ble_eq_true rfl)⟩ (by decide) h
  · replace h := h.2 hc
    refine qM_aload_n 0 dL_sharesHold_86 rfl rfl shX0 ?_
    refine qX_iload_n 1 dL_sharesHold_87 rfl rfl ?_
    refine qX_iload dL_sharesHold_88 rfl ?_
    refine qX_iload_n 2 dL_sharesHold_90 rfl rfl ?_
    obtain ⟨P, hE12, h⟩ := h
    refine qM_callV mX7_share [_, _, _] _ 7 [] dL_sharesHold_91 cm_L_202 ⟨(Nat.le_of_ble_eq_true rfl), (Nat.le_of_ble_eq_true rfl)⟩ rfl rfl shX0 (Nat.le_of_ble_eq_true rfl) ⟨rfl, rfl⟩ ⟨(Nat.le_of_ble_eq_true rfl), (Nat.le_of_ble_eq_true rfl)⟩ hE12 (fun z9 ρ10 μ11 hz => ?_)
    replace h := h _ _ _ hz
    refine qX_iload_n 3 dL_sharesHold_94 rfl rfl ?_
    refine qR_imul dL_sharesHold_95 h.1 ?_
    replace h := h.2
    refine qX_iload dL_sharesHold_96 rfl ?_
    refine qX_iload_n 3 dL_sharesHold_98 rfl rfl ?_
    refine qX_min dL_sharesHold_99 kM_L_81 ⟨(Nat.le_of_ble_eq_true rfl), (Nat.le_of_ble_eq_true rfl)⟩ (Nat.le_of_ble_eq_true rfl) ⟨(Nat.le_of_ble_eq_true rfl), (Nat.le_of_ble_eq_true rfl)⟩ ?_
    refine qM_aload_n 0 dL_sharesHold_102 rfl rfl shX0 ?_
    refine qX_iload_n 1 dL_sharesHold_103 rfl rfl ?_
    refine qX_iload dL_sharesHold_104 rfl ?_
    refine qX_iload_n 2 dL_sharesHold_106 rfl rfl ?_
    obtain ⟨P, hE16, h⟩ := h
    refine qM_callV mX7_demand [_, _, _] _ 7 [_, _] dL_sharesHold_107 cm_L_194 ⟨(Nat.le_of_ble_eq_true rfl), (Nat.le_of_ble_eq_true rfl)⟩ rfl rfl shX0 (Nat.le_of_ble_eq_true rfl) ⟨rfl, rfl⟩ ⟨(Nat.le_of_ble_eq_true rfl), (Nat.le_of_ble_eq_true rfl)⟩ hE16 (fun z13 ρ14 μ15 hz => ?_)
    replace h := h _ _ _ hz
    refine qR_imul dL_sharesHold_110 h.1 ?_
    replace h := h.2
    refine qR_isub dL_sharesHold_111 h.1 ?_
    replace h := h.2
    refine qR_abs dL_sharesHold_112 kM_L_72 ⟨(Nat.le_of_ble_eq_true rfl), (Nat.le_of_ble_eq_true rfl)⟩ (Nat.le_of_ble_eq_true rfl) ⟨(Nat.le_of_ble_eq_true rfl), (Nat.le_of_ble_eq_true rfl)⟩ h.1 ?_
    replace h := h.2
    refine qX_iload_n 3 dL_sharesHold_115 rfl rfl ?_
    refine qX_icmp_lt 125 dL_sharesHold_116 rfl (fun hc => ?_) (fun hc => ?_)
    · replace h := h.1 hc
      exact qX_mask [true, true, true, true, true, false, true, false, false, false] h
    · replace h := h.2 hc
      refine qX_iload_n 3 dL_sharesHold_119 rfl rfl ?_
      refine qX_if_le 125 dL_sharesHold_120 rfl (fun hc => ?_) (fun hc => ?_)
      · replace h := h.1 hc
        exact qX_mask [true, true, true, true, true, false, true, false, false, false] h
      · replace h := h.2 hc
        refine qX_iconst dL_sharesHold_123 (i32_of rfl) ?_
        exact qX_zreturn rfl dL_sharesHold_124 rfl ⟨(Nat.le_of_ble_eq_true rfl), (Nat.le_of_ble_eq_true rfl)⟩ (by decide) h
set_option maxRecDepth 20000 in
theorem w_L_sharesHold_191 {Post : Int → Rf → Mem → Prop} {ρ : Rf} {μ : Mem} {X : List Sh} {x1 : Int} {x2 : Int} {x6 : Int} {x8 : Int}
  (h : ∃ P : Int → Rf → Mem → Prop, qE mX7_leastCoverage (GX X) (GX X) [qP 0, qI x1, qI 0] ρ μ P ∧ ∀ (z1 : Int) (ρ2 : Rf) (μ3 : Mem), P z1 ρ2 μ3 → i64 (z1 * x8) ∧ ∃ P : Int → Rf → Mem → Prop, qE mX7_leastCoverage (GX X) (GX X) [qP 0, qI x1, qI 1] ρ2 μ3 P ∧ ∀ (z5 : Int) (ρ6 : Rf) (μ7 : Mem), P z5 ρ6 μ7 → i64 (x6 * z5) ∧ ((z1 * x8 ≤ x6 * z5 → i32 (x2 + 1) ∧ qX mL_sharesHold (GX X) Post (GX X) (0, 0) 9 [some (qP 0), some (qI x1), some (qI (x2 + 1)), none, none, none, none, none, none, none] [] ρ6 μ7) ∧ (x6 * z5 < z1 * x8 → Post 0 ρ6 μ7))) : qX mL_sharesHold (GX X) Post (GX X) (0, 0) 191 [some (qP 0), some (qI x1), some (qI x2), none, none, none, some (qJ x6), none, some (qJ x8), none] [] ρ μ := by
  refine qM_aload_n 0 dL_sharesHold_191 rfl rfl shX0 ?_
  refine qX_iload_n 1 dL_sharesHold_192 rfl rfl ?_
  refine qX_iconst dL_sharesHold_193 (i32_of rfl) ?_
  obtain ⟨P, hE4, h⟩ := h
  refine qM_callV mX7_leastCoverage [_, _] _ 7 [] dL_sharesHold_194 cm_L_282 ⟨(Nat.le_of_ble_eq_true rfl), (Nat.le_of_ble_eq_true rfl)⟩ rfl rfl shX0 (Nat.le_of_ble_eq_true rfl) ⟨rfl, rfl⟩ ⟨(Nat.le_of_ble_eq_true rfl), (Nat.le_of_ble_eq_true rfl)⟩ hE4 (fun z1 ρ2 μ3 hz => ?_)
  replace h := h _ _ _ hz
  refine qX_lload dL_sharesHold_197 rfl ?_
  refine qR_lmul dL_sharesHold_199 h.1 ?_
  replace h := h.2
  refine qX_lload dL_sharesHold_200 rfl ?_
  refine qM_aload_n 0 dL_sharesHold_202 rfl rfl shX0 ?_
  refine qX_iload_n 1 dL_sharesHold_203 rfl rfl ?_
  refine qX_iconst dL_sharesHold_204 (i32_of rfl) ?_
  obtain ⟨P, hE8, h⟩ := h
  refine qM_callV mX7_leastCoverage [_, _] _ 7 [_, _] dL_sharesHold_205 cm_L_282 ⟨(Nat.le_of_ble_eq_true rfl), (Nat.le_of_ble_eq_true rfl)⟩ rfl rfl shX0 (Nat.le_of_ble_eq_true rfl) ⟨rfl, rfl⟩ ⟨(Nat.le_of_ble_eq_true rfl), (Nat.le_of_ble_eq_true rfl)⟩ hE8 (fun z5 ρ6 μ7 hz => ?_)
  replace h := h _ _ _ hz
  refine qR_lmul dL_sharesHold_208 h.1 ?_
  replace h := h.2
  refine qX_lcmp dL_sharesHold_209 ?_
  refine qX_if_le 215 dL_sharesHold_210 rfl (fun hc => ?_) (fun hc => ?_)
  · replace h := h.1 (cmpL_le0 hc)
    refine qR_iinc dL_sharesHold_215 rfl (Nat.le_of_ble_eq_true rfl) rfl h.1 ?_
    replace h := h.2
    refine qX_goto 9 dL_sharesHold_218 rfl ?_
    exact qX_mask [true, true, true, false, false, false, false, false, false, false] h
  · replace h := h.2 (cmpL_gt0 hc)
    refine qX_iconst dL_sharesHold_213 (i32_of rfl) ?_
    exact qX_zreturn rfl dL_sharesHold_214 rfl ⟨(Nat.le_of_ble_eq_true rfl), (Nat.le_of_ble_eq_true rfl)⟩ (by decide) h
set_option maxRecDepth 20000 in
theorem w_L_sharesHold_125 {Post : Int → Rf → Mem → Prop} {ρ : Rf} {μ : Mem} {X : List Sh} {x1 : Int} {x2 : Int} {x3 : Int} {x4 : Int} {x6 : Int}
  (h : i32 (x6 + 1) ∧ qX mL_sharesHold (GX X) Post (GX X) (0, 0) 80 [some (qP 0), some (qI x1), some (qI x2), some (qI x3), some (qI x4), none, some (qI (x6 + 1)), none, none, none] [] ρ μ) : qX mL_sharesHold (GX X) Post (GX X) (0, 0) 125 [some (qP 0), some (qI x1), some (qI x2), some (qI x3), some (qI x4), none, some (qI x6), none, none, none] [] ρ μ := by
  refine qR_iinc dL_sharesHold_125 rfl (Nat.le_of_ble_eq_true rfl) rfl h.1 ?_
  replace h := h.2
  refine qX_goto 80 dL_sharesHold_128 rfl ?_
  exact qX_mask [true, true, true, true, true, false, true, false, false, false] h
set_option maxRecDepth 20000 in
theorem e_L_bestsHold {Post : Int → Rf → Mem → Prop} {ρ : Rf} {μ : Mem} {X : List Sh} {x1 nx1 : Nat} (hx1 : (GX X).2[x1]? = some (10, nx1))
  (h : qX mL_bestsHold (GX X) Post (GX X) (0, 0) 2 [some (qP 0), some (qP x1), some (qI 0), none, none, none, none, none] [] ρ μ) : qE mL_bestsHold (GX X) (GX X) [qP 0, qP x1] ρ μ Post := by
  refine qE_intro pl_L_bestsHold (Nat.le_of_ble_eq_true rfl) (Nat.le_refl _) ?_
  refine qX_iconst dL_bestsHold_0 (i32_of rfl) ?_
  refine qX_istore_n 2 dL_bestsHold_1 rfl (Nat.le_of_ble_eq_true rfl) rfl ?_
  exact qX_mask [true, true, true, false, false, false, false, false] h
set_option maxRecDepth 20000 in
theorem w_L_bestsHold_2 {Post : Int → Rf → Mem → Prop} {ρ : Rf} {μ : Mem} {X : List Sh} {x1 nx1 : Nat} (hx1 : (GX X).2[x1]? = some (10, nx1)) {x2 : Int}
  (h : ((3 ≤ x2 → qX mL_bestsHold (GX X) Post (GX X) (0, 0) 134 [some (qP 0), none, some (qI 0), none, none, none, none, none] [] ρ μ) ∧ (x2 < 3 → ∃ P : Int → Rf → Mem → Prop, qE mX7_bestSet (GX X) (GX X) [qP 0, qI x2] ρ μ P ∧ ∀ (z1 : Int) (ρ2 : Rf) (μ3 : Mem), P z1 ρ2 μ3 → qX mL_bestsHold (GX X) Post (GX X) (0, 0) 22 [some (qP 0), some (qP x1), some (qI x2), some (qI z1), some (qI 0), some (qI 0), some (qI 0), none] [] ρ2 μ3))) : qX mL_bestsHold (GX X) Post (GX X) (0, 0) 2 [some (qP 0), some (qP x1), some (qI x2), none, none, none, none, none] [] ρ μ := by
  refine qX_iload_n 2 dL_bestsHold_2 rfl rfl ?_
  refine qX_iconst dL_bestsHold_3 (i32_of rfl) ?_
  refine qX_icmp_ge 132 dL_bestsHold_4 rfl (fun hc => ?_) (fun hc => ?_)
  · replace h := h.1 hc
    refine qX_iconst dL_bestsHold_132 (i32_of rfl) ?_
    refine qX_istore_n 2 dL_bestsHold_133 rfl (Nat.le_of_ble_eq_true rfl) rfl ?_
    exact qX_mask [true, false, true, false, false, false, false, false] h
  · replace h := h.2 hc
    refine qM_aload_n 0 dL_bestsHold_7 rfl rfl shX0 ?_
    refine qX_iload_n 2 dL_bestsHold_8 rfl rfl ?_
    obtain ⟨P, hE4, h⟩ := h
    refine qM_callV mX7_bestSet [_] _ 7 [] dL_bestsHold_9 cm_L_245 ⟨(Nat.le_of_ble_eq_true rfl), (Nat.le_of_ble_eq_true rfl)⟩ rfl rfl shX0 (Nat.le_of_ble_eq_true rfl) ⟨rfl, rfl⟩ ⟨(Nat.le_of_ble_eq_true rfl), (Nat.le_of_ble_eq_true rfl)⟩ hE4 (fun z1 ρ2 μ3 hz => ?_)
    replace h := h _ _ _ hz
    refine qX_istore_n 3 dL_bestsHold_12 rfl (Nat.le_of_ble_eq_true rfl) rfl ?_
    refine qX_iconst dL_bestsHold_13 (i32_of rfl) ?_
    refine qX_istore dL_bestsHold_14 (Nat.le_of_ble_eq_true rfl) rfl ?_
    refine qX_iconst dL_bestsHold_16 (i32_of rfl) ?_
    refine qX_istore dL_bestsHold_17 (Nat.le_of_ble_eq_true rfl) rfl ?_
    refine qX_iconst dL_bestsHold_19 (i32_of rfl) ?_
    refine qX_istore dL_bestsHold_20 (Nat.le_of_ble_eq_true rfl) rfl ?_
    exact qX_mask [true, true, true, true, true, true, true, false] h
set_option maxRecDepth 20000 in
theorem w_L_bestsHold_134 {Post : Int → Rf → Mem → Prop} {ρ : Rf} {μ : Mem} {X : List Sh} {x2 : Int}
  (h : ((2 ≤ x2 → ∃ P : Int → Rf → Mem → Prop, qE mX7_worstJob (GX X) (GX X) [qP 0] ρ μ P ∧ ∀ (z1 : Int) (ρ2 : Rf) (μ3 : Mem), P z1 ρ2 μ3 → ((0 ≤ z1 → ∃ P : Int → Rf → Mem → Prop, qE mX7_deliveredTotal (GX X) (GX X) [qP 0] ρ2 μ3 P ∧ ∀ (z5 : Int) (ρ6 : Rf) (μ7 : Mem), P z5 ρ6 μ7 → ∃ P : Int → Rf → Mem → Prop, qE mX7_removeJob (GX X) (GX X) [qP 0, qI z1] ρ6 μ7 P ∧ ∀ (z9 : Int) (ρ10 : Rf) (μ11 : Mem), P z9 ρ10 μ11 → ∃ P : Int → Rf → Mem → Prop, qE mX7_jobCount (GX X) (GX X) [qP 0] ρ10 μ11 P ∧ ∀ (z13 : Int) (ρ14 : Rf) (μ15 : Mem), P z13 ρ14 μ15 → ((z9 ≠ z13 → Post 0 ρ14 μ15) ∧ (z9 = z13 → ∃ P : Int → Rf → Mem → Prop, qE mX7_deliveredTotal (GX X) (GX X) [qP 0] ρ14 μ15 P ∧ ∀ (z17 : Int) (ρ18 : Rf) (μ19 : Mem), P z17 ρ18 μ19 → ((z17 ≤ z5 → Post 0 ρ18 μ19) ∧ (z5 < z17 → ∃ P : Int → Rf → Mem → Prop, qE mX7_undo (GX X) (GX X) [qP 0] ρ18 μ19 P ∧ ∀ (z21 : Int) (ρ22 : Rf) (μ23 : Mem), P z21 ρ22 μ23 → ((z21 < 0 → Post 0 ρ22 μ23) ∧ (0 ≤ z21 → Post 1 ρ22 μ23))))))) ∧ (z1 < 0 → Post 1 ρ2 μ3))) ∧ (x2 < 2 → ∃ P : Int → Rf → Mem → Prop, qE mX7_neededDelay (GX X) (GX X) [qP 0, qI x2] ρ μ P ∧ ∀ (z25 : Int) (ρ26 : Rf) (μ27 : Mem), P z25 ρ26 μ27 → ((0 ≤ z25 → ∃ P : Int → Rf → Mem → Prop, qE mX7_departure (GX X) (GX X) [qP 0, qI x2] ρ26 μ27 P ∧ ∀ (z29 : Int) (ρ30 : Rf) (μ31 : Mem), P z29 ρ30 μ31 → i32 (z29 + z25) ∧ ∃ P : Int → Rf → Mem → Prop, qE mX7_setDeparture (GX X) (GX X) [qP 0, qI x2, qI (z29 + z25)] ρ30 μ31 P ∧ ∀ (z33 : Int) (ρ34 : Rf) (μ35 : Mem), P z33 ρ34 μ35 → ((z33 ≠ z29 → Post 0 ρ34 μ35) ∧ (z33 = z29 → ∃ P : Int → Rf → Mem → Prop, qE mX7_neededDelay (GX X) (GX X) [qP 0, qI x2] ρ34 μ35 P ∧ ∀ (z37 : Int) (ρ38 : Rf) (μ39 : Mem), P z37 ρ38 μ39 → ((z37 ≠ 0 → Post 0 ρ38 μ39) ∧ (z37 = 0 → ∃ P : Int → Rf → Mem → Prop, qE mX7_undo (GX X) (GX X) [qP 0] ρ38 μ39 P ∧ ∀ (z41 : Int) (ρ42 : Rf) (μ43 : Mem), P z41 ρ42 μ43 → ((0 ≤ z41 → ((z25 ≤ 0 → qX mL_bestsHold (GX X) Post (GX X) (0, 0) 227 [some (qP 0), none, some (qI x2), none, none, none, none, none] [] ρ42 μ43) ∧ (0 < z25 → i32 (z29 + z25) ∧ i32 ((z29 + z25) - 1) ∧ ∃ P : Int → Rf → Mem → Prop, qE mX7_setDeparture (GX X) (GX X) [qP 0, qI x2, qI ((z29 + z25) - 1)] ρ42 μ43 P ∧ ∀ (z45 : Int) (ρ46 : Rf) (μ47 : Mem), P z45 ρ46 μ47 → ((z45 ≠ z29 → Post 0 ρ46 μ47) ∧ (z45 = z29 → ∃ P : Int → Rf → Mem → Prop, qE mX7_neededDelay (GX X) (GX X) [qP 0, qI x2] ρ46 μ47 P ∧ ∀ (z49 : Int) (ρ50 : Rf) (μ51 : Mem), P z49 ρ50 μ51 → ((z49 = 0 → Post 0 ρ50 μ51) ∧ (z49 ≠ 0 → ∃ P : Int → Rf → Mem → Prop, qE mX7_undo (GX X) (GX X) [qP 0] ρ50 μ51 P ∧ ∀ (z53 : Int) (ρ54 : Rf) (μ55 : Mem), P z53 ρ54 μ55 → ((0 ≤ z53 → qX mL_bestsHold (GX X) Post (GX X) (0, 0) 227 [some (qP 0), none, some (qI x2), none, none, none, none, none] [] ρ54 μ55) ∧ (z53 < 0 → Post 0 ρ54 μ55))))))))) ∧ (z41 < 0 → Post 0 ρ42 μ43))))))) ∧ (z25 < 0 → qX mL_bestsHold (GX X) Post (GX X) (0, 0) 227 [some (qP 0), none, some (qI x2), none, none, none, none, none] [] ρ26 μ27))))) : qX mL_bestsHold (GX X) Post (GX X) (0, 0) 134 [some (qP 0), none, some (qI x2), none, none, none, none, none] [] ρ μ := by
  refine qX_iload_n 2 dL_bestsHold_134 rfl rfl ?_
  refine qX_iconst dL_bestsHold_135 (i32_of rfl) ?_
  refine qX_icmp_ge 233 dL_bestsHold_136 rfl (fun hc => ?_) (fun hc => ?_)
  · replace h := h.1 hc
    refine qM_aload_n 0 dL_bestsHold_233 rfl rfl shX0 ?_
    obtain ⟨P, hE4, h⟩ := h
    refine qM_callV mX7_worstJob [] _ 7 [] dL_bestsHold_234 cm_L_295 ⟨(Nat.le_of_ble_eq_true rfl), (Nat.le_of_ble_eq_true rfl)⟩ rfl rfl shX0 (Nat.le_of_ble_eq_true rfl) ⟨rfl, rfl⟩ ⟨(Nat.le_of_ble_eq_true rfl), (Nat.le_of_ble_eq_true rfl)⟩ hE4 (fun z1 ρ2 μ3 hz => ?_)
    replace h := h _ _ _ hz
    refine qX_istore_n 2 dL_bestsHold_237 rfl (Nat.le_of_ble_eq_true rfl) rfl ?_
    refine qX_iload_n 2 dL_bestsHold_238 rfl rfl ?_
    refine qX_if_ge 244 dL_bestsHold_239 rfl (fun hc => ?_) (fun hc => ?_)
    · replace h := h.1 hc
      refine qM_aload_n 0 dL_bestsHold_244 rfl rfl shX0 ?_
      obtain ⟨P, hE8, h⟩ := h
      refine qM_callV mX7_deliveredTotal [] _ 7 [] dL_bestsHold_245 cm_L_140 ⟨(Nat.le_of_ble_eq_true rfl), (Nat.le_of_ble_eq_true rfl)⟩ rfl rfl shX0 (Nat.le_of_ble_eq_true rfl) ⟨rfl, rfl⟩ ⟨(Nat.le_of_ble_eq_true rfl), (Nat.le_of_ble_eq_true rfl)⟩ hE8 (fun z5 ρ6 μ7 hz => ?_)
      replace h := h _ _ _ hz
      refine qX_istore_n 3 dL_bestsHold_248 rfl (Nat.le_of_ble_eq_true rfl) rfl ?_
      refine qM_aload_n 0 dL_bestsHold_249 rfl rfl shX0 ?_
      refine qX_iload_n 2 dL_bestsHold_250 rfl rfl ?_
      obtain ⟨P, hE12, h⟩ := h
      refine qM_callV mX7_removeJob [_] _ 7 [] dL_bestsHold_251 cm_L_227 ⟨(Nat.le_of_ble_eq_true rfl), (Nat.le_of_ble_eq_true rfl)⟩ rfl rfl shX0 (Nat.le_of_ble_eq_true rfl) ⟨rfl, rfl⟩ ⟨(Nat.le_of_ble_eq_true rfl), (Nat.le_of_ble_eq_true rfl)⟩ hE12 (fun z9 ρ10 μ11 hz => ?_)
      replace h := h _ _ _ hz
      refine qM_aload_n 0 dL_bestsHold_254 rfl rfl shX0 ?_
      obtain ⟨P, hE16, h⟩ := h
      refine qM_callV mX7_jobCount [] _ 7 [_] dL_bestsHold_255 cm_L_136 ⟨(Nat.le_of_ble_eq_true rfl), (Nat.le_of_ble_eq_true rfl)⟩ rfl rfl shX0 (Nat.le_of_ble_eq_true rfl) ⟨rfl, rfl⟩ ⟨(Nat.le_of_ble_eq_true rfl), (Nat.le_of_ble_eq_true rfl)⟩ hE16 (fun z13 ρ14 μ15 hz => ?_)
      replace h := h _ _ _ hz
      refine qX_icmp_ne 280 dL_bestsHold_258 rfl (fun hc => ?_) (fun hc => ?_)
      · replace h := h.1 hc
        refine qX_iconst dL_bestsHold_280 (i32_of rfl) ?_
        exact qX_zreturn rfl dL_bestsHold_281 rfl ⟨(Nat.le_of_ble_eq_true rfl), (Nat.le_of_ble_eq_true rfl)⟩ (by decide) h
      · replace h := h.2 hc
        refine qM_aload_n 0 dL_bestsHold_261 rfl rfl shX0 ?_
        obtain ⟨P, hE20, h⟩ := h
        refine qM_callV mX7_deliveredTotal [] _ 7 [] dL_bestsHold_262 cm_L_140 ⟨(Nat.le_of_ble_eq_true rfl), (Nat.le_of_ble_eq_true rfl)⟩ rfl rfl shX0 (Nat.le_of_ble_eq_true rfl) ⟨rfl, rfl⟩ ⟨(Nat.le_of_ble_eq_true rfl), (Nat.le_of_ble_eq_true rfl)⟩ hE20 (fun z17 ρ18 μ19 hz => ?_)
        replace h := h _ _ _ hz
        refine qX_iload_n 3 dL_bestsHold_265 rfl rfl ?_
        refine qX_icmp_le 280 dL_bestsHold_266 rfl (fun hc => ?_) (fun hc => ?_)
        · replace h := h.1 hc
          refine qX_iconst dL_bestsHold_280 (i32_of rfl) ?_
          exact qX_zreturn rfl dL_bestsHold_281 rfl ⟨(Nat.le_of_ble_eq_true rfl), (Nat.le_of_ble_eq_true rfl)⟩ (by decide) h
        · replace h := h.2 hc
          refine qM_aload_n 0 dL_bestsHold_269 rfl rfl shX0 ?_
          obtain ⟨P, hE24, h⟩ := h
          refine qM_callV mX7_undo [] _ 7 [] dL_bestsHold_270 cm_L_259 ⟨(Nat.le_of_ble_eq_true rfl), (Nat.le_of_ble_eq_true rfl)⟩ rfl rfl shX0 (Nat.le_of_ble_eq_true rfl) ⟨rfl, rfl⟩ ⟨(Nat.le_of_ble_eq_true rfl), (Nat.le_of_ble_eq_true rfl)⟩ hE24 (fun z21 ρ22 μ23 hz => ?_)
          replace h := h _ _ _ hz
          refine qX_if_lt 280 dL_bestsHold_273 rfl (fun hc => ?_) (fun hc => ?_)
          · replace h := h.1 hc
            refine qX_iconst dL_bestsHold_280 (i32_of rfl) ?_
            exact qX_zreturn rfl dL_bestsHold_281 rfl ⟨(Nat.le_of_ble_eq_true rfl), (Nat.le_of_ble_eq_true rfl)⟩ (by decide) h
          · replace h := h.2 hc
            refine qX_iconst dL_bestsHold_276 (i32_of rfl) ?_
            refine qX_goto 281 dL_bestsHold_277 rfl ?_
            exact qX_zreturn rfl dL_bestsHold_281 rfl ⟨(Nat.le_of_ble_eq_true rfl), (Nat.le_of_ble_eq_true rfl)⟩ (by decide) h
    · replace h := h.2 hc
      refine qX_iconst dL_bestsHold_242 (i32_of rfl) ?_
      exact qX_zreturn rfl dL_bestsHold_243 rfl ⟨(Nat.le_of_ble_eq_true rfl), (Nat.le_of_ble_eq_true rfl)⟩ (by decide) h
  · replace h := h.2 hc
    refine qM_aload_n 0 dL_bestsHold_139 rfl rfl shX0 ?_
    refine qX_iload_n 2 dL_bestsHold_140 rfl rfl ?_
    obtain ⟨P, hE28, h⟩ := h
    refine qM_callV mX7_neededDelay [_] _ 7 [] dL_bestsHold_141 cm_L_292 ⟨(Nat.le_of_ble_eq_true rfl), (Nat.le_of_ble_eq_true rfl)⟩ rfl rfl shX0 (Nat.le_of_ble_eq_true rfl) ⟨rfl, rfl⟩ ⟨(Nat.le_of_ble_eq_true rfl), (Nat.le_of_ble_eq_true rfl)⟩ hE28 (fun z25 ρ26 μ27 hz => ?_)
    replace h := h _ _ _ hz
    refine qX_istore_n 3 dL_bestsHold_144 rfl (Nat.le_of_ble_eq_true rfl) rfl ?_
    refine qX_iload_n 3 dL_bestsHold_145 rfl rfl ?_
    refine qX_if_ge 152 dL_bestsHold_146 rfl (fun hc => ?_) (fun hc => ?_)
    · replace h := h.1 hc
      refine qM_aload_n 0 dL_bestsHold_152 rfl rfl shX0 ?_
      refine qX_iload_n 2 dL_bestsHold_153 rfl rfl ?_
      obtain ⟨P, hE32, h⟩ := h
      refine qM_callV mX7_departure [_] _ 7 [] dL_bestsHold_154 cm_L_187 ⟨(Nat.le_of_ble_eq_true rfl), (Nat.le_of_ble_eq_true rfl)⟩ rfl rfl shX0 (Nat.le_of_ble_eq_true rfl) ⟨rfl, rfl⟩ ⟨(Nat.le_of_ble_eq_true rfl), (Nat.le_of_ble_eq_true rfl)⟩ hE32 (fun z29 ρ30 μ31 hz => ?_)
      replace h := h _ _ _ hz
      refine qX_istore dL_bestsHold_157 (Nat.le_of_ble_eq_true rfl) rfl ?_
      refine qM_aload_n 0 dL_bestsHold_159 rfl rfl shX0 ?_
      refine qX_iload_n 2 dL_bestsHold_160 rfl rfl ?_
      refine qX_iload dL_bestsHold_161 rfl ?_
      refine qX_iload_n 3 dL_bestsHold_163 rfl rfl ?_
      refine qR_iadd dL_bestsHold_164 h.1 ?_
      replace h := h.2
      obtain ⟨P, hE36, h⟩ := h
      refine qM_callV mX7_setDeparture [_, _] _ 7 [] dL_bestsHold_165 cm_L_233 ⟨(Nat.le_of_ble_eq_true rfl), (Nat.le_of_ble_eq_true rfl)⟩ rfl rfl shX0 (Nat.le_of_ble_eq_true rfl) ⟨rfl, rfl⟩ ⟨(Nat.le_of_ble_eq_true rfl), (Nat.le_of_ble_eq_true rfl)⟩ hE36 (fun z33 ρ34 μ35 hz => ?_)
      replace h := h _ _ _ hz
      refine qX_iload dL_bestsHold_168 rfl ?_
      refine qX_icmp_ne 188 dL_bestsHold_170 rfl (fun hc => ?_) (fun hc => ?_)
      · replace h := h.1 hc
        refine qX_iconst dL_bestsHold_188 (i32_of rfl) ?_
        exact qX_zreturn rfl dL_bestsHold_189 rfl ⟨(Nat.le_of_ble_eq_true rfl), (Nat.le_of_ble_eq_true rfl)⟩ (by decide) h
      · replace h := h.2 hc
        refine qM_aload_n 0 dL_bestsHold_173 rfl rfl shX0 ?_
        refine qX_iload_n 2 dL_bestsHold_174 rfl rfl ?_
        obtain ⟨P, hE40, h⟩ := h
        refine qM_callV mX7_neededDelay [_] _ 7 [] dL_bestsHold_175 cm_L_292 ⟨(Nat.le_of_ble_eq_true rfl), (Nat.le_of_ble_eq_true rfl)⟩ rfl rfl shX0 (Nat.le_of_ble_eq_true rfl) ⟨rfl, rfl⟩ ⟨(Nat.le_of_ble_eq_true rfl), (Nat.le_of_ble_eq_true rfl)⟩ hE40 (fun z37 ρ38 μ39 hz => ?_)
        replace h := h _ _ _ hz
        refine qX_if_ne 188 dL_bestsHold_178 rfl (fun hc => ?_) (fun hc => ?_)
        · replace h := h.1 hc
          refine qX_iconst dL_bestsHold_188 (i32_of rfl) ?_
          exact qX_zreturn rfl dL_bestsHold_189 rfl ⟨(Nat.le_of_ble_eq_true rfl), (Nat.le_of_ble_eq_true rfl)⟩ (by decide) h
        · replace h := h.2 hc
          refine qM_aload_n 0 dL_bestsHold_181 rfl rfl shX0 ?_
          obtain ⟨P, hE44, h⟩ := h
          refine qM_callV mX7_undo [] _ 7 [] dL_bestsHold_182 cm_L_259 ⟨(Nat.le_of_ble_eq_true rfl), (Nat.le_of_ble_eq_true rfl)⟩ rfl rfl shX0 (Nat.le_of_ble_eq_true rfl) ⟨rfl, rfl⟩ ⟨(Nat.le_of_ble_eq_true rfl), (Nat.le_of_ble_eq_true rfl)⟩ hE44 (fun z41 ρ42 μ43 hz => ?_)
          replace h := h _ _ _ hz
          refine qX_if_ge 190 dL_bestsHold_185 rfl (fun hc => ?_) (fun hc => ?_)
          · replace h := h.1 hc
            refine qX_iload_n 3 dL_bestsHold_190 rfl rfl ?_
            refine qX_if_le 227 dL_bestsHold_191 rfl (fun hc => ?_) (fun hc => ?_)
            · replace h := h.1 hc
              exact qX_mask [true, false, true, false, false, false, false, false] h
            · replace h := h.2 hc
              refine qM_aload_n 0 dL_bestsHold_194 rfl rfl shX0 ?_
              refine qX_iload_n 2 dL_bestsHold_195 rfl rfl ?_
              refine qX_iload dL_bestsHold_196 rfl ?_
              refine qX_iload_n 3 dL_bestsHold_198 rfl rfl ?_
              refine qR_iadd dL_bestsHold_199 h.1 ?_
              replace h := h.2
              refine qX_iconst dL_bestsHold_200 (i32_of rfl) ?_
              refine qR_isub dL_bestsHold_201 h.1 ?_
              replace h := h.2
              obtain ⟨P, hE48, h⟩ := h
              refine qM_callV mX7_setDeparture [_, _] _ 7 [] dL_bestsHold_202 cm_L_233 ⟨(Nat.le_of_ble_eq_true rfl), (Nat.le_of_ble_eq_true rfl)⟩ rfl rfl shX0 (Nat.le_of_ble_eq_true rfl) ⟨rfl, rfl⟩ ⟨(Nat.le_of_ble_eq_true rfl), (Nat.le_of_ble_eq_true rfl)⟩ hE48 (fun z45 ρ46 μ47 hz => ?_)
              replace h := h _ _ _ hz
              refine qX_iload dL_bestsHold_205 rfl ?_
              refine qX_icmp_ne 225 dL_bestsHold_207 rfl (fun hc => ?_) (fun hc => ?_)
              · replace h := h.1 hc
                refine qX_iconst dL_bestsHold_225 (i32_of rfl) ?_
                exact qX_zreturn rfl dL_bestsHold_226 rfl ⟨(Nat.le_of_ble_eq_true rfl), (Nat.le_of_ble_eq_true rfl)⟩ (by decide) h
              · replace h := h.2 hc
                refine qM_aload_n 0 dL_bestsHold_210 rfl rfl shX0 ?_
                refine qX_iload_n 2 dL_bestsHold_211 rfl rfl ?_
                obtain ⟨P, hE52, h⟩ := h
                refine qM_callV mX7_neededDelay [_] _ 7 [] dL_bestsHold_212 cm_L_292 ⟨(Nat.le_of_ble_eq_true rfl), (Nat.le_of_ble_eq_true rfl)⟩ rfl rfl shX0 (Nat.le_of_ble_eq_true rfl) ⟨rfl, rfl⟩ ⟨(Nat.le_of_ble_eq_true rfl), (Nat.le_of_ble_eq_true rfl)⟩ hE52 (fun z49 ρ50 μ51 hz => ?_)
                replace h := h _ _ _ hz
                refine qX_if_eq 225 dL_bestsHold_215 rfl (fun hc => ?_) (fun hc => ?_)
                · replace h := h.1 hc
                  refine qX_iconst dL_bestsHold_225 (i32_of rfl) ?_
                  exact qX_zreturn rfl dL_bestsHold_226 rfl ⟨(Nat.le_of_ble_eq_true rfl), (Nat.le_of_ble_eq_true rfl)⟩ (by decide) h
                · replace h := h.2 hc
                  refine qM_aload_n 0 dL_bestsHold_218 rfl rfl shX0 ?_
                  obtain ⟨P, hE56, h⟩ := h
                  refine qM_callV mX7_undo [] _ 7 [] dL_bestsHold_219 cm_L_259 ⟨(Nat.le_of_ble_eq_true rfl), (Nat.le_of_ble_eq_true rfl)⟩ rfl rfl shX0 (Nat.le_of_ble_eq_true rfl) ⟨rfl, rfl⟩ ⟨(Nat.le_of_ble_eq_true rfl), (Nat.le_of_ble_eq_true rfl)⟩ hE56 (fun z53 ρ54 μ55 hz => ?_)
                  replace h := h _ _ _ hz
                  refine qX_if_ge 227 dL_bestsHold_222 rfl (fun hc => ?_) (fun hc => ?_)
                  · replace h := h.1 hc
                    exact qX_mask [true, false, true, false, false, false, false, false] h
                  · replace h := h.2 hc
                    refine qX_iconst dL_bestsHold_225 (i32_of rfl) ?_
                    exact qX_zreturn rfl dL_bestsHold_226 rfl ⟨(Nat.le_of_ble_eq_true rfl), (Nat.le_of_ble_eq_true rfl)⟩ (by decide) h
          · replace h := h.2 hc
            refine qX_iconst dL_bestsHold_188 (i32_of rfl) ?_
            exact qX_zreturn rfl dL_bestsHold_189 rfl ⟨(Nat.le_of_ble_eq_true rfl), (Nat.le_of_ble_eq_true rfl)⟩ (by decide) h
    · replace h := h.2 hc
      refine qX_goto 227 dL_bestsHold_149 rfl ?_
      exact qX_mask [true, false, true, false, false, false, false, false] h
set_option maxRecDepth 20000 in
theorem w_L_bestsHold_22 {Post : Int → Rf → Mem → Prop} {ρ : Rf} {μ : Mem} {X : List Sh} {x1 nx1 : Nat} (hx1 : (GX X).2[x1]? = some (10, nx1)) {x2 : Int} {x3 : Int} {x4 : Int} {x5 : Int} {x6 : Int}
  (h : ∃ P : Int → Rf → Mem → Prop, qE mJ6_bitCount_0f7a4 (GX X) (GX X) [qI x3] ρ μ P ∧ ∀ (z1 : Int) (ρ2 : Rf) (μ3 : Mem), P z1 ρ2 μ3 → ((z1 ≤ x6 → ∃ P : Int → Rf → Mem → Prop, qE mX7_bestMeals (GX X) (GX X) [qP 0, qI x2] ρ2 μ3 P ∧ ∀ (z5 : Int) (ρ6 : Rf) (μ7 : Mem), P z5 ρ6 μ7 → ((x4 ≠ z5 → Post 0 ρ6 μ7) ∧ (x4 = z5 → ∃ P : Int → Rf → Mem → Prop, qE mX7_bestOrder (GX X) (GX X) [qP 0, qI x2, qI x5] ρ6 μ7 P ∧ ∀ (z9 : Int) (ρ10 : Rf) (μ11 : Mem), P z9 ρ10 μ11 → ((z9 ≠ (-2147483648) → Post 0 ρ10 μ11) ∧ (z9 = (-2147483648) → ∃ P : Int → Rf → Mem → Prop, qE mX7_error (GX X) (GX X) [qP 0] ρ10 μ11 P ∧ ∀ (z13 : Int) (ρ14 : Rf) (μ15 : Mem), P z13 ρ14 μ15 → ((z13 = 6 → ∃ P : Int → Rf → Mem → Prop, qE mX7_deliveredWithout (GX X) (GX X) [qP 0, qI x2] ρ14 μ15 P ∧ ∀ (z17 : Int) (ρ18 : Rf) (μ19 : Mem), P z17 ρ18 μ19 → ((0 ≤ z17 → i32 (x2 + 1) ∧ qX mL_bestsHold (GX X) Post (GX X) (0, 0) 2 [some (qP 0), some (qP x1), some (qI (x2 + 1)), none, none, none, none, none] [] ρ18 μ19) ∧ (z17 < 0 → Post 0 ρ18 μ19))) ∧ (z13 ≠ 6 → Post 0 ρ14 μ15))))))) ∧ (x6 < z1 → ∃ P : Int → Rf → Mem → Prop, qE mX7_bestOrder (GX X) (GX X) [qP 0, qI x2, qI x6] ρ2 μ3 P ∧ ∀ (z21 : Int) (ρ22 : Rf) (μ23 : Mem), P z21 ρ22 μ23 → ∃ P : Int → Rf → Mem → Prop, qE mX7_jobTrolley (GX X) (GX X) [qP 0, qI z21] ρ22 μ23 P ∧ ∀ (z25 : Int) (ρ26 : Rf) (μ27 : Mem), P z25 ρ26 μ27 → ((z25 = x2 → ∃ P : Int → Rf → Mem → Prop, qE mX7_jobQuantity (GX X) (GX X) [qP 0, qI z21] ρ26 μ27 P ∧ ∀ (z29 : Int) (ρ30 : Rf) (μ31 : Mem), P z29 ρ30 μ31 → i32 (5 * x2) ∧ i32 (51 + (5 * x2)) ∧ (0 ≤ 51 + (5 * x2) ∧ 51 + (5 * x2) < nx1) ∧ i32 (x4 + (min z29 (μ31 x1 (51 + (5 * x2))))) ∧ i32 (x5 + 1) ∧ i32 (x6 + 1) ∧ qX mL_bestsHold (GX X) Post (GX X) (0, 0) 22 [some (qP 0), some (qP x1), some (qI x2), some (qI x3), some (qI (x4 + (min z29 (μ31 x1 (51 + (5 * x2)))))), some (qI (x5 + 1)), some (qI (x6 + 1)), none] [] ρ30 μ31) ∧ (z25 ≠ x2 → Post 0 ρ26 μ27))))) : qX mL_bestsHold (GX X) Post (GX X) (0, 0) 22 [some (qP 0), some (qP x1), some (qI x2), some (qI x3), some (qI x4), some (qI x5), some (qI x6), none] [] ρ μ := by
  refine qX_iload dL_bestsHold_22 rfl ?_
  refine qX_iload_n 3 dL_bestsHold_24 rfl rfl ?_
  obtain ⟨P, hE4, h⟩ := h
  refine qM_callS mJ6_bitCount_0f7a4 [_] [_] dL_bestsHold_25 cm_L_126 ⟨(Nat.le_of_ble_eq_true rfl), (Nat.le_of_ble_eq_true rfl)⟩ rfl rfl (Nat.le_of_ble_eq_true rfl) ⟨rfl, rfl⟩ ⟨(Nat.le_of_ble_eq_true rfl), (Nat.le_of_ble_eq_true rfl)⟩ hE4 (fun z1 ρ2 μ3 hz => ?_)
  replace h := h _ _ _ hz
  refine qX_icmp_ge 83 dL_bestsHold_28 rfl (fun hc => ?_) (fun hc => ?_)
  · replace h := h.1 hc
    refine qX_iload dL_bestsHold_83 rfl ?_
    refine qM_aload_n 0 dL_bestsHold_85 rfl rfl shX0 ?_
    refine qX_iload_n 2 dL_bestsHold_86 rfl rfl ?_
    obtain ⟨P, hE8, h⟩ := h
    refine qM_callV mX7_bestMeals [_] _ 7 [_] dL_bestsHold_87 cm_L_239 ⟨(Nat.le_of_ble_eq_true rfl), (Nat.le_of_ble_eq_true rfl)⟩ rfl rfl shX0 (Nat.le_of_ble_eq_true rfl) ⟨rfl, rfl⟩ ⟨(Nat.le_of_ble_eq_true rfl), (Nat.le_of_ble_eq_true rfl)⟩ hE8 (fun z5 ρ6 μ7 hz => ?_)
    replace h := h _ _ _ hz
    refine qX_icmp_ne 114 dL_bestsHold_90 rfl (fun hc => ?_) (fun hc => ?_)
    · replace h := h.1 hc
      refine qX_iconst dL_bestsHold_114 (i32_of rfl) ?_
      exact qX_zreturn rfl dL_bestsHold_115 rfl ⟨(Nat.le_of_ble_eq_true rfl), (Nat.le_of_ble_eq_true rfl)⟩ (by decide) h
    · replace h := h.2 hc
      refine qM_aload_n 0 dL_bestsHold_93 rfl rfl shX0 ?_
      refine qX_iload_n 2 dL_bestsHold_94 rfl rfl ?_
      refine qX_iload dL_bestsHold_95 rfl ?_
      obtain ⟨P, hE12, h⟩ := h
      refine qM_callV mX7_bestOrder [_, _] _ 7 [] dL_bestsHold_97 cm_L_286 ⟨(Nat.le_of_ble_eq_true rfl), (Nat.le_of_ble_eq_true rfl)⟩ rfl rfl shX0 (Nat.le_of_ble_eq_true rfl) ⟨rfl, rfl⟩ ⟨(Nat.le_of_ble_eq_true rfl), (Nat.le_of_ble_eq_true rfl)⟩ hE12 (fun z9 ρ10 μ11 hz => ?_)
      replace h := h _ _ _ hz
      refine qX_ldc (n := (-2147483648)) dL_bestsHold_100 kK_L_168 (i32_of rfl) ?_
      refine qX_icmp_ne 114 dL_bestsHold_102 rfl (fun hc => ?_) (fun hc => ?_)
      · replace h := h.1 hc
        refine qX_iconst dL_bestsHold_114 (i32_of rfl) ?_
        exact qX_zreturn rfl dL_bestsHold_115 rfl ⟨(Nat.le_of_ble_eq_true rfl), (Nat.le_of_ble_eq_true rfl)⟩ (by decide) h
      · replace h := h.2 hc
        refine qM_aload_n 0 dL_bestsHold_105 rfl rfl shX0 ?_
        obtain ⟨P, hE16, h⟩ := h
        refine qM_callV mX7_error [] _ 7 [] dL_bestsHold_106 cm_L_169 ⟨(Nat.le_of_ble_eq_true rfl), (Nat.le_of_ble_eq_true rfl)⟩ rfl rfl shX0 (Nat.le_of_ble_eq_true rfl) ⟨rfl, rfl⟩ ⟨(Nat.le_of_ble_eq_true rfl), (Nat.le_of_ble_eq_true rfl)⟩ hE16 (fun z13 ρ14 μ15 hz => ?_)
        replace h := h _ _ _ hz
        refine qX_bip dL_bestsHold_109 rfl ?_
        refine qX_icmp_eq 116 dL_bestsHold_111 rfl (fun hc => ?_) (fun hc => ?_)
        · replace h := h.1 hc
          refine qM_aload_n 0 dL_bestsHold_116 rfl rfl shX0 ?_
          refine qX_iload_n 2 dL_bestsHold_117 rfl rfl ?_
          obtain ⟨P, hE20, h⟩ := h
          refine qM_callV mX7_deliveredWithout [_] _ 7 [] dL_bestsHold_118 cm_L_289 ⟨(Nat.le_of_ble_eq_true rfl), (Nat.le_of_ble_eq_true rfl)⟩ rfl rfl shX0 (Nat.le_of_ble_eq_true rfl) ⟨rfl, rfl⟩ ⟨(Nat.le_of_ble_eq_true rfl), (Nat.le_of_ble_eq_true rfl)⟩ hE20 (fun z17 ρ18 μ19 hz => ?_)
          replace h := h _ _ _ hz
          refine qX_if_ge 126 dL_bestsHold_121 rfl (fun hc => ?_) (fun hc => ?_)
          · replace h := h.1 hc
            refine qR_iinc dL_bestsHold_126 rfl (Nat.le_of_ble_eq_true rfl) rfl h.1 ?_
            replace h := h.2
            refine qX_goto 2 dL_bestsHold_129 rfl ?_
            exact qX_mask [true, true, true, false, false, false, false, false] h
          · replace h := h.2 hc
            refine qX_iconst dL_bestsHold_124 (i32_of rfl) ?_
            exact qX_zreturn rfl dL_bestsHold_125 rfl ⟨(Nat.le_of_ble_eq_true rfl), (Nat.le_of_ble_eq_true rfl)⟩ (by decide) h
        · replace h := h.2 hc
          refine qX_iconst dL_bestsHold_114 (i32_of rfl) ?_
          exact qX_zreturn rfl dL_bestsHold_115 rfl ⟨(Nat.le_of_ble_eq_true rfl), (Nat.le_of_ble_eq_true rfl)⟩ (by decide) h
  · replace h := h.2 hc
    refine qM_aload_n 0 dL_bestsHold_31 rfl rfl shX0 ?_
    refine qX_iload_n 2 dL_bestsHold_32 rfl rfl ?_
    refine qX_iload dL_bestsHold_33 rfl ?_
    obtain ⟨P, hE24, h⟩ := h
    refine qM_callV mX7_bestOrder [_, _] _ 7 [] dL_bestsHold_35 cm_L_286 ⟨(Nat.le_of_ble_eq_true rfl), (Nat.le_of_ble_eq_true rfl)⟩ rfl rfl shX0 (Nat.le_of_ble_eq_true rfl) ⟨rfl, rfl⟩ ⟨(Nat.le_of_ble_eq_true rfl), (Nat.le_of_ble_eq_true rfl)⟩ hE24 (fun z21 ρ22 μ23 hz => ?_)
    replace h := h _ _ _ hz
    refine qX_istore dL_bestsHold_38 (Nat.le_of_ble_eq_true rfl) rfl ?_
    refine qM_aload_n 0 dL_bestsHold_40 rfl rfl shX0 ?_
    refine qX_iload dL_bestsHold_41 rfl ?_
    obtain ⟨P, hE28, h⟩ := h
    refine qM_callV mX7_jobTrolley [_] _ 7 [] dL_bestsHold_43 cm_L_147 ⟨(Nat.le_of_ble_eq_true rfl), (Nat.le_of_ble_eq_true rfl)⟩ rfl rfl shX0 (Nat.le_of_ble_eq_true rfl) ⟨rfl, rfl⟩ ⟨(Nat.le_of_ble_eq_true rfl), (Nat.le_of_ble_eq_true rfl)⟩ hE28 (fun z25 ρ26 μ27 hz => ?_)
    replace h := h _ _ _ hz
    refine qX_iload_n 2 dL_bestsHold_46 rfl rfl ?_
    refine qX_icmp_eq 52 dL_bestsHold_47 rfl (fun hc => ?_) (fun hc => ?_)
    · replace h := h.1 hc
      refine qX_iload dL_bestsHold_52 rfl ?_
      refine qM_aload_n 0 dL_bestsHold_54 rfl rfl shX0 ?_
      refine qX_iload dL_bestsHold_55 rfl ?_
      obtain ⟨P, hE32, h⟩ := h
      refine qM_callV mX7_jobQuantity [_] _ 7 [_] dL_bestsHold_57 cm_L_150 ⟨(Nat.le_of_ble_eq_true rfl), (Nat.le_of_ble_eq_true rfl)⟩ rfl rfl shX0 (Nat.le_of_ble_eq_true rfl) ⟨rfl, rfl⟩ ⟨(Nat.le_of_ble_eq_true rfl), (Nat.le_of_ble_eq_true rfl)⟩ hE32 (fun z29 ρ30 μ31 hz => ?_)
      replace h := h _ _ _ hz
      refine qM_aload_n 1 dL_bestsHold_60 rfl rfl hx1 ?_
      refine qX_bip dL_bestsHold_61 rfl ?_
      refine qX_iconst dL_bestsHold_63 (i32_of rfl) ?_
      refine qX_iload_n 2 dL_bestsHold_64 rfl rfl ?_
      refine qR_imul dL_bestsHold_65 h.1 ?_
      replace h := h.2
      refine qR_iadd dL_bestsHold_66 h.1 ?_
      replace h := h.2
      refine qX_iald dL_bestsHold_67 hx1 h.1 ?_
      replace h := h.2
      refine qX_min dL_bestsHold_68 kM_L_81 ⟨(Nat.le_of_ble_eq_true rfl), (Nat.le_of_ble_eq_true rfl)⟩ (Nat.le_of_ble_eq_true rfl) ⟨(Nat.le_of_ble_eq_true rfl), (Nat.le_of_ble_eq_true rfl)⟩ ?_
      refine qR_iadd dL_bestsHold_71 h.1 ?_
      replace h := h.2
      refine qX_istore dL_bestsHold_72 (Nat.le_of_ble_eq_true rfl) rfl ?_
      refine qR_iinc dL_bestsHold_74 rfl (Nat.le_of_ble_eq_true rfl) rfl h.1 ?_
      replace h := h.2
      refine qR_iinc dL_bestsHold_77 rfl (Nat.le_of_ble_eq_true rfl) rfl h.1 ?_
      replace h := h.2
      refine qX_goto 22 dL_bestsHold_80 rfl ?_
      exact qX_mask [true, true, true, true, true, true, true, false] h
    · replace h := h.2 hc
      refine qX_iconst dL_bestsHold_50 (i32_of rfl) ?_
      exact qX_zreturn rfl dL_bestsHold_51 rfl ⟨(Nat.le_of_ble_eq_true rfl), (Nat.le_of_ble_eq_true rfl)⟩ (by decide) h
set_option maxRecDepth 20000 in
theorem w_L_bestsHold_227 {Post : Int → Rf → Mem → Prop} {ρ : Rf} {μ : Mem} {X : List Sh} {x2 : Int}
  (h : i32 (x2 + 1) ∧ qX mL_bestsHold (GX X) Post (GX X) (0, 0) 134 [some (qP 0), none, some (qI (x2 + 1)), none, none, none, none, none] [] ρ μ) : qX mL_bestsHold (GX X) Post (GX X) (0, 0) 227 [some (qP 0), none, some (qI x2), none, none, none, none, none] [] ρ μ := by
  refine qR_iinc dL_bestsHold_227 rfl (Nat.le_of_ble_eq_true rfl) rfl h.1 ?_
  replace h := h.2
  refine qX_goto 134 dL_bestsHold_230 rfl ?_
  exact qX_mask [true, false, true, false, false, false, false, false] h
set_option maxRecDepth 20000 in
theorem e_L_seen {Post : Int → Rf → Mem → Prop} {ρ : Rf} {μ : Mem} {X : List Sh} 
  (h : X.length < 1000 ∧ i32 (0 + 1) ∧ ∃ P : Int → Rf → Mem → Prop, qE mX7_jobCount (GX (X ++ [(10, 120)])) (GX (X ++ [(10, 120)])) [qP 0] ρ μ P ∧ ∀ (z1 : Int) (ρ2 : Rf) (μ3 : Mem), P z1 ρ2 μ3 → ∀ μ5, μ5 = up2 μ3 (178 + X.length) 0 z1 → qX mL_seen (GX (X ++ [(10, 120)])) Post (GX (X ++ [(10, 120)])) (1, 120) 19 [some (qP 0), some (qP (178 + X.length)), some (qI (0 + 1)), some (qI 0)] [] ρ2 μ5) : qE mL_seen (GX (X ++ [(10, 120)])) (GX X) [qP 0] ρ μ Post := by
  refine qE_intro pl_L_seen (Nat.le_of_ble_eq_true rfl) GX_le ?_
  refine qX_bip dL_seen_0 rfl ?_
  refine qM_newI 120 dL_seen_2 rfl (by decide) ⟨(Nat.le_of_ble_eq_true rfl), (Nat.le_of_ble_eq_true rfl)⟩ h.1 ?_
  replace h := h.2
  refine qM_astore_n 1 dL_seen_4 rfl (Nat.le_of_ble_eq_true rfl) rfl shXe ?_
  refine qX_iconst dL_seen_5 (i32_of rfl) ?_
  refine qX_istore_n 2 dL_seen_6 rfl (Nat.le_of_ble_eq_true rfl) rfl ?_
  refine qM_aload_n 1 dL_seen_7 rfl rfl shXe ?_
  refine qX_iload_n 2 dL_seen_8 rfl rfl ?_
  refine qR_iinc dL_seen_9 rfl (Nat.le_of_ble_eq_true rfl) rfl h.1 ?_
  replace h := h.2
  refine qM_aload_n 0 dL_seen_12 rfl rfl shX0 ?_
  obtain ⟨P, hE4, h⟩ := h
  refine qM_callV mX7_jobCount [] _ 7 [_, _] dL_seen_13 cm_L_136 ⟨(Nat.le_of_ble_eq_true rfl), (Nat.le_of_ble_eq_true rfl)⟩ rfl rfl shX0 (Nat.le_of_ble_eq_true rfl) ⟨rfl, rfl⟩ ⟨(Nat.le_of_ble_eq_true rfl), (Nat.le_of_ble_eq_true rfl)⟩ hE4 (fun z1 ρ2 μ3 hz => ?_)
  replace h := h _ _ _ hz
  refine qX_iast dL_seen_16 shXe ⟨by decide, by decide⟩ ?_
  replace h := h _ rfl
  refine qX_iconst dL_seen_17 (i32_of rfl) ?_
  refine qX_istore_n 3 dL_seen_18 rfl (Nat.le_of_ble_eq_true rfl) rfl ?_
  exact qX_mask [true, true, true, true] h
set_option maxRecDepth 20000 in
theorem w_L_seen_19 {Post : Int → Rf → Mem → Prop} {ρ : Rf} {μ : Mem} {X : List Sh} {x1 nx1 : Nat} (hx1 : (GX X).2[x1]? = some (10, nx1)) {x2 : Int} {x3 : Int}
  (h : ((2 ≤ x3 → qX mL_seen (GX X) Post (GX X) (1, 120) 43 [some (qP 0), some (qP x1), some (qI x2), some (qI 0)] [] ρ μ) ∧ (x3 < 2 → i32 (x2 + 1) ∧ ∃ P : Int → Rf → Mem → Prop, qE mX7_departure (GX X) (GX X) [qP 0, qI x3] ρ μ P ∧ ∀ (z1 : Int) (ρ2 : Rf) (μ3 : Mem), P z1 ρ2 μ3 → (0 ≤ x2 ∧ x2 < nx1) ∧ ∀ μ5, μ5 = up2 μ3 x1 x2 z1 → i32 (x3 + 1) ∧ qX mL_seen (GX X) Post (GX X) (1, 120) 19 [some (qP 0), some (qP x1), some (qI (x2 + 1)), some (qI (x3 + 1))] [] ρ2 μ5))) : qX mL_seen (GX X) Post (GX X) (1, 120) 19 [some (qP 0), some (qP x1), some (qI x2), some (qI x3)] [] ρ μ := by
  refine qX_iload_n 3 dL_seen_19 rfl rfl ?_
  refine qX_iconst dL_seen_20 (i32_of rfl) ?_
  refine qX_icmp_ge 41 dL_seen_21 rfl (fun hc => ?_) (fun hc => ?_)
  · replace h := h.1 hc
    refine qX_iconst dL_seen_41 (i32_of rfl) ?_
    refine qX_istore_n 3 dL_seen_42 rfl (Nat.le_of_ble_eq_true rfl) rfl ?_
    exact qX_mask [true, true, true, true] h
  · replace h := h.2 hc
    refine qM_aload_n 1 dL_seen_24 rfl rfl hx1 ?_
    refine qX_iload_n 2 dL_seen_25 rfl rfl ?_
    refine qR_iinc dL_seen_26 rfl (Nat.le_of_ble_eq_true rfl) rfl h.1 ?_
    replace h := h.2
    refine qM_aload_n 0 dL_seen_29 rfl rfl shX0 ?_
    refine qX_iload_n 3 dL_seen_30 rfl rfl ?_
    obtain ⟨P, hE4, h⟩ := h
    refine qM_callV mX7_departure [_] _ 7 [_, _] dL_seen_31 cm_L_187 ⟨(Nat.le_of_ble_eq_true rfl), (Nat.le_of_ble_eq_true rfl)⟩ rfl rfl shX0 (Nat.le_of_ble_eq_true rfl) ⟨rfl, rfl⟩ ⟨(Nat.le_of_ble_eq_true rfl), (Nat.le_of_ble_eq_true rfl)⟩ hE4 (fun z1 ρ2 μ3 hz => ?_)
    replace h := h _ _ _ hz
    refine qX_iast dL_seen_34 hx1 h.1 ?_
    replace h := h.2
    replace h := h _ rfl
    refine qR_iinc dL_seen_35 rfl (Nat.le_of_ble_eq_true rfl) rfl h.1 ?_
    replace h := h.2
    refine qX_goto 19 dL_seen_38 rfl ?_
    exact qX_mask [true, true, true, true] h
set_option maxRecDepth 20000 in
theorem w_L_seen_43 {Post : Int → Rf → Mem → Prop} {ρ : Rf} {μ : Mem} {X : List Sh} {x1 nx1 : Nat} (hx1 : (GX X).2[x1]? = some (10, nx1)) {x2 : Int} {x3 : Int}
  (h : ((4 ≤ x3 → qX mL_seen (GX X) Post (GX X) (1, 120) 72 [some (qP 0), some (qP x1), some (qI x2), some (qI 0)] [] ρ μ) ∧ (x3 < 4 → i32 (x2 + 1) ∧ (0 ≤ x3 ∧ 0 < (2 : Int)) ∧ (0 ≤ x3 ∧ 0 < (2 : Int)) ∧ ∃ P : Int → Rf → Mem → Prop, qE mX7_stock (GX X) (GX X) [qP 0, qI (x3 / 2), qI (x3 % 2)] ρ μ P ∧ ∀ (z1 : Int) (ρ2 : Rf) (μ3 : Mem), P z1 ρ2 μ3 → (0 ≤ x2 ∧ x2 < nx1) ∧ ∀ μ5, μ5 = up2 μ3 x1 x2 z1 → i32 (x3 + 1) ∧ qX mL_seen (GX X) Post (GX X) (1, 120) 43 [some (qP 0), some (qP x1), some (qI (x2 + 1)), some (qI (x3 + 1))] [] ρ2 μ5))) : qX mL_seen (GX X) Post (GX X) (1, 120) 43 [some (qP 0), some (qP x1), some (qI x2), some (qI x3)] [] ρ μ := by
  refine qX_iload_n 3 dL_seen_43 rfl rfl ?_
  refine qX_iconst dL_seen_44 (i32_of rfl) ?_
  refine qX_icmp_ge 70 dL_seen_45 rfl (fun hc => ?_) (fun hc => ?_)
  · replace h := h.1 hc
    refine qX_iconst dL_seen_70 (i32_of rfl) ?_
    refine qX_istore_n 3 dL_seen_71 rfl (Nat.le_of_ble_eq_true rfl) rfl ?_
    exact qX_mask [true, true, true, true] h
  · replace h := h.2 hc
    refine qM_aload_n 1 dL_seen_48 rfl rfl hx1 ?_
    refine qX_iload_n 2 dL_seen_49 rfl rfl ?_
    refine qR_iinc dL_seen_50 rfl (Nat.le_of_ble_eq_true rfl) rfl h.1 ?_
    replace h := h.2
    refine qM_aload_n 0 dL_seen_53 rfl rfl shX0 ?_
    refine qX_iload_n 3 dL_seen_54 rfl rfl ?_
    refine qX_iconst dL_seen_55 (i32_of rfl) ?_
    refine qR_idiv dL_seen_56 h.1 ?_
    replace h := h.2
    refine qX_iload_n 3 dL_seen_57 rfl rfl ?_
    refine qX_iconst dL_seen_58 (i32_of rfl) ?_
    refine qR_irem dL_seen_59 h.1 ?_
    replace h := h.2
    obtain ⟨P, hE4, h⟩ := h
    refine qM_callV mX7_stock [_, _] _ 7 [_, _] dL_seen_60 cm_L_181 ⟨(Nat.le_of_ble_eq_true rfl), (Nat.le_of_ble_eq_true rfl)⟩ rfl rfl shX0 (Nat.le_of_ble_eq_true rfl) ⟨rfl, rfl⟩ ⟨(Nat.le_of_ble_eq_true rfl), (Nat.le_of_ble_eq_true rfl)⟩ hE4 (fun z1 ρ2 μ3 hz => ?_)
    replace h := h _ _ _ hz
    refine qX_iast dL_seen_63 hx1 h.1 ?_
    replace h := h.2
    replace h := h _ rfl
    refine qR_iinc dL_seen_64 rfl (Nat.le_of_ble_eq_true rfl) rfl h.1 ?_
    replace h := h.2
    refine qX_goto 43 dL_seen_67 rfl ?_
    exact qX_mask [true, true, true, true] h
set_option maxRecDepth 20000 in
theorem w_L_seen_72 {Post : Int → Rf → Mem → Prop} {ρ : Rf} {μ : Mem} {X : List Sh} {x1 nx1 : Nat} (hx1 : (GX X).2[x1]? = some (10, nx1)) {x2 : Int} {x3 : Int}
  (h : ((3 ≤ x3 → qX mL_seen (GX X) Post (GX X) (1, 120) 96 [some (qP 0), some (qP x1), some (qI x2), some (qI 0)] [] ρ μ) ∧ (x3 < 3 → i32 (x2 + 1) ∧ ∃ P : Int → Rf → Mem → Prop, qE mX7_bestMeals (GX X) (GX X) [qP 0, qI x3] ρ μ P ∧ ∀ (z1 : Int) (ρ2 : Rf) (μ3 : Mem), P z1 ρ2 μ3 → (0 ≤ x2 ∧ x2 < nx1) ∧ ∀ μ5, μ5 = up2 μ3 x1 x2 z1 → i32 (x3 + 1) ∧ qX mL_seen (GX X) Post (GX X) (1, 120) 72 [some (qP 0), some (qP x1), some (qI (x2 + 1)), some (qI (x3 + 1))] [] ρ2 μ5))) : qX mL_seen (GX X) Post (GX X) (1, 120) 72 [some (qP 0), some (qP x1), some (qI x2), some (qI x3)] [] ρ μ := by
  refine qX_iload_n 3 dL_seen_72 rfl rfl ?_
  refine qX_iconst dL_seen_73 (i32_of rfl) ?_
  refine qX_icmp_ge 94 dL_seen_74 rfl (fun hc => ?_) (fun hc => ?_)
  · replace h := h.1 hc
    refine qX_iconst dL_seen_94 (i32_of rfl) ?_
    refine qX_istore_n 3 dL_seen_95 rfl (Nat.le_of_ble_eq_true rfl) rfl ?_
    exact qX_mask [true, true, true, true] h
  · replace h := h.2 hc
    refine qM_aload_n 1 dL_seen_77 rfl rfl hx1 ?_
    refine qX_iload_n 2 dL_seen_78 rfl rfl ?_
    refine qR_iinc dL_seen_79 rfl (Nat.le_of_ble_eq_true rfl) rfl h.1 ?_
    replace h := h.2
    refine qM_aload_n 0 dL_seen_82 rfl rfl shX0 ?_
    refine qX_iload_n 3 dL_seen_83 rfl rfl ?_
    obtain ⟨P, hE4, h⟩ := h
    refine qM_callV mX7_bestMeals [_] _ 7 [_, _] dL_seen_84 cm_L_239 ⟨(Nat.le_of_ble_eq_true rfl), (Nat.le_of_ble_eq_true rfl)⟩ rfl rfl shX0 (Nat.le_of_ble_eq_true rfl) ⟨rfl, rfl⟩ ⟨(Nat.le_of_ble_eq_true rfl), (Nat.le_of_ble_eq_true rfl)⟩ hE4 (fun z1 ρ2 μ3 hz => ?_)
    replace h := h _ _ _ hz
    refine qX_iast dL_seen_87 hx1 h.1 ?_
    replace h := h.2
    replace h := h _ rfl
    refine qR_iinc dL_seen_88 rfl (Nat.le_of_ble_eq_true rfl) rfl h.1 ?_
    replace h := h.2
    refine qX_goto 72 dL_seen_91 rfl ?_
    exact qX_mask [true, true, true, true] h
set_option maxRecDepth 20000 in
theorem w_L_seen_96 {Post : Int → Rf → Mem → Prop} {ρ : Rf} {μ : Mem} {X : List Sh} {x1 nx1 : Nat} (hx1 : (GX X).2[x1]? = some (10, nx1)) {x2 : Int} {x3 : Int}
  (h : ∃ P : Int → Rf → Mem → Prop, qE mX7_jobCount (GX X) (GX X) [qP 0] ρ μ P ∧ ∀ (z1 : Int) (ρ2 : Rf) (μ3 : Mem), P z1 ρ2 μ3 → ((z1 ≤ x3 → Post ((x1 : Nat) : Int) ρ2 μ3) ∧ (x3 < z1 → i32 (x2 + 1) ∧ ∃ P : Int → Rf → Mem → Prop, qE mX7_jobTrolley (GX X) (GX X) [qP 0, qI x3] ρ2 μ3 P ∧ ∀ (z5 : Int) (ρ6 : Rf) (μ7 : Mem), P z5 ρ6 μ7 → (0 ≤ x2 ∧ x2 < nx1) ∧ ∀ μ9, μ9 = up2 μ7 x1 x2 z5 → i32 ((x2 + 1) + 1) ∧ ∃ P : Int → Rf → Mem → Prop, qE mX7_jobQuantity (GX X) (GX X) [qP 0, qI x3] ρ6 μ9 P ∧ ∀ (z10 : Int) (ρ11 : Rf) (μ12 : Mem), P z10 ρ11 μ12 → (0 ≤ x2 + 1 ∧ x2 + 1 < nx1) ∧ ∀ μ14, μ14 = up2 μ12 x1 (x2 + 1) z10 → i32 (((x2 + 1) + 1) + 1) ∧ ∃ P : Int → Rf → Mem → Prop, qE mX7_unloaded (GX X) (GX X) [qP 0, qI x3] ρ11 μ14 P ∧ ∀ (z15 : Int) (ρ16 : Rf) (μ17 : Mem), P z15 ρ16 μ17 → (0 ≤ (x2 + 1) + 1 ∧ (x2 + 1) + 1 < nx1) ∧ ∀ μ19, μ19 = up2 μ17 x1 ((x2 + 1) + 1) z15 → i32 ((((x2 + 1) + 1) + 1) + 1) ∧ ∃ P : Int → Rf → Mem → Prop, qE mX7_finishTime (GX X) (GX X) [qP 0, qI x3] ρ16 μ19 P ∧ ∀ (z20 : Int) (ρ21 : Rf) (μ22 : Mem), P z20 ρ21 μ22 → (0 ≤ ((x2 + 1) + 1) + 1 ∧ ((x2 + 1) + 1) + 1 < nx1) ∧ ∀ μ24, μ24 = up2 μ22 x1 (((x2 + 1) + 1) + 1) z20 → i32 (x3 + 1) ∧ qX mL_seen (GX X) Post (GX X) (1, 120) 96 [some (qP 0), some (qP x1), some (qI ((((x2 + 1) + 1) + 1) + 1)), some (qI (x3 + 1))] [] ρ21 μ24))) : qX mL_seen (GX X) Post (GX X) (1, 120) 96 [some (qP 0), some (qP x1), some (qI x2), some (qI x3)] [] ρ μ := by
  refine qX_iload_n 3 dL_seen_96 rfl rfl ?_
  refine qM_aload_n 0 dL_seen_97 rfl rfl shX0 ?_
  obtain ⟨P, hE4, h⟩ := h
  refine qM_callV mX7_jobCount [] _ 7 [_] dL_seen_98 cm_L_136 ⟨(Nat.le_of_ble_eq_true rfl), (Nat.le_of_ble_eq_true rfl)⟩ rfl rfl shX0 (Nat.le_of_ble_eq_true rfl) ⟨rfl, rfl⟩ ⟨(Nat.le_of_ble_eq_true rfl), (Nat.le_of_ble_eq_true rfl)⟩ hE4 (fun z1 ρ2 μ3 hz => ?_)
  replace h := h _ _ _ hz
  refine qX_icmp_ge 154 dL_seen_101 rfl (fun hc => ?_) (fun hc => ?_)
  · replace h := h.1 hc
    refine qM_aload_n 1 dL_seen_154 rfl rfl hx1 ?_
    exact qM_areturn rfl dL_seen_155 rfl ⟨(Nat.le_of_ble_eq_true rfl), (Nat.le_of_ble_eq_true rfl)⟩ hx1 h
  · replace h := h.2 hc
    refine qM_aload_n 1 dL_seen_104 rfl rfl hx1 ?_
    refine qX_iload_n 2 dL_seen_105 rfl rfl ?_
    refine qR_iinc dL_seen_106 rfl (Nat.le_of_ble_eq_true rfl) rfl h.1 ?_
    replace h := h.2
    refine qM_aload_n 0 dL_seen_109 rfl rfl shX0 ?_
    refine qX_iload_n 3 dL_seen_110 rfl rfl ?_
    obtain ⟨P, hE8, h⟩ := h
    refine qM_callV mX7_jobTrolley [_] _ 7 [_, _] dL_seen_111 cm_L_147 ⟨(Nat.le_of_ble_eq_true rfl), (Nat.le_of_ble_eq_true rfl)⟩ rfl rfl shX0 (Nat.le_of_ble_eq_true rfl) ⟨rfl, rfl⟩ ⟨(Nat.le_of_ble_eq_true rfl), (Nat.le_of_ble_eq_true rfl)⟩ hE8 (fun z5 ρ6 μ7 hz => ?_)
    replace h := h _ _ _ hz
    refine qX_iast dL_seen_114 hx1 h.1 ?_
    replace h := h.2
    replace h := h _ rfl
    refine qM_aload_n 1 dL_seen_115 rfl rfl hx1 ?_
    refine qX_iload_n 2 dL_seen_116 rfl rfl ?_
    refine qR_iinc dL_seen_117 rfl (Nat.le_of_ble_eq_true rfl) rfl h.1 ?_
    replace h := h.2
    refine qM_aload_n 0 dL_seen_120 rfl rfl shX0 ?_
    refine qX_iload_n 3 dL_seen_121 rfl rfl ?_
    obtain ⟨P, hE13, h⟩ := h
    refine qM_callV mX7_jobQuantity [_] _ 7 [_, _] dL_seen_122 cm_L_150 ⟨(Nat.le_of_ble_eq_true rfl), (Nat.le_of_ble_eq_true rfl)⟩ rfl rfl shX0 (Nat.le_of_ble_eq_true rfl) ⟨rfl, rfl⟩ ⟨(Nat.le_of_ble_eq_true rfl), (Nat.le_of_ble_eq_true rfl)⟩ hE13 (fun z10 ρ11 μ12 hz => ?_)
    replace h := h _ _ _ hz
    refine qX_iast dL_seen_125 hx1 h.1 ?_
    replace h := h.2
    replace h := h _ rfl
    refine qM_aload_n 1 dL_seen_126 rfl rfl hx1 ?_
    refine qX_iload_n 2 dL_seen_127 rfl rfl ?_
    refine qR_iinc dL_seen_128 rfl (Nat.le_of_ble_eq_true rfl) rfl h.1 ?_
    replace h := h.2
    refine qM_aload_n 0 dL_seen_131 rfl rfl shX0 ?_
    refine qX_iload_n 3 dL_seen_132 rfl rfl ?_
    obtain ⟨P, hE18, h⟩ := h
    refine qM_callV mX7_unloaded [_] _ 7 [_, _] dL_seen_133 cm_L_159 ⟨(Nat.le_of_ble_eq_true rfl), (Nat.le_of_ble_eq_true rfl)⟩ rfl rfl shX0 (Nat.le_of_ble_eq_true rfl) ⟨rfl, rfl⟩ ⟨(Nat.le_of_ble_eq_true rfl), (Nat.le_of_ble_eq_true rfl)⟩ hE18 (fun z15 ρ16 μ17 hz => ?_)
    replace h := h _ _ _ hz
    refine qX_iast dL_seen_136 hx1 h.1 ?_
    replace h := h.2
    replace h := h _ rfl
    refine qM_aload_n 1 dL_seen_137 rfl rfl hx1 ?_
    refine qX_iload_n 2 dL_seen_138 rfl rfl ?_
    refine qR_iinc dL_seen_139 rfl (Nat.le_of_ble_eq_true rfl) rfl h.1 ?_
    replace h := h.2
    refine qM_aload_n 0 dL_seen_142 rfl rfl shX0 ?_
    refine qX_iload_n 3 dL_seen_143 rfl rfl ?_
    obtain ⟨P, hE23, h⟩ := h
    refine qM_callV mX7_finishTime [_] _ 7 [_, _] dL_seen_144 cm_L_162 ⟨(Nat.le_of_ble_eq_true rfl), (Nat.le_of_ble_eq_true rfl)⟩ rfl rfl shX0 (Nat.le_of_ble_eq_true rfl) ⟨rfl, rfl⟩ ⟨(Nat.le_of_ble_eq_true rfl), (Nat.le_of_ble_eq_true rfl)⟩ hE23 (fun z20 ρ21 μ22 hz => ?_)
    replace h := h _ _ _ hz
    refine qX_iast dL_seen_147 hx1 h.1 ?_
    replace h := h.2
    replace h := h _ rfl
    refine qR_iinc dL_seen_148 rfl (Nat.le_of_ble_eq_true rfl) rfl h.1 ?_
    replace h := h.2
    refine qX_goto 96 dL_seen_151 rfl ?_
    exact qX_mask [true, true, true, true] h
