/-! ===== conditions of the methods, from cut to cut (generated, part 0) ===== -/
set_option maxRecDepth 20000 in
theorem e_X0_clear {Post : Int → Rf → Mem → Prop} {ρ : Rf} {μ : Mem} {o : Nat} (ho : isO 0 o)
  (h : qX mX0_clear GG Post GG (0, 0) 2 [some (qP o), some (qI 0)] [] ρ μ) : qE mX0_clear GG GG [qP o] ρ μ Post := by
  refine qE_intro pl_X0_clear (Nat.le_of_ble_eq_true rfl) (Nat.le_refl _) ?_
  refine qX_iconst dX0_clear_0 (i32_of rfl) ?_
  refine qX_istore_n 1 dX0_clear_1 rfl (Nat.le_of_ble_eq_true rfl) rfl ?_
  exact qX_mask [true, true] h
set_option maxRecDepth 20000 in
theorem w_X0_clear_2 {Post : Int → Rf → Mem → Prop} {ρ : Rf} {μ : Mem} {o : Nat} (ho : isO 0 o) {x1 : Int}
  (h : ((2 ≤ x1 → ∀ μ1, μ1 = up2 μ o 15 0 → ∀ μ2, μ2 = up2 μ1 o 16 0 → ∀ μ3, μ3 = up2 μ2 o 17 0 → Post 0 ρ μ3) ∧ (x1 < 2 → (0 ≤ x1 ∧ x1 < 2) ∧ ∀ μ4, μ4 = up2 μ (o + 1) x1 0 → (0 ≤ x1 ∧ x1 < 2) ∧ ∀ μ5, μ5 = up2 μ4 (o + 3) x1 0 → i32 (x1 + 1) ∧ qX mX0_clear GG Post GG (0, 0) 2 [some (qP o), some (qI (x1 + 1))] [] ρ μ5))) : qX mX0_clear GG Post GG (0, 0) 2 [some (qP o), some (qI x1)] [] ρ μ := by
  refine qX_iload_n 1 dX0_clear_2 rfl rfl ?_
  refine qX_iconst dX0_clear_3 (i32_of rfl) ?_
  refine qX_icmp_ge 27 dX0_clear_4 rfl (fun hc => ?_) (fun hc => ?_)
  · replace h := h.1 hc
    refine qX_aload_n 0 dX0_clear_27 rfl rfl (shN ho) ?_
    refine qX_iconst dX0_clear_28 (i32_of rfl) ?_
    refine qX_putI 0 15 _ dX0_clear_29 fs_X0_59 ho ?_
    replace h := h _ rfl
    refine qX_aload_n 0 dX0_clear_32 rfl rfl (shN ho) ?_
    refine qX_iconst dX0_clear_33 (i32_of rfl) ?_
    refine qX_putI 0 16 _ dX0_clear_34 fs_X0_63 ho ?_
    replace h := h _ rfl
    refine qX_aload_n 0 dX0_clear_37 rfl rfl (shN ho) ?_
    refine qX_iconst dX0_clear_38 (i32_of rfl) ?_
    refine qX_putI 0 17 _ dX0_clear_39 fs_X0_66 ho ?_
    replace h := h _ rfl
    exact qX_return rfl dX0_clear_42 rfl ⟨(Nat.le_of_ble_eq_true rfl), (Nat.le_of_ble_eq_true rfl)⟩ h
  · replace h := h.2 hc
    refine qX_aload_n 0 dX0_clear_7 rfl rfl (shN ho) ?_
    refine qX_getS 0 0 _ 0 dX0_clear_8 fs_X0_9 rfl rfl ho rfl ?_
    refine qX_iload_n 1 dX0_clear_11 rfl rfl ?_
    refine qX_iconst dX0_clear_12 (i32_of rfl) ?_
    refine qX_zast dX0_clear_13 (ar0_0 ho) h.1 (by decide) ?_
    replace h := h.2
    replace h := h _ rfl
    refine qX_aload_n 0 dX0_clear_14 rfl rfl (shN ho) ?_
    refine qX_getS 0 2 _ 2 dX0_clear_15 fs_X0_19 rfl rfl ho rfl ?_
    refine qX_iload_n 1 dX0_clear_18 rfl rfl ?_
    refine qX_iconst dX0_clear_19 (i32_of rfl) ?_
    refine qX_iast dX0_clear_20 (ar0_2 ho) h.1 ?_
    replace h := h.2
    replace h := h _ rfl
    refine qR_iinc dX0_clear_21 rfl (Nat.le_of_ble_eq_true rfl) rfl h.1 ?_
    replace h := h.2
    refine qX_goto 2 dX0_clear_24 rfl ?_
    exact qX_mask [true, true] h
set_option maxRecDepth 20000 in
theorem e_X0_wanted {Post : Int → Rf → Mem → Prop} {ρ : Rf} {μ : Mem} {o : Nat} (ho : isO 0 o) {x1 : Int} {x2 : Int}
  (h : (0 ≤ x1 ∧ x1 < 10) ∧ (0 ≤ x2 ∧ x2 < 4) ∧ i32 ((μ (o + 5) x1) * (μ (o + 8) x2)) ∧ (0 ≤ x1 ∧ x1 < 10) ∧ (0 ≤ x2 ∧ x2 < 4) ∧ i32 ((μ (o + 6) x1) * (μ (o + 9) x2)) ∧ i32 (((μ (o + 5) x1) * (μ (o + 8) x2)) + ((μ (o + 6) x1) * (μ (o + 9) x2))) ∧ ∃ P : Int → Rf → Mem → Prop, qE mX7_partsRoundedUp GG GG [qI (((μ (o + 5) x1) * (μ (o + 8) x2)) + ((μ (o + 6) x1) * (μ (o + 9) x2))), qI 10] ρ μ P ∧ ∀ (z1 : Int) (ρ2 : Rf) (μ3 : Mem), P z1 ρ2 μ3 → Post z1 ρ2 μ3) : qE mX0_wanted GG GG [qP o, qI x1, qI x2] ρ μ Post := by
  refine qE_intro pl_X0_wanted (Nat.le_of_ble_eq_true rfl) (Nat.le_refl _) ?_
  refine qX_aload_n 0 dX0_wanted_0 rfl rfl (shN ho) ?_
  refine qX_getS 0 4 _ 4 dX0_wanted_1 fs_X0_25 rfl rfl ho rfl ?_
  refine qX_iload_n 1 dX0_wanted_4 rfl rfl ?_
  refine qX_iald dX0_wanted_5 (ar0_4 ho) h.1 ?_
  replace h := h.2
  refine qX_aload_n 0 dX0_wanted_6 rfl rfl (shN ho) ?_
  refine qX_getS 0 7 _ 7 dX0_wanted_7 fs_X0_35 rfl rfl ho rfl ?_
  refine qX_iload_n 2 dX0_wanted_10 rfl rfl ?_
  refine qX_iald dX0_wanted_11 (ar0_7 ho) h.1 ?_
  replace h := h.2
  refine qR_imul dX0_wanted_12 h.1 ?_
  replace h := h.2
  refine qX_aload_n 0 dX0_wanted_13 rfl rfl (shN ho) ?_
  refine qX_getS 0 5 _ 5 dX0_wanted_14 fs_X0_28 rfl rfl ho rfl ?_
  refine qX_iload_n 1 dX0_wanted_17 rfl rfl ?_
  refine qX_iald dX0_wanted_18 (ar0_5 ho) h.1 ?_
  replace h := h.2
  refine qX_aload_n 0 dX0_wanted_19 rfl rfl (shN ho) ?_
  refine qX_getS 0 8 _ 8 dX0_wanted_20 fs_X0_38 rfl rfl ho rfl ?_
  refine qX_iload_n 2 dX0_wanted_23 rfl rfl ?_
  refine qX_iald dX0_wanted_24 (ar0_8 ho) h.1 ?_
  replace h := h.2
  refine qR_imul dX0_wanted_25 h.1 ?_
  replace h := h.2
  refine qR_iadd dX0_wanted_26 h.1 ?_
  replace h := h.2
  refine qX_bip dX0_wanted_27 rfl ?_
  obtain ⟨P, hE4, h⟩ := h
  refine qN_callSN mX7_partsRoundedUp [_, _] [] dX0_wanted_29 cm_X0_69 ⟨(Nat.le_of_ble_eq_true rfl), (Nat.le_of_ble_eq_true rfl)⟩ rfl rfl (Nat.le_of_ble_eq_true rfl) ⟨rfl, rfl⟩ hE4 (fun z1 ρ2 μ3 hz => ?_)
  replace h := h _ _ _ hz
  exact qX_ireturn rfl dX0_wanted_32 rfl ⟨(Nat.le_of_ble_eq_true rfl), (Nat.le_of_ble_eq_true rfl)⟩ h
set_option maxRecDepth 20000 in
theorem e_X0_walk {Post : Int → Rf → Mem → Prop} {ρ : Rf} {μ : Mem} {o : Nat} (ho : isO 0 o) {x1 : Int} {x2 : Int} {x3 : Int}
  (h : (0 ≤ x1 ∧ x1 < 5) ∧ (0 ≤ μ (o + 11) x1 ∧ μ (o + 11) x1 < 3) ∧ (0 ≤ x2 ∧ x2 < 10) ∧ i32 ((μ (o + 10) (μ (o + 11) x1)) - (μ (o + 4) x2)) ∧ i32 (-((μ (o + 10) (μ (o + 11) x1)) - (μ (o + 4) x2))) ∧ ∃ P : Int → Rf → Mem → Prop, qE mX7_partsRoundedUp GG GG [qI (max ((μ (o + 10) (μ (o + 11) x1)) - (μ (o + 4) x2)) (-((μ (o + 10) (μ (o + 11) x1)) - (μ (o + 4) x2)))), qI x3] ρ μ P ∧ ∀ (z1 : Int) (ρ2 : Rf) (μ3 : Mem), P z1 ρ2 μ3 → Post z1 ρ2 μ3) : qE mX0_walk GG GG [qP o, qI x1, qI x2, qI x3] ρ μ Post := by
  refine qE_intro pl_X0_walk (Nat.le_of_ble_eq_true rfl) (Nat.le_refl _) ?_
  refine qX_aload_n 0 dX0_walk_0 rfl rfl (shN ho) ?_
  refine qX_getS 0 9 _ 9 dX0_walk_1 fs_X0_41 rfl rfl ho rfl ?_
  refine qX_aload_n 0 dX0_walk_4 rfl rfl (shN ho) ?_
  refine qX_getS 0 10 _ 10 dX0_walk_5 fs_X0_44 rfl rfl ho rfl ?_
  refine qX_iload_n 1 dX0_walk_8 rfl rfl ?_
  refine qX_iald dX0_walk_9 (ar0_10 ho) h.1 ?_
  replace h := h.2
  refine qX_iald dX0_walk_10 (ar0_9 ho) h.1 ?_
  replace h := h.2
  refine qX_aload_n 0 dX0_walk_11 rfl rfl (shN ho) ?_
  refine qX_getS 0 3 _ 3 dX0_walk_12 fs_X0_22 rfl rfl ho rfl ?_
  refine qX_iload_n 2 dX0_walk_15 rfl rfl ?_
  refine qX_iald dX0_walk_16 (ar0_3 ho) h.1 ?_
  replace h := h.2
  refine qR_isub dX0_walk_17 h.1 ?_
  replace h := h.2
  refine qX_istore dX0_walk_18 (Nat.le_of_ble_eq_true rfl) rfl ?_
  refine qX_iload dX0_walk_20 rfl ?_
  refine qR_abs dX0_walk_22 kM_X0_73 ⟨(Nat.le_of_ble_eq_true rfl), (Nat.le_of_ble_eq_true rfl)⟩ (Nat.le_of_ble_eq_true rfl) ⟨(Nat.le_of_ble_eq_true rfl), (Nat.le_of_ble_eq_true rfl)⟩ h.1 ?_
  replace h := h.2
  refine qX_iload_n 3 dX0_walk_25 rfl rfl ?_
  obtain ⟨P, hE4, h⟩ := h
  refine qN_callSN mX7_partsRoundedUp [_, _] [] dX0_walk_26 cm_X0_69 ⟨(Nat.le_of_ble_eq_true rfl), (Nat.le_of_ble_eq_true rfl)⟩ rfl rfl (Nat.le_of_ble_eq_true rfl) ⟨rfl, rfl⟩ hE4 (fun z1 ρ2 μ3 hz => ?_)
  replace h := h _ _ _ hz
  exact qX_ireturn rfl dX0_walk_29 rfl ⟨(Nat.le_of_ble_eq_true rfl), (Nat.le_of_ble_eq_true rfl)⟩ h
set_option maxRecDepth 20000 in
theorem e_X0_mostMeals {Post : Int → Rf → Mem → Prop} {ρ : Rf} {μ : Mem} {o : Nat} (ho : isO 0 o) {x1 : Int} {x2 : Int}
  (h : (0 ≤ x1 ∧ x1 < 5) ∧ Post (min x2 (μ (o + 12) x1)) ρ μ) : qE mX0_mostMeals GG GG [qP o, qI x1, qI x2] ρ μ Post := by
  refine qE_intro pl_X0_mostMeals (Nat.le_of_ble_eq_true rfl) (Nat.le_refl _) ?_
  refine qX_iload_n 2 dX0_mostMeals_0 rfl rfl ?_
  refine qX_aload_n 0 dX0_mostMeals_1 rfl rfl (shN ho) ?_
  refine qX_getS 0 11 _ 11 dX0_mostMeals_2 fs_X0_47 rfl rfl ho rfl ?_
  refine qX_iload_n 1 dX0_mostMeals_5 rfl rfl ?_
  refine qX_iald dX0_mostMeals_6 (ar0_11 ho) h.1 ?_
  replace h := h.2
  refine qX_min dX0_mostMeals_7 kM_X0_79 ⟨(Nat.le_of_ble_eq_true rfl), (Nat.le_of_ble_eq_true rfl)⟩ (Nat.le_of_ble_eq_true rfl) ⟨(Nat.le_of_ble_eq_true rfl), (Nat.le_of_ble_eq_true rfl)⟩ ?_
  exact qX_ireturn rfl dX0_mostMeals_10 rfl ⟨(Nat.le_of_ble_eq_true rfl), (Nat.le_of_ble_eq_true rfl)⟩ h
set_option maxRecDepth 20000 in
theorem e_X0_mealNamed {Post : Int → Rf → Mem → Prop} {ρ : Rf} {μ : Mem} {o : Nat} (ho : isO 0 o) {x1 : Int}
  (h : qX mX0_mealNamed GG Post GG (0, 0) 2 [some (qP o), some (qJ x1), none, some (qI 0)] [] ρ μ) : qE mX0_mealNamed GG GG [qP o, qJ x1] ρ μ Post := by
  refine qE_intro pl_X0_mealNamed (Nat.le_of_ble_eq_true rfl) (Nat.le_refl _) ?_
  refine qX_iconst dX0_mealNamed_0 (i32_of rfl) ?_
  refine qX_istore_n 3 dX0_mealNamed_1 rfl (Nat.le_of_ble_eq_true rfl) rfl ?_
  exact qX_mask [true, true, false, true] h
set_option maxRecDepth 20000 in
theorem w_X0_mealNamed_2 {Post : Int → Rf → Mem → Prop} {ρ : Rf} {μ : Mem} {o : Nat} (ho : isO 0 o) {x1 : Int} {x3 : Int}
  (h : ((μ o 15 ≤ x3 → Post (-1) ρ μ) ∧ (x3 < μ o 15 → (0 ≤ x3 ∧ x3 < 4) ∧ ((μ (o + 7) x3 ≠ x1 → i32 (x3 + 1) ∧ qX mX0_mealNamed GG Post GG (0, 0) 2 [some (qP o), some (qJ x1), none, some (qI (x3 + 1))] [] ρ μ) ∧ (μ (o + 7) x3 = x1 → Post x3 ρ μ))))) : qX mX0_mealNamed GG Post GG (0, 0) 2 [some (qP o), some (qJ x1), none, some (qI x3)] [] ρ μ := by
  refine qX_iload_n 3 dX0_mealNamed_2 rfl rfl ?_
  refine qX_aload_n 0 dX0_mealNamed_3 rfl rfl (shN ho) ?_
  refine qX_getI 0 15 _ dX0_mealNamed_4 fs_X0_59 ho ?_
  refine qX_icmp_ge 29 dX0_mealNamed_7 rfl (fun hc => ?_) (fun hc => ?_)
  · replace h := h.1 hc
    refine qX_iconst dX0_mealNamed_29 (i32_of rfl) ?_
    exact qX_ireturn rfl dX0_mealNamed_30 rfl ⟨(Nat.le_of_ble_eq_true rfl), (Nat.le_of_ble_eq_true rfl)⟩ h
  · replace h := h.2 hc
    refine qX_aload_n 0 dX0_mealNamed_10 rfl rfl (shN ho) ?_
    refine qX_getS 0 6 _ 6 dX0_mealNamed_11 fs_X0_31 rfl rfl ho rfl ?_
    refine qX_iload_n 3 dX0_mealNamed_14 rfl rfl ?_
    refine qX_lald dX0_mealNamed_15 (ar0_6 ho) h.1 ?_
    replace h := h.2
    refine qX_lload_n 1 dX0_mealNamed_16 rfl rfl ?_
    refine qX_lcmp dX0_mealNamed_17 ?_
    refine qX_if_ne 23 dX0_mealNamed_18 rfl (fun hc => ?_) (fun hc => ?_)
    · replace h := h.1 (fun e => hc (cmpL_eq0.mpr e))
      refine qR_iinc dX0_mealNamed_23 rfl (Nat.le_of_ble_eq_true rfl) rfl h.1 ?_
      replace h := h.2
      refine qX_goto 2 dX0_mealNamed_26 rfl ?_
      exact qX_mask [true, true, false, true] h
    · replace h := h.2 (cmpL_eq0.mp hc)
      refine qX_iload_n 3 dX0_mealNamed_21 rfl rfl ?_
      exact qX_ireturn rfl dX0_mealNamed_22 rfl ⟨(Nat.le_of_ble_eq_true rfl), (Nat.le_of_ble_eq_true rfl)⟩ h
set_option maxRecDepth 20000 in
theorem e_X1_push {Post : Int → Rf → Mem → Prop} {ρ : Rf} {μ : Mem} {x1 : Nat} (hx1 : isO 6 x1)
  (h : ((μ 69 1 < 10 → (0 ≤ μ 69 1 ∧ μ 69 1 < 10) ∧ isO 6 (ρ 70 (μ 69 1)) ∧ ∃ P : Int → Rf → Mem → Prop, qE mX6_copyFrom GG GG [qP (ρ 70 (μ 69 1)), qP x1] ρ μ P ∧ ∀ (z2 : Int) (ρ3 : Rf) (μ4 : Mem), P z2 ρ3 μ4 → i32 ((μ4 69 1) + 1) ∧ ∀ μ6, μ6 = up2 μ4 69 1 ((μ4 69 1) + 1) → Post 0 ρ3 μ6) ∧ (10 ≤ μ 69 1 → ∃ P : Int → Rf → Mem → Prop, qE mX1_dropFirst GG GG [qP 69] ρ μ P ∧ ∀ (z7 : Int) (ρ8 : Rf) (μ9 : Mem), P z7 ρ8 μ9 → (0 ≤ μ9 69 1 ∧ μ9 69 1 < 10) ∧ isO 6 (ρ8 70 (μ9 69 1)) ∧ ∃ P : Int → Rf → Mem → Prop, qE mX6_copyFrom GG GG [qP (ρ8 70 (μ9 69 1)), qP x1] ρ8 μ9 P ∧ ∀ (z12 : Int) (ρ13 : Rf) (μ14 : Mem), P z12 ρ13 μ14 → i32 ((μ14 69 1) + 1) ∧ ∀ μ16, μ16 = up2 μ14 69 1 ((μ14 69 1) + 1) → Post 0 ρ13 μ16))) : qE mX1_push GG GG [qP 69, qP x1] ρ μ Post := by
  refine qE_intro pl_X1_push (Nat.le_of_ble_eq_true rfl) (Nat.le_refl _) ?_
  refine qX_aload_n 0 dX1_push_0 rfl rfl (by decide) ?_
  refine qX_getI 1 1 _ dX1_push_1 fs_X1_18 sh69 ?_
  refine qX_bip dX1_push_4 rfl ?_
  refine qX_icmp_lt 13 dX1_push_6 rfl (fun hc => ?_) (fun hc => ?_)
  · replace h := h.1 hc
    refine qX_aload_n 0 dX1_push_13 rfl rfl (by decide) ?_
    refine qX_getS 1 0 _ 0 dX1_push_14 fs_X1_11 rfl rfl sh69 (x := 70) rfl ?_
    refine qX_aload_n 0 dX1_push_17 rfl rfl (by decide) ?_
    refine qX_getI 1 1 _ dX1_push_18 fs_X1_18 sh69 ?_
    refine qX_aald dX1_push_21 sh70 h.1 ?_
    replace h := h.2
    refine qX_aload_n 1 dX1_push_22 rfl rfl (shN hx1) ?_
    have hO1 := h.1
    replace h := h.2
    obtain ⟨P, hE5, h⟩ := h
    refine qN_callV mX6_copyFrom [_] _ 6 [] dX1_push_23 cm_X1_25 ⟨(Nat.le_of_ble_eq_true rfl), (Nat.le_of_ble_eq_true rfl)⟩ rfl rfl hO1 (Nat.le_of_ble_eq_true rfl) ⟨rfl, rfl⟩ hE5 (fun z2 ρ3 μ4 hz => ?_)
    replace h := h _ _ _ hz
    refine qX_aload_n 0 dX1_push_26 rfl rfl (by decide) ?_
    refine qX_dup dX1_push_27 rfl ?_
    refine qX_getI 1 1 _ dX1_push_28 fs_X1_18 sh69 ?_
    refine qX_iconst dX1_push_31 (i32_of rfl) ?_
    refine qR_iadd dX1_push_32 h.1 ?_
    replace h := h.2
    refine qX_putI 1 1 _ dX1_push_33 fs_X1_18 sh69 ?_
    replace h := h _ rfl
    exact qX_return rfl dX1_push_36 rfl ⟨(Nat.le_of_ble_eq_true rfl), (Nat.le_of_ble_eq_true rfl)⟩ h
  · replace h := h.2 hc
    refine qX_aload_n 0 dX1_push_9 rfl rfl (by decide) ?_
    obtain ⟨P, hE10, h⟩ := h
    refine qN_callV mX1_dropFirst [] _ 1 [] dX1_push_10 cm_X1_22 ⟨(Nat.le_of_ble_eq_true rfl), (Nat.le_of_ble_eq_true rfl)⟩ rfl rfl sh69 (Nat.le_of_ble_eq_true rfl) ⟨rfl, rfl⟩ hE10 (fun z7 ρ8 μ9 hz => ?_)
    replace h := h _ _ _ hz
    refine qX_aload_n 0 dX1_push_13 rfl rfl (by decide) ?_
    refine qX_getS 1 0 _ 0 dX1_push_14 fs_X1_11 rfl rfl sh69 (x := 70) rfl ?_
    refine qX_aload_n 0 dX1_push_17 rfl rfl (by decide) ?_
    refine qX_getI 1 1 _ dX1_push_18 fs_X1_18 sh69 ?_
    refine qX_aald dX1_push_21 sh70 h.1 ?_
    replace h := h.2
    refine qX_aload_n 1 dX1_push_22 rfl rfl (shN hx1) ?_
    have hO11 := h.1
    replace h := h.2
    obtain ⟨P, hE15, h⟩ := h
    refine qN_callV mX6_copyFrom [_] _ 6 [] dX1_push_23 cm_X1_25 ⟨(Nat.le_of_ble_eq_true rfl), (Nat.le_of_ble_eq_true rfl)⟩ rfl rfl hO11 (Nat.le_of_ble_eq_true rfl) ⟨rfl, rfl⟩ hE15 (fun z12 ρ13 μ14 hz => ?_)
    replace h := h _ _ _ hz
    refine qX_aload_n 0 dX1_push_26 rfl rfl (by decide) ?_
    refine qX_dup dX1_push_27 rfl ?_
    refine qX_getI 1 1 _ dX1_push_28 fs_X1_18 sh69 ?_
    refine qX_iconst dX1_push_31 (i32_of rfl) ?_
    refine qR_iadd dX1_push_32 h.1 ?_
    replace h := h.2
    refine qX_putI 1 1 _ dX1_push_33 fs_X1_18 sh69 ?_
    replace h := h _ rfl
    exact qX_return rfl dX1_push_36 rfl ⟨(Nat.le_of_ble_eq_true rfl), (Nat.le_of_ble_eq_true rfl)⟩ h
set_option maxRecDepth 20000 in
theorem e_X1_popInto {Post : Int → Rf → Mem → Prop} {ρ : Rf} {μ : Mem} {x1 : Nat} (hx1 : isO 6 x1)
  (h : ((0 < μ 69 1 → i32 ((μ 69 1) - 1) ∧ ∀ μ1, μ1 = up2 μ 69 1 ((μ 69 1) - 1) → (0 ≤ μ1 69 1 ∧ μ1 69 1 < 10) ∧ isO 6 (ρ 70 (μ1 69 1)) ∧ ∃ P : Int → Rf → Mem → Prop, qE mX6_copyFrom GG GG [qP x1, qP (ρ 70 (μ1 69 1))] ρ μ1 P ∧ ∀ (z3 : Int) (ρ4 : Rf) (μ5 : Mem), P z3 ρ4 μ5 → Post 0 ρ4 μ5) ∧ (μ 69 1 ≤ 0 → Post 0 ρ μ))) : qE mX1_popInto GG GG [qP 69, qP x1] ρ μ Post := by
  refine qE_intro pl_X1_popInto (Nat.le_of_ble_eq_true rfl) (Nat.le_refl _) ?_
  refine qX_aload_n 0 dX1_popInto_0 rfl rfl (by decide) ?_
  refine qX_getI 1 1 _ dX1_popInto_1 fs_X1_18 sh69 ?_
  refine qX_if_gt 8 dX1_popInto_4 rfl (fun hc => ?_) (fun hc => ?_)
  · replace h := h.1 hc
    refine qX_aload_n 0 dX1_popInto_8 rfl rfl (by decide) ?_
    refine qX_dup dX1_popInto_9 rfl ?_
    refine qX_getI 1 1 _ dX1_popInto_10 fs_X1_18 sh69 ?_
    refine qX_iconst dX1_popInto_13 (i32_of rfl) ?_
    refine qR_isub dX1_popInto_14 h.1 ?_
    replace h := h.2
    refine qX_putI 1 1 _ dX1_popInto_15 fs_X1_18 sh69 ?_
    replace h := h _ rfl
    refine qX_aload_n 1 dX1_popInto_18 rfl rfl (shN hx1) ?_
    refine qX_aload_n 0 dX1_popInto_19 rfl rfl (by decide) ?_
    refine qX_getS 1 0 _ 0 dX1_popInto_20 fs_X1_11 rfl rfl sh69 (x := 70) rfl ?_
    refine qX_aload_n 0 dX1_popInto_23 rfl rfl (by decide) ?_
    refine qX_getI 1 1 _ dX1_popInto_24 fs_X1_18 sh69 ?_
    refine qX_aald dX1_popInto_27 sh70 h.1 ?_
    replace h := h.2
    have hO2 := h.1
    replace h := h.2
    obtain ⟨P, hE6, h⟩ := h
    refine qN_callV mX6_copyFrom [_] _ 6 [] dX1_popInto_28 cm_X1_25 ⟨(Nat.le_of_ble_eq_true rfl), (Nat.le_of_ble_eq_true rfl)⟩ rfl rfl hx1 (Nat.le_of_ble_eq_true rfl) ⟨rfl, rfl⟩ hE6 (fun z3 ρ4 μ5 hz => ?_)
    replace h := h _ _ _ hz
    exact qX_return rfl dX1_popInto_31 rfl ⟨(Nat.le_of_ble_eq_true rfl), (Nat.le_of_ble_eq_true rfl)⟩ h
  · replace h := h.2 hc
    exact qX_return rfl dX1_popInto_7 rfl ⟨(Nat.le_of_ble_eq_true rfl), (Nat.le_of_ble_eq_true rfl)⟩ h
set_option maxRecDepth 20000 in
theorem e_X1_dropFirst {Post : Int → Rf → Mem → Prop} {ρ : Rf} {μ : Mem} 
  (h : isO 6 (ρ 70 0) ∧ qX mX1_dropFirst GG Post GG (0, 0) 9 [some (qP 69), some (qP (ρ 70 0)), some (qI 1)] [] ρ μ) : qE mX1_dropFirst GG GG [qP 69] ρ μ Post := by
  refine qE_intro pl_X1_dropFirst (Nat.le_of_ble_eq_true rfl) (Nat.le_refl _) ?_
  refine qX_aload_n 0 dX1_dropFirst_0 rfl rfl (by decide) ?_
  refine qX_getS 1 0 _ 0 dX1_dropFirst_1 fs_X1_11 rfl rfl sh69 (x := 70) rfl ?_
  refine qX_iconst dX1_dropFirst_4 (i32_of rfl) ?_
  refine qX_aald dX1_dropFirst_5 sh70 ⟨by decide, by decide⟩ ?_
  have hO1 := h.1
  replace h := h.2
  refine qX_astore_n 1 dX1_dropFirst_6 rfl (Nat.le_of_ble_eq_true rfl) rfl (shN hO1) ?_
  refine qX_iconst dX1_dropFirst_7 (i32_of rfl) ?_
  refine qX_istore_n 2 dX1_dropFirst_8 rfl (Nat.le_of_ble_eq_true rfl) rfl ?_
  exact qX_mask [true, true, true] h
set_option maxRecDepth 20000 in
theorem w_X1_dropFirst_9 {Post : Int → Rf → Mem → Prop} {ρ : Rf} {μ : Mem} {x1 : Nat} (hx1 : isO 6 x1) {x2 : Int}
  (h : ((10 ≤ x2 → ∀ ρ1, ρ1 = up2 ρ 70 9 x1 → ∀ μ2, μ2 = up2 μ 69 1 9 → Post 0 ρ1 μ2) ∧ (x2 < 10 → i32 (x2 - 1) ∧ (0 ≤ x2 ∧ x2 < 10) ∧ isO 6 (ρ 70 x2) ∧ (0 ≤ x2 - 1 ∧ x2 - 1 < 10) ∧ ∀ ρ4, ρ4 = up2 ρ 70 (x2 - 1) (ρ 70 x2) → i32 (x2 + 1) ∧ qX mX1_dropFirst GG Post GG (0, 0) 9 [some (qP 69), some (qP x1), some (qI (x2 + 1))] [] ρ4 μ))) : qX mX1_dropFirst GG Post GG (0, 0) 9 [some (qP 69), some (qP x1), some (qI x2)] [] ρ μ := by
  refine qX_iload_n 2 dX1_dropFirst_9 rfl rfl ?_
  refine qX_bip dX1_dropFirst_10 rfl ?_
  refine qX_icmp_ge 35 dX1_dropFirst_12 rfl (fun hc => ?_) (fun hc => ?_)
  · replace h := h.1 hc
    refine qX_aload_n 0 dX1_dropFirst_35 rfl rfl (by decide) ?_
    refine qX_getS 1 0 _ 0 dX1_dropFirst_36 fs_X1_11 rfl rfl sh69 (x := 70) rfl ?_
    refine qX_bip dX1_dropFirst_39 rfl ?_
    refine qX_aload_n 1 dX1_dropFirst_41 rfl rfl (shN hx1) ?_
    refine qX_aast dX1_dropFirst_42 sh70 ⟨by decide, by decide⟩ hx1 ?_
    replace h := h _ rfl
    refine qX_aload_n 0 dX1_dropFirst_43 rfl rfl (by decide) ?_
    refine qX_bip dX1_dropFirst_44 rfl ?_
    refine qX_putI 1 1 _ dX1_dropFirst_46 fs_X1_18 sh69 ?_
    replace h := h _ rfl
    exact qX_return rfl dX1_dropFirst_49 rfl ⟨(Nat.le_of_ble_eq_true rfl), (Nat.le_of_ble_eq_true rfl)⟩ h
  · replace h := h.2 hc
    refine qX_aload_n 0 dX1_dropFirst_15 rfl rfl (by decide) ?_
    refine qX_getS 1 0 _ 0 dX1_dropFirst_16 fs_X1_11 rfl rfl sh69 (x := 70) rfl ?_
    refine qX_iload_n 2 dX1_dropFirst_19 rfl rfl ?_
    refine qX_iconst dX1_dropFirst_20 (i32_of rfl) ?_
    refine qR_isub dX1_dropFirst_21 h.1 ?_
    replace h := h.2
    refine qX_aload_n 0 dX1_dropFirst_22 rfl rfl (by decide) ?_
    refine qX_getS 1 0 _ 0 dX1_dropFirst_23 fs_X1_11 rfl rfl sh69 (x := 70) rfl ?_
    refine qX_iload_n 2 dX1_dropFirst_26 rfl rfl ?_
    refine qX_aald dX1_dropFirst_27 sh70 h.1 ?_
    replace h := h.2
    have hO3 := h.1
    replace h := h.2
    refine qX_aast dX1_dropFirst_28 sh70 h.1 hO3 ?_
    replace h := h.2
    replace h := h _ rfl
    refine qR_iinc dX1_dropFirst_29 rfl (Nat.le_of_ble_eq_true rfl) rfl h.1 ?_
    replace h := h.2
    refine qX_goto 9 dX1_dropFirst_32 rfl ?_
    exact qX_mask [true, true, true] h
set_option maxRecDepth 20000 in
theorem e_X2_putFour {Post : Int → Rf → Mem → Prop} {ρ : Rf} {μ : Mem} {x1 : Int}
  (h : qX mX2_putFour GG Post GG (0, 0) 3 [some (qP 1), some (qI x1), some (qI 24)] [] ρ μ) : qE mX2_putFour GG GG [qP 1, qI x1] ρ μ Post := by
  refine qE_intro pl_X2_putFour (Nat.le_of_ble_eq_true rfl) (Nat.le_refl _) ?_
  refine qX_bip dX2_putFour_0 rfl ?_
  refine qX_istore_n 2 dX2_putFour_2 rfl (Nat.le_of_ble_eq_true rfl) rfl ?_
  exact qX_mask [true, true, true] h
set_option maxRecDepth 20000 in
theorem w_X2_putFour_3 {Post : Int → Rf → Mem → Prop} {ρ : Rf} {μ : Mem} {x1 : Int} {x2 : Int}
  (h : ((x2 < 0 → Post 0 ρ μ) ∧ (0 ≤ x2 → ((900 ≤ μ 1 2 → i32 (x2 + (-8)) ∧ qX mX2_putFour GG Post GG (0, 0) 3 [some (qP 1), some (qI x1), some (qI (x2 + (-8)))] [] ρ μ) ∧ (μ 1 2 < 900 → (0 ≤ μ 1 2 ∧ μ 1 2 < 900) ∧ ∀ μ1, μ1 = up2 μ 2 (μ 1 2) (i2b32 (i2b32 (ushr32 x1 x2))) → i32 ((μ1 1 2) + 1) ∧ ∀ μ2, μ2 = up2 μ1 1 2 ((μ1 1 2) + 1) → i32 (x2 + (-8)) ∧ qX mX2_putFour GG Post GG (0, 0) 3 [some (qP 1), some (qI x1), some (qI (x2 + (-8)))] [] ρ μ2))))) : qX mX2_putFour GG Post GG (0, 0) 3 [some (qP 1), some (qI x1), some (qI x2)] [] ρ μ := by
  refine qX_iload_n 2 dX2_putFour_3 rfl rfl ?_
  refine qX_if_lt 46 dX2_putFour_4 rfl (fun hc => ?_) (fun hc => ?_)
  · replace h := h.1 hc
    exact qX_return rfl dX2_putFour_46 rfl ⟨(Nat.le_of_ble_eq_true rfl), (Nat.le_of_ble_eq_true rfl)⟩ h
  · replace h := h.2 hc
    refine qX_aload_n 0 dX2_putFour_7 rfl rfl (by decide) ?_
    refine qX_getI 2 2 _ dX2_putFour_8 fs_X2_37 sh1 ?_
    refine qX_sip dX2_putFour_11 rfl ?_
    refine qX_icmp_ge 40 dX2_putFour_14 rfl (fun hc => ?_) (fun hc => ?_)
    · replace h := h.1 hc
      refine qR_iinc dX2_putFour_40 rfl (Nat.le_of_ble_eq_true rfl) rfl h.1 ?_
      replace h := h.2
      refine qX_goto 3 dX2_putFour_43 rfl ?_
      exact qX_mask [true, true, true] h
    · replace h := h.2 hc
      refine qX_aload_n 0 dX2_putFour_17 rfl rfl (by decide) ?_
      refine qX_getS 2 0 _ 0 dX2_putFour_18 fs_X2_9 rfl rfl sh1 (x := 2) rfl ?_
      refine qX_aload_n 0 dX2_putFour_21 rfl rfl (by decide) ?_
      refine qX_getI 2 2 _ dX2_putFour_22 fs_X2_37 sh1 ?_
      refine qX_iload_n 1 dX2_putFour_25 rfl rfl ?_
      refine qX_iload_n 2 dX2_putFour_26 rfl rfl ?_
      refine qX_iushr dX2_putFour_27 ?_
      refine qX_i2b dX2_putFour_28 ?_
      refine qX_bast dX2_putFour_29 sh2 h.1 ?_
      replace h := h.2
      replace h := h _ rfl
      refine qX_aload_n 0 dX2_putFour_30 rfl rfl (by decide) ?_
      refine qX_dup dX2_putFour_31 rfl ?_
      refine qX_getI 2 2 _ dX2_putFour_32 fs_X2_37 sh1 ?_
      refine qX_iconst dX2_putFour_35 (i32_of rfl) ?_
      refine qR_iadd dX2_putFour_36 h.1 ?_
      replace h := h.2
      refine qX_putI 2 2 _ dX2_putFour_37 fs_X2_37 sh1 ?_
      replace h := h _ rfl
      refine qR_iinc dX2_putFour_40 rfl (Nat.le_of_ble_eq_true rfl) rfl h.1 ?_
      replace h := h.2
      refine qX_goto 3 dX2_putFour_43 rfl ?_
      exact qX_mask [true, true, true] h
set_option maxRecDepth 20000 in
theorem e_X2_parse {Post : Int → Rf → Mem → Prop} {ρ : Rf} {μ : Mem} {x1 : Int}
  (h : isO 0 (ρ 1 5) ∧ ∃ P : Int → Rf → Mem → Prop, qE mX0_clear GG GG [qP (ρ 1 5)] ρ μ P ∧ ∀ (z2 : Int) (ρ3 : Rf) (μ4 : Mem), P z2 ρ3 μ4 → isO 6 (ρ3 1 6) ∧ ∃ P : Int → Rf → Mem → Prop, qE mX6_clear GG GG [qP (ρ3 1 6)] ρ3 μ4 P ∧ ∀ (z7 : Int) (ρ8 : Rf) (μ9 : Mem), P z7 ρ8 μ9 → qX mX2_parse GG Post GG (0, 0) 16 [some (qP 1), some (qI x1), some (qI 0)] [] ρ8 μ9) : qE mX2_parse GG GG [qP 1, qI x1] ρ μ Post := by
  refine qE_intro pl_X2_parse (Nat.le_of_ble_eq_true rfl) (Nat.le_refl _) ?_
  refine qX_aload_n 0 dX2_parse_0 rfl rfl (by decide) ?_
  refine qX_getR 2 5 _ dX2_parse_1 fs_X2_26 sh1 ?_
  have hO1 := h.1
  replace h := h.2
  obtain ⟨P, hE5, h⟩ := h
  refine qN_callV mX0_clear [] _ 0 [] dX2_parse_4 cm_X2_40 ⟨(Nat.le_of_ble_eq_true rfl), (Nat.le_of_ble_eq_true rfl)⟩ rfl rfl hO1 (Nat.le_of_ble_eq_true rfl) ⟨rfl, rfl⟩ hE5 (fun z2 ρ3 μ4 hz => ?_)
  replace h := h _ _ _ hz
  refine qX_aload_n 0 dX2_parse_7 rfl rfl (by decide) ?_
  refine qX_getR 2 6 _ dX2_parse_8 fs_X2_33 sh1 ?_
  have hO6 := h.1
  replace h := h.2
  obtain ⟨P, hE10, h⟩ := h
  refine qN_callV mX6_clear [] _ 6 [] dX2_parse_11 cm_X2_43 ⟨(Nat.le_of_ble_eq_true rfl), (Nat.le_of_ble_eq_true rfl)⟩ rfl rfl hO6 (Nat.le_of_ble_eq_true rfl) ⟨rfl, rfl⟩ hE10 (fun z7 ρ8 μ9 hz => ?_)
  replace h := h _ _ _ hz
  refine qX_iconst dX2_parse_14 (i32_of rfl) ?_
  refine qX_istore_n 2 dX2_parse_15 rfl (Nat.le_of_ble_eq_true rfl) rfl ?_
  exact qX_mask [true, true, true] h
set_option maxRecDepth 20000 in
theorem w_X2_parse_16 {Post : Int → Rf → Mem → Prop} {ρ : Rf} {μ : Mem} {x1 : Int} {x2 : Int}
  (h : ((12 ≤ x2 → ∀ μ1, μ1 = up2 μ 1 3 0 → ∀ μ2, μ2 = up2 μ1 1 4 (-1) → ∀ μ3, μ3 = up2 μ2 1 7 x1 → ∀ μ4, μ4 = up2 μ3 1 8 0 → qX mX2_parse GG Post GG (0, 0) 57 [some (qP 1), none, some (qI 0)] [] ρ μ4) ∧ (x2 < 12 → (0 ≤ x2 ∧ x2 < 12) ∧ ∀ μ5, μ5 = up2 μ 3 x2 0 → i32 (x2 + 1) ∧ qX mX2_parse GG Post GG (0, 0) 16 [some (qP 1), some (qI x1), some (qI (x2 + 1))] [] ρ μ5))) : qX mX2_parse GG Post GG (0, 0) 16 [some (qP 1), some (qI x1), some (qI x2)] [] ρ μ := by
  refine qX_iload_n 2 dX2_parse_16 rfl rfl ?_
  refine qX_bip dX2_parse_17 rfl ?_
  refine qX_icmp_ge 35 dX2_parse_19 rfl (fun hc => ?_) (fun hc => ?_)
  · replace h := h.1 hc
    refine qX_aload_n 0 dX2_parse_35 rfl rfl (by decide) ?_
    refine qX_iconst dX2_parse_36 (i32_of rfl) ?_
    refine qX_putI 2 3 _ dX2_parse_37 fs_X2_44 sh1 ?_
    replace h := h _ rfl
    refine qX_aload_n 0 dX2_parse_40 rfl rfl (by decide) ?_
    refine qX_iconst dX2_parse_41 (i32_of rfl) ?_
    refine qX_putI 2 4 _ dX2_parse_42 fs_X2_19 sh1 ?_
    replace h := h _ rfl
    refine qX_aload_n 0 dX2_parse_45 rfl rfl (by decide) ?_
    refine qX_iload_n 1 dX2_parse_46 rfl rfl ?_
    refine qX_putI 2 7 _ dX2_parse_47 fs_X2_47 sh1 ?_
    replace h := h _ rfl
    refine qX_aload_n 0 dX2_parse_50 rfl rfl (by decide) ?_
    refine qX_iconst dX2_parse_51 (i32_of rfl) ?_
    refine qX_putI 2 8 _ dX2_parse_52 fs_X2_50 sh1 ?_
    replace h := h _ rfl
    refine qX_iconst dX2_parse_55 (i32_of rfl) ?_
    refine qX_istore_n 2 dX2_parse_56 rfl (Nat.le_of_ble_eq_true rfl) rfl ?_
    exact qX_mask [true, false, true] h
  · replace h := h.2 hc
    refine qX_aload_n 0 dX2_parse_22 rfl rfl (by decide) ?_
    refine qX_getS 2 1 _ 1 dX2_parse_23 fs_X2_15 rfl rfl sh1 (x := 3) rfl ?_
    refine qX_iload_n 2 dX2_parse_26 rfl rfl ?_
    refine qX_iconst dX2_parse_27 (i32_of rfl) ?_
    refine qX_zast dX2_parse_28 sh3 h.1 (by decide) ?_
    replace h := h.2
    replace h := h _ rfl
    refine qR_iinc dX2_parse_29 rfl (Nat.le_of_ble_eq_true rfl) rfl h.1 ?_
    replace h := h.2
    refine qX_goto 16 dX2_parse_32 rfl ?_
    exact qX_mask [true, true, true] h
set_option maxRecDepth 20000 in
theorem w_X2_parse_57 {Post : Int → Rf → Mem → Prop} {ρ : Rf} {μ : Mem} {x2 : Int}
  (h : ((900 < x2 → qX mX2_parse GG Post GG (0, 0) 96 [some (qP 1), none, none] [] ρ μ) ∧ (x2 ≤ 900 → ∃ P : Int → Rf → Mem → Prop, qE mX2_readLine GG GG [qP 1] ρ μ P ∧ ∀ (z1 : Int) (ρ2 : Rf) (μ3 : Mem), P z1 ρ2 μ3 → ∃ P : Int → Rf → Mem → Prop, qE mX2_advance GG GG [qP 1] ρ2 μ3 P ∧ ∀ (z5 : Int) (ρ6 : Rf) (μ7 : Mem), P z5 ρ6 μ7 → ((μ7 1 3 ≠ 0 → qX mX2_parse GG Post GG (0, 0) 96 [some (qP 1), none, none] [] ρ6 μ7) ∧ (μ7 1 3 = 0 → ((μ7 1 10 = 3 → i32 (x2 + 1) ∧ qX mX2_parse GG Post GG (0, 0) 57 [some (qP 1), none, some (qI (x2 + 1))] [] ρ6 μ7) ∧ (μ7 1 10 ≠ 3 → qX mX2_parse GG Post GG (0, 0) 96 [some (qP 1), none, none] [] ρ6 μ7))))))) : qX mX2_parse GG Post GG (0, 0) 57 [some (qP 1), none, some (qI x2)] [] ρ μ := by
  refine qX_iload_n 2 dX2_parse_57 rfl rfl ?_
  refine qX_sip dX2_parse_58 rfl ?_
  refine qX_icmp_gt 96 dX2_parse_61 rfl (fun hc => ?_) (fun hc => ?_)
  · replace h := h.1 hc
    exact qX_mask [true, false, false] h
  · replace h := h.2 hc
    refine qX_aload_n 0 dX2_parse_64 rfl rfl (by decide) ?_
    obtain ⟨P, hE4, h⟩ := h
    refine qN_callV mX2_readLine [] _ 2 [] dX2_parse_65 cm_X2_53 ⟨(Nat.le_of_ble_eq_true rfl), (Nat.le_of_ble_eq_true rfl)⟩ rfl rfl sh1 (Nat.le_of_ble_eq_true rfl) ⟨rfl, rfl⟩ hE4 (fun z1 ρ2 μ3 hz => ?_)
    replace h := h _ _ _ hz
    refine qX_aload_n 0 dX2_parse_68 rfl rfl (by decide) ?_
    obtain ⟨P, hE8, h⟩ := h
    refine qN_callV mX2_advance [] _ 2 [] dX2_parse_69 cm_X2_56 ⟨(Nat.le_of_ble_eq_true rfl), (Nat.le_of_ble_eq_true rfl)⟩ rfl rfl sh1 (Nat.le_of_ble_eq_true rfl) ⟨rfl, rfl⟩ hE8 (fun z5 ρ6 μ7 hz => ?_)
    replace h := h _ _ _ hz
    refine qX_aload_n 0 dX2_parse_72 rfl rfl (by decide) ?_
    refine qX_getI 2 3 _ dX2_parse_73 fs_X2_44 sh1 ?_
    refine qX_if_ne 96 dX2_parse_76 rfl (fun hc => ?_) (fun hc => ?_)
    · replace h := h.1 hc
      exact qX_mask [true, false, false] h
    · replace h := h.2 hc
      refine qX_aload_n 0 dX2_parse_79 rfl rfl (by decide) ?_
      refine qX_getI 2 10 _ dX2_parse_80 fs_X2_59 sh1 ?_
      refine qX_iconst dX2_parse_83 (i32_of rfl) ?_
      refine qX_icmp_eq 90 dX2_parse_84 rfl (fun hc => ?_) (fun hc => ?_)
      · replace h := h.1 hc
        refine qR_iinc dX2_parse_90 rfl (Nat.le_of_ble_eq_true rfl) rfl h.1 ?_
        replace h := h.2
        refine qX_goto 57 dX2_parse_93 rfl ?_
        exact qX_mask [true, false, true] h
      · replace h := h.2 hc
        refine qX_goto 96 dX2_parse_87 rfl ?_
        exact qX_mask [true, false, false] h
set_option maxRecDepth 20000 in
theorem w_X2_parse_96 {Post : Int → Rf → Mem → Prop} {ρ : Rf} {μ : Mem} 
  (h : ((μ 1 10 = 0 → qX mX2_parse GG Post GG (0, 0) 108 [some (qP 1), none, none] [] ρ μ) ∧ (μ 1 10 ≠ 0 → ∃ P : Int → Rf → Mem → Prop, qE mX2_refuse GG GG [qP 1, qI 1] ρ μ P ∧ ∀ (z1 : Int) (ρ2 : Rf) (μ3 : Mem), P z1 ρ2 μ3 → qX mX2_parse GG Post GG (0, 0) 108 [some (qP 1), none, none] [] ρ2 μ3))) : qX mX2_parse GG Post GG (0, 0) 96 [some (qP 1), none, none] [] ρ μ := by
  refine qX_aload_n 0 dX2_parse_96 rfl rfl (by decide) ?_
  refine qX_getI 2 10 _ dX2_parse_97 fs_X2_59 sh1 ?_
  refine qX_if_eq 108 dX2_parse_100 rfl (fun hc => ?_) (fun hc => ?_)
  · replace h := h.1 hc
    exact qX_mask [true, false, false] h
  · replace h := h.2 hc
    refine qX_aload_n 0 dX2_parse_103 rfl rfl (by decide) ?_
    refine qX_iconst dX2_parse_104 (i32_of rfl) ?_
    obtain ⟨P, hE4, h⟩ := h
    refine qN_callV mX2_refuse [_] _ 2 [] dX2_parse_105 cm_X2_62 ⟨(Nat.le_of_ble_eq_true rfl), (Nat.le_of_ble_eq_true rfl)⟩ rfl rfl sh1 (Nat.le_of_ble_eq_true rfl) ⟨rfl, rfl⟩ hE4 (fun z1 ρ2 μ3 hz => ?_)
    replace h := h _ _ _ hz
    exact qX_mask [true, false, false] h
set_option maxRecDepth 20000 in
theorem w_X2_parse_108 {Post : Int → Rf → Mem → Prop} {ρ : Rf} {μ : Mem} 
  (h : ∃ P : Int → Rf → Mem → Prop, qE mX2_isComplete GG GG [qP 1] ρ μ P ∧ ∀ (z1 : Int) (ρ2 : Rf) (μ3 : Mem), P z1 ρ2 μ3 → ((z1 ≠ 0 → Post 0 ρ2 μ3) ∧ (z1 = 0 → ∃ P : Int → Rf → Mem → Prop, qE mX2_refuse GG GG [qP 1, qI 5] ρ2 μ3 P ∧ ∀ (z5 : Int) (ρ6 : Rf) (μ7 : Mem), P z5 ρ6 μ7 → Post 0 ρ6 μ7))) : qX mX2_parse GG Post GG (0, 0) 108 [some (qP 1), none, none] [] ρ μ := by
  refine qX_aload_n 0 dX2_parse_108 rfl rfl (by decide) ?_
  obtain ⟨P, hE4, h⟩ := h
  refine qN_callV mX2_isComplete [] _ 2 [] dX2_parse_109 cm_X2_66 ⟨(Nat.le_of_ble_eq_true rfl), (Nat.le_of_ble_eq_true rfl)⟩ rfl rfl sh1 (Nat.le_of_ble_eq_true rfl) ⟨rfl, rfl⟩ hE4 (fun z1 ρ2 μ3 hz => ?_)
  replace h := h _ _ _ hz
  refine qX_if_ne 120 dX2_parse_112 rfl (fun hc => ?_) (fun hc => ?_)
  · replace h := h.1 hc
    exact qX_return rfl dX2_parse_120 rfl ⟨(Nat.le_of_ble_eq_true rfl), (Nat.le_of_ble_eq_true rfl)⟩ h
  · replace h := h.2 hc
    refine qX_aload_n 0 dX2_parse_115 rfl rfl (by decide) ?_
    refine qX_iconst dX2_parse_116 (i32_of rfl) ?_
    obtain ⟨P, hE8, h⟩ := h
    refine qN_callV mX2_refuse [_] _ 2 [] dX2_parse_117 cm_X2_62 ⟨(Nat.le_of_ble_eq_true rfl), (Nat.le_of_ble_eq_true rfl)⟩ rfl rfl sh1 (Nat.le_of_ble_eq_true rfl) ⟨rfl, rfl⟩ hE8 (fun z5 ρ6 μ7 hz => ?_)
    replace h := h _ _ _ hz
    exact qX_return rfl dX2_parse_120 rfl ⟨(Nat.le_of_ble_eq_true rfl), (Nat.le_of_ble_eq_true rfl)⟩ h
set_option maxRecDepth 20000 in
theorem e_X2_refuse {Post : Int → Rf → Mem → Prop} {ρ : Rf} {μ : Mem} {x1 : Int}
  (h : ((μ 1 3 ≠ 0 → Post 0 ρ μ) ∧ (μ 1 3 = 0 → ∀ μ1, μ1 = up2 μ 1 3 x1 → ∀ μ2, μ2 = up2 μ1 1 4 (μ1 1 9) → Post 0 ρ μ2))) : qE mX2_refuse GG GG [qP 1, qI x1] ρ μ Post := by
  refine qE_intro pl_X2_refuse (Nat.le_of_ble_eq_true rfl) (Nat.le_refl _) ?_
  refine qX_aload_n 0 dX2_refuse_0 rfl rfl (by decide) ?_
  refine qX_getI 2 3 _ dX2_refuse_1 fs_X2_44 sh1 ?_
  refine qX_if_ne 20 dX2_refuse_4 rfl (fun hc => ?_) (fun hc => ?_)
  · replace h := h.1 hc
    exact qX_return rfl dX2_refuse_20 rfl ⟨(Nat.le_of_ble_eq_true rfl), (Nat.le_of_ble_eq_true rfl)⟩ h
  · replace h := h.2 hc
    refine qX_aload_n 0 dX2_refuse_7 rfl rfl (by decide) ?_
    refine qX_iload_n 1 dX2_refuse_8 rfl rfl ?_
    refine qX_putI 2 3 _ dX2_refuse_9 fs_X2_44 sh1 ?_
    replace h := h _ rfl
    refine qX_aload_n 0 dX2_refuse_12 rfl rfl (by decide) ?_
    refine qX_aload_n 0 dX2_refuse_13 rfl rfl (by decide) ?_
    refine qX_getI 2 9 _ dX2_refuse_14 fs_X2_70 sh1 ?_
    refine qX_putI 2 4 _ dX2_refuse_17 fs_X2_19 sh1 ?_
    replace h := h _ rfl
    exact qX_return rfl dX2_refuse_20 rfl ⟨(Nat.le_of_ble_eq_true rfl), (Nat.le_of_ble_eq_true rfl)⟩ h
set_option maxRecDepth 20000 in
theorem e_X2_isComplete {Post : Int → Rf → Mem → Prop} {ρ : Rf} {μ : Mem} 
  (h : qX mX2_isComplete GG Post GG (0, 0) 2 [some (qP 1), some (qI 0)] [] ρ μ) : qE mX2_isComplete GG GG [qP 1] ρ μ Post := by
  refine qE_intro pl_X2_isComplete (Nat.le_of_ble_eq_true rfl) (Nat.le_refl _) ?_
  refine qX_iconst dX2_isComplete_0 (i32_of rfl) ?_
  refine qX_istore_n 1 dX2_isComplete_1 rfl (Nat.le_of_ble_eq_true rfl) rfl ?_
  exact qX_mask [true, true] h
set_option maxRecDepth 20000 in
theorem w_X2_isComplete_2 {Post : Int → Rf → Mem → Prop} {ρ : Rf} {μ : Mem} {x1 : Int}
  (h : ((2 ≤ x1 → isO 0 (ρ 1 5) ∧ ((μ (ρ 1 5) 15 ≤ 0 → Post 0 ρ μ) ∧ (0 < μ (ρ 1 5) 15 → ((μ (ρ 1 5) 17 ≤ 0 → Post 0 ρ μ) ∧ (0 < μ (ρ 1 5) 17 → Post 1 ρ μ))))) ∧ (x1 < 2 → isO 0 (ρ 1 5) ∧ (0 ≤ x1 ∧ x1 < 2) ∧ ((μ (ρ 1 5 + 1) x1 = 0 → Post 0 ρ μ) ∧ (μ (ρ 1 5 + 1) x1 ≠ 0 → (0 ≤ x1 ∧ x1 < 2) ∧ ((μ (ρ 1 5 + 3) x1 ≠ 0 → i32 (x1 + 1) ∧ qX mX2_isComplete GG Post GG (0, 0) 2 [some (qP 1), some (qI (x1 + 1))] [] ρ μ) ∧ (μ (ρ 1 5 + 3) x1 = 0 → Post 0 ρ μ))))))) : qX mX2_isComplete GG Post GG (0, 0) 2 [some (qP 1), some (qI x1)] [] ρ μ := by
  refine qX_iload_n 1 dX2_isComplete_2 rfl rfl ?_
  refine qX_iconst dX2_isComplete_3 (i32_of rfl) ?_
  refine qX_icmp_ge 39 dX2_isComplete_4 rfl (fun hc => ?_) (fun hc => ?_)
  · replace h := h.1 hc
    refine qX_aload_n 0 dX2_isComplete_39 rfl rfl (by decide) ?_
    refine qX_getR 2 5 _ dX2_isComplete_40 fs_X2_26 sh1 ?_
    have hO1 := h.1
    replace h := h.2
    refine qX_getI 0 15 _ dX2_isComplete_43 fs_X2_80 hO1 ?_
    refine qX_if_le 63 dX2_isComplete_46 rfl (fun hc => ?_) (fun hc => ?_)
    · replace h := h.1 hc
      refine qX_iconst dX2_isComplete_63 (i32_of rfl) ?_
      exact qX_zreturn rfl dX2_isComplete_64 rfl ⟨(Nat.le_of_ble_eq_true rfl), (Nat.le_of_ble_eq_true rfl)⟩ (by decide) h
    · replace h := h.2 hc
      refine qX_aload_n 0 dX2_isComplete_49 rfl rfl (by decide) ?_
      refine qX_getR 2 5 _ dX2_isComplete_50 fs_X2_26 sh1 ?_
      refine qX_getI 0 17 _ dX2_isComplete_53 fs_X2_83 hO1 ?_
      refine qX_if_le 63 dX2_isComplete_56 rfl (fun hc => ?_) (fun hc => ?_)
      · replace h := h.1 hc
        refine qX_iconst dX2_isComplete_63 (i32_of rfl) ?_
        exact qX_zreturn rfl dX2_isComplete_64 rfl ⟨(Nat.le_of_ble_eq_true rfl), (Nat.le_of_ble_eq_true rfl)⟩ (by decide) h
      · replace h := h.2 hc
        refine qX_iconst dX2_isComplete_59 (i32_of rfl) ?_
        refine qX_goto 64 dX2_isComplete_60 rfl ?_
        exact qX_zreturn rfl dX2_isComplete_64 rfl ⟨(Nat.le_of_ble_eq_true rfl), (Nat.le_of_ble_eq_true rfl)⟩ (by decide) h
  · replace h := h.2 hc
    refine qX_aload_n 0 dX2_isComplete_7 rfl rfl (by decide) ?_
    refine qX_getR 2 5 _ dX2_isComplete_8 fs_X2_26 sh1 ?_
    have hO2 := h.1
    replace h := h.2
    refine qX_getS 0 0 _ 0 dX2_isComplete_11 fs_X2_73 rfl rfl hO2 rfl ?_
    refine qX_iload_n 1 dX2_isComplete_14 rfl rfl ?_
    refine qX_zald dX2_isComplete_15 (ar0_0 hO2) h.1 ?_
    replace h := h.2
    refine qX_if_eq 31 dX2_isComplete_16 rfl (fun hc => ?_) (fun hc => ?_)
    · replace h := h.1 hc
      refine qX_iconst dX2_isComplete_31 (i32_of rfl) ?_
      exact qX_zreturn rfl dX2_isComplete_32 rfl ⟨(Nat.le_of_ble_eq_true rfl), (Nat.le_of_ble_eq_true rfl)⟩ (by decide) h
    · replace h := h.2 hc
      refine qX_aload_n 0 dX2_isComplete_19 rfl rfl (by decide) ?_
      refine qX_getR 2 5 _ dX2_isComplete_20 fs_X2_26 sh1 ?_
      refine qX_getS 0 2 _ 2 dX2_isComplete_23 fs_X2_76 rfl rfl hO2 rfl ?_
      refine qX_iload_n 1 dX2_isComplete_26 rfl rfl ?_
      refine qX_iald dX2_isComplete_27 (ar0_2 hO2) h.1 ?_
      replace h := h.2
      refine qX_if_ne 33 dX2_isComplete_28 rfl (fun hc => ?_) (fun hc => ?_)
      · replace h := h.1 hc
        refine qR_iinc dX2_isComplete_33 rfl (Nat.le_of_ble_eq_true rfl) rfl h.1 ?_
        replace h := h.2
        refine qX_goto 2 dX2_isComplete_36 rfl ?_
        exact qX_mask [true, true] h
      · replace h := h.2 hc
        refine qX_iconst dX2_isComplete_31 (i32_of rfl) ?_
        exact qX_zreturn rfl dX2_isComplete_32 rfl ⟨(Nat.le_of_ble_eq_true rfl), (Nat.le_of_ble_eq_true rfl)⟩ (by decide) h
set_option maxRecDepth 20000 in
theorem e_X2_readLine {Post : Int → Rf → Mem → Prop} {ρ : Rf} {μ : Mem} 
  (h : ∃ P : Int → Rf → Mem → Prop, qE mX2_advance GG GG [qP 1] ρ μ P ∧ ∀ (z1 : Int) (ρ2 : Rf) (μ3 : Mem), P z1 ρ2 μ3 → ((μ3 1 10 = 1 → ((μ3 1 12 ≠ 500135192942 → ((μ3 1 12 ≠ 6513010 → ((μ3 1 12 ≠ 1835360620 → ((μ3 1 12 ≠ 30233771112949102 → ((μ3 1 12 ≠ 495874696043 → ((μ3 1 12 ≠ 32776920184415609 → ((μ3 1 12 ≠ 6975330 → ∃ P : Int → Rf → Mem → Prop, qE mX2_refuse GG GG [qP 1, qI 1] ρ2 μ3 P ∧ ∀ (z5 : Int) (ρ6 : Rf) (μ7 : Mem), P z5 ρ6 μ7 → Post 0 ρ6 μ7) ∧ (μ3 1 12 = 6975330 → ∃ P : Int → Rf → Mem → Prop, qE mX2_readJob GG GG [qP 1] ρ2 μ3 P ∧ ∀ (z9 : Int) (ρ10 : Rf) (μ11 : Mem), P z9 ρ10 μ11 → Post 0 ρ10 μ11))) ∧ (μ3 1 12 = 32776920184415609 → ∃ P : Int → Rf → Mem → Prop, qE mX2_readTrolley GG GG [qP 1] ρ2 μ3 P ∧ ∀ (z13 : Int) (ρ14 : Rf) (μ15 : Mem), P z13 ρ14 μ15 → Post 0 ρ14 μ15))) ∧ (μ3 1 12 = 495874696043 → ∃ P : Int → Rf → Mem → Prop, qE mX2_readStock GG GG [qP 1] ρ2 μ3 P ∧ ∀ (z17 : Int) (ρ18 : Rf) (μ19 : Mem), P z17 ρ18 μ19 → Post 0 ρ18 μ19))) ∧ (μ3 1 12 = 30233771112949102 → ∃ P : Int → Rf → Mem → Prop, qE mX2_readKitchen GG GG [qP 1] ρ2 μ3 P ∧ ∀ (z21 : Int) (ρ22 : Rf) (μ23 : Mem), P z21 ρ22 μ23 → Post 0 ρ22 μ23))) ∧ (μ3 1 12 = 1835360620 → ∃ P : Int → Rf → Mem → Prop, qE mX2_readMeal GG GG [qP 1] ρ2 μ3 P ∧ ∀ (z25 : Int) (ρ26 : Rf) (μ27 : Mem), P z25 ρ26 μ27 → Post 0 ρ26 μ27))) ∧ (μ3 1 12 = 6513010 → ∃ P : Int → Rf → Mem → Prop, qE mX2_readCar GG GG [qP 1] ρ2 μ3 P ∧ ∀ (z29 : Int) (ρ30 : Rf) (μ31 : Mem), P z29 ρ30 μ31 → Post 0 ρ30 μ31))) ∧ (μ3 1 12 = 500135192942 → ∃ P : Int → Rf → Mem → Prop, qE mX2_readTrain GG GG [qP 1] ρ2 μ3 P ∧ ∀ (z33 : Int) (ρ34 : Rf) (μ35 : Mem), P z33 ρ34 μ35 → Post 0 ρ34 μ35))) ∧ (μ3 1 10 ≠ 1 → ∃ P : Int → Rf → Mem → Prop, qE mX2_refuse GG GG [qP 1, qI 1] ρ2 μ3 P ∧ ∀ (z37 : Int) (ρ38 : Rf) (μ39 : Mem), P z37 ρ38 μ39 → Post 0 ρ38 μ39))) : qE mX2_readLine GG GG [qP 1] ρ μ Post := by
  refine qE_intro pl_X2_readLine (Nat.le_of_ble_eq_true rfl) (Nat.le_refl _) ?_
  refine qX_aload_n 0 dX2_readLine_0 rfl rfl (by decide) ?_
  obtain ⟨P, hE4, h⟩ := h
  refine qN_callV mX2_advance [] _ 2 [] dX2_readLine_1 cm_X2_56 ⟨(Nat.le_of_ble_eq_true rfl), (Nat.le_of_ble_eq_true rfl)⟩ rfl rfl sh1 (Nat.le_of_ble_eq_true rfl) ⟨rfl, rfl⟩ hE4 (fun z1 ρ2 μ3 hz => ?_)
  replace h := h _ _ _ hz
  refine qX_aload_n 0 dX2_readLine_4 rfl rfl (by decide) ?_
  refine qX_getI 2 10 _ dX2_readLine_5 fs_X2_59 sh1 ?_
  refine qX_iconst dX2_readLine_8 (i32_of rfl) ?_
  refine qX_icmp_eq 20 dX2_readLine_9 rfl (fun hc => ?_) (fun hc => ?_)
  · replace h := h.1 hc
    refine qX_aload_n 0 dX2_readLine_20 rfl rfl (by decide) ?_
    refine qX_getJ 2 12 _ dX2_readLine_21 fs_X2_86 sh1 ?_
    refine qX_ldc2 (n := 500135192942) dX2_readLine_24 kK_X2_90 (i64_of rfl) ?_
    refine qX_lcmp dX2_readLine_27 ?_
    refine qX_if_ne 38 dX2_readLine_28 rfl (fun hc => ?_) (fun hc => ?_)
    · replace h := h.1 (fun e => hc (cmpL_eq0.mpr e))
      refine qX_aload_n 0 dX2_readLine_38 rfl rfl (by decide) ?_
      refine qX_getJ 2 12 _ dX2_readLine_39 fs_X2_86 sh1 ?_
      refine qX_ldc2 (n := 6513010) dX2_readLine_42 kK_X2_95 (i64_of rfl) ?_
      refine qX_lcmp dX2_readLine_45 ?_
      refine qX_if_ne 56 dX2_readLine_46 rfl (fun hc => ?_) (fun hc => ?_)
      · replace h := h.1 (fun e => hc (cmpL_eq0.mpr e))
        refine qX_aload_n 0 dX2_readLine_56 rfl rfl (by decide) ?_
        refine qX_getJ 2 12 _ dX2_readLine_57 fs_X2_86 sh1 ?_
        refine qX_ldc2 (n := 1835360620) dX2_readLine_60 kK_X2_100 (i64_of rfl) ?_
        refine qX_lcmp dX2_readLine_63 ?_
        refine qX_if_ne 74 dX2_readLine_64 rfl (fun hc => ?_) (fun hc => ?_)
        · replace h := h.1 (fun e => hc (cmpL_eq0.mpr e))
          refine qX_aload_n 0 dX2_readLine_74 rfl rfl (by decide) ?_
          refine qX_getJ 2 12 _ dX2_readLine_75 fs_X2_86 sh1 ?_
          refine qX_ldc2 (n := 30233771112949102) dX2_readLine_78 kK_X2_105 (i64_of rfl) ?_
          refine qX_lcmp dX2_readLine_81 ?_
          refine qX_if_ne 92 dX2_readLine_82 rfl (fun hc => ?_) (fun hc => ?_)
          · replace h := h.1 (fun e => hc (cmpL_eq0.mpr e))
            refine qX_aload_n 0 dX2_readLine_92 rfl rfl (by decide) ?_
            refine qX_getJ 2 12 _ dX2_readLine_93 fs_X2_86 sh1 ?_
            refine qX_ldc2 (n := 495874696043) dX2_readLine_96 kK_X2_110 (i64_of rfl) ?_
            refine qX_lcmp dX2_readLine_99 ?_
            refine qX_if_ne 110 dX2_readLine_100 rfl (fun hc => ?_) (fun hc => ?_)
            · replace h := h.1 (fun e => hc (cmpL_eq0.mpr e))
              refine qX_aload_n 0 dX2_readLine_110 rfl rfl (by decide) ?_
              refine qX_getJ 2 12 _ dX2_readLine_111 fs_X2_86 sh1 ?_
              refine qX_ldc2 (n := 32776920184415609) dX2_readLine_114 kK_X2_115 (i64_of rfl) ?_
              refine qX_lcmp dX2_readLine_117 ?_
              refine qX_if_ne 128 dX2_readLine_118 rfl (fun hc => ?_) (fun hc => ?_)
              · replace h := h.1 (fun e => hc (cmpL_eq0.mpr e))
                refine qX_aload_n 0 dX2_readLine_128 rfl rfl (by decide) ?_
                refine qX_getJ 2 12 _ dX2_readLine_129 fs_X2_86 sh1 ?_
                refine qX_ldc2 (n := 6975330) dX2_readLine_132 kK_X2_120 (i64_of rfl) ?_
                refine qX_lcmp dX2_readLine_135 ?_
                refine qX_if_ne 146 dX2_readLine_136 rfl (fun hc => ?_) (fun hc => ?_)
                · replace h := h.1 (fun e => hc (cmpL_eq0.mpr e))
                  refine qX_aload_n 0 dX2_readLine_146 rfl rfl (by decide) ?_
                  refine qX_iconst dX2_readLine_147 (i32_of rfl) ?_
                  obtain ⟨P, hE8, h⟩ := h
                  refine qN_callV mX2_refuse [_] _ 2 [] dX2_readLine_148 cm_X2_62 ⟨(Nat.le_of_ble_eq_true rfl), (Nat.le_of_ble_eq_true rfl)⟩ rfl rfl sh1 (Nat.le_of_ble_eq_true rfl) ⟨rfl, rfl⟩ hE8 (fun z5 ρ6 μ7 hz => ?_)
                  replace h := h _ _ _ hz
                  exact qX_return rfl dX2_readLine_151 rfl ⟨(Nat.le_of_ble_eq_true rfl), (Nat.le_of_ble_eq_true rfl)⟩ h
                · replace h := h.2 (cmpL_eq0.mp hc)
                  refine qX_aload_n 0 dX2_readLine_139 rfl rfl (by decide) ?_
                  obtain ⟨P, hE12, h⟩ := h
                  refine qN_callV mX2_readJob [] _ 2 [] dX2_readLine_140 cm_X2_122 ⟨(Nat.le_of_ble_eq_true rfl), (Nat.le_of_ble_eq_true rfl)⟩ rfl rfl sh1 (Nat.le_of_ble_eq_true rfl) ⟨rfl, rfl⟩ hE12 (fun z9 ρ10 μ11 hz => ?_)
                  replace h := h _ _ _ hz
                  refine qX_goto 151 dX2_readLine_143 rfl ?_
                  exact qX_return rfl dX2_readLine_151 rfl ⟨(Nat.le_of_ble_eq_true rfl), (Nat.le_of_ble_eq_true rfl)⟩ h
              · replace h := h.2 (cmpL_eq0.mp hc)
                refine qX_aload_n 0 dX2_readLine_121 rfl rfl (by decide) ?_
                obtain ⟨P, hE16, h⟩ := h
                refine qN_callV mX2_readTrolley [] _ 2 [] dX2_readLine_122 cm_X2_117 ⟨(Nat.le_of_ble_eq_true rfl), (Nat.le_of_ble_eq_true rfl)⟩ rfl rfl sh1 (Nat.le_of_ble_eq_true rfl) ⟨rfl, rfl⟩ hE16 (fun z13 ρ14 μ15 hz => ?_)
                replace h := h _ _ _ hz
                refine qX_goto 151 dX2_readLine_125 rfl ?_
                exact qX_return rfl dX2_readLine_151 rfl ⟨(Nat.le_of_ble_eq_true rfl), (Nat.le_of_ble_eq_true rfl)⟩ h
            · replace h := h.2 (cmpL_eq0.mp hc)
              refine qX_aload_n 0 dX2_readLine_103 rfl rfl (by decide) ?_
              obtain ⟨P, hE20, h⟩ := h
              refine qN_callV mX2_readStock [] _ 2 [] dX2_readLine_104 cm_X2_112 ⟨(Nat.le_of_ble_eq_true rfl), (Nat.le_of_ble_eq_true rfl)⟩ rfl rfl sh1 (Nat.le_of_ble_eq_true rfl) ⟨rfl, rfl⟩ hE20 (fun z17 ρ18 μ19 hz => ?_)
              replace h := h _ _ _ hz
              refine qX_goto 151 dX2_readLine_107 rfl ?_
              exact qX_return rfl dX2_readLine_151 rfl ⟨(Nat.le_of_ble_eq_true rfl), (Nat.le_of_ble_eq_true rfl)⟩ h
          · replace h := h.2 (cmpL_eq0.mp hc)
            refine qX_aload_n 0 dX2_readLine_85 rfl rfl (by decide) ?_
            obtain ⟨P, hE24, h⟩ := h
            refine qN_callV mX2_readKitchen [] _ 2 [] dX2_readLine_86 cm_X2_107 ⟨(Nat.le_of_ble_eq_true rfl), (Nat.le_of_ble_eq_true rfl)⟩ rfl rfl sh1 (Nat.le_of_ble_eq_true rfl) ⟨rfl, rfl⟩ hE24 (fun z21 ρ22 μ23 hz => ?_)
            replace h := h _ _ _ hz
            refine qX_goto 151 dX2_readLine_89 rfl ?_
            exact qX_return rfl dX2_readLine_151 rfl ⟨(Nat.le_of_ble_eq_true rfl), (Nat.le_of_ble_eq_true rfl)⟩ h
        · replace h := h.2 (cmpL_eq0.mp hc)
          refine qX_aload_n 0 dX2_readLine_67 rfl rfl (by decide) ?_
          obtain ⟨P, hE28, h⟩ := h
          refine qN_callV mX2_readMeal [] _ 2 [] dX2_readLine_68 cm_X2_102 ⟨(Nat.le_of_ble_eq_true rfl), (Nat.le_of_ble_eq_true rfl)⟩ rfl rfl sh1 (Nat.le_of_ble_eq_true rfl) ⟨rfl, rfl⟩ hE28 (fun z25 ρ26 μ27 hz => ?_)
          replace h := h _ _ _ hz
          refine qX_goto 151 dX2_readLine_71 rfl ?_
          exact qX_return rfl dX2_readLine_151 rfl ⟨(Nat.le_of_ble_eq_true rfl), (Nat.le_of_ble_eq_true rfl)⟩ h
      · replace h := h.2 (cmpL_eq0.mp hc)
        refine qX_aload_n 0 dX2_readLine_49 rfl rfl (by decide) ?_
        obtain ⟨P, hE32, h⟩ := h
        refine qN_callV mX2_readCar [] _ 2 [] dX2_readLine_50 cm_X2_97 ⟨(Nat.le_of_ble_eq_true rfl), (Nat.le_of_ble_eq_true rfl)⟩ rfl rfl sh1 (Nat.le_of_ble_eq_true rfl) ⟨rfl, rfl⟩ hE32 (fun z29 ρ30 μ31 hz => ?_)
        replace h := h _ _ _ hz
        refine qX_goto 151 dX2_readLine_53 rfl ?_
        exact qX_return rfl dX2_readLine_151 rfl ⟨(Nat.le_of_ble_eq_true rfl), (Nat.le_of_ble_eq_true rfl)⟩ h
    · replace h := h.2 (cmpL_eq0.mp hc)
      refine qX_aload_n 0 dX2_readLine_31 rfl rfl (by decide) ?_
      obtain ⟨P, hE36, h⟩ := h
      refine qN_callV mX2_readTrain [] _ 2 [] dX2_readLine_32 cm_X2_92 ⟨(Nat.le_of_ble_eq_true rfl), (Nat.le_of_ble_eq_true rfl)⟩ rfl rfl sh1 (Nat.le_of_ble_eq_true rfl) ⟨rfl, rfl⟩ hE36 (fun z33 ρ34 μ35 hz => ?_)
      replace h := h _ _ _ hz
      refine qX_goto 151 dX2_readLine_35 rfl ?_
      exact qX_return rfl dX2_readLine_151 rfl ⟨(Nat.le_of_ble_eq_true rfl), (Nat.le_of_ble_eq_true rfl)⟩ h
  · replace h := h.2 hc
    refine qX_aload_n 0 dX2_readLine_12 rfl rfl (by decide) ?_
    refine qX_iconst dX2_readLine_13 (i32_of rfl) ?_
    obtain ⟨P, hE40, h⟩ := h
    refine qN_callV mX2_refuse [_] _ 2 [] dX2_readLine_14 cm_X2_62 ⟨(Nat.le_of_ble_eq_true rfl), (Nat.le_of_ble_eq_true rfl)⟩ rfl rfl sh1 (Nat.le_of_ble_eq_true rfl) ⟨rfl, rfl⟩ hE40 (fun z37 ρ38 μ39 hz => ?_)
    replace h := h _ _ _ hz
    refine qX_goto 151 dX2_readLine_17 rfl ?_
    exact qX_return rfl dX2_readLine_151 rfl ⟨(Nat.le_of_ble_eq_true rfl), (Nat.le_of_ble_eq_true rfl)⟩ h
set_option maxRecDepth 20000 in
theorem e_X2_readTrain {Post : Int → Rf → Mem → Prop} {ρ : Rf} {μ : Mem} 
  (h : ∃ P : Int → Rf → Mem → Prop, qE mX2_takeNumber GG GG [qP 1, qI 0, qI 1] ρ μ P ∧ ∀ (z1 : Int) (ρ2 : Rf) (μ3 : Mem), P z1 ρ2 μ3 → isO 0 (ρ2 1 5) ∧ (0 ≤ z1 ∧ z1 < 2) ∧ ((μ3 (ρ2 1 5 + 1) z1 = 0 → qX mX2_readTrain GG Post GG (0, 0) 24 [some (qP 1), some (qI z1), none, none] [] ρ2 μ3) ∧ (μ3 (ρ2 1 5 + 1) z1 ≠ 0 → ∃ P : Int → Rf → Mem → Prop, qE mX2_refuse GG GG [qP 1, qI 3] ρ2 μ3 P ∧ ∀ (z6 : Int) (ρ7 : Rf) (μ8 : Mem), P z6 ρ7 μ8 → qX mX2_readTrain GG Post GG (0, 0) 24 [some (qP 1), some (qI z1), none, none] [] ρ7 μ8))) : qE mX2_readTrain GG GG [qP 1] ρ μ Post := by
  refine qE_intro pl_X2_readTrain (Nat.le_of_ble_eq_true rfl) (Nat.le_refl _) ?_
  refine qX_aload_n 0 dX2_readTrain_0 rfl rfl (by decide) ?_
  refine qX_iconst dX2_readTrain_1 (i32_of rfl) ?_
  refine qX_iconst dX2_readTrain_2 (i32_of rfl) ?_
  obtain ⟨P, hE4, h⟩ := h
  refine qN_callV mX2_takeNumber [_, _] _ 2 [] dX2_readTrain_3 cm_X2_125 ⟨(Nat.le_of_ble_eq_true rfl), (Nat.le_of_ble_eq_true rfl)⟩ rfl rfl sh1 (Nat.le_of_ble_eq_true rfl) ⟨rfl, rfl⟩ hE4 (fun z1 ρ2 μ3 hz => ?_)
  replace h := h _ _ _ hz
  refine qX_istore_n 1 dX2_readTrain_6 rfl (Nat.le_of_ble_eq_true rfl) rfl ?_
  refine qX_aload_n 0 dX2_readTrain_7 rfl rfl (by decide) ?_
  refine qX_getR 2 5 _ dX2_readTrain_8 fs_X2_26 sh1 ?_
  have hO5 := h.1
  replace h := h.2
  refine qX_getS 0 0 _ 0 dX2_readTrain_11 fs_X2_73 rfl rfl hO5 rfl ?_
  refine qX_iload_n 1 dX2_readTrain_14 rfl rfl ?_
  refine qX_zald dX2_readTrain_15 (ar0_0 hO5) h.1 ?_
  replace h := h.2
  refine qX_if_eq 24 dX2_readTrain_16 rfl (fun hc => ?_) (fun hc => ?_)
  · replace h := h.1 hc
    exact qX_mask [true, true, false, false] h
  · replace h := h.2 hc
    refine qX_aload_n 0 dX2_readTrain_19 rfl rfl (by decide) ?_
    refine qX_iconst dX2_readTrain_20 (i32_of rfl) ?_
    obtain ⟨P, hE9, h⟩ := h
    refine qN_callV mX2_refuse [_] _ 2 [] dX2_readTrain_21 cm_X2_62 ⟨(Nat.le_of_ble_eq_true rfl), (Nat.le_of_ble_eq_true rfl)⟩ rfl rfl sh1 (Nat.le_of_ble_eq_true rfl) ⟨rfl, rfl⟩ hE9 (fun z6 ρ7 μ8 hz => ?_)
    replace h := h _ _ _ hz
    exact qX_mask [true, true, false, false] h
set_option maxRecDepth 20000 in
theorem w_X2_readTrain_24 {Post : Int → Rf → Mem → Prop} {ρ : Rf} {μ : Mem} {x1 : Int}
  (h : ∃ P : Int → Rf → Mem → Prop, qE mX2_takeKeyword GG GG [qP 1, qJ 1718775661] ρ μ P ∧ ∀ (z1 : Int) (ρ2 : Rf) (μ3 : Mem), P z1 ρ2 μ3 → ∃ P : Int → Rf → Mem → Prop, qE mX2_takeNumber GG GG [qP 1, qI 0, qI 900] ρ2 μ3 P ∧ ∀ (z5 : Int) (ρ6 : Rf) (μ7 : Mem), P z5 ρ6 μ7 → ∃ P : Int → Rf → Mem → Prop, qE mX2_takeKeyword GG GG [qP 1, qJ 29807] ρ6 μ7 P ∧ ∀ (z9 : Int) (ρ10 : Rf) (μ11 : Mem), P z9 ρ10 μ11 → ∃ P : Int → Rf → Mem → Prop, qE mX2_takeNumber GG GG [qP 1, qI z5, qI 999] ρ10 μ11 P ∧ ∀ (z13 : Int) (ρ14 : Rf) (μ15 : Mem), P z13 ρ14 μ15 → ((μ15 1 3 ≠ 0 → Post 0 ρ14 μ15) ∧ (μ15 1 3 = 0 → isO 0 (ρ14 1 5) ∧ (0 ≤ x1 ∧ x1 < 2) ∧ ∀ μ18, μ18 = up2 μ15 (ρ14 1 5 + 1) x1 1 → (0 ≤ x1 ∧ x1 < 2) ∧ ∀ μ19, μ19 = up2 μ18 (ρ14 1 5 + 2) x1 z5 → isO 6 (ρ14 1 6) ∧ (0 ≤ x1 ∧ x1 < 2) ∧ ∀ μ21, μ21 = up2 μ19 (ρ14 1 6 + 5) x1 z13 → Post 0 ρ14 μ21))) : qX mX2_readTrain GG Post GG (0, 0) 24 [some (qP 1), some (qI x1), none, none] [] ρ μ := by
  refine qX_aload_n 0 dX2_readTrain_24 rfl rfl (by decide) ?_
  refine qX_ldc2 (n := 1718775661) dX2_readTrain_25 kK_X2_129 (i64_of rfl) ?_
  obtain ⟨P, hE4, h⟩ := h
  refine qN_callV mX2_takeKeyword [_] _ 2 [] dX2_readTrain_28 cm_X2_131 ⟨(Nat.le_of_ble_eq_true rfl), (Nat.le_of_ble_eq_true rfl)⟩ rfl rfl sh1 (Nat.le_of_ble_eq_true rfl) ⟨rfl, rfl⟩ hE4 (fun z1 ρ2 μ3 hz => ?_)
  replace h := h _ _ _ hz
  refine qX_aload_n 0 dX2_readTrain_31 rfl rfl (by decide) ?_
  refine qX_iconst dX2_readTrain_32 (i32_of rfl) ?_
  refine qX_sip dX2_readTrain_33 rfl ?_
  obtain ⟨P, hE8, h⟩ := h
  refine qN_callV mX2_takeNumber [_, _] _ 2 [] dX2_readTrain_36 cm_X2_125 ⟨(Nat.le_of_ble_eq_true rfl), (Nat.le_of_ble_eq_true rfl)⟩ rfl rfl sh1 (Nat.le_of_ble_eq_true rfl) ⟨rfl, rfl⟩ hE8 (fun z5 ρ6 μ7 hz => ?_)
  replace h := h _ _ _ hz
  refine qX_istore_n 2 dX2_readTrain_39 rfl (Nat.le_of_ble_eq_true rfl) rfl ?_
  refine qX_aload_n 0 dX2_readTrain_40 rfl rfl (by decide) ?_
  refine qX_ldc2 (n := 29807) dX2_readTrain_41 kK_X2_135 (i64_of rfl) ?_
  obtain ⟨P, hE12, h⟩ := h
  refine qN_callV mX2_takeKeyword [_] _ 2 [] dX2_readTrain_44 cm_X2_131 ⟨(Nat.le_of_ble_eq_true rfl), (Nat.le_of_ble_eq_true rfl)⟩ rfl rfl sh1 (Nat.le_of_ble_eq_true rfl) ⟨rfl, rfl⟩ hE12 (fun z9 ρ10 μ11 hz => ?_)
  replace h := h _ _ _ hz
  refine qX_aload_n 0 dX2_readTrain_47 rfl rfl (by decide) ?_
  refine qX_iload_n 2 dX2_readTrain_48 rfl rfl ?_
  refine qX_sip dX2_readTrain_49 rfl ?_
  obtain ⟨P, hE16, h⟩ := h
  refine qN_callV mX2_takeNumber [_, _] _ 2 [] dX2_readTrain_52 cm_X2_125 ⟨(Nat.le_of_ble_eq_true rfl), (Nat.le_of_ble_eq_true rfl)⟩ rfl rfl sh1 (Nat.le_of_ble_eq_true rfl) ⟨rfl, rfl⟩ hE16 (fun z13 ρ14 μ15 hz => ?_)
  replace h := h _ _ _ hz
  refine qX_istore_n 3 dX2_readTrain_55 rfl (Nat.le_of_ble_eq_true rfl) rfl ?_
  refine qX_aload_n 0 dX2_readTrain_56 rfl rfl (by decide) ?_
  refine qX_getI 2 3 _ dX2_readTrain_57 fs_X2_44 sh1 ?_
  refine qX_if_ne 93 dX2_readTrain_60 rfl (fun hc => ?_) (fun hc => ?_)
  · replace h := h.1 hc
    exact qX_return rfl dX2_readTrain_93 rfl ⟨(Nat.le_of_ble_eq_true rfl), (Nat.le_of_ble_eq_true rfl)⟩ h
  · replace h := h.2 hc
    refine qX_aload_n 0 dX2_readTrain_63 rfl rfl (by decide) ?_
    refine qX_getR 2 5 _ dX2_readTrain_64 fs_X2_26 sh1 ?_
    have hO17 := h.1
    replace h := h.2
    refine qX_getS 0 0 _ 0 dX2_readTrain_67 fs_X2_73 rfl rfl hO17 rfl ?_
    refine qX_iload_n 1 dX2_readTrain_70 rfl rfl ?_
    refine qX_iconst dX2_readTrain_71 (i32_of rfl) ?_
    refine qX_zast dX2_readTrain_72 (ar0_0 hO17) h.1 (by decide) ?_
    replace h := h.2
    replace h := h _ rfl
    refine qX_aload_n 0 dX2_readTrain_73 rfl rfl (by decide) ?_
    refine qX_getR 2 5 _ dX2_readTrain_74 fs_X2_26 sh1 ?_
    refine qX_getS 0 1 _ 1 dX2_readTrain_77 fs_X2_137 rfl rfl hO17 rfl ?_
    refine qX_iload_n 1 dX2_readTrain_80 rfl rfl ?_
    refine qX_iload_n 2 dX2_readTrain_81 rfl rfl ?_
    refine qX_iast dX2_readTrain_82 (ar0_1 hO17) h.1 ?_
    replace h := h.2
    replace h := h _ rfl
    refine qX_aload_n 0 dX2_readTrain_83 rfl rfl (by decide) ?_
    refine qX_getR 2 6 _ dX2_readTrain_84 fs_X2_33 sh1 ?_
    have hO20 := h.1
    replace h := h.2
    refine qX_getS 6 4 _ 4 dX2_readTrain_87 fs_X2_140 rfl rfl hO20 rfl ?_
    refine qX_iload_n 1 dX2_readTrain_90 rfl rfl ?_
    refine qX_iload_n 3 dX2_readTrain_91 rfl rfl ?_
    refine qX_iast dX2_readTrain_92 (ar6_4 hO20) h.1 ?_
    replace h := h.2
    replace h := h _ rfl
    exact qX_return rfl dX2_readTrain_93 rfl ⟨(Nat.le_of_ble_eq_true rfl), (Nat.le_of_ble_eq_true rfl)⟩ h
set_option maxRecDepth 20000 in
theorem e_X2_readCar {Post : Int → Rf → Mem → Prop} {ρ : Rf} {μ : Mem} 
  (h : ∃ P : Int → Rf → Mem → Prop, qE mX2_takeNumber GG GG [qP 1, qI 0, qI 1] ρ μ P ∧ ∀ (z1 : Int) (ρ2 : Rf) (μ3 : Mem), P z1 ρ2 μ3 → ∃ P : Int → Rf → Mem → Prop, qE mX2_refuseUnknownTrain GG GG [qP 1, qI z1] ρ2 μ3 P ∧ ∀ (z5 : Int) (ρ6 : Rf) (μ7 : Mem), P z5 ρ6 μ7 → isO 0 (ρ6 1 5) ∧ (0 ≤ z1 ∧ z1 < 2) ∧ ((μ7 (ρ6 1 5 + 3) z1 < 5 → qX mX2_readCar GG Post GG (0, 0) 30 [some (qP 1), some (qI z1), none, none, none, none] [] ρ6 μ7) ∧ (5 ≤ μ7 (ρ6 1 5 + 3) z1 → ∃ P : Int → Rf → Mem → Prop, qE mX2_refuse GG GG [qP 1, qI 4] ρ6 μ7 P ∧ ∀ (z10 : Int) (ρ11 : Rf) (μ12 : Mem), P z10 ρ11 μ12 → qX mX2_readCar GG Post GG (0, 0) 30 [some (qP 1), some (qI z1), none, none, none, none] [] ρ11 μ12))) : qE mX2_readCar GG GG [qP 1] ρ μ Post := by
  refine qE_intro pl_X2_readCar (Nat.le_of_ble_eq_true rfl) (Nat.le_refl _) ?_
  refine qX_aload_n 0 dX2_readCar_0 rfl rfl (by decide) ?_
  refine qX_iconst dX2_readCar_1 (i32_of rfl) ?_
  refine qX_iconst dX2_readCar_2 (i32_of rfl) ?_
  obtain ⟨P, hE4, h⟩ := h
  refine qN_callV mX2_takeNumber [_, _] _ 2 [] dX2_readCar_3 cm_X2_125 ⟨(Nat.le_of_ble_eq_true rfl), (Nat.le_of_ble_eq_true rfl)⟩ rfl rfl sh1 (Nat.le_of_ble_eq_true rfl) ⟨rfl, rfl⟩ hE4 (fun z1 ρ2 μ3 hz => ?_)
  replace h := h _ _ _ hz
  refine qX_istore_n 1 dX2_readCar_6 rfl (Nat.le_of_ble_eq_true rfl) rfl ?_
  refine qX_aload_n 0 dX2_readCar_7 rfl rfl (by decide) ?_
  refine qX_iload_n 1 dX2_readCar_8 rfl rfl ?_
  obtain ⟨P, hE8, h⟩ := h
  refine qN_callV mX2_refuseUnknownTrain [_] _ 2 [] dX2_readCar_9 cm_X2_143 ⟨(Nat.le_of_ble_eq_true rfl), (Nat.le_of_ble_eq_true rfl)⟩ rfl rfl sh1 (Nat.le_of_ble_eq_true rfl) ⟨rfl, rfl⟩ hE8 (fun z5 ρ6 μ7 hz => ?_)
  replace h := h _ _ _ hz
  refine qX_aload_n 0 dX2_readCar_12 rfl rfl (by decide) ?_
  refine qX_getR 2 5 _ dX2_readCar_13 fs_X2_26 sh1 ?_
  have hO9 := h.1
  replace h := h.2
  refine qX_getS 0 2 _ 2 dX2_readCar_16 fs_X2_76 rfl rfl hO9 rfl ?_
  refine qX_iload_n 1 dX2_readCar_19 rfl rfl ?_
  refine qX_iald dX2_readCar_20 (ar0_2 hO9) h.1 ?_
  replace h := h.2
  refine qX_iconst dX2_readCar_21 (i32_of rfl) ?_
  refine qX_icmp_lt 30 dX2_readCar_22 rfl (fun hc => ?_) (fun hc => ?_)
  · replace h := h.1 hc
    exact qX_mask [true, true, false, false, false, false] h
  · replace h := h.2 hc
    refine qX_aload_n 0 dX2_readCar_25 rfl rfl (by decide) ?_
    refine qX_iconst dX2_readCar_26 (i32_of rfl) ?_
    obtain ⟨P, hE13, h⟩ := h
    refine qN_callV mX2_refuse [_] _ 2 [] dX2_readCar_27 cm_X2_62 ⟨(Nat.le_of_ble_eq_true rfl), (Nat.le_of_ble_eq_true rfl)⟩ rfl rfl sh1 (Nat.le_of_ble_eq_true rfl) ⟨rfl, rfl⟩ hE13 (fun z10 ρ11 μ12 hz => ?_)
    replace h := h _ _ _ hz
    exact qX_mask [true, true, false, false, false, false] h
set_option maxRecDepth 20000 in
theorem w_X2_readCar_30 {Post : Int → Rf → Mem → Prop} {ρ : Rf} {μ : Mem} {x1 : Int}
  (h : ∃ P : Int → Rf → Mem → Prop, qE mX2_takeNumber GG GG [qP 1, qI 0, qI 99] ρ μ P ∧ ∀ (z1 : Int) (ρ2 : Rf) (μ3 : Mem), P z1 ρ2 μ3 → ∃ P : Int → Rf → Mem → Prop, qE mX2_takeNumber GG GG [qP 1, qI 0, qI 99] ρ2 μ3 P ∧ ∀ (z5 : Int) (ρ6 : Rf) (μ7 : Mem), P z5 ρ6 μ7 → ∃ P : Int → Rf → Mem → Prop, qE mX2_takeNumber GG GG [qP 1, qI 0, qI 99] ρ6 μ7 P ∧ ∀ (z9 : Int) (ρ10 : Rf) (μ11 : Mem), P z9 ρ10 μ11 → ((μ11 1 3 ≠ 0 → Post 0 ρ10 μ11) ∧ (μ11 1 3 = 0 → isO 0 (ρ10 1 5) ∧ (0 ≤ x1 ∧ x1 < 2) ∧ ∃ P : Int → Rf → Mem → Prop, qE mX7_doorIndex GG GG [qI x1, qI (μ11 (ρ10 1 5 + 3) x1)] ρ10 μ11 P ∧ ∀ (z14 : Int) (ρ15 : Rf) (μ16 : Mem), P z14 ρ15 μ16 → isO 0 (ρ15 1 5) ∧ (0 ≤ z14 ∧ z14 < 10) ∧ ∀ μ19, μ19 = up2 μ16 (ρ15 1 5 + 4) z14 z1 → (0 ≤ z14 ∧ z14 < 10) ∧ ∀ μ20, μ20 = up2 μ19 (ρ15 1 5 + 5) z14 z5 → (0 ≤ z14 ∧ z14 < 10) ∧ ∀ μ21, μ21 = up2 μ20 (ρ15 1 5 + 6) z14 z9 → (0 ≤ x1 ∧ x1 < 2) ∧ i32 ((μ21 (ρ15 1 5 + 3) x1) + 1) ∧ (0 ≤ x1 ∧ x1 < 2) ∧ ∀ μ22, μ22 = up2 μ21 (ρ15 1 5 + 3) x1 ((μ21 (ρ15 1 5 + 3) x1) + 1) → Post 0 ρ15 μ22))) : qX mX2_readCar GG Post GG (0, 0) 30 [some (qP 1), some (qI x1), none, none, none, none] [] ρ μ := by
  refine qX_aload_n 0 dX2_readCar_30 rfl rfl (by decide) ?_
  refine qX_iconst dX2_readCar_31 (i32_of rfl) ?_
  refine qX_bip dX2_readCar_32 rfl ?_
  obtain ⟨P, hE4, h⟩ := h
  refine qN_callV mX2_takeNumber [_, _] _ 2 [] dX2_readCar_34 cm_X2_125 ⟨(Nat.le_of_ble_eq_true rfl), (Nat.le_of_ble_eq_true rfl)⟩ rfl rfl sh1 (Nat.le_of_ble_eq_true rfl) ⟨rfl, rfl⟩ hE4 (fun z1 ρ2 μ3 hz => ?_)
  replace h := h _ _ _ hz
  refine qX_istore_n 2 dX2_readCar_37 rfl (Nat.le_of_ble_eq_true rfl) rfl ?_
  refine qX_aload_n 0 dX2_readCar_38 rfl rfl (by decide) ?_
  refine qX_iconst dX2_readCar_39 (i32_of rfl) ?_
  refine qX_bip dX2_readCar_40 rfl ?_
  obtain ⟨P, hE8, h⟩ := h
  refine qN_callV mX2_takeNumber [_, _] _ 2 [] dX2_readCar_42 cm_X2_125 ⟨(Nat.le_of_ble_eq_true rfl), (Nat.le_of_ble_eq_true rfl)⟩ rfl rfl sh1 (Nat.le_of_ble_eq_true rfl) ⟨rfl, rfl⟩ hE8 (fun z5 ρ6 μ7 hz => ?_)
  replace h := h _ _ _ hz
  refine qX_istore_n 3 dX2_readCar_45 rfl (Nat.le_of_ble_eq_true rfl) rfl ?_
  refine qX_aload_n 0 dX2_readCar_46 rfl rfl (by decide) ?_
  refine qX_iconst dX2_readCar_47 (i32_of rfl) ?_
  refine qX_bip dX2_readCar_48 rfl ?_
  obtain ⟨P, hE12, h⟩ := h
  refine qN_callV mX2_takeNumber [_, _] _ 2 [] dX2_readCar_50 cm_X2_125 ⟨(Nat.le_of_ble_eq_true rfl), (Nat.le_of_ble_eq_true rfl)⟩ rfl rfl sh1 (Nat.le_of_ble_eq_true rfl) ⟨rfl, rfl⟩ hE12 (fun z9 ρ10 μ11 hz => ?_)
  replace h := h _ _ _ hz
  refine qX_istore dX2_readCar_53 (Nat.le_of_ble_eq_true rfl) rfl ?_
  refine qX_aload_n 0 dX2_readCar_55 rfl rfl (by decide) ?_
  refine qX_getI 2 3 _ dX2_readCar_56 fs_X2_44 sh1 ?_
  refine qX_if_ne 124 dX2_readCar_59 rfl (fun hc => ?_) (fun hc => ?_)
  · replace h := h.1 hc
    exact qX_return rfl dX2_readCar_124 rfl ⟨(Nat.le_of_ble_eq_true rfl), (Nat.le_of_ble_eq_true rfl)⟩ h
  · replace h := h.2 hc
    refine qX_iload_n 1 dX2_readCar_62 rfl rfl ?_
    refine qX_aload_n 0 dX2_readCar_63 rfl rfl (by decide) ?_
    refine qX_getR 2 5 _ dX2_readCar_64 fs_X2_26 sh1 ?_
    have hO13 := h.1
    replace h := h.2
    refine qX_getS 0 2 _ 2 dX2_readCar_67 fs_X2_76 rfl rfl hO13 rfl ?_
    refine qX_iload_n 1 dX2_readCar_70 rfl rfl ?_
    refine qX_iald dX2_readCar_71 (ar0_2 hO13) h.1 ?_
    replace h := h.2
    obtain ⟨P, hE17, h⟩ := h
    refine qN_callSN mX7_doorIndex [_, _] [] dX2_readCar_72 cm_X2_146 ⟨(Nat.le_of_ble_eq_true rfl), (Nat.le_of_ble_eq_true rfl)⟩ rfl rfl (Nat.le_of_ble_eq_true rfl) ⟨rfl, rfl⟩ hE17 (fun z14 ρ15 μ16 hz => ?_)
    replace h := h _ _ _ hz
    refine qX_istore dX2_readCar_75 (Nat.le_of_ble_eq_true rfl) rfl ?_
    refine qX_aload_n 0 dX2_readCar_77 rfl rfl (by decide) ?_
    refine qX_getR 2 5 _ dX2_readCar_78 fs_X2_26 sh1 ?_
    have hO18 := h.1
    replace h := h.2
    refine qX_getS 0 3 _ 3 dX2_readCar_81 fs_X2_149 rfl rfl hO18 rfl ?_
    refine qX_iload dX2_readCar_84 rfl ?_
    refine qX_iload_n 2 dX2_readCar_86 rfl rfl ?_
    refine qX_iast dX2_readCar_87 (ar0_3 hO18) h.1 ?_
    replace h := h.2
    replace h := h _ rfl
    refine qX_aload_n 0 dX2_readCar_88 rfl rfl (by decide) ?_
    refine qX_getR 2 5 _ dX2_readCar_89 fs_X2_26 sh1 ?_
    refine qX_getS 0 4 _ 4 dX2_readCar_92 fs_X2_152 rfl rfl hO18 rfl ?_
    refine qX_iload dX2_readCar_95 rfl ?_
    refine qX_iload_n 3 dX2_readCar_97 rfl rfl ?_
    refine qX_iast dX2_readCar_98 (ar0_4 hO18) h.1 ?_
    replace h := h.2
    replace h := h _ rfl
    refine qX_aload_n 0 dX2_readCar_99 rfl rfl (by decide) ?_
    refine qX_getR 2 5 _ dX2_readCar_100 fs_X2_26 sh1 ?_
    refine qX_getS 0 5 _ 5 dX2_readCar_103 fs_X2_155 rfl rfl hO18 rfl ?_
    refine qX_iload dX2_readCar_106 rfl ?_
    refine qX_iload dX2_readCar_108 rfl ?_
    refine qX_iast dX2_readCar_110 (ar0_5 hO18) h.1 ?_
    replace h := h.2
    replace h := h _ rfl
    refine qX_aload_n 0 dX2_readCar_111 rfl rfl (by decide) ?_
    refine qX_getR 2 5 _ dX2_readCar_112 fs_X2_26 sh1 ?_
    refine qX_getS 0 2 _ 2 dX2_readCar_115 fs_X2_76 rfl rfl hO18 rfl ?_
    refine qX_iload_n 1 dX2_readCar_118 rfl rfl ?_
    refine qX_dup2 dX2_readCar_119 rfl rfl ?_
    refine qX_iald dX2_readCar_120 (ar0_2 hO18) h.1 ?_
    replace h := h.2
    refine qX_iconst dX2_readCar_121 (i32_of rfl) ?_
    refine qR_iadd dX2_readCar_122 h.1 ?_
    replace h := h.2
    refine qX_iast dX2_readCar_123 (ar0_2 hO18) h.1 ?_
    replace h := h.2
    replace h := h _ rfl
    exact qX_return rfl dX2_readCar_124 rfl ⟨(Nat.le_of_ble_eq_true rfl), (Nat.le_of_ble_eq_true rfl)⟩ h
set_option maxRecDepth 20000 in
theorem e_X2_readMeal {Post : Int → Rf → Mem → Prop} {ρ : Rf} {μ : Mem} 
  (h : isO 0 (ρ 1 5) ∧ ((μ (ρ 1 5) 15 < 4 → qX mX2_readMeal GG Post GG (0, 0) 16 [some (qP 1), none, none, none, none] [] ρ μ) ∧ (4 ≤ μ (ρ 1 5) 15 → ∃ P : Int → Rf → Mem → Prop, qE mX2_refuse GG GG [qP 1, qI 4] ρ μ P ∧ ∀ (z2 : Int) (ρ3 : Rf) (μ4 : Mem), P z2 ρ3 μ4 → qX mX2_readMeal GG Post GG (0, 0) 16 [some (qP 1), none, none, none, none] [] ρ3 μ4))) : qE mX2_readMeal GG GG [qP 1] ρ μ Post := by
  refine qE_intro pl_X2_readMeal (Nat.le_of_ble_eq_true rfl) (Nat.le_refl _) ?_
  refine qX_aload_n 0 dX2_readMeal_0 rfl rfl (by decide) ?_
  refine qX_getR 2 5 _ dX2_readMeal_1 fs_X2_26 sh1 ?_
  have hO1 := h.1
  replace h := h.2
  refine qX_getI 0 15 _ dX2_readMeal_4 fs_X2_80 hO1 ?_
  refine qX_iconst dX2_readMeal_7 (i32_of rfl) ?_
  refine qX_icmp_lt 16 dX2_readMeal_8 rfl (fun hc => ?_) (fun hc => ?_)
  · replace h := h.1 hc
    exact qX_mask [true, false, false, false, false] h
  · replace h := h.2 hc
    refine qX_aload_n 0 dX2_readMeal_11 rfl rfl (by decide) ?_
    refine qX_iconst dX2_readMeal_12 (i32_of rfl) ?_
    obtain ⟨P, hE5, h⟩ := h
    refine qN_callV mX2_refuse [_] _ 2 [] dX2_readMeal_13 cm_X2_62 ⟨(Nat.le_of_ble_eq_true rfl), (Nat.le_of_ble_eq_true rfl)⟩ rfl rfl sh1 (Nat.le_of_ble_eq_true rfl) ⟨rfl, rfl⟩ hE5 (fun z2 ρ3 μ4 hz => ?_)
    replace h := h _ _ _ hz
    exact qX_mask [true, false, false, false, false] h
set_option maxRecDepth 20000 in
theorem w_X2_readMeal_16 {Post : Int → Rf → Mem → Prop} {ρ : Rf} {μ : Mem} 
  (h : ∃ P : Int → Rf → Mem → Prop, qE mX2_takeName GG GG [qP 1] ρ μ P ∧ ∀ (z1 : Int) (ρ2 : Rf) (μ3 : Mem), P z1 ρ2 μ3 → isO 0 (ρ2 1 5) ∧ ∃ P : Int → Rf → Mem → Prop, qE mX0_mealNamed GG GG [qP (ρ2 1 5), qJ (μ3 1 12)] ρ2 μ3 P ∧ ∀ (z6 : Int) (ρ7 : Rf) (μ8 : Mem), P z6 ρ7 μ8 → ((z6 < 0 → qX mX2_readMeal GG Post GG (0, 0) 41 [some (qP 1), some (qJ (μ3 1 12)), none, none, none] [] ρ7 μ8) ∧ (0 ≤ z6 → ∃ P : Int → Rf → Mem → Prop, qE mX2_refuse GG GG [qP 1, qI 3] ρ7 μ8 P ∧ ∀ (z10 : Int) (ρ11 : Rf) (μ12 : Mem), P z10 ρ11 μ12 → qX mX2_readMeal GG Post GG (0, 0) 41 [some (qP 1), some (qJ (μ3 1 12)), none, none, none] [] ρ11 μ12))) : qX mX2_readMeal GG Post GG (0, 0) 16 [some (qP 1), none, none, none, none] [] ρ μ := by
  refine qX_aload_n 0 dX2_readMeal_16 rfl rfl (by decide) ?_
  obtain ⟨P, hE4, h⟩ := h
  refine qN_callV mX2_takeName [] _ 2 [] dX2_readMeal_17 cm_X2_158 ⟨(Nat.le_of_ble_eq_true rfl), (Nat.le_of_ble_eq_true rfl)⟩ rfl rfl sh1 (Nat.le_of_ble_eq_true rfl) ⟨rfl, rfl⟩ hE4 (fun z1 ρ2 μ3 hz => ?_)
  replace h := h _ _ _ hz
  refine qX_aload_n 0 dX2_readMeal_20 rfl rfl (by decide) ?_
  refine qX_getJ 2 12 _ dX2_readMeal_21 fs_X2_86 sh1 ?_
  refine qX_lstore_n 1 dX2_readMeal_24 rfl (Nat.le_of_ble_eq_true rfl) rfl ?_
  refine qX_aload_n 0 dX2_readMeal_25 rfl rfl (by decide) ?_
  refine qX_getR 2 5 _ dX2_readMeal_26 fs_X2_26 sh1 ?_
  refine qX_lload_n 1 dX2_readMeal_29 rfl rfl ?_
  have hO5 := h.1
  replace h := h.2
  obtain ⟨P, hE9, h⟩ := h
  refine qN_callV mX0_mealNamed [_] _ 0 [] dX2_readMeal_30 cm_X2_161 ⟨(Nat.le_of_ble_eq_true rfl), (Nat.le_of_ble_eq_true rfl)⟩ rfl rfl hO5 (Nat.le_of_ble_eq_true rfl) ⟨rfl, rfl⟩ hE9 (fun z6 ρ7 μ8 hz => ?_)
  replace h := h _ _ _ hz
  refine qX_if_lt 41 dX2_readMeal_33 rfl (fun hc => ?_) (fun hc => ?_)
  · replace h := h.1 hc
    exact qX_mask [true, true, false, false, false] h
  · replace h := h.2 hc
    refine qX_aload_n 0 dX2_readMeal_36 rfl rfl (by decide) ?_
    refine qX_iconst dX2_readMeal_37 (i32_of rfl) ?_
    obtain ⟨P, hE13, h⟩ := h
    refine qN_callV mX2_refuse [_] _ 2 [] dX2_readMeal_38 cm_X2_62 ⟨(Nat.le_of_ble_eq_true rfl), (Nat.le_of_ble_eq_true rfl)⟩ rfl rfl sh1 (Nat.le_of_ble_eq_true rfl) ⟨rfl, rfl⟩ hE13 (fun z10 ρ11 μ12 hz => ?_)
    replace h := h _ _ _ hz
    exact qX_mask [true, true, false, false, false] h
set_option maxRecDepth 20000 in
theorem w_X2_readMeal_41 {Post : Int → Rf → Mem → Prop} {ρ : Rf} {μ : Mem} {x1 : Int}
  (h : ∃ P : Int → Rf → Mem → Prop, qE mX2_takeNumber GG GG [qP 1, qI 0, qI 20] ρ μ P ∧ ∀ (z1 : Int) (ρ2 : Rf) (μ3 : Mem), P z1 ρ2 μ3 → ∃ P : Int → Rf → Mem → Prop, qE mX2_takeNumber GG GG [qP 1, qI 0, qI 20] ρ2 μ3 P ∧ ∀ (z5 : Int) (ρ6 : Rf) (μ7 : Mem), P z5 ρ6 μ7 → ((μ7 1 3 ≠ 0 → Post 0 ρ6 μ7) ∧ (μ7 1 3 = 0 → isO 0 (ρ6 1 5) ∧ (0 ≤ μ7 (ρ6 1 5) 15 ∧ μ7 (ρ6 1 5) 15 < 4) ∧ ∀ μ10, μ10 = up2 μ7 (ρ6 1 5 + 7) (μ7 (ρ6 1 5) 15) x1 → (0 ≤ μ10 (ρ6 1 5) 15 ∧ μ10 (ρ6 1 5) 15 < 4) ∧ ∀ μ11, μ11 = up2 μ10 (ρ6 1 5 + 8) (μ10 (ρ6 1 5) 15) z1 → (0 ≤ μ11 (ρ6 1 5) 15 ∧ μ11 (ρ6 1 5) 15 < 4) ∧ ∀ μ12, μ12 = up2 μ11 (ρ6 1 5 + 9) (μ11 (ρ6 1 5) 15) z5 → i32 ((μ12 (ρ6 1 5) 15) + 1) ∧ ∀ μ13, μ13 = up2 μ12 (ρ6 1 5) 15 ((μ12 (ρ6 1 5) 15) + 1) → Post 0 ρ6 μ13))) : qX mX2_readMeal GG Post GG (0, 0) 41 [some (qP 1), some (qJ x1), none, none, none] [] ρ μ := by
  refine qX_aload_n 0 dX2_readMeal_41 rfl rfl (by decide) ?_
  refine qX_iconst dX2_readMeal_42 (i32_of rfl) ?_
  refine qX_bip dX2_readMeal_43 rfl ?_
  obtain ⟨P, hE4, h⟩ := h
  refine qN_callV mX2_takeNumber [_, _] _ 2 [] dX2_readMeal_45 cm_X2_125 ⟨(Nat.le_of_ble_eq_true rfl), (Nat.le_of_ble_eq_true rfl)⟩ rfl rfl sh1 (Nat.le_of_ble_eq_true rfl) ⟨rfl, rfl⟩ hE4 (fun z1 ρ2 μ3 hz => ?_)
  replace h := h _ _ _ hz
  refine qX_istore_n 3 dX2_readMeal_48 rfl (Nat.le_of_ble_eq_true rfl) rfl ?_
  refine qX_aload_n 0 dX2_readMeal_49 rfl rfl (by decide) ?_
  refine qX_iconst dX2_readMeal_50 (i32_of rfl) ?_
  refine qX_bip dX2_readMeal_51 rfl ?_
  obtain ⟨P, hE8, h⟩ := h
  refine qN_callV mX2_takeNumber [_, _] _ 2 [] dX2_readMeal_53 cm_X2_125 ⟨(Nat.le_of_ble_eq_true rfl), (Nat.le_of_ble_eq_true rfl)⟩ rfl rfl sh1 (Nat.le_of_ble_eq_true rfl) ⟨rfl, rfl⟩ hE8 (fun z5 ρ6 μ7 hz => ?_)
  replace h := h _ _ _ hz
  refine qX_istore dX2_readMeal_56 (Nat.le_of_ble_eq_true rfl) rfl ?_
  refine qX_aload_n 0 dX2_readMeal_58 rfl rfl (by decide) ?_
  refine qX_getI 2 3 _ dX2_readMeal_59 fs_X2_44 sh1 ?_
  refine qX_if_ne 127 dX2_readMeal_62 rfl (fun hc => ?_) (fun hc => ?_)
  · replace h := h.1 hc
    exact qX_return rfl dX2_readMeal_127 rfl ⟨(Nat.le_of_ble_eq_true rfl), (Nat.le_of_ble_eq_true rfl)⟩ h
  · replace h := h.2 hc
    refine qX_aload_n 0 dX2_readMeal_65 rfl rfl (by decide) ?_
    refine qX_getR 2 5 _ dX2_readMeal_66 fs_X2_26 sh1 ?_
    have hO9 := h.1
    replace h := h.2
    refine qX_getS 0 6 _ 6 dX2_readMeal_69 fs_X2_165 rfl rfl hO9 rfl ?_
    refine qX_aload_n 0 dX2_readMeal_72 rfl rfl (by decide) ?_
    refine qX_getR 2 5 _ dX2_readMeal_73 fs_X2_26 sh1 ?_
    refine qX_getI 0 15 _ dX2_readMeal_76 fs_X2_80 hO9 ?_
    refine qX_lload_n 1 dX2_readMeal_79 rfl rfl ?_
    refine qX_last dX2_readMeal_80 (ar0_6 hO9) h.1 ?_
    replace h := h.2
    replace h := h _ rfl
    refine qX_aload_n 0 dX2_readMeal_81 rfl rfl (by decide) ?_
    refine qX_getR 2 5 _ dX2_readMeal_82 fs_X2_26 sh1 ?_
    refine qX_getS 0 7 _ 7 dX2_readMeal_85 fs_X2_169 rfl rfl hO9 rfl ?_
    refine qX_aload_n 0 dX2_readMeal_88 rfl rfl (by decide) ?_
    refine qX_getR 2 5 _ dX2_readMeal_89 fs_X2_26 sh1 ?_
    refine qX_getI 0 15 _ dX2_readMeal_92 fs_X2_80 hO9 ?_
    refine qX_iload_n 3 dX2_readMeal_95 rfl rfl ?_
    refine qX_iast dX2_readMeal_96 (ar0_7 hO9) h.1 ?_
    replace h := h.2
    replace h := h _ rfl
    refine qX_aload_n 0 dX2_readMeal_97 rfl rfl (by decide) ?_
    refine qX_getR 2 5 _ dX2_readMeal_98 fs_X2_26 sh1 ?_
    refine qX_getS 0 8 _ 8 dX2_readMeal_101 fs_X2_172 rfl rfl hO9 rfl ?_
    refine qX_aload_n 0 dX2_readMeal_104 rfl rfl (by decide) ?_
    refine qX_getR 2 5 _ dX2_readMeal_105 fs_X2_26 sh1 ?_
    refine qX_getI 0 15 _ dX2_readMeal_108 fs_X2_80 hO9 ?_
    refine qX_iload dX2_readMeal_111 rfl ?_
    refine qX_iast dX2_readMeal_113 (ar0_8 hO9) h.1 ?_
    replace h := h.2
    replace h := h _ rfl
    refine qX_aload_n 0 dX2_readMeal_114 rfl rfl (by decide) ?_
    refine qX_getR 2 5 _ dX2_readMeal_115 fs_X2_26 sh1 ?_
    refine qX_dup dX2_readMeal_118 rfl ?_
    refine qX_getI 0 15 _ dX2_readMeal_119 fs_X2_80 hO9 ?_
    refine qX_iconst dX2_readMeal_122 (i32_of rfl) ?_
    refine qR_iadd dX2_readMeal_123 h.1 ?_
    replace h := h.2
    refine qX_putI 0 15 _ dX2_readMeal_124 fs_X2_80 hO9 ?_
    replace h := h _ rfl
    exact qX_return rfl dX2_readMeal_127 rfl ⟨(Nat.le_of_ble_eq_true rfl), (Nat.le_of_ble_eq_true rfl)⟩ h
set_option maxRecDepth 20000 in
theorem e_X2_readKitchen {Post : Int → Rf → Mem → Prop} {ρ : Rf} {μ : Mem} 
  (h : isO 0 (ρ 1 5) ∧ ((μ (ρ 1 5) 16 < 3 → qX mX2_readKitchen GG Post GG (0, 0) 16 [some (qP 1), none] [] ρ μ) ∧ (3 ≤ μ (ρ 1 5) 16 → ∃ P : Int → Rf → Mem → Prop, qE mX2_refuse GG GG [qP 1, qI 4] ρ μ P ∧ ∀ (z2 : Int) (ρ3 : Rf) (μ4 : Mem), P z2 ρ3 μ4 → qX mX2_readKitchen GG Post GG (0, 0) 16 [some (qP 1), none] [] ρ3 μ4))) : qE mX2_readKitchen GG GG [qP 1] ρ μ Post := by
  refine qE_intro pl_X2_readKitchen (Nat.le_of_ble_eq_true rfl) (Nat.le_refl _) ?_
  refine qX_aload_n 0 dX2_readKitchen_0 rfl rfl (by decide) ?_
  refine qX_getR 2 5 _ dX2_readKitchen_1 fs_X2_26 sh1 ?_
  have hO1 := h.1
  replace h := h.2
  refine qX_getI 0 16 _ dX2_readKitchen_4 fs_X2_175 hO1 ?_
  refine qX_iconst dX2_readKitchen_7 (i32_of rfl) ?_
  refine qX_icmp_lt 16 dX2_readKitchen_8 rfl (fun hc => ?_) (fun hc => ?_)
  · replace h := h.1 hc
    exact qX_mask [true, false] h
  · replace h := h.2 hc
    refine qX_aload_n 0 dX2_readKitchen_11 rfl rfl (by decide) ?_
    refine qX_iconst dX2_readKitchen_12 (i32_of rfl) ?_
    obtain ⟨P, hE5, h⟩ := h
    refine qN_callV mX2_refuse [_] _ 2 [] dX2_readKitchen_13 cm_X2_62 ⟨(Nat.le_of_ble_eq_true rfl), (Nat.le_of_ble_eq_true rfl)⟩ rfl rfl sh1 (Nat.le_of_ble_eq_true rfl) ⟨rfl, rfl⟩ hE5 (fun z2 ρ3 μ4 hz => ?_)
    replace h := h _ _ _ hz
    exact qX_mask [true, false] h
set_option maxRecDepth 20000 in
theorem w_X2_readKitchen_16 {Post : Int → Rf → Mem → Prop} {ρ : Rf} {μ : Mem} 
  (h : ∃ P : Int → Rf → Mem → Prop, qE mX2_takeNumber GG GG [qP 1, qI 0, qI 99] ρ μ P ∧ ∀ (z1 : Int) (ρ2 : Rf) (μ3 : Mem), P z1 ρ2 μ3 → ((μ3 1 3 ≠ 0 → Post 0 ρ2 μ3) ∧ (μ3 1 3 = 0 → isO 0 (ρ2 1 5) ∧ (0 ≤ μ3 (ρ2 1 5) 16 ∧ μ3 (ρ2 1 5) 16 < 3) ∧ ∀ μ6, μ6 = up2 μ3 (ρ2 1 5 + 10) (μ3 (ρ2 1 5) 16) z1 → i32 ((μ6 (ρ2 1 5) 16) + 1) ∧ ∀ μ7, μ7 = up2 μ6 (ρ2 1 5) 16 ((μ6 (ρ2 1 5) 16) + 1) → Post 0 ρ2 μ7))) : qX mX2_readKitchen GG Post GG (0, 0) 16 [some (qP 1), none] [] ρ μ := by
  refine qX_aload_n 0 dX2_readKitchen_16 rfl rfl (by decide) ?_
  refine qX_iconst dX2_readKitchen_17 (i32_of rfl) ?_
  refine qX_bip dX2_readKitchen_18 rfl ?_
  obtain ⟨P, hE4, h⟩ := h
  refine qN_callV mX2_takeNumber [_, _] _ 2 [] dX2_readKitchen_20 cm_X2_125 ⟨(Nat.le_of_ble_eq_true rfl), (Nat.le_of_ble_eq_true rfl)⟩ rfl rfl sh1 (Nat.le_of_ble_eq_true rfl) ⟨rfl, rfl⟩ hE4 (fun z1 ρ2 μ3 hz => ?_)
  replace h := h _ _ _ hz
  refine qX_istore_n 1 dX2_readKitchen_23 rfl (Nat.le_of_ble_eq_true rfl) rfl ?_
  refine qX_aload_n 0 dX2_readKitchen_24 rfl rfl (by decide) ?_
  refine qX_getI 2 3 _ dX2_readKitchen_25 fs_X2_44 sh1 ?_
  refine qX_if_ne 60 dX2_readKitchen_28 rfl (fun hc => ?_) (fun hc => ?_)
  · replace h := h.1 hc
    exact qX_return rfl dX2_readKitchen_60 rfl ⟨(Nat.le_of_ble_eq_true rfl), (Nat.le_of_ble_eq_true rfl)⟩ h
  · replace h := h.2 hc
    refine qX_aload_n 0 dX2_readKitchen_31 rfl rfl (by decide) ?_
    refine qX_getR 2 5 _ dX2_readKitchen_32 fs_X2_26 sh1 ?_
    have hO5 := h.1
    replace h := h.2
    refine qX_getS 0 9 _ 9 dX2_readKitchen_35 fs_X2_178 rfl rfl hO5 rfl ?_
    refine qX_aload_n 0 dX2_readKitchen_38 rfl rfl (by decide) ?_
    refine qX_getR 2 5 _ dX2_readKitchen_39 fs_X2_26 sh1 ?_
    refine qX_getI 0 16 _ dX2_readKitchen_42 fs_X2_175 hO5 ?_
    refine qX_iload_n 1 dX2_readKitchen_45 rfl rfl ?_
    refine qX_iast dX2_readKitchen_46 (ar0_9 hO5) h.1 ?_
    replace h := h.2
    replace h := h _ rfl
    refine qX_aload_n 0 dX2_readKitchen_47 rfl rfl (by decide) ?_
    refine qX_getR 2 5 _ dX2_readKitchen_48 fs_X2_26 sh1 ?_
    refine qX_dup dX2_readKitchen_51 rfl ?_
    refine qX_getI 0 16 _ dX2_readKitchen_52 fs_X2_175 hO5 ?_
    refine qX_iconst dX2_readKitchen_55 (i32_of rfl) ?_
    refine qR_iadd dX2_readKitchen_56 h.1 ?_
    replace h := h.2
    refine qX_putI 0 16 _ dX2_readKitchen_57 fs_X2_175 hO5 ?_
    replace h := h _ rfl
    exact qX_return rfl dX2_readKitchen_60 rfl ⟨(Nat.le_of_ble_eq_true rfl), (Nat.le_of_ble_eq_true rfl)⟩ h
set_option maxRecDepth 20000 in
theorem e_X2_readStock {Post : Int → Rf → Mem → Prop} {ρ : Rf} {μ : Mem} 
  (h : isO 0 (ρ 1 5) ∧ i32 ((μ (ρ 1 5) 16) - 1) ∧ ∃ P : Int → Rf → Mem → Prop, qE mX2_takeNumber GG GG [qP 1, qI 0, qI ((μ (ρ 1 5) 16) - 1)] ρ μ P ∧ ∀ (z2 : Int) (ρ3 : Rf) (μ4 : Mem), P z2 ρ3 μ4 → ∃ P : Int → Rf → Mem → Prop, qE mX2_takeName GG GG [qP 1] ρ3 μ4 P ∧ ∀ (z6 : Int) (ρ7 : Rf) (μ8 : Mem), P z6 ρ7 μ8 → ∃ P : Int → Rf → Mem → Prop, qE mX2_namedMeal GG GG [qP 1] ρ7 μ8 P ∧ ∀ (z10 : Int) (ρ11 : Rf) (μ12 : Mem), P z10 ρ11 μ12 → ∃ P : Int → Rf → Mem → Prop, qE mX7_stockIndex GG GG [qI z2, qI z10] ρ11 μ12 P ∧ ∀ (z14 : Int) (ρ15 : Rf) (μ16 : Mem), P z14 ρ15 μ16 → (0 ≤ z14 ∧ z14 < 12) ∧ ((μ16 3 z14 = 0 → qX mX2_readStock GG Post GG (0, 0) 44 [some (qP 1), none, none, some (qI z14), none] [] ρ15 μ16) ∧ (μ16 3 z14 ≠ 0 → ∃ P : Int → Rf → Mem → Prop, qE mX2_refuse GG GG [qP 1, qI 3] ρ15 μ16 P ∧ ∀ (z18 : Int) (ρ19 : Rf) (μ20 : Mem), P z18 ρ19 μ20 → qX mX2_readStock GG Post GG (0, 0) 44 [some (qP 1), none, none, some (qI z14), none] [] ρ19 μ20))) : qE mX2_readStock GG GG [qP 1] ρ μ Post := by
  refine qE_intro pl_X2_readStock (Nat.le_of_ble_eq_true rfl) (Nat.le_refl _) ?_
  refine qX_aload_n 0 dX2_readStock_0 rfl rfl (by decide) ?_
  refine qX_iconst dX2_readStock_1 (i32_of rfl) ?_
  refine qX_aload_n 0 dX2_readStock_2 rfl rfl (by decide) ?_
  refine qX_getR 2 5 _ dX2_readStock_3 fs_X2_26 sh1 ?_
  have hO1 := h.1
  replace h := h.2
  refine qX_getI 0 16 _ dX2_readStock_6 fs_X2_175 hO1 ?_
  refine qX_iconst dX2_readStock_9 (i32_of rfl) ?_
  refine qR_isub dX2_readStock_10 h.1 ?_
  replace h := h.2
  obtain ⟨P, hE5, h⟩ := h
  refine qN_callV mX2_takeNumber [_, _] _ 2 [] dX2_readStock_11 cm_X2_125 ⟨(Nat.le_of_ble_eq_true rfl), (Nat.le_of_ble_eq_true rfl)⟩ rfl rfl sh1 (Nat.le_of_ble_eq_true rfl) ⟨rfl, rfl⟩ hE5 (fun z2 ρ3 μ4 hz => ?_)
  replace h := h _ _ _ hz
  refine qX_istore_n 1 dX2_readStock_14 rfl (Nat.le_of_ble_eq_true rfl) rfl ?_
  refine qX_aload_n 0 dX2_readStock_15 rfl rfl (by decide) ?_
  obtain ⟨P, hE9, h⟩ := h
  refine qN_callV mX2_takeName [] _ 2 [] dX2_readStock_16 cm_X2_158 ⟨(Nat.le_of_ble_eq_true rfl), (Nat.le_of_ble_eq_true rfl)⟩ rfl rfl sh1 (Nat.le_of_ble_eq_true rfl) ⟨rfl, rfl⟩ hE9 (fun z6 ρ7 μ8 hz => ?_)
  replace h := h _ _ _ hz
  refine qX_aload_n 0 dX2_readStock_19 rfl rfl (by decide) ?_
  obtain ⟨P, hE13, h⟩ := h
  refine qN_callV mX2_namedMeal [] _ 2 [] dX2_readStock_20 cm_X2_181 ⟨(Nat.le_of_ble_eq_true rfl), (Nat.le_of_ble_eq_true rfl)⟩ rfl rfl sh1 (Nat.le_of_ble_eq_true rfl) ⟨rfl, rfl⟩ hE13 (fun z10 ρ11 μ12 hz => ?_)
  replace h := h _ _ _ hz
  refine qX_istore_n 2 dX2_readStock_23 rfl (Nat.le_of_ble_eq_true rfl) rfl ?_
  refine qX_iload_n 1 dX2_readStock_24 rfl rfl ?_
  refine qX_iload_n 2 dX2_readStock_25 rfl rfl ?_
  obtain ⟨P, hE17, h⟩ := h
  refine qN_callSN mX7_stockIndex [_, _] [] dX2_readStock_26 cm_X2_185 ⟨(Nat.le_of_ble_eq_true rfl), (Nat.le_of_ble_eq_true rfl)⟩ rfl rfl (Nat.le_of_ble_eq_true rfl) ⟨rfl, rfl⟩ hE17 (fun z14 ρ15 μ16 hz => ?_)
  replace h := h _ _ _ hz
  refine qX_istore_n 3 dX2_readStock_29 rfl (Nat.le_of_ble_eq_true rfl) rfl ?_
  refine qX_aload_n 0 dX2_readStock_30 rfl rfl (by decide) ?_
  refine qX_getS 2 1 _ 1 dX2_readStock_31 fs_X2_15 rfl rfl sh1 (x := 3) rfl ?_
  refine qX_iload_n 3 dX2_readStock_34 rfl rfl ?_
  refine qX_zald dX2_readStock_35 sh3 h.1 ?_
  replace h := h.2
  refine qX_if_eq 44 dX2_readStock_36 rfl (fun hc => ?_) (fun hc => ?_)
  · replace h := h.1 hc
    exact qX_mask [true, false, false, true, false] h
  · replace h := h.2 hc
    refine qX_aload_n 0 dX2_readStock_39 rfl rfl (by decide) ?_
    refine qX_iconst dX2_readStock_40 (i32_of rfl) ?_
    obtain ⟨P, hE21, h⟩ := h
    refine qN_callV mX2_refuse [_] _ 2 [] dX2_readStock_41 cm_X2_62 ⟨(Nat.le_of_ble_eq_true rfl), (Nat.le_of_ble_eq_true rfl)⟩ rfl rfl sh1 (Nat.le_of_ble_eq_true rfl) ⟨rfl, rfl⟩ hE21 (fun z18 ρ19 μ20 hz => ?_)
    replace h := h _ _ _ hz
    exact qX_mask [true, false, false, true, false] h
set_option maxRecDepth 20000 in
theorem w_X2_readStock_44 {Post : Int → Rf → Mem → Prop} {ρ : Rf} {μ : Mem} {x3 : Int}
  (h : ∃ P : Int → Rf → Mem → Prop, qE mX2_takeNumber GG GG [qP 1, qI 0, qI 999] ρ μ P ∧ ∀ (z1 : Int) (ρ2 : Rf) (μ3 : Mem), P z1 ρ2 μ3 → ((μ3 1 3 ≠ 0 → Post 0 ρ2 μ3) ∧ (μ3 1 3 = 0 → (0 ≤ x3 ∧ x3 < 12) ∧ ∀ μ5, μ5 = up2 μ3 3 x3 1 → isO 6 (ρ2 1 6) ∧ (0 ≤ x3 ∧ x3 < 12) ∧ ∀ μ7, μ7 = up2 μ5 (ρ2 1 6 + 6) x3 z1 → Post 0 ρ2 μ7))) : qX mX2_readStock GG Post GG (0, 0) 44 [some (qP 1), none, none, some (qI x3), none] [] ρ μ := by
  refine qX_aload_n 0 dX2_readStock_44 rfl rfl (by decide) ?_
  refine qX_iconst dX2_readStock_45 (i32_of rfl) ?_
  refine qX_sip dX2_readStock_46 rfl ?_
  obtain ⟨P, hE4, h⟩ := h
  refine qN_callV mX2_takeNumber [_, _] _ 2 [] dX2_readStock_49 cm_X2_125 ⟨(Nat.le_of_ble_eq_true rfl), (Nat.le_of_ble_eq_true rfl)⟩ rfl rfl sh1 (Nat.le_of_ble_eq_true rfl) ⟨rfl, rfl⟩ hE4 (fun z1 ρ2 μ3 hz => ?_)
  replace h := h _ _ _ hz
  refine qX_istore dX2_readStock_52 (Nat.le_of_ble_eq_true rfl) rfl ?_
  refine qX_aload_n 0 dX2_readStock_54 rfl rfl (by decide) ?_
  refine qX_getI 2 3 _ dX2_readStock_55 fs_X2_44 sh1 ?_
  refine qX_if_ne 79 dX2_readStock_58 rfl (fun hc => ?_) (fun hc => ?_)
  · replace h := h.1 hc
    exact qX_return rfl dX2_readStock_79 rfl ⟨(Nat.le_of_ble_eq_true rfl), (Nat.le_of_ble_eq_true rfl)⟩ h
  · replace h := h.2 hc
    refine qX_aload_n 0 dX2_readStock_61 rfl rfl (by decide) ?_
    refine qX_getS 2 1 _ 1 dX2_readStock_62 fs_X2_15 rfl rfl sh1 (x := 3) rfl ?_
    refine qX_iload_n 3 dX2_readStock_65 rfl rfl ?_
    refine qX_iconst dX2_readStock_66 (i32_of rfl) ?_
    refine qX_zast dX2_readStock_67 sh3 h.1 (by decide) ?_
    replace h := h.2
    replace h := h _ rfl
    refine qX_aload_n 0 dX2_readStock_68 rfl rfl (by decide) ?_
    refine qX_getR 2 6 _ dX2_readStock_69 fs_X2_33 sh1 ?_
    have hO6 := h.1
    replace h := h.2
    refine qX_getS 6 5 _ 5 dX2_readStock_72 fs_X2_188 rfl rfl hO6 rfl ?_
    refine qX_iload_n 3 dX2_readStock_75 rfl rfl ?_
    refine qX_iload dX2_readStock_76 rfl ?_
    refine qX_iast dX2_readStock_78 (ar6_5 hO6) h.1 ?_
    replace h := h.2
    replace h := h _ rfl
    exact qX_return rfl dX2_readStock_79 rfl ⟨(Nat.le_of_ble_eq_true rfl), (Nat.le_of_ble_eq_true rfl)⟩ h
set_option maxRecDepth 20000 in
theorem e_X2_readTrolley {Post : Int → Rf → Mem → Prop} {ρ : Rf} {μ : Mem} 
  (h : isO 0 (ρ 1 5) ∧ ((μ (ρ 1 5) 17 < 5 → qX mX2_readTrolley GG Post GG (0, 0) 16 [some (qP 1), none, none, none, none, none] [] ρ μ) ∧ (5 ≤ μ (ρ 1 5) 17 → ∃ P : Int → Rf → Mem → Prop, qE mX2_refuse GG GG [qP 1, qI 4] ρ μ P ∧ ∀ (z2 : Int) (ρ3 : Rf) (μ4 : Mem), P z2 ρ3 μ4 → qX mX2_readTrolley GG Post GG (0, 0) 16 [some (qP 1), none, none, none, none, none] [] ρ3 μ4))) : qE mX2_readTrolley GG GG [qP 1] ρ μ Post := by
  refine qE_intro pl_X2_readTrolley (Nat.le_of_ble_eq_true rfl) (Nat.le_refl _) ?_
  refine qX_aload_n 0 dX2_readTrolley_0 rfl rfl (by decide) ?_
  refine qX_getR 2 5 _ dX2_readTrolley_1 fs_X2_26 sh1 ?_
  have hO1 := h.1
  replace h := h.2
  refine qX_getI 0 17 _ dX2_readTrolley_4 fs_X2_83 hO1 ?_
  refine qX_iconst dX2_readTrolley_7 (i32_of rfl) ?_
  refine qX_icmp_lt 16 dX2_readTrolley_8 rfl (fun hc => ?_) (fun hc => ?_)
  · replace h := h.1 hc
    exact qX_mask [true, false, false, false, false, false] h
  · replace h := h.2 hc
    refine qX_aload_n 0 dX2_readTrolley_11 rfl rfl (by decide) ?_
    refine qX_iconst dX2_readTrolley_12 (i32_of rfl) ?_
    obtain ⟨P, hE5, h⟩ := h
    refine qN_callV mX2_refuse [_] _ 2 [] dX2_readTrolley_13 cm_X2_62 ⟨(Nat.le_of_ble_eq_true rfl), (Nat.le_of_ble_eq_true rfl)⟩ rfl rfl sh1 (Nat.le_of_ble_eq_true rfl) ⟨rfl, rfl⟩ hE5 (fun z2 ρ3 μ4 hz => ?_)
    replace h := h _ _ _ hz
    exact qX_mask [true, false, false, false, false, false] h
set_option maxRecDepth 20000 in
theorem w_X2_readTrolley_16 {Post : Int → Rf → Mem → Prop} {ρ : Rf} {μ : Mem} 
  (h : isO 0 (ρ 1 5) ∧ i32 ((μ (ρ 1 5) 16) - 1) ∧ ∃ P : Int → Rf → Mem → Prop, qE mX2_takeNumber GG GG [qP 1, qI 0, qI ((μ (ρ 1 5) 16) - 1)] ρ μ P ∧ ∀ (z2 : Int) (ρ3 : Rf) (μ4 : Mem), P z2 ρ3 μ4 → ∃ P : Int → Rf → Mem → Prop, qE mX2_takeNumber GG GG [qP 1, qI 1, qI 99] ρ3 μ4 P ∧ ∀ (z6 : Int) (ρ7 : Rf) (μ8 : Mem), P z6 ρ7 μ8 → ∃ P : Int → Rf → Mem → Prop, qE mX2_takeNumber GG GG [qP 1, qI 1, qI 9] ρ7 μ8 P ∧ ∀ (z10 : Int) (ρ11 : Rf) (μ12 : Mem), P z10 ρ11 μ12 → ∃ P : Int → Rf → Mem → Prop, qE mX2_takeNumber GG GG [qP 1, qI 1, qI 5] ρ11 μ12 P ∧ ∀ (z14 : Int) (ρ15 : Rf) (μ16 : Mem), P z14 ρ15 μ16 → ∃ P : Int → Rf → Mem → Prop, qE mX2_takeNumber GG GG [qP 1, qI 1, qI 5] ρ15 μ16 P ∧ ∀ (z18 : Int) (ρ19 : Rf) (μ20 : Mem), P z18 ρ19 μ20 → ((μ20 1 3 ≠ 0 → Post 0 ρ19 μ20) ∧ (μ20 1 3 = 0 → isO 0 (ρ19 1 5) ∧ (0 ≤ μ20 (ρ19 1 5) 17 ∧ μ20 (ρ19 1 5) 17 < 5) ∧ ∀ μ23, μ23 = up2 μ20 (ρ19 1 5 + 11) (μ20 (ρ19 1 5) 17) z2 → (0 ≤ μ23 (ρ19 1 5) 17 ∧ μ23 (ρ19 1 5) 17 < 5) ∧ ∀ μ24, μ24 = up2 μ23 (ρ19 1 5 + 12) (μ23 (ρ19 1 5) 17) z6 → (0 ≤ μ24 (ρ19 1 5) 17 ∧ μ24 (ρ19 1 5) 17 < 5) ∧ ∀ μ25, μ25 = up2 μ24 (ρ19 1 5 + 13) (μ24 (ρ19 1 5) 17) z10 → (0 ≤ μ25 (ρ19 1 5) 17 ∧ μ25 (ρ19 1 5) 17 < 5) ∧ ∀ μ26, μ26 = up2 μ25 (ρ19 1 5 + 14) (μ25 (ρ19 1 5) 17) z14 → (0 ≤ μ26 (ρ19 1 5) 17 ∧ μ26 (ρ19 1 5) 17 < 5) ∧ ∀ μ27, μ27 = up2 μ26 (ρ19 1 5 + 15) (μ26 (ρ19 1 5) 17) z18 → i32 ((μ27 (ρ19 1 5) 17) + 1) ∧ ∀ μ28, μ28 = up2 μ27 (ρ19 1 5) 17 ((μ27 (ρ19 1 5) 17) + 1) → Post 0 ρ19 μ28))) : qX mX2_readTrolley GG Post GG (0, 0) 16 [some (qP 1), none, none, none, none, none] [] ρ μ := by
  refine qX_aload_n 0 dX2_readTrolley_16 rfl rfl (by decide) ?_
  refine qX_iconst dX2_readTrolley_17 (i32_of rfl) ?_
  refine qX_aload_n 0 dX2_readTrolley_18 rfl rfl (by decide) ?_
  refine qX_getR 2 5 _ dX2_readTrolley_19 fs_X2_26 sh1 ?_
  have hO1 := h.1
  replace h := h.2
  refine qX_getI 0 16 _ dX2_readTrolley_22 fs_X2_175 hO1 ?_
  refine qX_iconst dX2_readTrolley_25 (i32_of rfl) ?_
  refine qR_isub dX2_readTrolley_26 h.1 ?_
  replace h := h.2
  obtain ⟨P, hE5, h⟩ := h
  refine qN_callV mX2_takeNumber [_, _] _ 2 [] dX2_readTrolley_27 cm_X2_125 ⟨(Nat.le_of_ble_eq_true rfl), (Nat.le_of_ble_eq_true rfl)⟩ rfl rfl sh1 (Nat.le_of_ble_eq_true rfl) ⟨rfl, rfl⟩ hE5 (fun z2 ρ3 μ4 hz => ?_)
  replace h := h _ _ _ hz
  refine qX_istore_n 1 dX2_readTrolley_30 rfl (Nat.le_of_ble_eq_true rfl) rfl ?_
  refine qX_aload_n 0 dX2_readTrolley_31 rfl rfl (by decide) ?_
  refine qX_iconst dX2_readTrolley_32 (i32_of rfl) ?_
  refine qX_bip dX2_readTrolley_33 rfl ?_
  obtain ⟨P, hE9, h⟩ := h
  refine qN_callV mX2_takeNumber [_, _] _ 2 [] dX2_readTrolley_35 cm_X2_125 ⟨(Nat.le_of_ble_eq_true rfl), (Nat.le_of_ble_eq_true rfl)⟩ rfl rfl sh1 (Nat.le_of_ble_eq_true rfl) ⟨rfl, rfl⟩ hE9 (fun z6 ρ7 μ8 hz => ?_)
  replace h := h _ _ _ hz
  refine qX_istore_n 2 dX2_readTrolley_38 rfl (Nat.le_of_ble_eq_true rfl) rfl ?_
  refine qX_aload_n 0 dX2_readTrolley_39 rfl rfl (by decide) ?_
  refine qX_iconst dX2_readTrolley_40 (i32_of rfl) ?_
  refine qX_bip dX2_readTrolley_41 rfl ?_
  obtain ⟨P, hE13, h⟩ := h
  refine qN_callV mX2_takeNumber [_, _] _ 2 [] dX2_readTrolley_43 cm_X2_125 ⟨(Nat.le_of_ble_eq_true rfl), (Nat.le_of_ble_eq_true rfl)⟩ rfl rfl sh1 (Nat.le_of_ble_eq_true rfl) ⟨rfl, rfl⟩ hE13 (fun z10 ρ11 μ12 hz => ?_)
  replace h := h _ _ _ hz
  refine qX_istore_n 3 dX2_readTrolley_46 rfl (Nat.le_of_ble_eq_true rfl) rfl ?_
  refine qX_aload_n 0 dX2_readTrolley_47 rfl rfl (by decide) ?_
  refine qX_iconst dX2_readTrolley_48 (i32_of rfl) ?_
  refine qX_iconst dX2_readTrolley_49 (i32_of rfl) ?_
  obtain ⟨P, hE17, h⟩ := h
  refine qN_callV mX2_takeNumber [_, _] _ 2 [] dX2_readTrolley_50 cm_X2_125 ⟨(Nat.le_of_ble_eq_true rfl), (Nat.le_of_ble_eq_true rfl)⟩ rfl rfl sh1 (Nat.le_of_ble_eq_true rfl) ⟨rfl, rfl⟩ hE17 (fun z14 ρ15 μ16 hz => ?_)
  replace h := h _ _ _ hz
  refine qX_istore dX2_readTrolley_53 (Nat.le_of_ble_eq_true rfl) rfl ?_
  refine qX_aload_n 0 dX2_readTrolley_55 rfl rfl (by decide) ?_
  refine qX_iconst dX2_readTrolley_56 (i32_of rfl) ?_
  refine qX_iconst dX2_readTrolley_57 (i32_of rfl) ?_
  obtain ⟨P, hE21, h⟩ := h
  refine qN_callV mX2_takeNumber [_, _] _ 2 [] dX2_readTrolley_58 cm_X2_125 ⟨(Nat.le_of_ble_eq_true rfl), (Nat.le_of_ble_eq_true rfl)⟩ rfl rfl sh1 (Nat.le_of_ble_eq_true rfl) ⟨rfl, rfl⟩ hE21 (fun z18 ρ19 μ20 hz => ?_)
  replace h := h _ _ _ hz
  refine qX_istore dX2_readTrolley_61 (Nat.le_of_ble_eq_true rfl) rfl ?_
  refine qX_aload_n 0 dX2_readTrolley_63 rfl rfl (by decide) ?_
  refine qX_getI 2 3 _ dX2_readTrolley_64 fs_X2_44 sh1 ?_
  refine qX_if_ne 165 dX2_readTrolley_67 rfl (fun hc => ?_) (fun hc => ?_)
  · replace h := h.1 hc
    exact qX_return rfl dX2_readTrolley_165 rfl ⟨(Nat.le_of_ble_eq_true rfl), (Nat.le_of_ble_eq_true rfl)⟩ h
  · replace h := h.2 hc
    refine qX_aload_n 0 dX2_readTrolley_70 rfl rfl (by decide) ?_
    refine qX_getR 2 5 _ dX2_readTrolley_71 fs_X2_26 sh1 ?_
    have hO22 := h.1
    replace h := h.2
    refine qX_getS 0 10 _ 10 dX2_readTrolley_74 fs_X2_191 rfl rfl hO22 rfl ?_
    refine qX_aload_n 0 dX2_readTrolley_77 rfl rfl (by decide) ?_
    refine qX_getR 2 5 _ dX2_readTrolley_78 fs_X2_26 sh1 ?_
    refine qX_getI 0 17 _ dX2_readTrolley_81 fs_X2_83 hO22 ?_
    refine qX_iload_n 1 dX2_readTrolley_84 rfl rfl ?_
    refine qX_iast dX2_readTrolley_85 (ar0_10 hO22) h.1 ?_
    replace h := h.2
    replace h := h _ rfl
    refine qX_aload_n 0 dX2_readTrolley_86 rfl rfl (by decide) ?_
    refine qX_getR 2 5 _ dX2_readTrolley_87 fs_X2_26 sh1 ?_
    refine qX_getS 0 11 _ 11 dX2_readTrolley_90 fs_X2_194 rfl rfl hO22 rfl ?_
    refine qX_aload_n 0 dX2_readTrolley_93 rfl rfl (by decide) ?_
    refine qX_getR 2 5 _ dX2_readTrolley_94 fs_X2_26 sh1 ?_
    refine qX_getI 0 17 _ dX2_readTrolley_97 fs_X2_83 hO22 ?_
    refine qX_iload_n 2 dX2_readTrolley_100 rfl rfl ?_
    refine qX_iast dX2_readTrolley_101 (ar0_11 hO22) h.1 ?_
    replace h := h.2
    replace h := h _ rfl
    refine qX_aload_n 0 dX2_readTrolley_102 rfl rfl (by decide) ?_
    refine qX_getR 2 5 _ dX2_readTrolley_103 fs_X2_26 sh1 ?_
    refine qX_getS 0 12 _ 12 dX2_readTrolley_106 fs_X2_197 rfl rfl hO22 rfl ?_
    refine qX_aload_n 0 dX2_readTrolley_109 rfl rfl (by decide) ?_
    refine qX_getR 2 5 _ dX2_readTrolley_110 fs_X2_26 sh1 ?_
    refine qX_getI 0 17 _ dX2_readTrolley_113 fs_X2_83 hO22 ?_
    refine qX_iload_n 3 dX2_readTrolley_116 rfl rfl ?_
    refine qX_iast dX2_readTrolley_117 (ar0_12 hO22) h.1 ?_
    replace h := h.2
    replace h := h _ rfl
    refine qX_aload_n 0 dX2_readTrolley_118 rfl rfl (by decide) ?_
    refine qX_getR 2 5 _ dX2_readTrolley_119 fs_X2_26 sh1 ?_
    refine qX_getS 0 13 _ 13 dX2_readTrolley_122 fs_X2_200 rfl rfl hO22 rfl ?_
    refine qX_aload_n 0 dX2_readTrolley_125 rfl rfl (by decide) ?_
    refine qX_getR 2 5 _ dX2_readTrolley_126 fs_X2_26 sh1 ?_
    refine qX_getI 0 17 _ dX2_readTrolley_129 fs_X2_83 hO22 ?_
    refine qX_iload dX2_readTrolley_132 rfl ?_
    refine qX_iast dX2_readTrolley_134 (ar0_13 hO22) h.1 ?_
    replace h := h.2
    replace h := h _ rfl
    refine qX_aload_n 0 dX2_readTrolley_135 rfl rfl (by decide) ?_
    refine qX_getR 2 5 _ dX2_readTrolley_136 fs_X2_26 sh1 ?_
    refine qX_getS 0 14 _ 14 dX2_readTrolley_139 fs_X2_203 rfl rfl hO22 rfl ?_
    refine qX_aload_n 0 dX2_readTrolley_142 rfl rfl (by decide) ?_
    refine qX_getR 2 5 _ dX2_readTrolley_143 fs_X2_26 sh1 ?_
    refine qX_getI 0 17 _ dX2_readTrolley_146 fs_X2_83 hO22 ?_
    refine qX_iload dX2_readTrolley_149 rfl ?_
    refine qX_iast dX2_readTrolley_151 (ar0_14 hO22) h.1 ?_
    replace h := h.2
    replace h := h _ rfl
    refine qX_aload_n 0 dX2_readTrolley_152 rfl rfl (by decide) ?_
    refine qX_getR 2 5 _ dX2_readTrolley_153 fs_X2_26 sh1 ?_
    refine qX_dup dX2_readTrolley_156 rfl ?_
    refine qX_getI 0 17 _ dX2_readTrolley_157 fs_X2_83 hO22 ?_
    refine qX_iconst dX2_readTrolley_160 (i32_of rfl) ?_
    refine qR_iadd dX2_readTrolley_161 h.1 ?_
    replace h := h.2
    refine qX_putI 0 17 _ dX2_readTrolley_162 fs_X2_83 hO22 ?_
    replace h := h _ rfl
    exact qX_return rfl dX2_readTrolley_165 rfl ⟨(Nat.le_of_ble_eq_true rfl), (Nat.le_of_ble_eq_true rfl)⟩ h
set_option maxRecDepth 20000 in
theorem e_X2_readJob {Post : Int → Rf → Mem → Prop} {ρ : Rf} {μ : Mem} 
  (h : isO 6 (ρ 1 6) ∧ ((μ (ρ 1 6) 6 < 20 → qX mX2_readJob GG Post GG (0, 0) 17 [some (qP 1), none, none, none, none, none] [] ρ μ) ∧ (20 ≤ μ (ρ 1 6) 6 → ∃ P : Int → Rf → Mem → Prop, qE mX2_refuse GG GG [qP 1, qI 4] ρ μ P ∧ ∀ (z2 : Int) (ρ3 : Rf) (μ4 : Mem), P z2 ρ3 μ4 → qX mX2_readJob GG Post GG (0, 0) 17 [some (qP 1), none, none, none, none, none] [] ρ3 μ4))) : qE mX2_readJob GG GG [qP 1] ρ μ Post := by
  refine qE_intro pl_X2_readJob (Nat.le_of_ble_eq_true rfl) (Nat.le_refl _) ?_
  refine qX_aload_n 0 dX2_readJob_0 rfl rfl (by decide) ?_
  refine qX_getR 2 6 _ dX2_readJob_1 fs_X2_33 sh1 ?_
  have hO1 := h.1
  replace h := h.2
  refine qX_getI 6 6 _ dX2_readJob_4 fs_X2_206 hO1 ?_
  refine qX_bip dX2_readJob_7 rfl ?_
  refine qX_icmp_lt 17 dX2_readJob_9 rfl (fun hc => ?_) (fun hc => ?_)
  · replace h := h.1 hc
    exact qX_mask [true, false, false, false, false, false] h
  · replace h := h.2 hc
    refine qX_aload_n 0 dX2_readJob_12 rfl rfl (by decide) ?_
    refine qX_iconst dX2_readJob_13 (i32_of rfl) ?_
    obtain ⟨P, hE5, h⟩ := h
    refine qN_callV mX2_refuse [_] _ 2 [] dX2_readJob_14 cm_X2_62 ⟨(Nat.le_of_ble_eq_true rfl), (Nat.le_of_ble_eq_true rfl)⟩ rfl rfl sh1 (Nat.le_of_ble_eq_true rfl) ⟨rfl, rfl⟩ hE5 (fun z2 ρ3 μ4 hz => ?_)
    replace h := h _ _ _ hz
    exact qX_mask [true, false, false, false, false, false] h
set_option maxRecDepth 20000 in
theorem w_X2_readJob_17 {Post : Int → Rf → Mem → Prop} {ρ : Rf} {μ : Mem} 
  (h : isO 0 (ρ 1 5) ∧ i32 ((μ (ρ 1 5) 17) - 1) ∧ ∃ P : Int → Rf → Mem → Prop, qE mX2_takeNumber GG GG [qP 1, qI 0, qI ((μ (ρ 1 5) 17) - 1)] ρ μ P ∧ ∀ (z2 : Int) (ρ3 : Rf) (μ4 : Mem), P z2 ρ3 μ4 → isO 6 (ρ3 1 6) ∧ ∃ P : Int → Rf → Mem → Prop, qE mX6_jobsOf GG GG [qP (ρ3 1 6), qI z2] ρ3 μ4 P ∧ ∀ (z7 : Int) (ρ8 : Rf) (μ9 : Mem), P z7 ρ8 μ9 → ((z7 < 8 → qX mX2_readJob GG Post GG (0, 0) 50 [some (qP 1), some (qI z2), none, none, none, none] [] ρ8 μ9) ∧ (8 ≤ z7 → ∃ P : Int → Rf → Mem → Prop, qE mX2_refuse GG GG [qP 1, qI 4] ρ8 μ9 P ∧ ∀ (z11 : Int) (ρ12 : Rf) (μ13 : Mem), P z11 ρ12 μ13 → qX mX2_readJob GG Post GG (0, 0) 50 [some (qP 1), some (qI z2), none, none, none, none] [] ρ12 μ13))) : qX mX2_readJob GG Post GG (0, 0) 17 [some (qP 1), none, none, none, none, none] [] ρ μ := by
  refine qX_aload_n 0 dX2_readJob_17 rfl rfl (by decide) ?_
  refine qX_iconst dX2_readJob_18 (i32_of rfl) ?_
  refine qX_aload_n 0 dX2_readJob_19 rfl rfl (by decide) ?_
  refine qX_getR 2 5 _ dX2_readJob_20 fs_X2_26 sh1 ?_
  have hO1 := h.1
  replace h := h.2
  refine qX_getI 0 17 _ dX2_readJob_23 fs_X2_83 hO1 ?_
  refine qX_iconst dX2_readJob_26 (i32_of rfl) ?_
  refine qR_isub dX2_readJob_27 h.1 ?_
  replace h := h.2
  obtain ⟨P, hE5, h⟩ := h
  refine qN_callV mX2_takeNumber [_, _] _ 2 [] dX2_readJob_28 cm_X2_125 ⟨(Nat.le_of_ble_eq_true rfl), (Nat.le_of_ble_eq_true rfl)⟩ rfl rfl sh1 (Nat.le_of_ble_eq_true rfl) ⟨rfl, rfl⟩ hE5 (fun z2 ρ3 μ4 hz => ?_)
  replace h := h _ _ _ hz
  refine qX_istore_n 1 dX2_readJob_31 rfl (Nat.le_of_ble_eq_true rfl) rfl ?_
  refine qX_aload_n 0 dX2_readJob_32 rfl rfl (by decide) ?_
  refine qX_getR 2 6 _ dX2_readJob_33 fs_X2_33 sh1 ?_
  refine qX_iload_n 1 dX2_readJob_36 rfl rfl ?_
  have hO6 := h.1
  replace h := h.2
  obtain ⟨P, hE10, h⟩ := h
  refine qN_callV mX6_jobsOf [_] _ 6 [] dX2_readJob_37 cm_X2_209 ⟨(Nat.le_of_ble_eq_true rfl), (Nat.le_of_ble_eq_true rfl)⟩ rfl rfl hO6 (Nat.le_of_ble_eq_true rfl) ⟨rfl, rfl⟩ hE10 (fun z7 ρ8 μ9 hz => ?_)
  replace h := h _ _ _ hz
  refine qX_bip dX2_readJob_40 rfl ?_
  refine qX_icmp_lt 50 dX2_readJob_42 rfl (fun hc => ?_) (fun hc => ?_)
  · replace h := h.1 hc
    exact qX_mask [true, true, false, false, false, false] h
  · replace h := h.2 hc
    refine qX_aload_n 0 dX2_readJob_45 rfl rfl (by decide) ?_
    refine qX_iconst dX2_readJob_46 (i32_of rfl) ?_
    obtain ⟨P, hE14, h⟩ := h
    refine qN_callV mX2_refuse [_] _ 2 [] dX2_readJob_47 cm_X2_62 ⟨(Nat.le_of_ble_eq_true rfl), (Nat.le_of_ble_eq_true rfl)⟩ rfl rfl sh1 (Nat.le_of_ble_eq_true rfl) ⟨rfl, rfl⟩ hE14 (fun z11 ρ12 μ13 hz => ?_)
    replace h := h _ _ _ hz
    exact qX_mask [true, true, false, false, false, false] h
set_option maxRecDepth 20000 in
theorem w_X2_readJob_50 {Post : Int → Rf → Mem → Prop} {ρ : Rf} {μ : Mem} {x1 : Int}
  (h : ∃ P : Int → Rf → Mem → Prop, qE mX2_takeNumber GG GG [qP 1, qI 0, qI 1] ρ μ P ∧ ∀ (z1 : Int) (ρ2 : Rf) (μ3 : Mem), P z1 ρ2 μ3 → ∃ P : Int → Rf → Mem → Prop, qE mX2_refuseUnknownTrain GG GG [qP 1, qI z1] ρ2 μ3 P ∧ ∀ (z5 : Int) (ρ6 : Rf) (μ7 : Mem), P z5 ρ6 μ7 → isO 0 (ρ6 1 5) ∧ (0 ≤ z1 ∧ z1 < 2) ∧ i32 ((μ7 (ρ6 1 5 + 3) z1) - 1) ∧ ∃ P : Int → Rf → Mem → Prop, qE mX2_takeNumber GG GG [qP 1, qI 0, qI ((μ7 (ρ6 1 5 + 3) z1) - 1)] ρ6 μ7 P ∧ ∀ (z10 : Int) (ρ11 : Rf) (μ12 : Mem), P z10 ρ11 μ12 → ∃ P : Int → Rf → Mem → Prop, qE mX2_takeName GG GG [qP 1] ρ11 μ12 P ∧ ∀ (z14 : Int) (ρ15 : Rf) (μ16 : Mem), P z14 ρ15 μ16 → ∃ P : Int → Rf → Mem → Prop, qE mX2_namedMeal GG GG [qP 1] ρ15 μ16 P ∧ ∀ (z18 : Int) (ρ19 : Rf) (μ20 : Mem), P z18 ρ19 μ20 → ∃ P : Int → Rf → Mem → Prop, qE mX2_takeNumber GG GG [qP 1, qI 1, qI 99] ρ19 μ20 P ∧ ∀ (z22 : Int) (ρ23 : Rf) (μ24 : Mem), P z22 ρ23 μ24 → ((μ24 1 3 ≠ 0 → Post 0 ρ23 μ24) ∧ (μ24 1 3 = 0 → ∃ P : Int → Rf → Mem → Prop, qE mX7_doorIndex GG GG [qI z1, qI z10] ρ23 μ24 P ∧ ∀ (z26 : Int) (ρ27 : Rf) (μ28 : Mem), P z26 ρ27 μ28 → isO 6 (ρ23 1 6) ∧ ∃ P : Int → Rf → Mem → Prop, qE mX6_addLast GG GG [qP (ρ23 1 6), qI x1, qI z26, qI z18, qI z22] ρ27 μ28 P ∧ ∀ (z31 : Int) (ρ32 : Rf) (μ33 : Mem), P z31 ρ32 μ33 → Post 0 ρ32 μ33))) : qX mX2_readJob GG Post GG (0, 0) 50 [some (qP 1), some (qI x1), none, none, none, none] [] ρ μ := by
  refine qX_aload_n 0 dX2_readJob_50 rfl rfl (by decide) ?_
  refine qX_iconst dX2_readJob_51 (i32_of rfl) ?_
  refine qX_iconst dX2_readJob_52 (i32_of rfl) ?_
  obtain ⟨P, hE4, h⟩ := h
  refine qN_callV mX2_takeNumber [_, _] _ 2 [] dX2_readJob_53 cm_X2_125 ⟨(Nat.le_of_ble_eq_true rfl), (Nat.le_of_ble_eq_true rfl)⟩ rfl rfl sh1 (Nat.le_of_ble_eq_true rfl) ⟨rfl, rfl⟩ hE4 (fun z1 ρ2 μ3 hz => ?_)
  replace h := h _ _ _ hz
  refine qX_istore_n 2 dX2_readJob_56 rfl (Nat.le_of_ble_eq_true rfl) rfl ?_
  refine qX_aload_n 0 dX2_readJob_57 rfl rfl (by decide) ?_
  refine qX_iload_n 2 dX2_readJob_58 rfl rfl ?_
  obtain ⟨P, hE8, h⟩ := h
  refine qN_callV mX2_refuseUnknownTrain [_] _ 2 [] dX2_readJob_59 cm_X2_143 ⟨(Nat.le_of_ble_eq_true rfl), (Nat.le_of_ble_eq_true rfl)⟩ rfl rfl sh1 (Nat.le_of_ble_eq_true rfl) ⟨rfl, rfl⟩ hE8 (fun z5 ρ6 μ7 hz => ?_)
  replace h := h _ _ _ hz
  refine qX_aload_n 0 dX2_readJob_62 rfl rfl (by decide) ?_
  refine qX_iconst dX2_readJob_63 (i32_of rfl) ?_
  refine qX_aload_n 0 dX2_readJob_64 rfl rfl (by decide) ?_
  refine qX_getR 2 5 _ dX2_readJob_65 fs_X2_26 sh1 ?_
  have hO9 := h.1
  replace h := h.2
  refine qX_getS 0 2 _ 2 dX2_readJob_68 fs_X2_76 rfl rfl hO9 rfl ?_
  refine qX_iload_n 2 dX2_readJob_71 rfl rfl ?_
  refine qX_iald dX2_readJob_72 (ar0_2 hO9) h.1 ?_
  replace h := h.2
  refine qX_iconst dX2_readJob_73 (i32_of rfl) ?_
  refine qR_isub dX2_readJob_74 h.1 ?_
  replace h := h.2
  obtain ⟨P, hE13, h⟩ := h
  refine qN_callV mX2_takeNumber [_, _] _ 2 [] dX2_readJob_75 cm_X2_125 ⟨(Nat.le_of_ble_eq_true rfl), (Nat.le_of_ble_eq_true rfl)⟩ rfl rfl sh1 (Nat.le_of_ble_eq_true rfl) ⟨rfl, rfl⟩ hE13 (fun z10 ρ11 μ12 hz => ?_)
  replace h := h _ _ _ hz
  refine qX_istore_n 3 dX2_readJob_78 rfl (Nat.le_of_ble_eq_true rfl) rfl ?_
  refine qX_aload_n 0 dX2_readJob_79 rfl rfl (by decide) ?_
  obtain ⟨P, hE17, h⟩ := h
  refine qN_callV mX2_takeName [] _ 2 [] dX2_readJob_80 cm_X2_158 ⟨(Nat.le_of_ble_eq_true rfl), (Nat.le_of_ble_eq_true rfl)⟩ rfl rfl sh1 (Nat.le_of_ble_eq_true rfl) ⟨rfl, rfl⟩ hE17 (fun z14 ρ15 μ16 hz => ?_)
  replace h := h _ _ _ hz
  refine qX_aload_n 0 dX2_readJob_83 rfl rfl (by decide) ?_
  obtain ⟨P, hE21, h⟩ := h
  refine qN_callV mX2_namedMeal [] _ 2 [] dX2_readJob_84 cm_X2_181 ⟨(Nat.le_of_ble_eq_true rfl), (Nat.le_of_ble_eq_true rfl)⟩ rfl rfl sh1 (Nat.le_of_ble_eq_true rfl) ⟨rfl, rfl⟩ hE21 (fun z18 ρ19 μ20 hz => ?_)
  replace h := h _ _ _ hz
  refine qX_istore dX2_readJob_87 (Nat.le_of_ble_eq_true rfl) rfl ?_
  refine qX_aload_n 0 dX2_readJob_89 rfl rfl (by decide) ?_
  refine qX_iconst dX2_readJob_90 (i32_of rfl) ?_
  refine qX_bip dX2_readJob_91 rfl ?_
  obtain ⟨P, hE25, h⟩ := h
  refine qN_callV mX2_takeNumber [_, _] _ 2 [] dX2_readJob_93 cm_X2_125 ⟨(Nat.le_of_ble_eq_true rfl), (Nat.le_of_ble_eq_true rfl)⟩ rfl rfl sh1 (Nat.le_of_ble_eq_true rfl) ⟨rfl, rfl⟩ hE25 (fun z22 ρ23 μ24 hz => ?_)
  replace h := h _ _ _ hz
  refine qX_istore dX2_readJob_96 (Nat.le_of_ble_eq_true rfl) rfl ?_
  refine qX_aload_n 0 dX2_readJob_98 rfl rfl (by decide) ?_
  refine qX_getI 2 3 _ dX2_readJob_99 fs_X2_44 sh1 ?_
  refine qX_if_ne 122 dX2_readJob_102 rfl (fun hc => ?_) (fun hc => ?_)
  · replace h := h.1 hc
    exact qX_return rfl dX2_readJob_122 rfl ⟨(Nat.le_of_ble_eq_true rfl), (Nat.le_of_ble_eq_true rfl)⟩ h
  · replace h := h.2 hc
    refine qX_aload_n 0 dX2_readJob_105 rfl rfl (by decide) ?_
    refine qX_getR 2 6 _ dX2_readJob_106 fs_X2_33 sh1 ?_
    refine qX_iload_n 1 dX2_readJob_109 rfl rfl ?_
    refine qX_iload_n 2 dX2_readJob_110 rfl rfl ?_
    refine qX_iload_n 3 dX2_readJob_111 rfl rfl ?_
    obtain ⟨P, hE29, h⟩ := h
    refine qN_callSN mX7_doorIndex [_, _] [_, _] dX2_readJob_112 cm_X2_146 ⟨(Nat.le_of_ble_eq_true rfl), (Nat.le_of_ble_eq_true rfl)⟩ rfl rfl (Nat.le_of_ble_eq_true rfl) ⟨rfl, rfl⟩ hE29 (fun z26 ρ27 μ28 hz => ?_)
    replace h := h _ _ _ hz
    refine qX_iload dX2_readJob_115 rfl ?_
    refine qX_iload dX2_readJob_117 rfl ?_
    have hO30 := h.1
    replace h := h.2
    obtain ⟨P, hE34, h⟩ := h
    refine qN_callV mX6_addLast [_, _, _, _] _ 6 [] dX2_readJob_119 cm_X2_213 ⟨(Nat.le_of_ble_eq_true rfl), (Nat.le_of_ble_eq_true rfl)⟩ rfl rfl hO30 (Nat.le_of_ble_eq_true rfl) ⟨rfl, rfl⟩ hE34 (fun z31 ρ32 μ33 hz => ?_)
    replace h := h _ _ _ hz
    exact qX_return rfl dX2_readJob_122 rfl ⟨(Nat.le_of_ble_eq_true rfl), (Nat.le_of_ble_eq_true rfl)⟩ h
set_option maxRecDepth 20000 in
theorem e_X2_takeNumber {Post : Int → Rf → Mem → Prop} {ρ : Rf} {μ : Mem} {x1 : Int} {x2 : Int}
  (h : ∃ P : Int → Rf → Mem → Prop, qE mX2_advance GG GG [qP 1] ρ μ P ∧ ∀ (z1 : Int) (ρ2 : Rf) (μ3 : Mem), P z1 ρ2 μ3 → ((μ3 1 10 = 2 → ((μ3 1 11 < x1 → qX mX2_takeNumber GG Post GG (0, 0) 36 [some (qP 1), some (qI x1), none] [] ρ2 μ3) ∧ (x1 ≤ μ3 1 11 → ((μ3 1 11 ≤ x2 → qX mX2_takeNumber GG Post GG (0, 0) 41 [some (qP 1), some (qI x1), none] [] ρ2 μ3) ∧ (x2 < μ3 1 11 → qX mX2_takeNumber GG Post GG (0, 0) 36 [some (qP 1), some (qI x1), none] [] ρ2 μ3))))) ∧ (μ3 1 10 ≠ 2 → ∃ P : Int → Rf → Mem → Prop, qE mX2_refuse GG GG [qP 1, qI 1] ρ2 μ3 P ∧ ∀ (z5 : Int) (ρ6 : Rf) (μ7 : Mem), P z5 ρ6 μ7 → qX mX2_takeNumber GG Post GG (0, 0) 41 [some (qP 1), some (qI x1), none] [] ρ6 μ7))) : qE mX2_takeNumber GG GG [qP 1, qI x1, qI x2] ρ μ Post := by
  refine qE_intro pl_X2_takeNumber (Nat.le_of_ble_eq_true rfl) (Nat.le_refl _) ?_
  refine qX_aload_n 0 dX2_takeNumber_0 rfl rfl (by decide) ?_
  obtain ⟨P, hE4, h⟩ := h
  refine qN_callV mX2_advance [] _ 2 [] dX2_takeNumber_1 cm_X2_56 ⟨(Nat.le_of_ble_eq_true rfl), (Nat.le_of_ble_eq_true rfl)⟩ rfl rfl sh1 (Nat.le_of_ble_eq_true rfl) ⟨rfl, rfl⟩ hE4 (fun z1 ρ2 μ3 hz => ?_)
  replace h := h _ _ _ hz
  refine qX_aload_n 0 dX2_takeNumber_4 rfl rfl (by decide) ?_
  refine qX_getI 2 10 _ dX2_takeNumber_5 fs_X2_59 sh1 ?_
  refine qX_iconst dX2_takeNumber_8 (i32_of rfl) ?_
  refine qX_icmp_eq 20 dX2_takeNumber_9 rfl (fun hc => ?_) (fun hc => ?_)
  · replace h := h.1 hc
    refine qX_aload_n 0 dX2_takeNumber_20 rfl rfl (by decide) ?_
    refine qX_getI 2 11 _ dX2_takeNumber_21 fs_X2_217 sh1 ?_
    refine qX_iload_n 1 dX2_takeNumber_24 rfl rfl ?_
    refine qX_icmp_lt 36 dX2_takeNumber_25 rfl (fun hc => ?_) (fun hc => ?_)
    · replace h := h.1 hc
      exact qX_mask [true, true, false] h
    · replace h := h.2 hc
      refine qX_aload_n 0 dX2_takeNumber_28 rfl rfl (by decide) ?_
      refine qX_getI 2 11 _ dX2_takeNumber_29 fs_X2_217 sh1 ?_
      refine qX_iload_n 2 dX2_takeNumber_32 rfl rfl ?_
      refine qX_icmp_le 41 dX2_takeNumber_33 rfl (fun hc => ?_) (fun hc => ?_)
      · replace h := h.1 hc
        exact qX_mask [true, true, false] h
      · replace h := h.2 hc
        exact qX_mask [true, true, false] h
  · replace h := h.2 hc
    refine qX_aload_n 0 dX2_takeNumber_12 rfl rfl (by decide) ?_
    refine qX_iconst dX2_takeNumber_13 (i32_of rfl) ?_
    obtain ⟨P, hE8, h⟩ := h
    refine qN_callV mX2_refuse [_] _ 2 [] dX2_takeNumber_14 cm_X2_62 ⟨(Nat.le_of_ble_eq_true rfl), (Nat.le_of_ble_eq_true rfl)⟩ rfl rfl sh1 (Nat.le_of_ble_eq_true rfl) ⟨rfl, rfl⟩ hE8 (fun z5 ρ6 μ7 hz => ?_)
    replace h := h _ _ _ hz
    refine qX_goto 41 dX2_takeNumber_17 rfl ?_
    exact qX_mask [true, true, false] h
set_option maxRecDepth 20000 in
theorem w_X2_takeNumber_36 {Post : Int → Rf → Mem → Prop} {ρ : Rf} {μ : Mem} {x1 : Int}
  (h : ∃ P : Int → Rf → Mem → Prop, qE mX2_refuse GG GG [qP 1, qI 2] ρ μ P ∧ ∀ (z1 : Int) (ρ2 : Rf) (μ3 : Mem), P z1 ρ2 μ3 → qX mX2_takeNumber GG Post GG (0, 0) 41 [some (qP 1), some (qI x1), none] [] ρ2 μ3) : qX mX2_takeNumber GG Post GG (0, 0) 36 [some (qP 1), some (qI x1), none] [] ρ μ := by
  refine qX_aload_n 0 dX2_takeNumber_36 rfl rfl (by decide) ?_
  refine qX_iconst dX2_takeNumber_37 (i32_of rfl) ?_
  obtain ⟨P, hE4, h⟩ := h
  refine qN_callV mX2_refuse [_] _ 2 [] dX2_takeNumber_38 cm_X2_62 ⟨(Nat.le_of_ble_eq_true rfl), (Nat.le_of_ble_eq_true rfl)⟩ rfl rfl sh1 (Nat.le_of_ble_eq_true rfl) ⟨rfl, rfl⟩ hE4 (fun z1 ρ2 μ3 hz => ?_)
  replace h := h _ _ _ hz
  exact qX_mask [true, true, false] h
set_option maxRecDepth 20000 in
theorem w_X2_takeNumber_41 {Post : Int → Rf → Mem → Prop} {ρ : Rf} {μ : Mem} {x1 : Int}
  (h : ((μ 1 3 ≠ 0 → Post x1 ρ μ) ∧ (μ 1 3 = 0 → Post (μ 1 11) ρ μ))) : qX mX2_takeNumber GG Post GG (0, 0) 41 [some (qP 1), some (qI x1), none] [] ρ μ := by
  refine qX_aload_n 0 dX2_takeNumber_41 rfl rfl (by decide) ?_
  refine qX_getI 2 3 _ dX2_takeNumber_42 fs_X2_44 sh1 ?_
  refine qX_if_ne 55 dX2_takeNumber_45 rfl (fun hc => ?_) (fun hc => ?_)
  · replace h := h.1 hc
    refine qX_iload_n 1 dX2_takeNumber_55 rfl rfl ?_
    exact qX_ireturn rfl dX2_takeNumber_56 rfl ⟨(Nat.le_of_ble_eq_true rfl), (Nat.le_of_ble_eq_true rfl)⟩ h
  · replace h := h.2 hc
    refine qX_aload_n 0 dX2_takeNumber_48 rfl rfl (by decide) ?_
    refine qX_getI 2 11 _ dX2_takeNumber_49 fs_X2_217 sh1 ?_
    refine qX_goto 56 dX2_takeNumber_52 rfl ?_
    exact qX_ireturn rfl dX2_takeNumber_56 rfl ⟨(Nat.le_of_ble_eq_true rfl), (Nat.le_of_ble_eq_true rfl)⟩ h
set_option maxRecDepth 20000 in
theorem e_X2_refuseUnknownTrain {Post : Int → Rf → Mem → Prop} {ρ : Rf} {μ : Mem} {x1 : Int}
  (h : isO 0 (ρ 1 5) ∧ (0 ≤ x1 ∧ x1 < 2) ∧ ((μ (ρ 1 5 + 1) x1 ≠ 0 → Post 0 ρ μ) ∧ (μ (ρ 1 5 + 1) x1 = 0 → ∃ P : Int → Rf → Mem → Prop, qE mX2_refuse GG GG [qP 1, qI 2] ρ μ P ∧ ∀ (z2 : Int) (ρ3 : Rf) (μ4 : Mem), P z2 ρ3 μ4 → Post 0 ρ3 μ4))) : qE mX2_refuseUnknownTrain GG GG [qP 1, qI x1] ρ μ Post := by
  refine qE_intro pl_X2_refuseUnknownTrain (Nat.le_of_ble_eq_true rfl) (Nat.le_refl _) ?_
  refine qX_aload_n 0 dX2_refuseUnknownTrain_0 rfl rfl (by decide) ?_
  refine qX_getR 2 5 _ dX2_refuseUnknownTrain_1 fs_X2_26 sh1 ?_
  have hO1 := h.1
  replace h := h.2
  refine qX_getS 0 0 _ 0 dX2_refuseUnknownTrain_4 fs_X2_73 rfl rfl hO1 rfl ?_
  refine qX_iload_n 1 dX2_refuseUnknownTrain_7 rfl rfl ?_
  refine qX_zald dX2_refuseUnknownTrain_8 (ar0_0 hO1) h.1 ?_
  replace h := h.2
  refine qX_if_ne 17 dX2_refuseUnknownTrain_9 rfl (fun hc => ?_) (fun hc => ?_)
  · replace h := h.1 hc
    exact qX_return rfl dX2_refuseUnknownTrain_17 rfl ⟨(Nat.le_of_ble_eq_true rfl), (Nat.le_of_ble_eq_true rfl)⟩ h
  · replace h := h.2 hc
    refine qX_aload_n 0 dX2_refuseUnknownTrain_12 rfl rfl (by decide) ?_
    refine qX_iconst dX2_refuseUnknownTrain_13 (i32_of rfl) ?_
    obtain ⟨P, hE5, h⟩ := h
    refine qN_callV mX2_refuse [_] _ 2 [] dX2_refuseUnknownTrain_14 cm_X2_62 ⟨(Nat.le_of_ble_eq_true rfl), (Nat.le_of_ble_eq_true rfl)⟩ rfl rfl sh1 (Nat.le_of_ble_eq_true rfl) ⟨rfl, rfl⟩ hE5 (fun z2 ρ3 μ4 hz => ?_)
    replace h := h _ _ _ hz
    exact qX_return rfl dX2_refuseUnknownTrain_17 rfl ⟨(Nat.le_of_ble_eq_true rfl), (Nat.le_of_ble_eq_true rfl)⟩ h
set_option maxRecDepth 20000 in
theorem e_X2_takeKeyword {Post : Int → Rf → Mem → Prop} {ρ : Rf} {μ : Mem} {x1 : Int}
  (h : ∃ P : Int → Rf → Mem → Prop, qE mX2_advance GG GG [qP 1] ρ μ P ∧ ∀ (z1 : Int) (ρ2 : Rf) (μ3 : Mem), P z1 ρ2 μ3 → ((μ3 1 10 ≠ 1 → ∃ P : Int → Rf → Mem → Prop, qE mX2_refuse GG GG [qP 1, qI 1] ρ2 μ3 P ∧ ∀ (z5 : Int) (ρ6 : Rf) (μ7 : Mem), P z5 ρ6 μ7 → Post 0 ρ6 μ7) ∧ (μ3 1 10 = 1 → ((μ3 1 12 = x1 → Post 0 ρ2 μ3) ∧ (μ3 1 12 ≠ x1 → ∃ P : Int → Rf → Mem → Prop, qE mX2_refuse GG GG [qP 1, qI 1] ρ2 μ3 P ∧ ∀ (z9 : Int) (ρ10 : Rf) (μ11 : Mem), P z9 ρ10 μ11 → Post 0 ρ10 μ11))))) : qE mX2_takeKeyword GG GG [qP 1, qJ x1] ρ μ Post := by
  refine qE_intro pl_X2_takeKeyword (Nat.le_of_ble_eq_true rfl) (Nat.le_refl _) ?_
  refine qX_aload_n 0 dX2_takeKeyword_0 rfl rfl (by decide) ?_
  obtain ⟨P, hE4, h⟩ := h
  refine qN_callV mX2_advance [] _ 2 [] dX2_takeKeyword_1 cm_X2_56 ⟨(Nat.le_of_ble_eq_true rfl), (Nat.le_of_ble_eq_true rfl)⟩ rfl rfl sh1 (Nat.le_of_ble_eq_true rfl) ⟨rfl, rfl⟩ hE4 (fun z1 ρ2 μ3 hz => ?_)
  replace h := h _ _ _ hz
  refine qX_aload_n 0 dX2_takeKeyword_4 rfl rfl (by decide) ?_
  refine qX_getI 2 10 _ dX2_takeKeyword_5 fs_X2_59 sh1 ?_
  refine qX_iconst dX2_takeKeyword_8 (i32_of rfl) ?_
  refine qX_icmp_ne 21 dX2_takeKeyword_9 rfl (fun hc => ?_) (fun hc => ?_)
  · replace h := h.1 hc
    refine qX_aload_n 0 dX2_takeKeyword_21 rfl rfl (by decide) ?_
    refine qX_iconst dX2_takeKeyword_22 (i32_of rfl) ?_
    obtain ⟨P, hE8, h⟩ := h
    refine qN_callV mX2_refuse [_] _ 2 [] dX2_takeKeyword_23 cm_X2_62 ⟨(Nat.le_of_ble_eq_true rfl), (Nat.le_of_ble_eq_true rfl)⟩ rfl rfl sh1 (Nat.le_of_ble_eq_true rfl) ⟨rfl, rfl⟩ hE8 (fun z5 ρ6 μ7 hz => ?_)
    replace h := h _ _ _ hz
    exact qX_return rfl dX2_takeKeyword_26 rfl ⟨(Nat.le_of_ble_eq_true rfl), (Nat.le_of_ble_eq_true rfl)⟩ h
  · replace h := h.2 hc
    refine qX_aload_n 0 dX2_takeKeyword_12 rfl rfl (by decide) ?_
    refine qX_getJ 2 12 _ dX2_takeKeyword_13 fs_X2_86 sh1 ?_
    refine qX_lload_n 1 dX2_takeKeyword_16 rfl rfl ?_
    refine qX_lcmp dX2_takeKeyword_17 ?_
    refine qX_if_eq 26 dX2_takeKeyword_18 rfl (fun hc => ?_) (fun hc => ?_)
    · replace h := h.1 (cmpL_eq0.mp hc)
      exact qX_return rfl dX2_takeKeyword_26 rfl ⟨(Nat.le_of_ble_eq_true rfl), (Nat.le_of_ble_eq_true rfl)⟩ h
    · replace h := h.2 (fun e => hc (cmpL_eq0.mpr e))
      refine qX_aload_n 0 dX2_takeKeyword_21 rfl rfl (by decide) ?_
      refine qX_iconst dX2_takeKeyword_22 (i32_of rfl) ?_
      obtain ⟨P, hE12, h⟩ := h
      refine qN_callV mX2_refuse [_] _ 2 [] dX2_takeKeyword_23 cm_X2_62 ⟨(Nat.le_of_ble_eq_true rfl), (Nat.le_of_ble_eq_true rfl)⟩ rfl rfl sh1 (Nat.le_of_ble_eq_true rfl) ⟨rfl, rfl⟩ hE12 (fun z9 ρ10 μ11 hz => ?_)
      replace h := h _ _ _ hz
      exact qX_return rfl dX2_takeKeyword_26 rfl ⟨(Nat.le_of_ble_eq_true rfl), (Nat.le_of_ble_eq_true rfl)⟩ h
set_option maxRecDepth 20000 in
theorem e_X2_takeName {Post : Int → Rf → Mem → Prop} {ρ : Rf} {μ : Mem} 
  (h : ∃ P : Int → Rf → Mem → Prop, qE mX2_advance GG GG [qP 1] ρ μ P ∧ ∀ (z1 : Int) (ρ2 : Rf) (μ3 : Mem), P z1 ρ2 μ3 → ((μ3 1 10 ≠ 1 → ∃ P : Int → Rf → Mem → Prop, qE mX2_refuse GG GG [qP 1, qI 1] ρ2 μ3 P ∧ ∀ (z5 : Int) (ρ6 : Rf) (μ7 : Mem), P z5 ρ6 μ7 → Post 0 ρ6 μ7) ∧ (μ3 1 10 = 1 → ∃ P : Int → Rf → Mem → Prop, qE mX2_isKeyword GG GG [qP 1] ρ2 μ3 P ∧ ∀ (z9 : Int) (ρ10 : Rf) (μ11 : Mem), P z9 ρ10 μ11 → ((z9 = 0 → Post 0 ρ10 μ11) ∧ (z9 ≠ 0 → ∃ P : Int → Rf → Mem → Prop, qE mX2_refuse GG GG [qP 1, qI 1] ρ10 μ11 P ∧ ∀ (z13 : Int) (ρ14 : Rf) (μ15 : Mem), P z13 ρ14 μ15 → Post 0 ρ14 μ15))))) : qE mX2_takeName GG GG [qP 1] ρ μ Post := by
  refine qE_intro pl_X2_takeName (Nat.le_of_ble_eq_true rfl) (Nat.le_refl _) ?_
  refine qX_aload_n 0 dX2_takeName_0 rfl rfl (by decide) ?_
  obtain ⟨P, hE4, h⟩ := h
  refine qN_callV mX2_advance [] _ 2 [] dX2_takeName_1 cm_X2_56 ⟨(Nat.le_of_ble_eq_true rfl), (Nat.le_of_ble_eq_true rfl)⟩ rfl rfl sh1 (Nat.le_of_ble_eq_true rfl) ⟨rfl, rfl⟩ hE4 (fun z1 ρ2 μ3 hz => ?_)
  replace h := h _ _ _ hz
  refine qX_aload_n 0 dX2_takeName_4 rfl rfl (by decide) ?_
  refine qX_getI 2 10 _ dX2_takeName_5 fs_X2_59 sh1 ?_
  refine qX_iconst dX2_takeName_8 (i32_of rfl) ?_
  refine qX_icmp_ne 19 dX2_takeName_9 rfl (fun hc => ?_) (fun hc => ?_)
  · replace h := h.1 hc
    refine qX_aload_n 0 dX2_takeName_19 rfl rfl (by decide) ?_
    refine qX_iconst dX2_takeName_20 (i32_of rfl) ?_
    obtain ⟨P, hE8, h⟩ := h
    refine qN_callV mX2_refuse [_] _ 2 [] dX2_takeName_21 cm_X2_62 ⟨(Nat.le_of_ble_eq_true rfl), (Nat.le_of_ble_eq_true rfl)⟩ rfl rfl sh1 (Nat.le_of_ble_eq_true rfl) ⟨rfl, rfl⟩ hE8 (fun z5 ρ6 μ7 hz => ?_)
    replace h := h _ _ _ hz
    exact qX_return rfl dX2_takeName_24 rfl ⟨(Nat.le_of_ble_eq_true rfl), (Nat.le_of_ble_eq_true rfl)⟩ h
  · replace h := h.2 hc
    refine qX_aload_n 0 dX2_takeName_12 rfl rfl (by decide) ?_
    obtain ⟨P, hE12, h⟩ := h
    refine qN_callV mX2_isKeyword [] _ 2 [] dX2_takeName_13 cm_X2_220 ⟨(Nat.le_of_ble_eq_true rfl), (Nat.le_of_ble_eq_true rfl)⟩ rfl rfl sh1 (Nat.le_of_ble_eq_true rfl) ⟨rfl, rfl⟩ hE12 (fun z9 ρ10 μ11 hz => ?_)
    replace h := h _ _ _ hz
    refine qX_if_eq 24 dX2_takeName_16 rfl (fun hc => ?_) (fun hc => ?_)
    · replace h := h.1 hc
      exact qX_return rfl dX2_takeName_24 rfl ⟨(Nat.le_of_ble_eq_true rfl), (Nat.le_of_ble_eq_true rfl)⟩ h
    · replace h := h.2 hc
      refine qX_aload_n 0 dX2_takeName_19 rfl rfl (by decide) ?_
      refine qX_iconst dX2_takeName_20 (i32_of rfl) ?_
      obtain ⟨P, hE16, h⟩ := h
      refine qN_callV mX2_refuse [_] _ 2 [] dX2_takeName_21 cm_X2_62 ⟨(Nat.le_of_ble_eq_true rfl), (Nat.le_of_ble_eq_true rfl)⟩ rfl rfl sh1 (Nat.le_of_ble_eq_true rfl) ⟨rfl, rfl⟩ hE16 (fun z13 ρ14 μ15 hz => ?_)
      replace h := h _ _ _ hz
      exact qX_return rfl dX2_takeName_24 rfl ⟨(Nat.le_of_ble_eq_true rfl), (Nat.le_of_ble_eq_true rfl)⟩ h
set_option maxRecDepth 20000 in
theorem e_X2_namedMeal {Post : Int → Rf → Mem → Prop} {ρ : Rf} {μ : Mem} 
  (h : isO 0 (ρ 1 5) ∧ ∃ P : Int → Rf → Mem → Prop, qE mX0_mealNamed GG GG [qP (ρ 1 5), qJ (μ 1 12)] ρ μ P ∧ ∀ (z2 : Int) (ρ3 : Rf) (μ4 : Mem), P z2 ρ3 μ4 → ((0 ≤ z2 → Post (max 0 z2) ρ3 μ4) ∧ (z2 < 0 → ∃ P : Int → Rf → Mem → Prop, qE mX2_refuse GG GG [qP 1, qI 2] ρ3 μ4 P ∧ ∀ (z6 : Int) (ρ7 : Rf) (μ8 : Mem), P z6 ρ7 μ8 → Post (max 0 z2) ρ7 μ8))) : qE mX2_namedMeal GG GG [qP 1] ρ μ Post := by
  refine qE_intro pl_X2_namedMeal (Nat.le_of_ble_eq_true rfl) (Nat.le_refl _) ?_
  refine qX_aload_n 0 dX2_namedMeal_0 rfl rfl (by decide) ?_
  refine qX_getR 2 5 _ dX2_namedMeal_1 fs_X2_26 sh1 ?_
  refine qX_aload_n 0 dX2_namedMeal_4 rfl rfl (by decide) ?_
  refine qX_getJ 2 12 _ dX2_namedMeal_5 fs_X2_86 sh1 ?_
  have hO1 := h.1
  replace h := h.2
  obtain ⟨P, hE5, h⟩ := h
  refine qN_callV mX0_mealNamed [_] _ 0 [] dX2_namedMeal_8 cm_X2_161 ⟨(Nat.le_of_ble_eq_true rfl), (Nat.le_of_ble_eq_true rfl)⟩ rfl rfl hO1 (Nat.le_of_ble_eq_true rfl) ⟨rfl, rfl⟩ hE5 (fun z2 ρ3 μ4 hz => ?_)
  replace h := h _ _ _ hz
  refine qX_istore_n 1 dX2_namedMeal_11 rfl (Nat.le_of_ble_eq_true rfl) rfl ?_
  refine qX_iload_n 1 dX2_namedMeal_12 rfl rfl ?_
  refine qX_if_ge 21 dX2_namedMeal_13 rfl (fun hc => ?_) (fun hc => ?_)
  · replace h := h.1 hc
    refine qX_iconst dX2_namedMeal_21 (i32_of rfl) ?_
    refine qX_iload_n 1 dX2_namedMeal_22 rfl rfl ?_
    refine qX_max dX2_namedMeal_23 kM_X2_223 ⟨(Nat.le_of_ble_eq_true rfl), (Nat.le_of_ble_eq_true rfl)⟩ (Nat.le_of_ble_eq_true rfl) ⟨(Nat.le_of_ble_eq_true rfl), (Nat.le_of_ble_eq_true rfl)⟩ ?_
    exact qX_ireturn rfl dX2_namedMeal_26 rfl ⟨(Nat.le_of_ble_eq_true rfl), (Nat.le_of_ble_eq_true rfl)⟩ h
  · replace h := h.2 hc
    refine qX_aload_n 0 dX2_namedMeal_16 rfl rfl (by decide) ?_
    refine qX_iconst dX2_namedMeal_17 (i32_of rfl) ?_
    obtain ⟨P, hE9, h⟩ := h
    refine qN_callV mX2_refuse [_] _ 2 [] dX2_namedMeal_18 cm_X2_62 ⟨(Nat.le_of_ble_eq_true rfl), (Nat.le_of_ble_eq_true rfl)⟩ rfl rfl sh1 (Nat.le_of_ble_eq_true rfl) ⟨rfl, rfl⟩ hE9 (fun z6 ρ7 μ8 hz => ?_)
    replace h := h _ _ _ hz
    refine qX_iconst dX2_namedMeal_21 (i32_of rfl) ?_
    refine qX_iload_n 1 dX2_namedMeal_22 rfl rfl ?_
    refine qX_max dX2_namedMeal_23 kM_X2_223 ⟨(Nat.le_of_ble_eq_true rfl), (Nat.le_of_ble_eq_true rfl)⟩ (Nat.le_of_ble_eq_true rfl) ⟨(Nat.le_of_ble_eq_true rfl), (Nat.le_of_ble_eq_true rfl)⟩ ?_
    exact qX_ireturn rfl dX2_namedMeal_26 rfl ⟨(Nat.le_of_ble_eq_true rfl), (Nat.le_of_ble_eq_true rfl)⟩ h
set_option maxRecDepth 20000 in
theorem e_X2_isKeyword {Post : Int → Rf → Mem → Prop} {ρ : Rf} {μ : Mem} 
  (h : ((μ 1 12 = 500135192942 → Post 1 ρ μ) ∧ (μ 1 12 ≠ 500135192942 → ((μ 1 12 = 6513010 → Post 1 ρ μ) ∧ (μ 1 12 ≠ 6513010 → ((μ 1 12 = 1835360620 → Post 1 ρ μ) ∧ (μ 1 12 ≠ 1835360620 → ((μ 1 12 = 30233771112949102 → Post 1 ρ μ) ∧ (μ 1 12 ≠ 30233771112949102 → ((μ 1 12 = 495874696043 → Post 1 ρ μ) ∧ (μ 1 12 ≠ 495874696043 → ((μ 1 12 = 32776920184415609 → Post 1 ρ μ) ∧ (μ 1 12 ≠ 32776920184415609 → ((μ 1 12 = 6975330 → Post 1 ρ μ) ∧ (μ 1 12 ≠ 6975330 → ((μ 1 12 = 1718775661 → Post 1 ρ μ) ∧ (μ 1 12 ≠ 1718775661 → ((μ 1 12 ≠ 29807 → Post 0 ρ μ) ∧ (μ 1 12 = 29807 → Post 1 ρ μ))))))))))))))))))) : qE mX2_isKeyword GG GG [qP 1] ρ μ Post := by
  refine qE_intro pl_X2_isKeyword (Nat.le_of_ble_eq_true rfl) (Nat.le_refl _) ?_
  refine qX_aload_n 0 dX2_isKeyword_0 rfl rfl (by decide) ?_
  refine qX_getJ 2 12 _ dX2_isKeyword_1 fs_X2_86 sh1 ?_
  refine qX_ldc2 (n := 500135192942) dX2_isKeyword_4 kK_X2_90 (i64_of rfl) ?_
  refine qX_lcmp dX2_isKeyword_7 ?_
  refine qX_if_eq 99 dX2_isKeyword_8 rfl (fun hc => ?_) (fun hc => ?_)
  · replace h := h.1 (cmpL_eq0.mp hc)
    refine qX_iconst dX2_isKeyword_99 (i32_of rfl) ?_
    refine qX_goto 104 dX2_isKeyword_100 rfl ?_
    exact qX_zreturn rfl dX2_isKeyword_104 rfl ⟨(Nat.le_of_ble_eq_true rfl), (Nat.le_of_ble_eq_true rfl)⟩ (by decide) h
  · replace h := h.2 (fun e => hc (cmpL_eq0.mpr e))
    refine qX_aload_n 0 dX2_isKeyword_11 rfl rfl (by decide) ?_
    refine qX_getJ 2 12 _ dX2_isKeyword_12 fs_X2_86 sh1 ?_
    refine qX_ldc2 (n := 6513010) dX2_isKeyword_15 kK_X2_95 (i64_of rfl) ?_
    refine qX_lcmp dX2_isKeyword_18 ?_
    refine qX_if_eq 99 dX2_isKeyword_19 rfl (fun hc => ?_) (fun hc => ?_)
    · replace h := h.1 (cmpL_eq0.mp hc)
      refine qX_iconst dX2_isKeyword_99 (i32_of rfl) ?_
      refine qX_goto 104 dX2_isKeyword_100 rfl ?_
      exact qX_zreturn rfl dX2_isKeyword_104 rfl ⟨(Nat.le_of_ble_eq_true rfl), (Nat.le_of_ble_eq_true rfl)⟩ (by decide) h
    · replace h := h.2 (fun e => hc (cmpL_eq0.mpr e))
      refine qX_aload_n 0 dX2_isKeyword_22 rfl rfl (by decide) ?_
      refine qX_getJ 2 12 _ dX2_isKeyword_23 fs_X2_86 sh1 ?_
      refine qX_ldc2 (n := 1835360620) dX2_isKeyword_26 kK_X2_100 (i64_of rfl) ?_
      refine qX_lcmp dX2_isKeyword_29 ?_
      refine qX_if_eq 99 dX2_isKeyword_30 rfl (fun hc => ?_) (fun hc => ?_)
      · replace h := h.1 (cmpL_eq0.mp hc)
        refine qX_iconst dX2_isKeyword_99 (i32_of rfl) ?_
        refine qX_goto 104 dX2_isKeyword_100 rfl ?_
        exact qX_zreturn rfl dX2_isKeyword_104 rfl ⟨(Nat.le_of_ble_eq_true rfl), (Nat.le_of_ble_eq_true rfl)⟩ (by decide) h
      · replace h := h.2 (fun e => hc (cmpL_eq0.mpr e))
        refine qX_aload_n 0 dX2_isKeyword_33 rfl rfl (by decide) ?_
        refine qX_getJ 2 12 _ dX2_isKeyword_34 fs_X2_86 sh1 ?_
        refine qX_ldc2 (n := 30233771112949102) dX2_isKeyword_37 kK_X2_105 (i64_of rfl) ?_
        refine qX_lcmp dX2_isKeyword_40 ?_
        refine qX_if_eq 99 dX2_isKeyword_41 rfl (fun hc => ?_) (fun hc => ?_)
        · replace h := h.1 (cmpL_eq0.mp hc)
          refine qX_iconst dX2_isKeyword_99 (i32_of rfl) ?_
          refine qX_goto 104 dX2_isKeyword_100 rfl ?_
          exact qX_zreturn rfl dX2_isKeyword_104 rfl ⟨(Nat.le_of_ble_eq_true rfl), (Nat.le_of_ble_eq_true rfl)⟩ (by decide) h
        · replace h := h.2 (fun e => hc (cmpL_eq0.mpr e))
          refine qX_aload_n 0 dX2_isKeyword_44 rfl rfl (by decide) ?_
          refine qX_getJ 2 12 _ dX2_isKeyword_45 fs_X2_86 sh1 ?_
          refine qX_ldc2 (n := 495874696043) dX2_isKeyword_48 kK_X2_110 (i64_of rfl) ?_
          refine qX_lcmp dX2_isKeyword_51 ?_
          refine qX_if_eq 99 dX2_isKeyword_52 rfl (fun hc => ?_) (fun hc => ?_)
          · replace h := h.1 (cmpL_eq0.mp hc)
            refine qX_iconst dX2_isKeyword_99 (i32_of rfl) ?_
            refine qX_goto 104 dX2_isKeyword_100 rfl ?_
            exact qX_zreturn rfl dX2_isKeyword_104 rfl ⟨(Nat.le_of_ble_eq_true rfl), (Nat.le_of_ble_eq_true rfl)⟩ (by decide) h
          · replace h := h.2 (fun e => hc (cmpL_eq0.mpr e))
            refine qX_aload_n 0 dX2_isKeyword_55 rfl rfl (by decide) ?_
            refine qX_getJ 2 12 _ dX2_isKeyword_56 fs_X2_86 sh1 ?_
            refine qX_ldc2 (n := 32776920184415609) dX2_isKeyword_59 kK_X2_115 (i64_of rfl) ?_
            refine qX_lcmp dX2_isKeyword_62 ?_
            refine qX_if_eq 99 dX2_isKeyword_63 rfl (fun hc => ?_) (fun hc => ?_)
            · replace h := h.1 (cmpL_eq0.mp hc)
              refine qX_iconst dX2_isKeyword_99 (i32_of rfl) ?_
              refine qX_goto 104 dX2_isKeyword_100 rfl ?_
              exact qX_zreturn rfl dX2_isKeyword_104 rfl ⟨(Nat.le_of_ble_eq_true rfl), (Nat.le_of_ble_eq_true rfl)⟩ (by decide) h
            · replace h := h.2 (fun e => hc (cmpL_eq0.mpr e))
              refine qX_aload_n 0 dX2_isKeyword_66 rfl rfl (by decide) ?_
              refine qX_getJ 2 12 _ dX2_isKeyword_67 fs_X2_86 sh1 ?_
              refine qX_ldc2 (n := 6975330) dX2_isKeyword_70 kK_X2_120 (i64_of rfl) ?_
              refine qX_lcmp dX2_isKeyword_73 ?_
              refine qX_if_eq 99 dX2_isKeyword_74 rfl (fun hc => ?_) (fun hc => ?_)
              · replace h := h.1 (cmpL_eq0.mp hc)
                refine qX_iconst dX2_isKeyword_99 (i32_of rfl) ?_
                refine qX_goto 104 dX2_isKeyword_100 rfl ?_
                exact qX_zreturn rfl dX2_isKeyword_104 rfl ⟨(Nat.le_of_ble_eq_true rfl), (Nat.le_of_ble_eq_true rfl)⟩ (by decide) h
              · replace h := h.2 (fun e => hc (cmpL_eq0.mpr e))
                refine qX_aload_n 0 dX2_isKeyword_77 rfl rfl (by decide) ?_
                refine qX_getJ 2 12 _ dX2_isKeyword_78 fs_X2_86 sh1 ?_
                refine qX_ldc2 (n := 1718775661) dX2_isKeyword_81 kK_X2_129 (i64_of rfl) ?_
                refine qX_lcmp dX2_isKeyword_84 ?_
                refine qX_if_eq 99 dX2_isKeyword_85 rfl (fun hc => ?_) (fun hc => ?_)
                · replace h := h.1 (cmpL_eq0.mp hc)
                  refine qX_iconst dX2_isKeyword_99 (i32_of rfl) ?_
                  refine qX_goto 104 dX2_isKeyword_100 rfl ?_
                  exact qX_zreturn rfl dX2_isKeyword_104 rfl ⟨(Nat.le_of_ble_eq_true rfl), (Nat.le_of_ble_eq_true rfl)⟩ (by decide) h
                · replace h := h.2 (fun e => hc (cmpL_eq0.mpr e))
                  refine qX_aload_n 0 dX2_isKeyword_88 rfl rfl (by decide) ?_
                  refine qX_getJ 2 12 _ dX2_isKeyword_89 fs_X2_86 sh1 ?_
                  refine qX_ldc2 (n := 29807) dX2_isKeyword_92 kK_X2_135 (i64_of rfl) ?_
                  refine qX_lcmp dX2_isKeyword_95 ?_
                  refine qX_if_ne 103 dX2_isKeyword_96 rfl (fun hc => ?_) (fun hc => ?_)
                  · replace h := h.1 (fun e => hc (cmpL_eq0.mpr e))
                    refine qX_iconst dX2_isKeyword_103 (i32_of rfl) ?_
                    exact qX_zreturn rfl dX2_isKeyword_104 rfl ⟨(Nat.le_of_ble_eq_true rfl), (Nat.le_of_ble_eq_true rfl)⟩ (by decide) h
                  · replace h := h.2 (cmpL_eq0.mp hc)
                    refine qX_iconst dX2_isKeyword_99 (i32_of rfl) ?_
                    refine qX_goto 104 dX2_isKeyword_100 rfl ?_
                    exact qX_zreturn rfl dX2_isKeyword_104 rfl ⟨(Nat.le_of_ble_eq_true rfl), (Nat.le_of_ble_eq_true rfl)⟩ (by decide) h
set_option maxRecDepth 20000 in
theorem e_X2_advance {Post : Int → Rf → Mem → Prop} {ρ : Rf} {μ : Mem} 
  (h : ((μ 1 3 = 0 → qX mX2_advance GG Post GG (0, 0) 8 [some (qP 1)] [] ρ μ) ∧ (μ 1 3 ≠ 0 → Post 0 ρ μ))) : qE mX2_advance GG GG [qP 1] ρ μ Post := by
  refine qE_intro pl_X2_advance (Nat.le_of_ble_eq_true rfl) (Nat.le_refl _) ?_
  refine qX_aload_n 0 dX2_advance_0 rfl rfl (by decide) ?_
  refine qX_getI 2 3 _ dX2_advance_1 fs_X2_44 sh1 ?_
  refine qX_if_eq 8 dX2_advance_4 rfl (fun hc => ?_) (fun hc => ?_)
  · replace h := h.1 hc
    exact qX_mask [true] h
  · replace h := h.2 hc
    exact qX_return rfl dX2_advance_7 rfl ⟨(Nat.le_of_ble_eq_true rfl), (Nat.le_of_ble_eq_true rfl)⟩ h
set_option maxRecDepth 20000 in
theorem w_X2_advance_8 {Post : Int → Rf → Mem → Prop} {ρ : Rf} {μ : Mem} 
  (h : ((μ 1 7 ≤ μ 1 8 → qX mX2_advance GG Post GG (0, 0) 46 [some (qP 1)] [] ρ μ) ∧ (μ 1 8 < μ 1 7 → (0 ≤ μ 1 8 ∧ μ 1 8 < 900) ∧ ((μ 2 (μ 1 8) ≠ 32 → qX mX2_advance GG Post GG (0, 0) 46 [some (qP 1)] [] ρ μ) ∧ (μ 2 (μ 1 8) = 32 → i32 ((μ 1 8) + 1) ∧ ∀ μ1, μ1 = up2 μ 1 8 ((μ 1 8) + 1) → qX mX2_advance GG Post GG (0, 0) 8 [some (qP 1)] [] ρ μ1))))) : qX mX2_advance GG Post GG (0, 0) 8 [some (qP 1)] [] ρ μ := by
  refine qX_aload_n 0 dX2_advance_8 rfl rfl (by decide) ?_
  refine qX_getI 2 8 _ dX2_advance_9 fs_X2_50 sh1 ?_
  refine qX_aload_n 0 dX2_advance_12 rfl rfl (by decide) ?_
  refine qX_getI 2 7 _ dX2_advance_13 fs_X2_47 sh1 ?_
  refine qX_icmp_ge 46 dX2_advance_16 rfl (fun hc => ?_) (fun hc => ?_)
  · replace h := h.1 hc
    exact qX_mask [true] h
  · replace h := h.2 hc
    refine qX_aload_n 0 dX2_advance_19 rfl rfl (by decide) ?_
    refine qX_getS 2 0 _ 0 dX2_advance_20 fs_X2_9 rfl rfl sh1 (x := 2) rfl ?_
    refine qX_aload_n 0 dX2_advance_23 rfl rfl (by decide) ?_
    refine qX_getI 2 8 _ dX2_advance_24 fs_X2_50 sh1 ?_
    refine qX_bald dX2_advance_27 sh2 h.1 ?_
    replace h := h.2
    refine qX_bip dX2_advance_28 rfl ?_
    refine qX_icmp_ne 46 dX2_advance_30 rfl (fun hc => ?_) (fun hc => ?_)
    · replace h := h.1 hc
      exact qX_mask [true] h
    · replace h := h.2 hc
      refine qX_aload_n 0 dX2_advance_33 rfl rfl (by decide) ?_
      refine qX_dup dX2_advance_34 rfl ?_
      refine qX_getI 2 8 _ dX2_advance_35 fs_X2_50 sh1 ?_
      refine qX_iconst dX2_advance_38 (i32_of rfl) ?_
      refine qR_iadd dX2_advance_39 h.1 ?_
      replace h := h.2
      refine qX_putI 2 8 _ dX2_advance_40 fs_X2_50 sh1 ?_
      replace h := h _ rfl
      refine qX_goto 8 dX2_advance_43 rfl ?_
      exact qX_mask [true] h
set_option maxRecDepth 20000 in
theorem w_X2_advance_46 {Post : Int → Rf → Mem → Prop} {ρ : Rf} {μ : Mem} 
  (h : ∀ μ1, μ1 = up2 μ 1 9 (μ 1 8) → ∀ μ2, μ2 = up2 μ1 1 10 0 → ((μ2 1 7 ≤ μ2 1 8 → qX mX2_advance GG Post GG (0, 0) 74 [some (qP 1)] [] ρ μ2) ∧ (μ2 1 8 < μ2 1 7 → ∃ P : Int → Rf → Mem → Prop, qE mX2_scanLetters GG GG [qP 1] ρ μ2 P ∧ ∀ (z3 : Int) (ρ4 : Rf) (μ5 : Mem), P z3 ρ4 μ5 → qX mX2_advance GG Post GG (0, 0) 74 [some (qP 1)] [] ρ4 μ5))) : qX mX2_advance GG Post GG (0, 0) 46 [some (qP 1)] [] ρ μ := by
  refine qX_aload_n 0 dX2_advance_46 rfl rfl (by decide) ?_
  refine qX_aload_n 0 dX2_advance_47 rfl rfl (by decide) ?_
  refine qX_getI 2 8 _ dX2_advance_48 fs_X2_50 sh1 ?_
  refine qX_putI 2 9 _ dX2_advance_51 fs_X2_70 sh1 ?_
  replace h := h _ rfl
  refine qX_aload_n 0 dX2_advance_54 rfl rfl (by decide) ?_
  refine qX_iconst dX2_advance_55 (i32_of rfl) ?_
  refine qX_putI 2 10 _ dX2_advance_56 fs_X2_59 sh1 ?_
  replace h := h _ rfl
  refine qX_aload_n 0 dX2_advance_59 rfl rfl (by decide) ?_
  refine qX_getI 2 8 _ dX2_advance_60 fs_X2_50 sh1 ?_
  refine qX_aload_n 0 dX2_advance_63 rfl rfl (by decide) ?_
  refine qX_getI 2 7 _ dX2_advance_64 fs_X2_47 sh1 ?_
  refine qX_icmp_ge 74 dX2_advance_67 rfl (fun hc => ?_) (fun hc => ?_)
  · replace h := h.1 hc
    exact qX_mask [true] h
  · replace h := h.2 hc
    refine qX_aload_n 0 dX2_advance_70 rfl rfl (by decide) ?_
    obtain ⟨P, hE6, h⟩ := h
    refine qN_callV mX2_scanLetters [] _ 2 [] dX2_advance_71 cm_X2_228 ⟨(Nat.le_of_ble_eq_true rfl), (Nat.le_of_ble_eq_true rfl)⟩ rfl rfl sh1 (Nat.le_of_ble_eq_true rfl) ⟨rfl, rfl⟩ hE6 (fun z3 ρ4 μ5 hz => ?_)
    replace h := h _ _ _ hz
    exact qX_mask [true] h
set_option maxRecDepth 20000 in
theorem w_X2_advance_74 {Post : Int → Rf → Mem → Prop} {ρ : Rf} {μ : Mem} 
  (h : ((μ 1 7 ≤ μ 1 8 → qX mX2_advance GG Post GG (0, 0) 96 [some (qP 1)] [] ρ μ) ∧ (μ 1 8 < μ 1 7 → ((μ 1 10 ≠ 0 → qX mX2_advance GG Post GG (0, 0) 96 [some (qP 1)] [] ρ μ) ∧ (μ 1 10 = 0 → ∃ P : Int → Rf → Mem → Prop, qE mX2_scanDigits GG GG [qP 1] ρ μ P ∧ ∀ (z1 : Int) (ρ2 : Rf) (μ3 : Mem), P z1 ρ2 μ3 → qX mX2_advance GG Post GG (0, 0) 96 [some (qP 1)] [] ρ2 μ3))))) : qX mX2_advance GG Post GG (0, 0) 74 [some (qP 1)] [] ρ μ := by
  refine qX_aload_n 0 dX2_advance_74 rfl rfl (by decide) ?_
  refine qX_getI 2 8 _ dX2_advance_75 fs_X2_50 sh1 ?_
  refine qX_aload_n 0 dX2_advance_78 rfl rfl (by decide) ?_
  refine qX_getI 2 7 _ dX2_advance_79 fs_X2_47 sh1 ?_
  refine qX_icmp_ge 96 dX2_advance_82 rfl (fun hc => ?_) (fun hc => ?_)
  · replace h := h.1 hc
    exact qX_mask [true] h
  · replace h := h.2 hc
    refine qX_aload_n 0 dX2_advance_85 rfl rfl (by decide) ?_
    refine qX_getI 2 10 _ dX2_advance_86 fs_X2_59 sh1 ?_
    refine qX_if_ne 96 dX2_advance_89 rfl (fun hc => ?_) (fun hc => ?_)
    · replace h := h.1 hc
      exact qX_mask [true] h
    · replace h := h.2 hc
      refine qX_aload_n 0 dX2_advance_92 rfl rfl (by decide) ?_
      obtain ⟨P, hE4, h⟩ := h
      refine qN_callV mX2_scanDigits [] _ 2 [] dX2_advance_93 cm_X2_231 ⟨(Nat.le_of_ble_eq_true rfl), (Nat.le_of_ble_eq_true rfl)⟩ rfl rfl sh1 (Nat.le_of_ble_eq_true rfl) ⟨rfl, rfl⟩ hE4 (fun z1 ρ2 μ3 hz => ?_)
      replace h := h _ _ _ hz
      exact qX_mask [true] h
set_option maxRecDepth 20000 in
theorem w_X2_advance_96 {Post : Int → Rf → Mem → Prop} {ρ : Rf} {μ : Mem} 
  (h : ((μ 1 7 ≤ μ 1 8 → Post 0 ρ μ) ∧ (μ 1 8 < μ 1 7 → ((μ 1 10 ≠ 0 → Post 0 ρ μ) ∧ (μ 1 10 = 0 → (0 ≤ μ 1 8 ∧ μ 1 8 < 900) ∧ ((μ 2 (μ 1 8) ≠ 59 → qX mX2_advance GG Post GG (0, 0) 134 [some (qP 1)] [qI 4, qP 1] ρ μ) ∧ (μ 2 (μ 1 8) = 59 → qX mX2_advance GG Post GG (0, 0) 134 [some (qP 1)] [qI 3, qP 1] ρ μ))))))) : qX mX2_advance GG Post GG (0, 0) 96 [some (qP 1)] [] ρ μ := by
  refine qX_aload_n 0 dX2_advance_96 rfl rfl (by decide) ?_
  refine qX_getI 2 8 _ dX2_advance_97 fs_X2_50 sh1 ?_
  refine qX_aload_n 0 dX2_advance_100 rfl rfl (by decide) ?_
  refine qX_getI 2 7 _ dX2_advance_101 fs_X2_47 sh1 ?_
  refine qX_icmp_ge 147 dX2_advance_104 rfl (fun hc => ?_) (fun hc => ?_)
  · replace h := h.1 hc
    exact qX_return rfl dX2_advance_147 rfl ⟨(Nat.le_of_ble_eq_true rfl), (Nat.le_of_ble_eq_true rfl)⟩ h
  · replace h := h.2 hc
    refine qX_aload_n 0 dX2_advance_107 rfl rfl (by decide) ?_
    refine qX_getI 2 10 _ dX2_advance_108 fs_X2_59 sh1 ?_
    refine qX_if_ne 147 dX2_advance_111 rfl (fun hc => ?_) (fun hc => ?_)
    · replace h := h.1 hc
      exact qX_return rfl dX2_advance_147 rfl ⟨(Nat.le_of_ble_eq_true rfl), (Nat.le_of_ble_eq_true rfl)⟩ h
    · replace h := h.2 hc
      refine qX_aload_n 0 dX2_advance_114 rfl rfl (by decide) ?_
      refine qX_aload_n 0 dX2_advance_115 rfl rfl (by decide) ?_
      refine qX_getS 2 0 _ 0 dX2_advance_116 fs_X2_9 rfl rfl sh1 (x := 2) rfl ?_
      refine qX_aload_n 0 dX2_advance_119 rfl rfl (by decide) ?_
      refine qX_getI 2 8 _ dX2_advance_120 fs_X2_50 sh1 ?_
      refine qX_bald dX2_advance_123 sh2 h.1 ?_
      replace h := h.2
      refine qX_bip dX2_advance_124 rfl ?_
      refine qX_icmp_ne 133 dX2_advance_126 rfl (fun hc => ?_) (fun hc => ?_)
      · replace h := h.1 hc
        refine qX_iconst dX2_advance_133 (i32_of rfl) ?_
        exact qX_mask [true] h
      · replace h := h.2 hc
        refine qX_iconst dX2_advance_129 (i32_of rfl) ?_
        refine qX_goto 134 dX2_advance_130 rfl ?_
        exact qX_mask [true] h
set_option maxRecDepth 20000 in
theorem w_X2_advance_134 {Post : Int → Rf → Mem → Prop} {ρ : Rf} {μ : Mem} {s1 : Int}
  (h : ∀ μ1, μ1 = up2 μ 1 10 s1 → i32 ((μ1 1 8) + 1) ∧ ∀ μ2, μ2 = up2 μ1 1 8 ((μ1 1 8) + 1) → Post 0 ρ μ2) : qX mX2_advance GG Post GG (0, 0) 134 [some (qP 1)] [qI s1, qP 1] ρ μ := by
  refine qX_putI 2 10 _ dX2_advance_134 fs_X2_59 sh1 ?_
  replace h := h _ rfl
  refine qX_aload_n 0 dX2_advance_137 rfl rfl (by decide) ?_
  refine qX_dup dX2_advance_138 rfl ?_
  refine qX_getI 2 8 _ dX2_advance_139 fs_X2_50 sh1 ?_
  refine qX_iconst dX2_advance_142 (i32_of rfl) ?_
  refine qR_iadd dX2_advance_143 h.1 ?_
  replace h := h.2
  refine qX_putI 2 8 _ dX2_advance_144 fs_X2_50 sh1 ?_
  replace h := h _ rfl
  exact qX_return rfl dX2_advance_147 rfl ⟨(Nat.le_of_ble_eq_true rfl), (Nat.le_of_ble_eq_true rfl)⟩ h
set_option maxRecDepth 20000 in
theorem e_X2_scanLetters {Post : Int → Rf → Mem → Prop} {ρ : Rf} {μ : Mem} 
  (h : ∀ μ1, μ1 = up2 μ 1 12 0 → qX mX2_scanLetters GG Post GG (0, 0) 5 [some (qP 1)] [] ρ μ1) : qE mX2_scanLetters GG GG [qP 1] ρ μ Post := by
  refine qE_intro pl_X2_scanLetters (Nat.le_of_ble_eq_true rfl) (Nat.le_refl _) ?_
  refine qX_aload_n 0 dX2_scanLetters_0 rfl rfl (by decide) ?_
  refine qX_lconst 0 dX2_scanLetters_1 rfl (i64_of rfl) ?_
  refine qX_putJ 2 12 _ dX2_scanLetters_2 fs_X2_86 sh1 ?_
  replace h := h _ rfl
  exact qX_mask [true] h
set_option maxRecDepth 20000 in
theorem w_X2_scanLetters_5 {Post : Int → Rf → Mem → Prop} {ρ : Rf} {μ : Mem} 
  (h : ((μ 1 7 ≤ μ 1 8 → qX mX2_scanLetters GG Post GG (0, 0) 79 [some (qP 1)] [] ρ μ) ∧ (μ 1 8 < μ 1 7 → (0 ≤ μ 1 8 ∧ μ 1 8 < 900) ∧ ((μ 2 (μ 1 8) < 97 → qX mX2_scanLetters GG Post GG (0, 0) 79 [some (qP 1)] [] ρ μ) ∧ (97 ≤ μ 2 (μ 1 8) → (0 ≤ μ 1 8 ∧ μ 1 8 < 900) ∧ ((122 < μ 2 (μ 1 8) → qX mX2_scanLetters GG Post GG (0, 0) 79 [some (qP 1)] [] ρ μ) ∧ (μ 2 (μ 1 8) ≤ 122 → (0 ≤ μ 1 8 ∧ μ 1 8 < 900) ∧ ∀ μ1, μ1 = up2 μ 1 12 (or64 (shl64 (μ 1 12) 8) (μ 2 (μ 1 8))) → i32 ((μ1 1 8) + 1) ∧ ∀ μ2, μ2 = up2 μ1 1 8 ((μ1 1 8) + 1) → qX mX2_scanLetters GG Post GG (0, 0) 5 [some (qP 1)] [] ρ μ2))))))) : qX mX2_scanLetters GG Post GG (0, 0) 5 [some (qP 1)] [] ρ μ := by
  refine qX_aload_n 0 dX2_scanLetters_5 rfl rfl (by decide) ?_
  refine qX_getI 2 8 _ dX2_scanLetters_6 fs_X2_50 sh1 ?_
  refine qX_aload_n 0 dX2_scanLetters_9 rfl rfl (by decide) ?_
  refine qX_getI 2 7 _ dX2_scanLetters_10 fs_X2_47 sh1 ?_
  refine qX_icmp_ge 79 dX2_scanLetters_13 rfl (fun hc => ?_) (fun hc => ?_)
  · replace h := h.1 hc
    exact qX_mask [true] h
  · replace h := h.2 hc
    refine qX_aload_n 0 dX2_scanLetters_16 rfl rfl (by decide) ?_
    refine qX_getS 2 0 _ 0 dX2_scanLetters_17 fs_X2_9 rfl rfl sh1 (x := 2) rfl ?_
    refine qX_aload_n 0 dX2_scanLetters_20 rfl rfl (by decide) ?_
    refine qX_getI 2 8 _ dX2_scanLetters_21 fs_X2_50 sh1 ?_
    refine qX_bald dX2_scanLetters_24 sh2 h.1 ?_
    replace h := h.2
    refine qX_bip dX2_scanLetters_25 rfl ?_
    refine qX_icmp_lt 79 dX2_scanLetters_27 rfl (fun hc => ?_) (fun hc => ?_)
    · replace h := h.1 hc
      exact qX_mask [true] h
    · replace h := h.2 hc
      refine qX_aload_n 0 dX2_scanLetters_30 rfl rfl (by decide) ?_
      refine qX_getS 2 0 _ 0 dX2_scanLetters_31 fs_X2_9 rfl rfl sh1 (x := 2) rfl ?_
      refine qX_aload_n 0 dX2_scanLetters_34 rfl rfl (by decide) ?_
      refine qX_getI 2 8 _ dX2_scanLetters_35 fs_X2_50 sh1 ?_
      refine qX_bald dX2_scanLetters_38 sh2 h.1 ?_
      replace h := h.2
      refine qX_bip dX2_scanLetters_39 rfl ?_
      refine qX_icmp_gt 79 dX2_scanLetters_41 rfl (fun hc => ?_) (fun hc => ?_)
      · replace h := h.1 hc
        exact qX_mask [true] h
      · replace h := h.2 hc
        refine qX_aload_n 0 dX2_scanLetters_44 rfl rfl (by decide) ?_
        refine qX_aload_n 0 dX2_scanLetters_45 rfl rfl (by decide) ?_
        refine qX_getJ 2 12 _ dX2_scanLetters_46 fs_X2_86 sh1 ?_
        refine qX_bip dX2_scanLetters_49 rfl ?_
        refine qX_lshl dX2_scanLetters_51 ?_
        refine qX_aload_n 0 dX2_scanLetters_52 rfl rfl (by decide) ?_
        refine qX_getS 2 0 _ 0 dX2_scanLetters_53 fs_X2_9 rfl rfl sh1 (x := 2) rfl ?_
        refine qX_aload_n 0 dX2_scanLetters_56 rfl rfl (by decide) ?_
        refine qX_getI 2 8 _ dX2_scanLetters_57 fs_X2_50 sh1 ?_
        refine qX_bald dX2_scanLetters_60 sh2 h.1 ?_
        replace h := h.2
        refine qX_i2l dX2_scanLetters_61 ?_
        refine qX_lor dX2_scanLetters_62 ?_
        refine qX_putJ 2 12 _ dX2_scanLetters_63 fs_X2_86 sh1 ?_
        replace h := h _ rfl
        refine qX_aload_n 0 dX2_scanLetters_66 rfl rfl (by decide) ?_
        refine qX_dup dX2_scanLetters_67 rfl ?_
        refine qX_getI 2 8 _ dX2_scanLetters_68 fs_X2_50 sh1 ?_
        refine qX_iconst dX2_scanLetters_71 (i32_of rfl) ?_
        refine qR_iadd dX2_scanLetters_72 h.1 ?_
        replace h := h.2
        refine qX_putI 2 8 _ dX2_scanLetters_73 fs_X2_50 sh1 ?_
        replace h := h _ rfl
        refine qX_goto 5 dX2_scanLetters_76 rfl ?_
        exact qX_mask [true] h
set_option maxRecDepth 20000 in
theorem w_X2_scanLetters_79 {Post : Int → Rf → Mem → Prop} {ρ : Rf} {μ : Mem} 
  (h : ((μ 1 8 ≤ μ 1 9 → Post 0 ρ μ) ∧ (μ 1 9 < μ 1 8 → i32 ((μ 1 8) - (μ 1 9)) ∧ (((μ 1 8) - (μ 1 9) ≤ 8 → ∀ μ1, μ1 = up2 μ 1 10 1 → Post 0 ρ μ1) ∧ (8 < (μ 1 8) - (μ 1 9) → ∀ μ2, μ2 = up2 μ 1 10 4 → Post 0 ρ μ2))))) : qX mX2_scanLetters GG Post GG (0, 0) 79 [some (qP 1)] [] ρ μ := by
  refine qX_aload_n 0 dX2_scanLetters_79 rfl rfl (by decide) ?_
  refine qX_getI 2 8 _ dX2_scanLetters_80 fs_X2_50 sh1 ?_
  refine qX_aload_n 0 dX2_scanLetters_83 rfl rfl (by decide) ?_
  refine qX_getI 2 9 _ dX2_scanLetters_84 fs_X2_70 sh1 ?_
  refine qX_icmp_le 113 dX2_scanLetters_87 rfl (fun hc => ?_) (fun hc => ?_)
  · replace h := h.1 hc
    exact qX_return rfl dX2_scanLetters_113 rfl ⟨(Nat.le_of_ble_eq_true rfl), (Nat.le_of_ble_eq_true rfl)⟩ h
  · replace h := h.2 hc
    refine qX_aload_n 0 dX2_scanLetters_90 rfl rfl (by decide) ?_
    refine qX_aload_n 0 dX2_scanLetters_91 rfl rfl (by decide) ?_
    refine qX_getI 2 8 _ dX2_scanLetters_92 fs_X2_50 sh1 ?_
    refine qX_aload_n 0 dX2_scanLetters_95 rfl rfl (by decide) ?_
    refine qX_getI 2 9 _ dX2_scanLetters_96 fs_X2_70 sh1 ?_
    refine qR_isub dX2_scanLetters_99 h.1 ?_
    replace h := h.2
    refine qX_bip dX2_scanLetters_100 rfl ?_
    refine qX_icmp_le 109 dX2_scanLetters_102 rfl (fun hc => ?_) (fun hc => ?_)
    · replace h := h.1 hc
      refine qX_iconst dX2_scanLetters_109 (i32_of rfl) ?_
      refine qX_putI 2 10 _ dX2_scanLetters_110 fs_X2_59 sh1 ?_
      replace h := h _ rfl
      exact qX_return rfl dX2_scanLetters_113 rfl ⟨(Nat.le_of_ble_eq_true rfl), (Nat.le_of_ble_eq_true rfl)⟩ h
    · replace h := h.2 hc
      refine qX_iconst dX2_scanLetters_105 (i32_of rfl) ?_
      refine qX_goto 110 dX2_scanLetters_106 rfl ?_
      refine qX_putI 2 10 _ dX2_scanLetters_110 fs_X2_59 sh1 ?_
      replace h := h _ rfl
      exact qX_return rfl dX2_scanLetters_113 rfl ⟨(Nat.le_of_ble_eq_true rfl), (Nat.le_of_ble_eq_true rfl)⟩ h
set_option maxRecDepth 20000 in
theorem e_X2_scanDigits {Post : Int → Rf → Mem → Prop} {ρ : Rf} {μ : Mem} 
  (h : ∀ μ1, μ1 = up2 μ 1 11 0 → qX mX2_scanDigits GG Post GG (0, 0) 5 [some (qP 1)] [] ρ μ1) : qE mX2_scanDigits GG GG [qP 1] ρ μ Post := by
  refine qE_intro pl_X2_scanDigits (Nat.le_of_ble_eq_true rfl) (Nat.le_refl _) ?_
  refine qX_aload_n 0 dX2_scanDigits_0 rfl rfl (by decide) ?_
  refine qX_iconst dX2_scanDigits_1 (i32_of rfl) ?_
  refine qX_putI 2 11 _ dX2_scanDigits_2 fs_X2_217 sh1 ?_
  replace h := h _ rfl
  exact qX_mask [true] h
set_option maxRecDepth 20000 in
theorem w_X2_scanDigits_5 {Post : Int → Rf → Mem → Prop} {ρ : Rf} {μ : Mem} 
  (h : ((μ 1 7 ≤ μ 1 8 → qX mX2_scanDigits GG Post GG (0, 0) 81 [some (qP 1)] [] ρ μ) ∧ (μ 1 8 < μ 1 7 → (0 ≤ μ 1 8 ∧ μ 1 8 < 900) ∧ ((μ 2 (μ 1 8) < 48 → qX mX2_scanDigits GG Post GG (0, 0) 81 [some (qP 1)] [] ρ μ) ∧ (48 ≤ μ 2 (μ 1 8) → (0 ≤ μ 1 8 ∧ μ 1 8 < 900) ∧ ((57 < μ 2 (μ 1 8) → qX mX2_scanDigits GG Post GG (0, 0) 81 [some (qP 1)] [] ρ μ) ∧ (μ 2 (μ 1 8) ≤ 57 → (0 ≤ μ 1 8 ∧ μ 1 8 < 900) ∧ ∀ μ1, μ1 = up2 μ 1 11 (w32 ((w32 ((μ 1 11) * 10)) + (w32 ((μ 2 (μ 1 8)) - 48)))) → ∀ μ2, μ2 = up2 μ1 1 8 (w32 ((μ1 1 8) + 1)) → qX mX2_scanDigits GG Post GG (0, 0) 5 [some (qP 1)] [] ρ μ2))))))) : qX mX2_scanDigits GG Post GG (0, 0) 5 [some (qP 1)] [] ρ μ := by
  refine qX_aload_n 0 dX2_scanDigits_5 rfl rfl (by decide) ?_
  refine qX_getI 2 8 _ dX2_scanDigits_6 fs_X2_50 sh1 ?_
  refine qX_aload_n 0 dX2_scanDigits_9 rfl rfl (by decide) ?_
  refine qX_getI 2 7 _ dX2_scanDigits_10 fs_X2_47 sh1 ?_
  refine qX_icmp_ge 81 dX2_scanDigits_13 rfl (fun hc => ?_) (fun hc => ?_)
  · replace h := h.1 hc
    exact qX_mask [true] h
  · replace h := h.2 hc
    refine qX_aload_n 0 dX2_scanDigits_16 rfl rfl (by decide) ?_
    refine qX_getS 2 0 _ 0 dX2_scanDigits_17 fs_X2_9 rfl rfl sh1 (x := 2) rfl ?_
    refine qX_aload_n 0 dX2_scanDigits_20 rfl rfl (by decide) ?_
    refine qX_getI 2 8 _ dX2_scanDigits_21 fs_X2_50 sh1 ?_
    refine qX_bald dX2_scanDigits_24 sh2 h.1 ?_
    replace h := h.2
    refine qX_bip dX2_scanDigits_25 rfl ?_
    refine qX_icmp_lt 81 dX2_scanDigits_27 rfl (fun hc => ?_) (fun hc => ?_)
    · replace h := h.1 hc
      exact qX_mask [true] h
    · replace h := h.2 hc
      refine qX_aload_n 0 dX2_scanDigits_30 rfl rfl (by decide) ?_
      refine qX_getS 2 0 _ 0 dX2_scanDigits_31 fs_X2_9 rfl rfl sh1 (x := 2) rfl ?_
      refine qX_aload_n 0 dX2_scanDigits_34 rfl rfl (by decide) ?_
      refine qX_getI 2 8 _ dX2_scanDigits_35 fs_X2_50 sh1 ?_
      refine qX_bald dX2_scanDigits_38 sh2 h.1 ?_
      replace h := h.2
      refine qX_bip dX2_scanDigits_39 rfl ?_
      refine qX_icmp_gt 81 dX2_scanDigits_41 rfl (fun hc => ?_) (fun hc => ?_)
      · replace h := h.1 hc
        exact qX_mask [true] h
      · replace h := h.2 hc
        refine qX_aload_n 0 dX2_scanDigits_44 rfl rfl (by decide) ?_
        refine qX_aload_n 0 dX2_scanDigits_45 rfl rfl (by decide) ?_
        refine qX_getI 2 11 _ dX2_scanDigits_46 fs_X2_217 sh1 ?_
        refine qX_bip dX2_scanDigits_49 rfl ?_
        refine qX_imul dX2_scanDigits_51 ?_
        refine qX_aload_n 0 dX2_scanDigits_52 rfl rfl (by decide) ?_
        refine qX_getS 2 0 _ 0 dX2_scanDigits_53 fs_X2_9 rfl rfl sh1 (x := 2) rfl ?_
        refine qX_aload_n 0 dX2_scanDigits_56 rfl rfl (by decide) ?_
        refine qX_getI 2 8 _ dX2_scanDigits_57 fs_X2_50 sh1 ?_
        refine qX_bald dX2_scanDigits_60 sh2 h.1 ?_
        replace h := h.2
        refine qX_bip dX2_scanDigits_61 rfl ?_
        refine qX_isub dX2_scanDigits_63 ?_
        refine qX_iadd dX2_scanDigits_64 ?_
        refine qX_putI 2 11 _ dX2_scanDigits_65 fs_X2_217 sh1 ?_
        replace h := h _ rfl
        refine qX_aload_n 0 dX2_scanDigits_68 rfl rfl (by decide) ?_
        refine qX_dup dX2_scanDigits_69 rfl ?_
        refine qX_getI 2 8 _ dX2_scanDigits_70 fs_X2_50 sh1 ?_
        refine qX_iconst dX2_scanDigits_73 (i32_of rfl) ?_
        refine qX_iadd dX2_scanDigits_74 ?_
        refine qX_putI 2 8 _ dX2_scanDigits_75 fs_X2_50 sh1 ?_
        replace h := h _ rfl
        refine qX_goto 5 dX2_scanDigits_78 rfl ?_
        exact qX_mask [true] h
set_option maxRecDepth 20000 in
theorem w_X2_scanDigits_81 {Post : Int → Rf → Mem → Prop} {ρ : Rf} {μ : Mem} 
  (h : ((μ 1 8 ≤ μ 1 9 → Post 0 ρ μ) ∧ (μ 1 9 < μ 1 8 → ((w32 ((μ 1 8) - (μ 1 9)) ≤ 3 → ∀ μ1, μ1 = up2 μ 1 10 2 → Post 0 ρ μ1) ∧ (3 < w32 ((μ 1 8) - (μ 1 9)) → ∀ μ2, μ2 = up2 μ 1 10 4 → Post 0 ρ μ2))))) : qX mX2_scanDigits GG Post GG (0, 0) 81 [some (qP 1)] [] ρ μ := by
  refine qX_aload_n 0 dX2_scanDigits_81 rfl rfl (by decide) ?_
  refine qX_getI 2 8 _ dX2_scanDigits_82 fs_X2_50 sh1 ?_
  refine qX_aload_n 0 dX2_scanDigits_85 rfl rfl (by decide) ?_
  refine qX_getI 2 9 _ dX2_scanDigits_86 fs_X2_70 sh1 ?_
  refine qX_icmp_le 114 dX2_scanDigits_89 rfl (fun hc => ?_) (fun hc => ?_)
  · replace h := h.1 hc
    exact qX_return rfl dX2_scanDigits_114 rfl ⟨(Nat.le_of_ble_eq_true rfl), (Nat.le_of_ble_eq_true rfl)⟩ h
  · replace h := h.2 hc
    refine qX_aload_n 0 dX2_scanDigits_92 rfl rfl (by decide) ?_
    refine qX_aload_n 0 dX2_scanDigits_93 rfl rfl (by decide) ?_
    refine qX_getI 2 8 _ dX2_scanDigits_94 fs_X2_50 sh1 ?_
    refine qX_aload_n 0 dX2_scanDigits_97 rfl rfl (by decide) ?_
    refine qX_getI 2 9 _ dX2_scanDigits_98 fs_X2_70 sh1 ?_
    refine qX_isub dX2_scanDigits_101 ?_
    refine qX_iconst dX2_scanDigits_102 (i32_of rfl) ?_
    refine qX_icmp_le 110 dX2_scanDigits_103 rfl (fun hc => ?_) (fun hc => ?_)
    · replace h := h.1 hc
      refine qX_iconst dX2_scanDigits_110 (i32_of rfl) ?_
      refine qX_putI 2 10 _ dX2_scanDigits_111 fs_X2_59 sh1 ?_
      replace h := h _ rfl
      exact qX_return rfl dX2_scanDigits_114 rfl ⟨(Nat.le_of_ble_eq_true rfl), (Nat.le_of_ble_eq_true rfl)⟩ h
    · replace h := h.2 hc
      refine qX_iconst dX2_scanDigits_106 (i32_of rfl) ?_
      refine qX_goto 111 dX2_scanDigits_107 rfl ?_
      refine qX_putI 2 10 _ dX2_scanDigits_111 fs_X2_59 sh1 ?_
      replace h := h _ rfl
      exact qX_return rfl dX2_scanDigits_114 rfl ⟨(Nat.le_of_ble_eq_true rfl), (Nat.le_of_ble_eq_true rfl)⟩ h
