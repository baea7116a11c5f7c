/-! ===== conditions of the methods, from cut to cut (generated, part 2) ===== -/
set_option maxRecDepth 20000 in
theorem e_X7_load {Post : Int → Rf → Mem → Prop} {ρ : Rf} {μ : Mem} {x1 : Int}
  (h : ((x1 < 0 → ∃ P : Int → Rf → Mem → Prop, qE mX7_fail GG GG [qP 0, qI 2] ρ μ P ∧ ∀ (z1 : Int) (ρ2 : Rf) (μ3 : Mem), P z1 ρ2 μ3 → Post z1 ρ2 μ3) ∧ (0 ≤ x1 → ((x1 ≤ μ 1 2 → ∃ P : Int → Rf → Mem → Prop, qE mX2_parse GG GG [qP 1, qI x1] ρ μ P ∧ ∀ (z5 : Int) (ρ6 : Rf) (μ7 : Mem), P z5 ρ6 μ7 → ∀ μ9, μ9 = up2 μ7 1 2 0 → ((μ9 1 3 = 0 → ∃ P : Int → Rf → Mem → Prop, qE mX7_takeParsedPlan GG GG [qP 0] ρ6 μ9 P ∧ ∀ (z10 : Int) (ρ11 : Rf) (μ12 : Mem), P z10 ρ11 μ12 → isO 6 (ρ11 0 9) ∧ ∃ P : Int → Rf → Mem → Prop, qE mX7_answer GG GG [qP 0, qI (μ12 (ρ11 0 9) 6)] ρ11 μ12 P ∧ ∀ (z15 : Int) (ρ16 : Rf) (μ17 : Mem), P z15 ρ16 μ17 → Post z15 ρ16 μ17) ∧ (μ9 1 3 ≠ 0 → ∃ P : Int → Rf → Mem → Prop, qE mX7_fail GG GG [qP 0, qI 4] ρ6 μ9 P ∧ ∀ (z19 : Int) (ρ20 : Rf) (μ21 : Mem), P z19 ρ20 μ21 → Post z19 ρ20 μ21))) ∧ (μ 1 2 < x1 → ∃ P : Int → Rf → Mem → Prop, qE mX7_fail GG GG [qP 0, qI 2] ρ μ P ∧ ∀ (z23 : Int) (ρ24 : Rf) (μ25 : Mem), P z23 ρ24 μ25 → Post z23 ρ24 μ25))))) : qE mX7_load GG GG [qP 0, qI x1] ρ μ Post := by
  refine qE_intro pl_X7_load (Nat.le_of_ble_eq_true rfl) (Nat.le_refl _) ?_
  refine qX_iload_n 1 dX7_load_0 rfl rfl ?_
  refine qX_if_lt 15 dX7_load_1 rfl (fun hc => ?_) (fun hc => ?_)
  · replace h := h.1 hc
    refine qX_aload_n 0 dX7_load_15 rfl rfl (by decide) ?_
    refine qX_iconst dX7_load_16 (i32_of rfl) ?_
    obtain ⟨P, hE4, h⟩ := h
    refine qN_callV mX7_fail [_] _ 7 [] dX7_load_17 cm_X7_76 ⟨(Nat.le_of_ble_eq_true rfl), (Nat.le_of_ble_eq_true rfl)⟩ rfl rfl sh0 (Nat.le_of_ble_eq_true rfl) ⟨rfl, rfl⟩ hE4 (fun z1 ρ2 μ3 hz => ?_)
    replace h := h _ _ _ hz
    exact qX_ireturn rfl dX7_load_20 rfl ⟨(Nat.le_of_ble_eq_true rfl), (Nat.le_of_ble_eq_true rfl)⟩ h
  · replace h := h.2 hc
    refine qX_iload_n 1 dX7_load_4 rfl rfl ?_
    refine qX_aload_n 0 dX7_load_5 rfl rfl (by decide) ?_
    refine qX_getS 7 0 _ 0 dX7_load_6 fs_X7_12 rfl rfl sh0 (x := 1) rfl ?_
    refine qX_getI 2 2 _ dX7_load_9 fs_X7_67 sh1 ?_
    refine qX_icmp_le 21 dX7_load_12 rfl (fun hc => ?_) (fun hc => ?_)
    · replace h := h.1 hc
      refine qX_aload_n 0 dX7_load_21 rfl rfl (by decide) ?_
      refine qX_getS 7 0 _ 0 dX7_load_22 fs_X7_12 rfl rfl sh0 (x := 1) rfl ?_
      refine qX_iload_n 1 dX7_load_25 rfl rfl ?_
      obtain ⟨P, hE8, h⟩ := h
      refine qN_callV mX2_parse [_] _ 2 [] dX7_load_26 cm_X7_80 ⟨(Nat.le_of_ble_eq_true rfl), (Nat.le_of_ble_eq_true rfl)⟩ rfl rfl sh1 (Nat.le_of_ble_eq_true rfl) ⟨rfl, rfl⟩ hE8 (fun z5 ρ6 μ7 hz => ?_)
      replace h := h _ _ _ hz
      refine qX_aload_n 0 dX7_load_29 rfl rfl (by decide) ?_
      refine qX_getS 7 0 _ 0 dX7_load_30 fs_X7_12 rfl rfl sh0 (x := 1) rfl ?_
      refine qX_iconst dX7_load_33 (i32_of rfl) ?_
      refine qX_putI 2 2 _ dX7_load_34 fs_X7_67 sh1 ?_
      replace h := h _ rfl
      refine qX_aload_n 0 dX7_load_37 rfl rfl (by decide) ?_
      refine qX_getS 7 0 _ 0 dX7_load_38 fs_X7_12 rfl rfl sh0 (x := 1) rfl ?_
      refine qX_getI 2 3 _ dX7_load_41 fs_X7_83 sh1 ?_
      refine qX_if_eq 53 dX7_load_44 rfl (fun hc => ?_) (fun hc => ?_)
      · replace h := h.1 hc
        refine qX_aload_n 0 dX7_load_53 rfl rfl (by decide) ?_
        obtain ⟨P, hE13, h⟩ := h
        refine qN_callV mX7_takeParsedPlan [] _ 7 [] dX7_load_54 cm_X7_86 ⟨(Nat.le_of_ble_eq_true rfl), (Nat.le_of_ble_eq_true rfl)⟩ rfl rfl sh0 (Nat.le_of_ble_eq_true rfl) ⟨rfl, rfl⟩ hE13 (fun z10 ρ11 μ12 hz => ?_)
        replace h := h _ _ _ hz
        refine qX_aload_n 0 dX7_load_57 rfl rfl (by decide) ?_
        refine qX_aload_n 0 dX7_load_58 rfl rfl (by decide) ?_
        refine qX_getR 7 9 _ dX7_load_59 fs_X7_64 sh0 ?_
        have hO14 := h.1
        replace h := h.2
        refine qX_getI 6 6 _ dX7_load_62 fs_X7_89 hO14 ?_
        obtain ⟨P, hE18, h⟩ := h
        refine qN_callV mX7_answer [_] _ 7 [] dX7_load_65 cm_X7_92 ⟨(Nat.le_of_ble_eq_true rfl), (Nat.le_of_ble_eq_true rfl)⟩ rfl rfl sh0 (Nat.le_of_ble_eq_true rfl) ⟨rfl, rfl⟩ hE18 (fun z15 ρ16 μ17 hz => ?_)
        replace h := h _ _ _ hz
        exact qX_ireturn rfl dX7_load_68 rfl ⟨(Nat.le_of_ble_eq_true rfl), (Nat.le_of_ble_eq_true rfl)⟩ h
      · replace h := h.2 hc
        refine qX_aload_n 0 dX7_load_47 rfl rfl (by decide) ?_
        refine qX_iconst dX7_load_48 (i32_of rfl) ?_
        obtain ⟨P, hE22, h⟩ := h
        refine qN_callV mX7_fail [_] _ 7 [] dX7_load_49 cm_X7_76 ⟨(Nat.le_of_ble_eq_true rfl), (Nat.le_of_ble_eq_true rfl)⟩ rfl rfl sh0 (Nat.le_of_ble_eq_true rfl) ⟨rfl, rfl⟩ hE22 (fun z19 ρ20 μ21 hz => ?_)
        replace h := h _ _ _ hz
        exact qX_ireturn rfl dX7_load_52 rfl ⟨(Nat.le_of_ble_eq_true rfl), (Nat.le_of_ble_eq_true rfl)⟩ h
    · replace h := h.2 hc
      refine qX_aload_n 0 dX7_load_15 rfl rfl (by decide) ?_
      refine qX_iconst dX7_load_16 (i32_of rfl) ?_
      obtain ⟨P, hE26, h⟩ := h
      refine qN_callV mX7_fail [_] _ 7 [] dX7_load_17 cm_X7_76 ⟨(Nat.le_of_ble_eq_true rfl), (Nat.le_of_ble_eq_true rfl)⟩ rfl rfl sh0 (Nat.le_of_ble_eq_true rfl) ⟨rfl, rfl⟩ hE26 (fun z23 ρ24 μ25 hz => ?_)
      replace h := h _ _ _ hz
      exact qX_ireturn rfl dX7_load_20 rfl ⟨(Nat.le_of_ble_eq_true rfl), (Nat.le_of_ble_eq_true rfl)⟩ h
set_option maxRecDepth 20000 in
theorem e_X7_jobCount {Post : Int → Rf → Mem → Prop} {ρ : Rf} {μ : Mem} 
  (h : ((μ 0 10 ≠ 0 → isO 6 (ρ 0 9) ∧ ∃ P : Int → Rf → Mem → Prop, qE mX7_answer GG GG [qP 0, qI (μ (ρ 0 9) 6)] ρ μ P ∧ ∀ (z2 : Int) (ρ3 : Rf) (μ4 : Mem), P z2 ρ3 μ4 → Post z2 ρ3 μ4) ∧ (μ 0 10 = 0 → ∃ P : Int → Rf → Mem → Prop, qE mX7_fail GG GG [qP 0, qI 1] ρ μ P ∧ ∀ (z6 : Int) (ρ7 : Rf) (μ8 : Mem), P z6 ρ7 μ8 → Post z6 ρ7 μ8))) : qE mX7_jobCount GG GG [qP 0] ρ μ Post := by
  refine qE_intro pl_X7_jobCount (Nat.le_of_ble_eq_true rfl) (Nat.le_refl _) ?_
  refine qX_aload_n 0 dX7_jobCount_0 rfl rfl (by decide) ?_
  refine qX_getI 7 10 _ dX7_jobCount_1 fs_X7_106 sh0 ?_
  refine qX_if_ne 13 dX7_jobCount_4 rfl (fun hc => ?_) (fun hc => ?_)
  · replace h := h.1 hc
    refine qX_aload_n 0 dX7_jobCount_13 rfl rfl (by decide) ?_
    refine qX_aload_n 0 dX7_jobCount_14 rfl rfl (by decide) ?_
    refine qX_getR 7 9 _ dX7_jobCount_15 fs_X7_64 sh0 ?_
    have hO1 := h.1
    replace h := h.2
    refine qX_getI 6 6 _ dX7_jobCount_18 fs_X7_89 hO1 ?_
    obtain ⟨P, hE5, h⟩ := h
    refine qN_callV mX7_answer [_] _ 7 [] dX7_jobCount_21 cm_X7_92 ⟨(Nat.le_of_ble_eq_true rfl), (Nat.le_of_ble_eq_true rfl)⟩ rfl rfl sh0 (Nat.le_of_ble_eq_true rfl) ⟨rfl, rfl⟩ hE5 (fun z2 ρ3 μ4 hz => ?_)
    replace h := h _ _ _ hz
    exact qX_ireturn rfl dX7_jobCount_24 rfl ⟨(Nat.le_of_ble_eq_true rfl), (Nat.le_of_ble_eq_true rfl)⟩ h
  · replace h := h.2 hc
    refine qX_aload_n 0 dX7_jobCount_7 rfl rfl (by decide) ?_
    refine qX_iconst dX7_jobCount_8 (i32_of rfl) ?_
    obtain ⟨P, hE9, h⟩ := h
    refine qN_callV mX7_fail [_] _ 7 [] dX7_jobCount_9 cm_X7_76 ⟨(Nat.le_of_ble_eq_true rfl), (Nat.le_of_ble_eq_true rfl)⟩ rfl rfl sh0 (Nat.le_of_ble_eq_true rfl) ⟨rfl, rfl⟩ hE9 (fun z6 ρ7 μ8 hz => ?_)
    replace h := h _ _ _ hz
    exact qX_ireturn rfl dX7_jobCount_12 rfl ⟨(Nat.le_of_ble_eq_true rfl), (Nat.le_of_ble_eq_true rfl)⟩ h
set_option maxRecDepth 20000 in
theorem e_X7_departure {Post : Int → Rf → Mem → Prop} {ρ : Rf} {μ : Mem} {x1 : Int}
  (h : ∃ P : Int → Rf → Mem → Prop, qE mX7_isTrain GG GG [qP 0, qI x1] ρ μ P ∧ ∀ (z1 : Int) (ρ2 : Rf) (μ3 : Mem), P z1 ρ2 μ3 → ((z1 ≠ 0 → isO 6 (ρ2 0 9) ∧ (0 ≤ x1 ∧ x1 < 2) ∧ ∃ P : Int → Rf → Mem → Prop, qE mX7_answer GG GG [qP 0, qI (μ3 (ρ2 0 9 + 5) x1)] ρ2 μ3 P ∧ ∀ (z6 : Int) (ρ7 : Rf) (μ8 : Mem), P z6 ρ7 μ8 → Post z6 ρ7 μ8) ∧ (z1 = 0 → ∃ P : Int → Rf → Mem → Prop, qE mX7_fail GG GG [qP 0, qI 1] ρ2 μ3 P ∧ ∀ (z10 : Int) (ρ11 : Rf) (μ12 : Mem), P z10 ρ11 μ12 → Post z10 ρ11 μ12))) : qE mX7_departure GG GG [qP 0, qI x1] ρ μ Post := by
  refine qE_intro pl_X7_departure (Nat.le_of_ble_eq_true rfl) (Nat.le_refl _) ?_
  refine qX_aload_n 0 dX7_departure_0 rfl rfl (by decide) ?_
  refine qX_iload_n 1 dX7_departure_1 rfl rfl ?_
  obtain ⟨P, hE4, h⟩ := h
  refine qN_callV mX7_isTrain [_] _ 7 [] dX7_departure_2 cm_X7_98 ⟨(Nat.le_of_ble_eq_true rfl), (Nat.le_of_ble_eq_true rfl)⟩ rfl rfl sh0 (Nat.le_of_ble_eq_true rfl) ⟨rfl, rfl⟩ hE4 (fun z1 ρ2 μ3 hz => ?_)
  replace h := h _ _ _ hz
  refine qX_if_ne 14 dX7_departure_5 rfl (fun hc => ?_) (fun hc => ?_)
  · replace h := h.1 hc
    refine qX_aload_n 0 dX7_departure_14 rfl rfl (by decide) ?_
    refine qX_aload_n 0 dX7_departure_15 rfl rfl (by decide) ?_
    refine qX_getR 7 9 _ dX7_departure_16 fs_X7_64 sh0 ?_
    have hO5 := h.1
    replace h := h.2
    refine qX_getS 6 4 _ 4 dX7_departure_19 fs_X7_116 rfl rfl hO5 rfl ?_
    refine qX_iload_n 1 dX7_departure_22 rfl rfl ?_
    refine qX_iald dX7_departure_23 (ar6_4 hO5) h.1 ?_
    replace h := h.2
    obtain ⟨P, hE9, h⟩ := h
    refine qN_callV mX7_answer [_] _ 7 [] dX7_departure_24 cm_X7_92 ⟨(Nat.le_of_ble_eq_true rfl), (Nat.le_of_ble_eq_true rfl)⟩ rfl rfl sh0 (Nat.le_of_ble_eq_true rfl) ⟨rfl, rfl⟩ hE9 (fun z6 ρ7 μ8 hz => ?_)
    replace h := h _ _ _ hz
    exact qX_ireturn rfl dX7_departure_27 rfl ⟨(Nat.le_of_ble_eq_true rfl), (Nat.le_of_ble_eq_true rfl)⟩ h
  · replace h := h.2 hc
    refine qX_aload_n 0 dX7_departure_8 rfl rfl (by decide) ?_
    refine qX_iconst dX7_departure_9 (i32_of rfl) ?_
    obtain ⟨P, hE13, h⟩ := h
    refine qN_callV mX7_fail [_] _ 7 [] dX7_departure_10 cm_X7_76 ⟨(Nat.le_of_ble_eq_true rfl), (Nat.le_of_ble_eq_true rfl)⟩ rfl rfl sh0 (Nat.le_of_ble_eq_true rfl) ⟨rfl, rfl⟩ hE13 (fun z10 ρ11 μ12 hz => ?_)
    replace h := h _ _ _ hz
    exact qX_ireturn rfl dX7_departure_13 rfl ⟨(Nat.le_of_ble_eq_true rfl), (Nat.le_of_ble_eq_true rfl)⟩ h
set_option maxRecDepth 20000 in
theorem e_X7_stock {Post : Int → Rf → Mem → Prop} {ρ : Rf} {μ : Mem} {x1 : Int} {x2 : Int}
  (h : ∃ P : Int → Rf → Mem → Prop, qE mX7_isStock GG GG [qP 0, qI x1, qI x2] ρ μ P ∧ ∀ (z1 : Int) (ρ2 : Rf) (μ3 : Mem), P z1 ρ2 μ3 → ((z1 ≠ 0 → isO 6 (ρ2 0 9) ∧ ∃ P : Int → Rf → Mem → Prop, qE mX7_stockIndex GG GG [qI x1, qI x2] ρ2 μ3 P ∧ ∀ (z6 : Int) (ρ7 : Rf) (μ8 : Mem), P z6 ρ7 μ8 → (0 ≤ z6 ∧ z6 < 12) ∧ ∃ P : Int → Rf → Mem → Prop, qE mX7_answer GG GG [qP 0, qI (μ8 (ρ2 0 9 + 6) z6)] ρ7 μ8 P ∧ ∀ (z10 : Int) (ρ11 : Rf) (μ12 : Mem), P z10 ρ11 μ12 → Post z10 ρ11 μ12) ∧ (z1 = 0 → ∃ P : Int → Rf → Mem → Prop, qE mX7_fail GG GG [qP 0, qI 1] ρ2 μ3 P ∧ ∀ (z14 : Int) (ρ15 : Rf) (μ16 : Mem), P z14 ρ15 μ16 → Post z14 ρ15 μ16))) : qE mX7_stock GG GG [qP 0, qI x1, qI x2] ρ μ Post := by
  refine qE_intro pl_X7_stock (Nat.le_of_ble_eq_true rfl) (Nat.le_refl _) ?_
  refine qX_aload_n 0 dX7_stock_0 rfl rfl (by decide) ?_
  refine qX_iload_n 1 dX7_stock_1 rfl rfl ?_
  refine qX_iload_n 2 dX7_stock_2 rfl rfl ?_
  obtain ⟨P, hE4, h⟩ := h
  refine qN_callV mX7_isStock [_, _] _ 7 [] dX7_stock_3 cm_X7_119 ⟨(Nat.le_of_ble_eq_true rfl), (Nat.le_of_ble_eq_true rfl)⟩ rfl rfl sh0 (Nat.le_of_ble_eq_true rfl) ⟨rfl, rfl⟩ hE4 (fun z1 ρ2 μ3 hz => ?_)
  replace h := h _ _ _ hz
  refine qX_if_ne 15 dX7_stock_6 rfl (fun hc => ?_) (fun hc => ?_)
  · replace h := h.1 hc
    refine qX_aload_n 0 dX7_stock_15 rfl rfl (by decide) ?_
    refine qX_aload_n 0 dX7_stock_16 rfl rfl (by decide) ?_
    refine qX_getR 7 9 _ dX7_stock_17 fs_X7_64 sh0 ?_
    have hO5 := h.1
    replace h := h.2
    refine qX_getS 6 5 _ 5 dX7_stock_20 fs_X7_123 rfl rfl hO5 rfl ?_
    refine qX_iload_n 1 dX7_stock_23 rfl rfl ?_
    refine qX_iload_n 2 dX7_stock_24 rfl rfl ?_
    obtain ⟨P, hE9, h⟩ := h
    refine qN_callS mX7_stockIndex [_, _] [_, _] dX7_stock_25 cm_X7_126 ⟨(Nat.le_of_ble_eq_true rfl), (Nat.le_of_ble_eq_true rfl)⟩ rfl rfl (Nat.le_of_ble_eq_true rfl) ⟨rfl, rfl⟩ hE9 (fun z6 ρ7 μ8 hz => ?_)
    replace h := h _ _ _ hz
    refine qX_iald dX7_stock_28 (ar6_5 hO5) h.1 ?_
    replace h := h.2
    obtain ⟨P, hE13, h⟩ := h
    refine qN_callV mX7_answer [_] _ 7 [] dX7_stock_29 cm_X7_92 ⟨(Nat.le_of_ble_eq_true rfl), (Nat.le_of_ble_eq_true rfl)⟩ rfl rfl sh0 (Nat.le_of_ble_eq_true rfl) ⟨rfl, rfl⟩ hE13 (fun z10 ρ11 μ12 hz => ?_)
    replace h := h _ _ _ hz
    exact qX_ireturn rfl dX7_stock_32 rfl ⟨(Nat.le_of_ble_eq_true rfl), (Nat.le_of_ble_eq_true rfl)⟩ h
  · replace h := h.2 hc
    refine qX_aload_n 0 dX7_stock_9 rfl rfl (by decide) ?_
    refine qX_iconst dX7_stock_10 (i32_of rfl) ?_
    obtain ⟨P, hE17, h⟩ := h
    refine qN_callV mX7_fail [_] _ 7 [] dX7_stock_11 cm_X7_76 ⟨(Nat.le_of_ble_eq_true rfl), (Nat.le_of_ble_eq_true rfl)⟩ rfl rfl sh0 (Nat.le_of_ble_eq_true rfl) ⟨rfl, rfl⟩ hE17 (fun z14 ρ15 μ16 hz => ?_)
    replace h := h _ _ _ hz
    exact qX_ireturn rfl dX7_stock_14 rfl ⟨(Nat.le_of_ble_eq_true rfl), (Nat.le_of_ble_eq_true rfl)⟩ h
set_option maxRecDepth 20000 in
theorem e_X7_demand {Post : Int → Rf → Mem → Prop} {ρ : Rf} {μ : Mem} {x1 : Int} {x2 : Int} {x3 : Int}
  (h : ∃ P : Int → Rf → Mem → Prop, qE mX7_isCarMeal GG GG [qP 0, qI x1, qI x2, qI x3] ρ μ P ∧ ∀ (z1 : Int) (ρ2 : Rf) (μ3 : Mem), P z1 ρ2 μ3 → ((z1 ≠ 0 → ∃ P : Int → Rf → Mem → Prop, qE mX7_doorIndex GG GG [qI x1, qI x2] ρ2 μ3 P ∧ ∀ (z5 : Int) (ρ6 : Rf) (μ7 : Mem), P z5 ρ6 μ7 → isO 0 (ρ2 0 8) ∧ ∃ P : Int → Rf → Mem → Prop, qE mX0_wanted GG GG [qP (ρ2 0 8), qI z5, qI x3] ρ6 μ7 P ∧ ∀ (z10 : Int) (ρ11 : Rf) (μ12 : Mem), P z10 ρ11 μ12 → ∃ P : Int → Rf → Mem → Prop, qE mX7_answer GG GG [qP 0, qI z10] ρ11 μ12 P ∧ ∀ (z14 : Int) (ρ15 : Rf) (μ16 : Mem), P z14 ρ15 μ16 → Post z14 ρ15 μ16) ∧ (z1 = 0 → ∃ P : Int → Rf → Mem → Prop, qE mX7_fail GG GG [qP 0, qI 1] ρ2 μ3 P ∧ ∀ (z18 : Int) (ρ19 : Rf) (μ20 : Mem), P z18 ρ19 μ20 → Post z18 ρ19 μ20))) : qE mX7_demand GG GG [qP 0, qI x1, qI x2, qI x3] ρ μ Post := by
  refine qE_intro pl_X7_demand (Nat.le_of_ble_eq_true rfl) (Nat.le_refl _) ?_
  refine qX_aload_n 0 dX7_demand_0 rfl rfl (by decide) ?_
  refine qX_iload_n 1 dX7_demand_1 rfl rfl ?_
  refine qX_iload_n 2 dX7_demand_2 rfl rfl ?_
  refine qX_iload_n 3 dX7_demand_3 rfl rfl ?_
  obtain ⟨P, hE4, h⟩ := h
  refine qN_callV mX7_isCarMeal [_, _, _] _ 7 [] dX7_demand_4 cm_X7_130 ⟨(Nat.le_of_ble_eq_true rfl), (Nat.le_of_ble_eq_true rfl)⟩ rfl rfl sh0 (Nat.le_of_ble_eq_true rfl) ⟨rfl, rfl⟩ hE4 (fun z1 ρ2 μ3 hz => ?_)
  replace h := h _ _ _ hz
  refine qX_if_ne 16 dX7_demand_7 rfl (fun hc => ?_) (fun hc => ?_)
  · replace h := h.1 hc
    refine qX_aload_n 0 dX7_demand_16 rfl rfl (by decide) ?_
    refine qX_aload_n 0 dX7_demand_17 rfl rfl (by decide) ?_
    refine qX_getR 7 8 _ dX7_demand_18 fs_X7_60 sh0 ?_
    refine qX_iload_n 1 dX7_demand_21 rfl rfl ?_
    refine qX_iload_n 2 dX7_demand_22 rfl rfl ?_
    obtain ⟨P, hE8, h⟩ := h
    refine qN_callS mX7_doorIndex [_, _] [_, _] dX7_demand_23 cm_X7_134 ⟨(Nat.le_of_ble_eq_true rfl), (Nat.le_of_ble_eq_true rfl)⟩ rfl rfl (Nat.le_of_ble_eq_true rfl) ⟨rfl, rfl⟩ hE8 (fun z5 ρ6 μ7 hz => ?_)
    replace h := h _ _ _ hz
    refine qX_iload_n 3 dX7_demand_26 rfl rfl ?_
    have hO9 := h.1
    replace h := h.2
    obtain ⟨P, hE13, h⟩ := h
    refine qN_callV mX0_wanted [_, _] _ 0 [_] dX7_demand_27 cm_X7_137 ⟨(Nat.le_of_ble_eq_true rfl), (Nat.le_of_ble_eq_true rfl)⟩ rfl rfl hO9 (Nat.le_of_ble_eq_true rfl) ⟨rfl, rfl⟩ hE13 (fun z10 ρ11 μ12 hz => ?_)
    replace h := h _ _ _ hz
    obtain ⟨P, hE17, h⟩ := h
    refine qN_callV mX7_answer [_] _ 7 [] dX7_demand_30 cm_X7_92 ⟨(Nat.le_of_ble_eq_true rfl), (Nat.le_of_ble_eq_true rfl)⟩ rfl rfl sh0 (Nat.le_of_ble_eq_true rfl) ⟨rfl, rfl⟩ hE17 (fun z14 ρ15 μ16 hz => ?_)
    replace h := h _ _ _ hz
    exact qX_ireturn rfl dX7_demand_33 rfl ⟨(Nat.le_of_ble_eq_true rfl), (Nat.le_of_ble_eq_true rfl)⟩ h
  · replace h := h.2 hc
    refine qX_aload_n 0 dX7_demand_10 rfl rfl (by decide) ?_
    refine qX_iconst dX7_demand_11 (i32_of rfl) ?_
    obtain ⟨P, hE21, h⟩ := h
    refine qN_callV mX7_fail [_] _ 7 [] dX7_demand_12 cm_X7_76 ⟨(Nat.le_of_ble_eq_true rfl), (Nat.le_of_ble_eq_true rfl)⟩ rfl rfl sh0 (Nat.le_of_ble_eq_true rfl) ⟨rfl, rfl⟩ hE21 (fun z18 ρ19 μ20 hz => ?_)
    replace h := h _ _ _ hz
    exact qX_ireturn rfl dX7_demand_15 rfl ⟨(Nat.le_of_ble_eq_true rfl), (Nat.le_of_ble_eq_true rfl)⟩ h
set_option maxRecDepth 20000 in
theorem e_X7_jobTrolley {Post : Int → Rf → Mem → Prop} {ρ : Rf} {μ : Mem} {x1 : Int}
  (h : ∃ P : Int → Rf → Mem → Prop, qE mX7_isJob GG GG [qP 0, qI x1] ρ μ P ∧ ∀ (z1 : Int) (ρ2 : Rf) (μ3 : Mem), P z1 ρ2 μ3 → ((z1 ≠ 0 → isO 6 (ρ2 0 9) ∧ (0 ≤ x1 ∧ x1 < 20) ∧ ∃ P : Int → Rf → Mem → Prop, qE mX7_answer GG GG [qP 0, qI (μ3 (ρ2 0 9 + 1) x1)] ρ2 μ3 P ∧ ∀ (z6 : Int) (ρ7 : Rf) (μ8 : Mem), P z6 ρ7 μ8 → Post z6 ρ7 μ8) ∧ (z1 = 0 → ∃ P : Int → Rf → Mem → Prop, qE mX7_fail GG GG [qP 0, qI 1] ρ2 μ3 P ∧ ∀ (z10 : Int) (ρ11 : Rf) (μ12 : Mem), P z10 ρ11 μ12 → Post z10 ρ11 μ12))) : qE mX7_jobTrolley GG GG [qP 0, qI x1] ρ μ Post := by
  refine qE_intro pl_X7_jobTrolley (Nat.le_of_ble_eq_true rfl) (Nat.le_refl _) ?_
  refine qX_aload_n 0 dX7_jobTrolley_0 rfl rfl (by decide) ?_
  refine qX_iload_n 1 dX7_jobTrolley_1 rfl rfl ?_
  obtain ⟨P, hE4, h⟩ := h
  refine qN_callV mX7_isJob [_] _ 7 [] dX7_jobTrolley_2 cm_X7_140 ⟨(Nat.le_of_ble_eq_true rfl), (Nat.le_of_ble_eq_true rfl)⟩ rfl rfl sh0 (Nat.le_of_ble_eq_true rfl) ⟨rfl, rfl⟩ hE4 (fun z1 ρ2 μ3 hz => ?_)
  replace h := h _ _ _ hz
  refine qX_if_ne 14 dX7_jobTrolley_5 rfl (fun hc => ?_) (fun hc => ?_)
  · replace h := h.1 hc
    refine qX_aload_n 0 dX7_jobTrolley_14 rfl rfl (by decide) ?_
    refine qX_aload_n 0 dX7_jobTrolley_15 rfl rfl (by decide) ?_
    refine qX_getR 7 9 _ dX7_jobTrolley_16 fs_X7_64 sh0 ?_
    have hO5 := h.1
    replace h := h.2
    refine qX_getS 6 0 _ 0 dX7_jobTrolley_19 fs_X7_143 rfl rfl hO5 rfl ?_
    refine qX_iload_n 1 dX7_jobTrolley_22 rfl rfl ?_
    refine qX_iald dX7_jobTrolley_23 (ar6_0 hO5) h.1 ?_
    replace h := h.2
    obtain ⟨P, hE9, h⟩ := h
    refine qN_callV mX7_answer [_] _ 7 [] dX7_jobTrolley_24 cm_X7_92 ⟨(Nat.le_of_ble_eq_true rfl), (Nat.le_of_ble_eq_true rfl)⟩ rfl rfl sh0 (Nat.le_of_ble_eq_true rfl) ⟨rfl, rfl⟩ hE9 (fun z6 ρ7 μ8 hz => ?_)
    replace h := h _ _ _ hz
    exact qX_ireturn rfl dX7_jobTrolley_27 rfl ⟨(Nat.le_of_ble_eq_true rfl), (Nat.le_of_ble_eq_true rfl)⟩ h
  · replace h := h.2 hc
    refine qX_aload_n 0 dX7_jobTrolley_8 rfl rfl (by decide) ?_
    refine qX_iconst dX7_jobTrolley_9 (i32_of rfl) ?_
    obtain ⟨P, hE13, h⟩ := h
    refine qN_callV mX7_fail [_] _ 7 [] dX7_jobTrolley_10 cm_X7_76 ⟨(Nat.le_of_ble_eq_true rfl), (Nat.le_of_ble_eq_true rfl)⟩ rfl rfl sh0 (Nat.le_of_ble_eq_true rfl) ⟨rfl, rfl⟩ hE13 (fun z10 ρ11 μ12 hz => ?_)
    replace h := h _ _ _ hz
    exact qX_ireturn rfl dX7_jobTrolley_13 rfl ⟨(Nat.le_of_ble_eq_true rfl), (Nat.le_of_ble_eq_true rfl)⟩ h
set_option maxRecDepth 20000 in
theorem e_X7_jobQuantity {Post : Int → Rf → Mem → Prop} {ρ : Rf} {μ : Mem} {x1 : Int}
  (h : ∃ P : Int → Rf → Mem → Prop, qE mX7_isJob GG GG [qP 0, qI x1] ρ μ P ∧ ∀ (z1 : Int) (ρ2 : Rf) (μ3 : Mem), P z1 ρ2 μ3 → ((z1 ≠ 0 → isO 6 (ρ2 0 9) ∧ (0 ≤ x1 ∧ x1 < 20) ∧ ∃ P : Int → Rf → Mem → Prop, qE mX7_answer GG GG [qP 0, qI (μ3 (ρ2 0 9 + 4) x1)] ρ2 μ3 P ∧ ∀ (z6 : Int) (ρ7 : Rf) (μ8 : Mem), P z6 ρ7 μ8 → Post z6 ρ7 μ8) ∧ (z1 = 0 → ∃ P : Int → Rf → Mem → Prop, qE mX7_fail GG GG [qP 0, qI 1] ρ2 μ3 P ∧ ∀ (z10 : Int) (ρ11 : Rf) (μ12 : Mem), P z10 ρ11 μ12 → Post z10 ρ11 μ12))) : qE mX7_jobQuantity GG GG [qP 0, qI x1] ρ μ Post := by
  refine qE_intro pl_X7_jobQuantity (Nat.le_of_ble_eq_true rfl) (Nat.le_refl _) ?_
  refine qX_aload_n 0 dX7_jobQuantity_0 rfl rfl (by decide) ?_
  refine qX_iload_n 1 dX7_jobQuantity_1 rfl rfl ?_
  obtain ⟨P, hE4, h⟩ := h
  refine qN_callV mX7_isJob [_] _ 7 [] dX7_jobQuantity_2 cm_X7_140 ⟨(Nat.le_of_ble_eq_true rfl), (Nat.le_of_ble_eq_true rfl)⟩ rfl rfl sh0 (Nat.le_of_ble_eq_true rfl) ⟨rfl, rfl⟩ hE4 (fun z1 ρ2 μ3 hz => ?_)
  replace h := h _ _ _ hz
  refine qX_if_ne 14 dX7_jobQuantity_5 rfl (fun hc => ?_) (fun hc => ?_)
  · replace h := h.1 hc
    refine qX_aload_n 0 dX7_jobQuantity_14 rfl rfl (by decide) ?_
    refine qX_aload_n 0 dX7_jobQuantity_15 rfl rfl (by decide) ?_
    refine qX_getR 7 9 _ dX7_jobQuantity_16 fs_X7_64 sh0 ?_
    have hO5 := h.1
    replace h := h.2
    refine qX_getS 6 3 _ 3 dX7_jobQuantity_19 fs_X7_146 rfl rfl hO5 rfl ?_
    refine qX_iload_n 1 dX7_jobQuantity_22 rfl rfl ?_
    refine qX_iald dX7_jobQuantity_23 (ar6_3 hO5) h.1 ?_
    replace h := h.2
    obtain ⟨P, hE9, h⟩ := h
    refine qN_callV mX7_answer [_] _ 7 [] dX7_jobQuantity_24 cm_X7_92 ⟨(Nat.le_of_ble_eq_true rfl), (Nat.le_of_ble_eq_true rfl)⟩ rfl rfl sh0 (Nat.le_of_ble_eq_true rfl) ⟨rfl, rfl⟩ hE9 (fun z6 ρ7 μ8 hz => ?_)
    replace h := h _ _ _ hz
    exact qX_ireturn rfl dX7_jobQuantity_27 rfl ⟨(Nat.le_of_ble_eq_true rfl), (Nat.le_of_ble_eq_true rfl)⟩ h
  · replace h := h.2 hc
    refine qX_aload_n 0 dX7_jobQuantity_8 rfl rfl (by decide) ?_
    refine qX_iconst dX7_jobQuantity_9 (i32_of rfl) ?_
    obtain ⟨P, hE13, h⟩ := h
    refine qN_callV mX7_fail [_] _ 7 [] dX7_jobQuantity_10 cm_X7_76 ⟨(Nat.le_of_ble_eq_true rfl), (Nat.le_of_ble_eq_true rfl)⟩ rfl rfl sh0 (Nat.le_of_ble_eq_true rfl) ⟨rfl, rfl⟩ hE13 (fun z10 ρ11 μ12 hz => ?_)
    replace h := h _ _ _ hz
    exact qX_ireturn rfl dX7_jobQuantity_13 rfl ⟨(Nat.le_of_ble_eq_true rfl), (Nat.le_of_ble_eq_true rfl)⟩ h
set_option maxRecDepth 20000 in
theorem e_X7_startTime {Post : Int → Rf → Mem → Prop} {ρ : Rf} {μ : Mem} {x1 : Int}
  (h : ∃ P : Int → Rf → Mem → Prop, qE mX7_isJob GG GG [qP 0, qI x1] ρ μ P ∧ ∀ (z1 : Int) (ρ2 : Rf) (μ3 : Mem), P z1 ρ2 μ3 → ((z1 ≠ 0 → (0 ≤ x1 ∧ x1 < 20) ∧ ∃ P : Int → Rf → Mem → Prop, qE mX7_answer GG GG [qP 0, qI (μ3 28 x1)] ρ2 μ3 P ∧ ∀ (z5 : Int) (ρ6 : Rf) (μ7 : Mem), P z5 ρ6 μ7 → Post z5 ρ6 μ7) ∧ (z1 = 0 → ∃ P : Int → Rf → Mem → Prop, qE mX7_fail GG GG [qP 0, qI 1] ρ2 μ3 P ∧ ∀ (z9 : Int) (ρ10 : Rf) (μ11 : Mem), P z9 ρ10 μ11 → Post z9 ρ10 μ11))) : qE mX7_startTime GG GG [qP 0, qI x1] ρ μ Post := by
  refine qE_intro pl_X7_startTime (Nat.le_of_ble_eq_true rfl) (Nat.le_refl _) ?_
  refine qX_aload_n 0 dX7_startTime_0 rfl rfl (by decide) ?_
  refine qX_iload_n 1 dX7_startTime_1 rfl rfl ?_
  obtain ⟨P, hE4, h⟩ := h
  refine qN_callV mX7_isJob [_] _ 7 [] dX7_startTime_2 cm_X7_140 ⟨(Nat.le_of_ble_eq_true rfl), (Nat.le_of_ble_eq_true rfl)⟩ rfl rfl sh0 (Nat.le_of_ble_eq_true rfl) ⟨rfl, rfl⟩ hE4 (fun z1 ρ2 μ3 hz => ?_)
  replace h := h _ _ _ hz
  refine qX_if_ne 14 dX7_startTime_5 rfl (fun hc => ?_) (fun hc => ?_)
  · replace h := h.1 hc
    refine qX_aload_n 0 dX7_startTime_14 rfl rfl (by decide) ?_
    refine qX_aload_n 0 dX7_startTime_15 rfl rfl (by decide) ?_
    refine qX_getS 7 1 _ 26 dX7_startTime_16 fs_X7_19 rfl rfl sh0 (x := 27) rfl ?_
    refine qX_getS 3 0 _ 0 dX7_startTime_19 fs_X7_149 rfl rfl sh27 (x := 28) rfl ?_
    refine qX_iload_n 1 dX7_startTime_22 rfl rfl ?_
    refine qX_iald dX7_startTime_23 sh28 h.1 ?_
    replace h := h.2
    obtain ⟨P, hE8, h⟩ := h
    refine qN_callV mX7_answer [_] _ 7 [] dX7_startTime_24 cm_X7_92 ⟨(Nat.le_of_ble_eq_true rfl), (Nat.le_of_ble_eq_true rfl)⟩ rfl rfl sh0 (Nat.le_of_ble_eq_true rfl) ⟨rfl, rfl⟩ hE8 (fun z5 ρ6 μ7 hz => ?_)
    replace h := h _ _ _ hz
    exact qX_ireturn rfl dX7_startTime_27 rfl ⟨(Nat.le_of_ble_eq_true rfl), (Nat.le_of_ble_eq_true rfl)⟩ h
  · replace h := h.2 hc
    refine qX_aload_n 0 dX7_startTime_8 rfl rfl (by decide) ?_
    refine qX_iconst dX7_startTime_9 (i32_of rfl) ?_
    obtain ⟨P, hE12, h⟩ := h
    refine qN_callV mX7_fail [_] _ 7 [] dX7_startTime_10 cm_X7_76 ⟨(Nat.le_of_ble_eq_true rfl), (Nat.le_of_ble_eq_true rfl)⟩ rfl rfl sh0 (Nat.le_of_ble_eq_true rfl) ⟨rfl, rfl⟩ hE12 (fun z9 ρ10 μ11 hz => ?_)
    replace h := h _ _ _ hz
    exact qX_ireturn rfl dX7_startTime_13 rfl ⟨(Nat.le_of_ble_eq_true rfl), (Nat.le_of_ble_eq_true rfl)⟩ h
set_option maxRecDepth 20000 in
theorem e_X7_loaded {Post : Int → Rf → Mem → Prop} {ρ : Rf} {μ : Mem} {x1 : Int}
  (h : ∃ P : Int → Rf → Mem → Prop, qE mX7_isJob GG GG [qP 0, qI x1] ρ μ P ∧ ∀ (z1 : Int) (ρ2 : Rf) (μ3 : Mem), P z1 ρ2 μ3 → ((z1 ≠ 0 → (0 ≤ x1 ∧ x1 < 20) ∧ ∃ P : Int → Rf → Mem → Prop, qE mX7_answer GG GG [qP 0, qI (μ3 29 x1)] ρ2 μ3 P ∧ ∀ (z5 : Int) (ρ6 : Rf) (μ7 : Mem), P z5 ρ6 μ7 → Post z5 ρ6 μ7) ∧ (z1 = 0 → ∃ P : Int → Rf → Mem → Prop, qE mX7_fail GG GG [qP 0, qI 1] ρ2 μ3 P ∧ ∀ (z9 : Int) (ρ10 : Rf) (μ11 : Mem), P z9 ρ10 μ11 → Post z9 ρ10 μ11))) : qE mX7_loaded GG GG [qP 0, qI x1] ρ μ Post := by
  refine qE_intro pl_X7_loaded (Nat.le_of_ble_eq_true rfl) (Nat.le_refl _) ?_
  refine qX_aload_n 0 dX7_loaded_0 rfl rfl (by decide) ?_
  refine qX_iload_n 1 dX7_loaded_1 rfl rfl ?_
  obtain ⟨P, hE4, h⟩ := h
  refine qN_callV mX7_isJob [_] _ 7 [] dX7_loaded_2 cm_X7_140 ⟨(Nat.le_of_ble_eq_true rfl), (Nat.le_of_ble_eq_true rfl)⟩ rfl rfl sh0 (Nat.le_of_ble_eq_true rfl) ⟨rfl, rfl⟩ hE4 (fun z1 ρ2 μ3 hz => ?_)
  replace h := h _ _ _ hz
  refine qX_if_ne 14 dX7_loaded_5 rfl (fun hc => ?_) (fun hc => ?_)
  · replace h := h.1 hc
    refine qX_aload_n 0 dX7_loaded_14 rfl rfl (by decide) ?_
    refine qX_aload_n 0 dX7_loaded_15 rfl rfl (by decide) ?_
    refine qX_getS 7 1 _ 26 dX7_loaded_16 fs_X7_19 rfl rfl sh0 (x := 27) rfl ?_
    refine qX_getS 3 1 _ 1 dX7_loaded_19 fs_X7_152 rfl rfl sh27 (x := 29) rfl ?_
    refine qX_iload_n 1 dX7_loaded_22 rfl rfl ?_
    refine qX_iald dX7_loaded_23 sh29 h.1 ?_
    replace h := h.2
    obtain ⟨P, hE8, h⟩ := h
    refine qN_callV mX7_answer [_] _ 7 [] dX7_loaded_24 cm_X7_92 ⟨(Nat.le_of_ble_eq_true rfl), (Nat.le_of_ble_eq_true rfl)⟩ rfl rfl sh0 (Nat.le_of_ble_eq_true rfl) ⟨rfl, rfl⟩ hE8 (fun z5 ρ6 μ7 hz => ?_)
    replace h := h _ _ _ hz
    exact qX_ireturn rfl dX7_loaded_27 rfl ⟨(Nat.le_of_ble_eq_true rfl), (Nat.le_of_ble_eq_true rfl)⟩ h
  · replace h := h.2 hc
    refine qX_aload_n 0 dX7_loaded_8 rfl rfl (by decide) ?_
    refine qX_iconst dX7_loaded_9 (i32_of rfl) ?_
    obtain ⟨P, hE12, h⟩ := h
    refine qN_callV mX7_fail [_] _ 7 [] dX7_loaded_10 cm_X7_76 ⟨(Nat.le_of_ble_eq_true rfl), (Nat.le_of_ble_eq_true rfl)⟩ rfl rfl sh0 (Nat.le_of_ble_eq_true rfl) ⟨rfl, rfl⟩ hE12 (fun z9 ρ10 μ11 hz => ?_)
    replace h := h _ _ _ hz
    exact qX_ireturn rfl dX7_loaded_13 rfl ⟨(Nat.le_of_ble_eq_true rfl), (Nat.le_of_ble_eq_true rfl)⟩ h
set_option maxRecDepth 20000 in
theorem e_X7_unloaded {Post : Int → Rf → Mem → Prop} {ρ : Rf} {μ : Mem} {x1 : Int}
  (h : ∃ P : Int → Rf → Mem → Prop, qE mX7_isJob GG GG [qP 0, qI x1] ρ μ P ∧ ∀ (z1 : Int) (ρ2 : Rf) (μ3 : Mem), P z1 ρ2 μ3 → ((z1 ≠ 0 → (0 ≤ x1 ∧ x1 < 20) ∧ ∃ P : Int → Rf → Mem → Prop, qE mX7_answer GG GG [qP 0, qI (μ3 34 x1)] ρ2 μ3 P ∧ ∀ (z5 : Int) (ρ6 : Rf) (μ7 : Mem), P z5 ρ6 μ7 → Post z5 ρ6 μ7) ∧ (z1 = 0 → ∃ P : Int → Rf → Mem → Prop, qE mX7_fail GG GG [qP 0, qI 1] ρ2 μ3 P ∧ ∀ (z9 : Int) (ρ10 : Rf) (μ11 : Mem), P z9 ρ10 μ11 → Post z9 ρ10 μ11))) : qE mX7_unloaded GG GG [qP 0, qI x1] ρ μ Post := by
  refine qE_intro pl_X7_unloaded (Nat.le_of_ble_eq_true rfl) (Nat.le_refl _) ?_
  refine qX_aload_n 0 dX7_unloaded_0 rfl rfl (by decide) ?_
  refine qX_iload_n 1 dX7_unloaded_1 rfl rfl ?_
  obtain ⟨P, hE4, h⟩ := h
  refine qN_callV mX7_isJob [_] _ 7 [] dX7_unloaded_2 cm_X7_140 ⟨(Nat.le_of_ble_eq_true rfl), (Nat.le_of_ble_eq_true rfl)⟩ rfl rfl sh0 (Nat.le_of_ble_eq_true rfl) ⟨rfl, rfl⟩ hE4 (fun z1 ρ2 μ3 hz => ?_)
  replace h := h _ _ _ hz
  refine qX_if_ne 14 dX7_unloaded_5 rfl (fun hc => ?_) (fun hc => ?_)
  · replace h := h.1 hc
    refine qX_aload_n 0 dX7_unloaded_14 rfl rfl (by decide) ?_
    refine qX_aload_n 0 dX7_unloaded_15 rfl rfl (by decide) ?_
    refine qX_getS 7 1 _ 26 dX7_unloaded_16 fs_X7_19 rfl rfl sh0 (x := 27) rfl ?_
    refine qX_getS 3 6 _ 6 dX7_unloaded_19 fs_X7_155 rfl rfl sh27 (x := 34) rfl ?_
    refine qX_iload_n 1 dX7_unloaded_22 rfl rfl ?_
    refine qX_iald dX7_unloaded_23 sh34 h.1 ?_
    replace h := h.2
    obtain ⟨P, hE8, h⟩ := h
    refine qN_callV mX7_answer [_] _ 7 [] dX7_unloaded_24 cm_X7_92 ⟨(Nat.le_of_ble_eq_true rfl), (Nat.le_of_ble_eq_true rfl)⟩ rfl rfl sh0 (Nat.le_of_ble_eq_true rfl) ⟨rfl, rfl⟩ hE8 (fun z5 ρ6 μ7 hz => ?_)
    replace h := h _ _ _ hz
    exact qX_ireturn rfl dX7_unloaded_27 rfl ⟨(Nat.le_of_ble_eq_true rfl), (Nat.le_of_ble_eq_true rfl)⟩ h
  · replace h := h.2 hc
    refine qX_aload_n 0 dX7_unloaded_8 rfl rfl (by decide) ?_
    refine qX_iconst dX7_unloaded_9 (i32_of rfl) ?_
    obtain ⟨P, hE12, h⟩ := h
    refine qN_callV mX7_fail [_] _ 7 [] dX7_unloaded_10 cm_X7_76 ⟨(Nat.le_of_ble_eq_true rfl), (Nat.le_of_ble_eq_true rfl)⟩ rfl rfl sh0 (Nat.le_of_ble_eq_true rfl) ⟨rfl, rfl⟩ hE12 (fun z9 ρ10 μ11 hz => ?_)
    replace h := h _ _ _ hz
    exact qX_ireturn rfl dX7_unloaded_13 rfl ⟨(Nat.le_of_ble_eq_true rfl), (Nat.le_of_ble_eq_true rfl)⟩ h
set_option maxRecDepth 20000 in
theorem e_X7_unloadTime {Post : Int → Rf → Mem → Prop} {ρ : Rf} {μ : Mem} {x1 : Int}
  (h : ∃ P : Int → Rf → Mem → Prop, qE mX7_isJob GG GG [qP 0, qI x1] ρ μ P ∧ ∀ (z1 : Int) (ρ2 : Rf) (μ3 : Mem), P z1 ρ2 μ3 → ((z1 ≠ 0 → (0 ≤ x1 ∧ x1 < 20) ∧ ((μ3 34 x1 ≠ 0 → (0 ≤ x1 ∧ x1 < 20) ∧ ∃ P : Int → Rf → Mem → Prop, qE mX7_answer GG GG [qP 0, qI (μ3 32 x1)] ρ2 μ3 P ∧ ∀ (z5 : Int) (ρ6 : Rf) (μ7 : Mem), P z5 ρ6 μ7 → Post z5 ρ6 μ7) ∧ (μ3 34 x1 = 0 → ∃ P : Int → Rf → Mem → Prop, qE mX7_fail GG GG [qP 0, qI 6] ρ2 μ3 P ∧ ∀ (z9 : Int) (ρ10 : Rf) (μ11 : Mem), P z9 ρ10 μ11 → Post z9 ρ10 μ11))) ∧ (z1 = 0 → ∃ P : Int → Rf → Mem → Prop, qE mX7_fail GG GG [qP 0, qI 1] ρ2 μ3 P ∧ ∀ (z13 : Int) (ρ14 : Rf) (μ15 : Mem), P z13 ρ14 μ15 → Post z13 ρ14 μ15))) : qE mX7_unloadTime GG GG [qP 0, qI x1] ρ μ Post := by
  refine qE_intro pl_X7_unloadTime (Nat.le_of_ble_eq_true rfl) (Nat.le_refl _) ?_
  refine qX_aload_n 0 dX7_unloadTime_0 rfl rfl (by decide) ?_
  refine qX_iload_n 1 dX7_unloadTime_1 rfl rfl ?_
  obtain ⟨P, hE4, h⟩ := h
  refine qN_callV mX7_isJob [_] _ 7 [] dX7_unloadTime_2 cm_X7_140 ⟨(Nat.le_of_ble_eq_true rfl), (Nat.le_of_ble_eq_true rfl)⟩ rfl rfl sh0 (Nat.le_of_ble_eq_true rfl) ⟨rfl, rfl⟩ hE4 (fun z1 ρ2 μ3 hz => ?_)
  replace h := h _ _ _ hz
  refine qX_if_ne 14 dX7_unloadTime_5 rfl (fun hc => ?_) (fun hc => ?_)
  · replace h := h.1 hc
    refine qX_aload_n 0 dX7_unloadTime_14 rfl rfl (by decide) ?_
    refine qX_getS 7 1 _ 26 dX7_unloadTime_15 fs_X7_19 rfl rfl sh0 (x := 27) rfl ?_
    refine qX_getS 3 6 _ 6 dX7_unloadTime_18 fs_X7_155 rfl rfl sh27 (x := 34) rfl ?_
    refine qX_iload_n 1 dX7_unloadTime_21 rfl rfl ?_
    refine qX_iald dX7_unloadTime_22 sh34 h.1 ?_
    replace h := h.2
    refine qX_if_ne 33 dX7_unloadTime_23 rfl (fun hc => ?_) (fun hc => ?_)
    · replace h := h.1 hc
      refine qX_aload_n 0 dX7_unloadTime_33 rfl rfl (by decide) ?_
      refine qX_aload_n 0 dX7_unloadTime_34 rfl rfl (by decide) ?_
      refine qX_getS 7 1 _ 26 dX7_unloadTime_35 fs_X7_19 rfl rfl sh0 (x := 27) rfl ?_
      refine qX_getS 3 4 _ 4 dX7_unloadTime_38 fs_X7_158 rfl rfl sh27 (x := 32) rfl ?_
      refine qX_iload_n 1 dX7_unloadTime_41 rfl rfl ?_
      refine qX_iald dX7_unloadTime_42 sh32 h.1 ?_
      replace h := h.2
      obtain ⟨P, hE8, h⟩ := h
      refine qN_callV mX7_answer [_] _ 7 [] dX7_unloadTime_43 cm_X7_92 ⟨(Nat.le_of_ble_eq_true rfl), (Nat.le_of_ble_eq_true rfl)⟩ rfl rfl sh0 (Nat.le_of_ble_eq_true rfl) ⟨rfl, rfl⟩ hE8 (fun z5 ρ6 μ7 hz => ?_)
      replace h := h _ _ _ hz
      exact qX_ireturn rfl dX7_unloadTime_46 rfl ⟨(Nat.le_of_ble_eq_true rfl), (Nat.le_of_ble_eq_true rfl)⟩ h
    · replace h := h.2 hc
      refine qX_aload_n 0 dX7_unloadTime_26 rfl rfl (by decide) ?_
      refine qX_bip dX7_unloadTime_27 rfl ?_
      obtain ⟨P, hE12, h⟩ := h
      refine qN_callV mX7_fail [_] _ 7 [] dX7_unloadTime_29 cm_X7_76 ⟨(Nat.le_of_ble_eq_true rfl), (Nat.le_of_ble_eq_true rfl)⟩ rfl rfl sh0 (Nat.le_of_ble_eq_true rfl) ⟨rfl, rfl⟩ hE12 (fun z9 ρ10 μ11 hz => ?_)
      replace h := h _ _ _ hz
      exact qX_ireturn rfl dX7_unloadTime_32 rfl ⟨(Nat.le_of_ble_eq_true rfl), (Nat.le_of_ble_eq_true rfl)⟩ h
  · replace h := h.2 hc
    refine qX_aload_n 0 dX7_unloadTime_8 rfl rfl (by decide) ?_
    refine qX_iconst dX7_unloadTime_9 (i32_of rfl) ?_
    obtain ⟨P, hE16, h⟩ := h
    refine qN_callV mX7_fail [_] _ 7 [] dX7_unloadTime_10 cm_X7_76 ⟨(Nat.le_of_ble_eq_true rfl), (Nat.le_of_ble_eq_true rfl)⟩ rfl rfl sh0 (Nat.le_of_ble_eq_true rfl) ⟨rfl, rfl⟩ hE16 (fun z13 ρ14 μ15 hz => ?_)
    replace h := h _ _ _ hz
    exact qX_ireturn rfl dX7_unloadTime_13 rfl ⟨(Nat.le_of_ble_eq_true rfl), (Nat.le_of_ble_eq_true rfl)⟩ h
set_option maxRecDepth 20000 in
theorem e_X7_finishTime {Post : Int → Rf → Mem → Prop} {ρ : Rf} {μ : Mem} {x1 : Int}
  (h : ∃ P : Int → Rf → Mem → Prop, qE mX7_isJob GG GG [qP 0, qI x1] ρ μ P ∧ ∀ (z1 : Int) (ρ2 : Rf) (μ3 : Mem), P z1 ρ2 μ3 → ((z1 ≠ 0 → (0 ≤ x1 ∧ x1 < 20) ∧ ∃ P : Int → Rf → Mem → Prop, qE mX7_answer GG GG [qP 0, qI (μ3 35 x1)] ρ2 μ3 P ∧ ∀ (z5 : Int) (ρ6 : Rf) (μ7 : Mem), P z5 ρ6 μ7 → Post z5 ρ6 μ7) ∧ (z1 = 0 → ∃ P : Int → Rf → Mem → Prop, qE mX7_fail GG GG [qP 0, qI 1] ρ2 μ3 P ∧ ∀ (z9 : Int) (ρ10 : Rf) (μ11 : Mem), P z9 ρ10 μ11 → Post z9 ρ10 μ11))) : qE mX7_finishTime GG GG [qP 0, qI x1] ρ μ Post := by
  refine qE_intro pl_X7_finishTime (Nat.le_of_ble_eq_true rfl) (Nat.le_refl _) ?_
  refine qX_aload_n 0 dX7_finishTime_0 rfl rfl (by decide) ?_
  refine qX_iload_n 1 dX7_finishTime_1 rfl rfl ?_
  obtain ⟨P, hE4, h⟩ := h
  refine qN_callV mX7_isJob [_] _ 7 [] dX7_finishTime_2 cm_X7_140 ⟨(Nat.le_of_ble_eq_true rfl), (Nat.le_of_ble_eq_true rfl)⟩ rfl rfl sh0 (Nat.le_of_ble_eq_true rfl) ⟨rfl, rfl⟩ hE4 (fun z1 ρ2 μ3 hz => ?_)
  replace h := h _ _ _ hz
  refine qX_if_ne 14 dX7_finishTime_5 rfl (fun hc => ?_) (fun hc => ?_)
  · replace h := h.1 hc
    refine qX_aload_n 0 dX7_finishTime_14 rfl rfl (by decide) ?_
    refine qX_aload_n 0 dX7_finishTime_15 rfl rfl (by decide) ?_
    refine qX_getS 7 1 _ 26 dX7_finishTime_16 fs_X7_19 rfl rfl sh0 (x := 27) rfl ?_
    refine qX_getS 3 7 _ 7 dX7_finishTime_19 fs_X7_161 rfl rfl sh27 (x := 35) rfl ?_
    refine qX_iload_n 1 dX7_finishTime_22 rfl rfl ?_
    refine qX_iald dX7_finishTime_23 sh35 h.1 ?_
    replace h := h.2
    obtain ⟨P, hE8, h⟩ := h
    refine qN_callV mX7_answer [_] _ 7 [] dX7_finishTime_24 cm_X7_92 ⟨(Nat.le_of_ble_eq_true rfl), (Nat.le_of_ble_eq_true rfl)⟩ rfl rfl sh0 (Nat.le_of_ble_eq_true rfl) ⟨rfl, rfl⟩ hE8 (fun z5 ρ6 μ7 hz => ?_)
    replace h := h _ _ _ hz
    exact qX_ireturn rfl dX7_finishTime_27 rfl ⟨(Nat.le_of_ble_eq_true rfl), (Nat.le_of_ble_eq_true rfl)⟩ h
  · replace h := h.2 hc
    refine qX_aload_n 0 dX7_finishTime_8 rfl rfl (by decide) ?_
    refine qX_iconst dX7_finishTime_9 (i32_of rfl) ?_
    obtain ⟨P, hE12, h⟩ := h
    refine qN_callV mX7_fail [_] _ 7 [] dX7_finishTime_10 cm_X7_76 ⟨(Nat.le_of_ble_eq_true rfl), (Nat.le_of_ble_eq_true rfl)⟩ rfl rfl sh0 (Nat.le_of_ble_eq_true rfl) ⟨rfl, rfl⟩ hE12 (fun z9 ρ10 μ11 hz => ?_)
    replace h := h _ _ _ hz
    exact qX_ireturn rfl dX7_finishTime_13 rfl ⟨(Nat.le_of_ble_eq_true rfl), (Nat.le_of_ble_eq_true rfl)⟩ h
set_option maxRecDepth 20000 in
theorem e_X7_delivered {Post : Int → Rf → Mem → Prop} {ρ : Rf} {μ : Mem} {x1 : Int} {x2 : Int} {x3 : Int}
  (h : ∃ P : Int → Rf → Mem → Prop, qE mX7_isCarMeal GG GG [qP 0, qI x1, qI x2, qI x3] ρ μ P ∧ ∀ (z1 : Int) (ρ2 : Rf) (μ3 : Mem), P z1 ρ2 μ3 → ((z1 ≠ 0 → ∃ P : Int → Rf → Mem → Prop, qE mX7_doorIndex GG GG [qI x1, qI x2] ρ2 μ3 P ∧ ∀ (z5 : Int) (ρ6 : Rf) (μ7 : Mem), P z5 ρ6 μ7 → ∃ P : Int → Rf → Mem → Prop, qE mX7_handedAt GG GG [qP 0, qI z5, qI x3] ρ6 μ7 P ∧ ∀ (z9 : Int) (ρ10 : Rf) (μ11 : Mem), P z9 ρ10 μ11 → ∃ P : Int → Rf → Mem → Prop, qE mX7_answer GG GG [qP 0, qI z9] ρ10 μ11 P ∧ ∀ (z13 : Int) (ρ14 : Rf) (μ15 : Mem), P z13 ρ14 μ15 → Post z13 ρ14 μ15) ∧ (z1 = 0 → ∃ P : Int → Rf → Mem → Prop, qE mX7_fail GG GG [qP 0, qI 1] ρ2 μ3 P ∧ ∀ (z17 : Int) (ρ18 : Rf) (μ19 : Mem), P z17 ρ18 μ19 → Post z17 ρ18 μ19))) : qE mX7_delivered GG GG [qP 0, qI x1, qI x2, qI x3] ρ μ Post := by
  refine qE_intro pl_X7_delivered (Nat.le_of_ble_eq_true rfl) (Nat.le_refl _) ?_
  refine qX_aload_n 0 dX7_delivered_0 rfl rfl (by decide) ?_
  refine qX_iload_n 1 dX7_delivered_1 rfl rfl ?_
  refine qX_iload_n 2 dX7_delivered_2 rfl rfl ?_
  refine qX_iload_n 3 dX7_delivered_3 rfl rfl ?_
  obtain ⟨P, hE4, h⟩ := h
  refine qN_callV mX7_isCarMeal [_, _, _] _ 7 [] dX7_delivered_4 cm_X7_130 ⟨(Nat.le_of_ble_eq_true rfl), (Nat.le_of_ble_eq_true rfl)⟩ rfl rfl sh0 (Nat.le_of_ble_eq_true rfl) ⟨rfl, rfl⟩ hE4 (fun z1 ρ2 μ3 hz => ?_)
  replace h := h _ _ _ hz
  refine qX_if_ne 16 dX7_delivered_7 rfl (fun hc => ?_) (fun hc => ?_)
  · replace h := h.1 hc
    refine qX_aload_n 0 dX7_delivered_16 rfl rfl (by decide) ?_
    refine qX_aload_n 0 dX7_delivered_17 rfl rfl (by decide) ?_
    refine qX_iload_n 1 dX7_delivered_18 rfl rfl ?_
    refine qX_iload_n 2 dX7_delivered_19 rfl rfl ?_
    obtain ⟨P, hE8, h⟩ := h
    refine qN_callS mX7_doorIndex [_, _] [_, _] dX7_delivered_20 cm_X7_134 ⟨(Nat.le_of_ble_eq_true rfl), (Nat.le_of_ble_eq_true rfl)⟩ rfl rfl (Nat.le_of_ble_eq_true rfl) ⟨rfl, rfl⟩ hE8 (fun z5 ρ6 μ7 hz => ?_)
    replace h := h _ _ _ hz
    refine qX_iload_n 3 dX7_delivered_23 rfl rfl ?_
    obtain ⟨P, hE12, h⟩ := h
    refine qN_callV mX7_handedAt [_, _] _ 7 [_] dX7_delivered_24 cm_X7_164 ⟨(Nat.le_of_ble_eq_true rfl), (Nat.le_of_ble_eq_true rfl)⟩ rfl rfl sh0 (Nat.le_of_ble_eq_true rfl) ⟨rfl, rfl⟩ hE12 (fun z9 ρ10 μ11 hz => ?_)
    replace h := h _ _ _ hz
    obtain ⟨P, hE16, h⟩ := h
    refine qN_callV mX7_answer [_] _ 7 [] dX7_delivered_27 cm_X7_92 ⟨(Nat.le_of_ble_eq_true rfl), (Nat.le_of_ble_eq_true rfl)⟩ rfl rfl sh0 (Nat.le_of_ble_eq_true rfl) ⟨rfl, rfl⟩ hE16 (fun z13 ρ14 μ15 hz => ?_)
    replace h := h _ _ _ hz
    exact qX_ireturn rfl dX7_delivered_30 rfl ⟨(Nat.le_of_ble_eq_true rfl), (Nat.le_of_ble_eq_true rfl)⟩ h
  · replace h := h.2 hc
    refine qX_aload_n 0 dX7_delivered_10 rfl rfl (by decide) ?_
    refine qX_iconst dX7_delivered_11 (i32_of rfl) ?_
    obtain ⟨P, hE20, h⟩ := h
    refine qN_callV mX7_fail [_] _ 7 [] dX7_delivered_12 cm_X7_76 ⟨(Nat.le_of_ble_eq_true rfl), (Nat.le_of_ble_eq_true rfl)⟩ rfl rfl sh0 (Nat.le_of_ble_eq_true rfl) ⟨rfl, rfl⟩ hE20 (fun z17 ρ18 μ19 hz => ?_)
    replace h := h _ _ _ hz
    exact qX_ireturn rfl dX7_delivered_15 rfl ⟨(Nat.le_of_ble_eq_true rfl), (Nat.le_of_ble_eq_true rfl)⟩ h
set_option maxRecDepth 20000 in
theorem e_X7_deliveredTotal {Post : Int → Rf → Mem → Prop} {ρ : Rf} {μ : Mem} 
  (h : ((μ 0 10 ≠ 0 → ∃ P : Int → Rf → Mem → Prop, qE mX7_answer GG GG [qP 0, qI (μ 27 9)] ρ μ P ∧ ∀ (z1 : Int) (ρ2 : Rf) (μ3 : Mem), P z1 ρ2 μ3 → Post z1 ρ2 μ3) ∧ (μ 0 10 = 0 → ∃ P : Int → Rf → Mem → Prop, qE mX7_fail GG GG [qP 0, qI 1] ρ μ P ∧ ∀ (z5 : Int) (ρ6 : Rf) (μ7 : Mem), P z5 ρ6 μ7 → Post z5 ρ6 μ7))) : qE mX7_deliveredTotal GG GG [qP 0] ρ μ Post := by
  refine qE_intro pl_X7_deliveredTotal (Nat.le_of_ble_eq_true rfl) (Nat.le_refl _) ?_
  refine qX_aload_n 0 dX7_deliveredTotal_0 rfl rfl (by decide) ?_
  refine qX_getI 7 10 _ dX7_deliveredTotal_1 fs_X7_106 sh0 ?_
  refine qX_if_ne 13 dX7_deliveredTotal_4 rfl (fun hc => ?_) (fun hc => ?_)
  · replace h := h.1 hc
    refine qX_aload_n 0 dX7_deliveredTotal_13 rfl rfl (by decide) ?_
    refine qX_aload_n 0 dX7_deliveredTotal_14 rfl rfl (by decide) ?_
    refine qX_getS 7 1 _ 26 dX7_deliveredTotal_15 fs_X7_19 rfl rfl sh0 (x := 27) rfl ?_
    refine qX_getI 3 9 _ dX7_deliveredTotal_18 fs_X7_167 sh27 ?_
    obtain ⟨P, hE4, h⟩ := h
    refine qN_callV mX7_answer [_] _ 7 [] dX7_deliveredTotal_21 cm_X7_92 ⟨(Nat.le_of_ble_eq_true rfl), (Nat.le_of_ble_eq_true rfl)⟩ rfl rfl sh0 (Nat.le_of_ble_eq_true rfl) ⟨rfl, rfl⟩ hE4 (fun z1 ρ2 μ3 hz => ?_)
    replace h := h _ _ _ hz
    exact qX_ireturn rfl dX7_deliveredTotal_24 rfl ⟨(Nat.le_of_ble_eq_true rfl), (Nat.le_of_ble_eq_true rfl)⟩ h
  · replace h := h.2 hc
    refine qX_aload_n 0 dX7_deliveredTotal_7 rfl rfl (by decide) ?_
    refine qX_iconst dX7_deliveredTotal_8 (i32_of rfl) ?_
    obtain ⟨P, hE8, h⟩ := h
    refine qN_callV mX7_fail [_] _ 7 [] dX7_deliveredTotal_9 cm_X7_76 ⟨(Nat.le_of_ble_eq_true rfl), (Nat.le_of_ble_eq_true rfl)⟩ rfl rfl sh0 (Nat.le_of_ble_eq_true rfl) ⟨rfl, rfl⟩ hE8 (fun z5 ρ6 μ7 hz => ?_)
    replace h := h _ _ _ hz
    exact qX_ireturn rfl dX7_deliveredTotal_12 rfl ⟨(Nat.le_of_ble_eq_true rfl), (Nat.le_of_ble_eq_true rfl)⟩ h
set_option maxRecDepth 20000 in
theorem e_X7_leftBehind {Post : Int → Rf → Mem → Prop} {ρ : Rf} {μ : Mem} {x1 : Int}
  (h : ∃ P : Int → Rf → Mem → Prop, qE mX7_isTrolley GG GG [qP 0, qI x1] ρ μ P ∧ ∀ (z1 : Int) (ρ2 : Rf) (μ3 : Mem), P z1 ρ2 μ3 → ((z1 ≠ 0 → qX mX7_leftBehind GG Post GG (0, 0) 18 [some (qP 0), some (qI x1), some (qI 0), some (qI 0)] [] ρ2 μ3) ∧ (z1 = 0 → ∃ P : Int → Rf → Mem → Prop, qE mX7_fail GG GG [qP 0, qI 1] ρ2 μ3 P ∧ ∀ (z5 : Int) (ρ6 : Rf) (μ7 : Mem), P z5 ρ6 μ7 → Post z5 ρ6 μ7))) : qE mX7_leftBehind GG GG [qP 0, qI x1] ρ μ Post := by
  refine qE_intro pl_X7_leftBehind (Nat.le_of_ble_eq_true rfl) (Nat.le_refl _) ?_
  refine qX_aload_n 0 dX7_leftBehind_0 rfl rfl (by decide) ?_
  refine qX_iload_n 1 dX7_leftBehind_1 rfl rfl ?_
  obtain ⟨P, hE4, h⟩ := h
  refine qN_callV mX7_isTrolley [_] _ 7 [] dX7_leftBehind_2 cm_X7_170 ⟨(Nat.le_of_ble_eq_true rfl), (Nat.le_of_ble_eq_true rfl)⟩ rfl rfl sh0 (Nat.le_of_ble_eq_true rfl) ⟨rfl, rfl⟩ hE4 (fun z1 ρ2 μ3 hz => ?_)
  replace h := h _ _ _ hz
  refine qX_if_ne 14 dX7_leftBehind_5 rfl (fun hc => ?_) (fun hc => ?_)
  · replace h := h.1 hc
    refine qX_iconst dX7_leftBehind_14 (i32_of rfl) ?_
    refine qX_istore_n 2 dX7_leftBehind_15 rfl (Nat.le_of_ble_eq_true rfl) rfl ?_
    refine qX_iconst dX7_leftBehind_16 (i32_of rfl) ?_
    refine qX_istore_n 3 dX7_leftBehind_17 rfl (Nat.le_of_ble_eq_true rfl) rfl ?_
    exact qX_mask [true, true, true, true] h
  · replace h := h.2 hc
    refine qX_aload_n 0 dX7_leftBehind_8 rfl rfl (by decide) ?_
    refine qX_iconst dX7_leftBehind_9 (i32_of rfl) ?_
    obtain ⟨P, hE8, h⟩ := h
    refine qN_callV mX7_fail [_] _ 7 [] dX7_leftBehind_10 cm_X7_76 ⟨(Nat.le_of_ble_eq_true rfl), (Nat.le_of_ble_eq_true rfl)⟩ rfl rfl sh0 (Nat.le_of_ble_eq_true rfl) ⟨rfl, rfl⟩ hE8 (fun z5 ρ6 μ7 hz => ?_)
    replace h := h _ _ _ hz
    exact qX_ireturn rfl dX7_leftBehind_13 rfl ⟨(Nat.le_of_ble_eq_true rfl), (Nat.le_of_ble_eq_true rfl)⟩ h
set_option maxRecDepth 20000 in
theorem w_X7_leftBehind_18 {Post : Int → Rf → Mem → Prop} {ρ : Rf} {μ : Mem} {x1 : Int} {x2 : Int} {x3 : Int}
  (h : isO 6 (ρ 0 9) ∧ ((μ (ρ 0 9) 6 ≤ x3 → ∃ P : Int → Rf → Mem → Prop, qE mX7_answer GG GG [qP 0, qI x2] ρ μ P ∧ ∀ (z2 : Int) (ρ3 : Rf) (μ4 : Mem), P z2 ρ3 μ4 → Post z2 ρ3 μ4) ∧ (x3 < μ (ρ 0 9) 6 → (0 ≤ x3 ∧ x3 < 20) ∧ ((μ (ρ 0 9 + 1) x3 ≠ x1 → i32 (x3 + 1) ∧ qX mX7_leftBehind GG Post GG (0, 0) 18 [some (qP 0), some (qI x1), some (qI x2), some (qI (x3 + 1))] [] ρ μ) ∧ (μ (ρ 0 9 + 1) x3 = x1 → (0 ≤ x3 ∧ x3 < 20) ∧ (0 ≤ x3 ∧ x3 < 20) ∧ i32 ((μ 29 x3) - (μ 34 x3)) ∧ i32 (x2 + ((μ 29 x3) - (μ 34 x3))) ∧ i32 (x3 + 1) ∧ qX mX7_leftBehind GG Post GG (0, 0) 18 [some (qP 0), some (qI x1), some (qI (x2 + ((μ 29 x3) - (μ 34 x3)))), some (qI (x3 + 1))] [] ρ μ))))) : qX mX7_leftBehind GG Post GG (0, 0) 18 [some (qP 0), some (qI x1), some (qI x2), some (qI x3)] [] ρ μ := by
  refine qX_iload_n 3 dX7_leftBehind_18 rfl rfl ?_
  refine qX_aload_n 0 dX7_leftBehind_19 rfl rfl (by decide) ?_
  refine qX_getR 7 9 _ dX7_leftBehind_20 fs_X7_64 sh0 ?_
  have hO1 := h.1
  replace h := h.2
  refine qX_getI 6 6 _ dX7_leftBehind_23 fs_X7_89 hO1 ?_
  refine qX_icmp_ge 70 dX7_leftBehind_26 rfl (fun hc => ?_) (fun hc => ?_)
  · replace h := h.1 hc
    refine qX_aload_n 0 dX7_leftBehind_70 rfl rfl (by decide) ?_
    refine qX_iload_n 2 dX7_leftBehind_71 rfl rfl ?_
    obtain ⟨P, hE5, h⟩ := h
    refine qN_callV mX7_answer [_] _ 7 [] dX7_leftBehind_72 cm_X7_92 ⟨(Nat.le_of_ble_eq_true rfl), (Nat.le_of_ble_eq_true rfl)⟩ rfl rfl sh0 (Nat.le_of_ble_eq_true rfl) ⟨rfl, rfl⟩ hE5 (fun z2 ρ3 μ4 hz => ?_)
    replace h := h _ _ _ hz
    exact qX_ireturn rfl dX7_leftBehind_75 rfl ⟨(Nat.le_of_ble_eq_true rfl), (Nat.le_of_ble_eq_true rfl)⟩ h
  · replace h := h.2 hc
    refine qX_aload_n 0 dX7_leftBehind_29 rfl rfl (by decide) ?_
    refine qX_getR 7 9 _ dX7_leftBehind_30 fs_X7_64 sh0 ?_
    refine qX_getS 6 0 _ 0 dX7_leftBehind_33 fs_X7_143 rfl rfl hO1 rfl ?_
    refine qX_iload_n 3 dX7_leftBehind_36 rfl rfl ?_
    refine qX_iald dX7_leftBehind_37 (ar6_0 hO1) h.1 ?_
    replace h := h.2
    refine qX_iload_n 1 dX7_leftBehind_38 rfl rfl ?_
    refine qX_icmp_ne 64 dX7_leftBehind_39 rfl (fun hc => ?_) (fun hc => ?_)
    · replace h := h.1 hc
      refine qR_iinc dX7_leftBehind_64 rfl (Nat.le_of_ble_eq_true rfl) rfl h.1 ?_
      replace h := h.2
      refine qX_goto 18 dX7_leftBehind_67 rfl ?_
      exact qX_mask [true, true, true, true] h
    · replace h := h.2 hc
      refine qX_iload_n 2 dX7_leftBehind_42 rfl rfl ?_
      refine qX_aload_n 0 dX7_leftBehind_43 rfl rfl (by decide) ?_
      refine qX_getS 7 1 _ 26 dX7_leftBehind_44 fs_X7_19 rfl rfl sh0 (x := 27) rfl ?_
      refine qX_getS 3 1 _ 1 dX7_leftBehind_47 fs_X7_152 rfl rfl sh27 (x := 29) rfl ?_
      refine qX_iload_n 3 dX7_leftBehind_50 rfl rfl ?_
      refine qX_iald dX7_leftBehind_51 sh29 h.1 ?_
      replace h := h.2
      refine qX_aload_n 0 dX7_leftBehind_52 rfl rfl (by decide) ?_
      refine qX_getS 7 1 _ 26 dX7_leftBehind_53 fs_X7_19 rfl rfl sh0 (x := 27) rfl ?_
      refine qX_getS 3 6 _ 6 dX7_leftBehind_56 fs_X7_155 rfl rfl sh27 (x := 34) rfl ?_
      refine qX_iload_n 3 dX7_leftBehind_59 rfl rfl ?_
      refine qX_iald dX7_leftBehind_60 sh34 h.1 ?_
      replace h := h.2
      refine qR_isub dX7_leftBehind_61 h.1 ?_
      replace h := h.2
      refine qR_iadd dX7_leftBehind_62 h.1 ?_
      replace h := h.2
      refine qX_istore_n 2 dX7_leftBehind_63 rfl (Nat.le_of_ble_eq_true rfl) rfl ?_
      refine qR_iinc dX7_leftBehind_64 rfl (Nat.le_of_ble_eq_true rfl) rfl h.1 ?_
      replace h := h.2
      refine qX_goto 18 dX7_leftBehind_67 rfl ?_
      exact qX_mask [true, true, true, true] h
set_option maxRecDepth 20000 in
theorem e_X7_finalStock {Post : Int → Rf → Mem → Prop} {ρ : Rf} {μ : Mem} {x1 : Int} {x2 : Int}
  (h : ∃ P : Int → Rf → Mem → Prop, qE mX7_isStock GG GG [qP 0, qI x1, qI x2] ρ μ P ∧ ∀ (z1 : Int) (ρ2 : Rf) (μ3 : Mem), P z1 ρ2 μ3 → ((z1 ≠ 0 → ∃ P : Int → Rf → Mem → Prop, qE mX7_stockIndex GG GG [qI x1, qI x2] ρ2 μ3 P ∧ ∀ (z5 : Int) (ρ6 : Rf) (μ7 : Mem), P z5 ρ6 μ7 → (0 ≤ z5 ∧ z5 < 12) ∧ ∃ P : Int → Rf → Mem → Prop, qE mX7_answer GG GG [qP 0, qI (μ7 36 z5)] ρ6 μ7 P ∧ ∀ (z9 : Int) (ρ10 : Rf) (μ11 : Mem), P z9 ρ10 μ11 → Post z9 ρ10 μ11) ∧ (z1 = 0 → ∃ P : Int → Rf → Mem → Prop, qE mX7_fail GG GG [qP 0, qI 1] ρ2 μ3 P ∧ ∀ (z13 : Int) (ρ14 : Rf) (μ15 : Mem), P z13 ρ14 μ15 → Post z13 ρ14 μ15))) : qE mX7_finalStock GG GG [qP 0, qI x1, qI x2] ρ μ Post := by
  refine qE_intro pl_X7_finalStock (Nat.le_of_ble_eq_true rfl) (Nat.le_refl _) ?_
  refine qX_aload_n 0 dX7_finalStock_0 rfl rfl (by decide) ?_
  refine qX_iload_n 1 dX7_finalStock_1 rfl rfl ?_
  refine qX_iload_n 2 dX7_finalStock_2 rfl rfl ?_
  obtain ⟨P, hE4, h⟩ := h
  refine qN_callV mX7_isStock [_, _] _ 7 [] dX7_finalStock_3 cm_X7_119 ⟨(Nat.le_of_ble_eq_true rfl), (Nat.le_of_ble_eq_true rfl)⟩ rfl rfl sh0 (Nat.le_of_ble_eq_true rfl) ⟨rfl, rfl⟩ hE4 (fun z1 ρ2 μ3 hz => ?_)
  replace h := h _ _ _ hz
  refine qX_if_ne 15 dX7_finalStock_6 rfl (fun hc => ?_) (fun hc => ?_)
  · replace h := h.1 hc
    refine qX_aload_n 0 dX7_finalStock_15 rfl rfl (by decide) ?_
    refine qX_aload_n 0 dX7_finalStock_16 rfl rfl (by decide) ?_
    refine qX_getS 7 1 _ 26 dX7_finalStock_17 fs_X7_19 rfl rfl sh0 (x := 27) rfl ?_
    refine qX_getS 3 8 _ 8 dX7_finalStock_20 fs_X7_173 rfl rfl sh27 (x := 36) rfl ?_
    refine qX_iload_n 1 dX7_finalStock_23 rfl rfl ?_
    refine qX_iload_n 2 dX7_finalStock_24 rfl rfl ?_
    obtain ⟨P, hE8, h⟩ := h
    refine qN_callS mX7_stockIndex [_, _] [_, _] dX7_finalStock_25 cm_X7_126 ⟨(Nat.le_of_ble_eq_true rfl), (Nat.le_of_ble_eq_true rfl)⟩ rfl rfl (Nat.le_of_ble_eq_true rfl) ⟨rfl, rfl⟩ hE8 (fun z5 ρ6 μ7 hz => ?_)
    replace h := h _ _ _ hz
    refine qX_iald dX7_finalStock_28 sh36 h.1 ?_
    replace h := h.2
    obtain ⟨P, hE12, h⟩ := h
    refine qN_callV mX7_answer [_] _ 7 [] dX7_finalStock_29 cm_X7_92 ⟨(Nat.le_of_ble_eq_true rfl), (Nat.le_of_ble_eq_true rfl)⟩ rfl rfl sh0 (Nat.le_of_ble_eq_true rfl) ⟨rfl, rfl⟩ hE12 (fun z9 ρ10 μ11 hz => ?_)
    replace h := h _ _ _ hz
    exact qX_ireturn rfl dX7_finalStock_32 rfl ⟨(Nat.le_of_ble_eq_true rfl), (Nat.le_of_ble_eq_true rfl)⟩ h
  · replace h := h.2 hc
    refine qX_aload_n 0 dX7_finalStock_9 rfl rfl (by decide) ?_
    refine qX_iconst dX7_finalStock_10 (i32_of rfl) ?_
    obtain ⟨P, hE16, h⟩ := h
    refine qN_callV mX7_fail [_] _ 7 [] dX7_finalStock_11 cm_X7_76 ⟨(Nat.le_of_ble_eq_true rfl), (Nat.le_of_ble_eq_true rfl)⟩ rfl rfl sh0 (Nat.le_of_ble_eq_true rfl) ⟨rfl, rfl⟩ hE16 (fun z13 ρ14 μ15 hz => ?_)
    replace h := h _ _ _ hz
    exact qX_ireturn rfl dX7_finalStock_14 rfl ⟨(Nat.le_of_ble_eq_true rfl), (Nat.le_of_ble_eq_true rfl)⟩ h
set_option maxRecDepth 20000 in
theorem e_X7_shortage {Post : Int → Rf → Mem → Prop} {ρ : Rf} {μ : Mem} {x1 : Int} {x2 : Int} {x3 : Int}
  (h : ∃ P : Int → Rf → Mem → Prop, qE mX7_isCarMeal GG GG [qP 0, qI x1, qI x2, qI x3] ρ μ P ∧ ∀ (z1 : Int) (ρ2 : Rf) (μ3 : Mem), P z1 ρ2 μ3 → ((z1 ≠ 0 → ∃ P : Int → Rf → Mem → Prop, qE mX7_doorIndex GG GG [qI x1, qI x2] ρ2 μ3 P ∧ ∀ (z5 : Int) (ρ6 : Rf) (μ7 : Mem), P z5 ρ6 μ7 → isO 0 (ρ6 0 8) ∧ ∃ P : Int → Rf → Mem → Prop, qE mX0_wanted GG GG [qP (ρ6 0 8), qI z5, qI x3] ρ6 μ7 P ∧ ∀ (z10 : Int) (ρ11 : Rf) (μ12 : Mem), P z10 ρ11 μ12 → ∃ P : Int → Rf → Mem → Prop, qE mX7_handedAt GG GG [qP 0, qI z5, qI x3] ρ11 μ12 P ∧ ∀ (z14 : Int) (ρ15 : Rf) (μ16 : Mem), P z14 ρ15 μ16 → i32 (z10 - z14) ∧ ∃ P : Int → Rf → Mem → Prop, qE mX7_answer GG GG [qP 0, qI (max 0 (z10 - z14))] ρ15 μ16 P ∧ ∀ (z18 : Int) (ρ19 : Rf) (μ20 : Mem), P z18 ρ19 μ20 → Post z18 ρ19 μ20) ∧ (z1 = 0 → ∃ P : Int → Rf → Mem → Prop, qE mX7_fail GG GG [qP 0, qI 1] ρ2 μ3 P ∧ ∀ (z22 : Int) (ρ23 : Rf) (μ24 : Mem), P z22 ρ23 μ24 → Post z22 ρ23 μ24))) : qE mX7_shortage GG GG [qP 0, qI x1, qI x2, qI x3] ρ μ Post := by
  refine qE_intro pl_X7_shortage (Nat.le_of_ble_eq_true rfl) (Nat.le_refl _) ?_
  refine qX_aload_n 0 dX7_shortage_0 rfl rfl (by decide) ?_
  refine qX_iload_n 1 dX7_shortage_1 rfl rfl ?_
  refine qX_iload_n 2 dX7_shortage_2 rfl rfl ?_
  refine qX_iload_n 3 dX7_shortage_3 rfl rfl ?_
  obtain ⟨P, hE4, h⟩ := h
  refine qN_callV mX7_isCarMeal [_, _, _] _ 7 [] dX7_shortage_4 cm_X7_130 ⟨(Nat.le_of_ble_eq_true rfl), (Nat.le_of_ble_eq_true rfl)⟩ rfl rfl sh0 (Nat.le_of_ble_eq_true rfl) ⟨rfl, rfl⟩ hE4 (fun z1 ρ2 μ3 hz => ?_)
  replace h := h _ _ _ hz
  refine qX_if_ne 16 dX7_shortage_7 rfl (fun hc => ?_) (fun hc => ?_)
  · replace h := h.1 hc
    refine qX_iload_n 1 dX7_shortage_16 rfl rfl ?_
    refine qX_iload_n 2 dX7_shortage_17 rfl rfl ?_
    obtain ⟨P, hE8, h⟩ := h
    refine qN_callS mX7_doorIndex [_, _] [] dX7_shortage_18 cm_X7_134 ⟨(Nat.le_of_ble_eq_true rfl), (Nat.le_of_ble_eq_true rfl)⟩ rfl rfl (Nat.le_of_ble_eq_true rfl) ⟨rfl, rfl⟩ hE8 (fun z5 ρ6 μ7 hz => ?_)
    replace h := h _ _ _ hz
    refine qX_istore dX7_shortage_21 (Nat.le_of_ble_eq_true rfl) rfl ?_
    refine qX_aload_n 0 dX7_shortage_23 rfl rfl (by decide) ?_
    refine qX_iconst dX7_shortage_24 (i32_of rfl) ?_
    refine qX_aload_n 0 dX7_shortage_25 rfl rfl (by decide) ?_
    refine qX_getR 7 8 _ dX7_shortage_26 fs_X7_60 sh0 ?_
    refine qX_iload dX7_shortage_29 rfl ?_
    refine qX_iload_n 3 dX7_shortage_31 rfl rfl ?_
    have hO9 := h.1
    replace h := h.2
    obtain ⟨P, hE13, h⟩ := h
    refine qN_callV mX0_wanted [_, _] _ 0 [_, _] dX7_shortage_32 cm_X7_137 ⟨(Nat.le_of_ble_eq_true rfl), (Nat.le_of_ble_eq_true rfl)⟩ rfl rfl hO9 (Nat.le_of_ble_eq_true rfl) ⟨rfl, rfl⟩ hE13 (fun z10 ρ11 μ12 hz => ?_)
    replace h := h _ _ _ hz
    refine qX_aload_n 0 dX7_shortage_35 rfl rfl (by decide) ?_
    refine qX_iload dX7_shortage_36 rfl ?_
    refine qX_iload_n 3 dX7_shortage_38 rfl rfl ?_
    obtain ⟨P, hE17, h⟩ := h
    refine qN_callV mX7_handedAt [_, _] _ 7 [_, _, _] dX7_shortage_39 cm_X7_164 ⟨(Nat.le_of_ble_eq_true rfl), (Nat.le_of_ble_eq_true rfl)⟩ rfl rfl sh0 (Nat.le_of_ble_eq_true rfl) ⟨rfl, rfl⟩ hE17 (fun z14 ρ15 μ16 hz => ?_)
    replace h := h _ _ _ hz
    refine qR_isub dX7_shortage_42 h.1 ?_
    replace h := h.2
    refine qX_max dX7_shortage_43 kM_X7_174 ⟨(Nat.le_of_ble_eq_true rfl), (Nat.le_of_ble_eq_true rfl)⟩ (Nat.le_of_ble_eq_true rfl) ⟨(Nat.le_of_ble_eq_true rfl), (Nat.le_of_ble_eq_true rfl)⟩ ?_
    obtain ⟨P, hE21, h⟩ := h
    refine qN_callV mX7_answer [_] _ 7 [] dX7_shortage_46 cm_X7_92 ⟨(Nat.le_of_ble_eq_true rfl), (Nat.le_of_ble_eq_true rfl)⟩ rfl rfl sh0 (Nat.le_of_ble_eq_true rfl) ⟨rfl, rfl⟩ hE21 (fun z18 ρ19 μ20 hz => ?_)
    replace h := h _ _ _ hz
    exact qX_ireturn rfl dX7_shortage_49 rfl ⟨(Nat.le_of_ble_eq_true rfl), (Nat.le_of_ble_eq_true rfl)⟩ h
  · replace h := h.2 hc
    refine qX_aload_n 0 dX7_shortage_10 rfl rfl (by decide) ?_
    refine qX_iconst dX7_shortage_11 (i32_of rfl) ?_
    obtain ⟨P, hE25, h⟩ := h
    refine qN_callV mX7_fail [_] _ 7 [] dX7_shortage_12 cm_X7_76 ⟨(Nat.le_of_ble_eq_true rfl), (Nat.le_of_ble_eq_true rfl)⟩ rfl rfl sh0 (Nat.le_of_ble_eq_true rfl) ⟨rfl, rfl⟩ hE25 (fun z22 ρ23 μ24 hz => ?_)
    replace h := h _ _ _ hz
    exact qX_ireturn rfl dX7_shortage_15 rfl ⟨(Nat.le_of_ble_eq_true rfl), (Nat.le_of_ble_eq_true rfl)⟩ h
set_option maxRecDepth 20000 in
theorem e_X7_share {Post : Int → Rf → Mem → Prop} {ρ : Rf} {μ : Mem} {x1 : Int} {x2 : Int} {x3 : Int}
  (h : ∃ P : Int → Rf → Mem → Prop, qE mX7_isCarMeal GG GG [qP 0, qI x1, qI x2, qI x3] ρ μ P ∧ ∀ (z1 : Int) (ρ2 : Rf) (μ3 : Mem), P z1 ρ2 μ3 → ((z1 ≠ 0 → ∃ P : Int → Rf → Mem → Prop, qE mX7_shareInTrain GG GG [qP 0, qI x1, qI x3] ρ2 μ3 P ∧ ∀ (z5 : Int) (ρ6 : Rf) (μ7 : Mem), P z5 ρ6 μ7 → (0 ≤ x2 ∧ x2 < 10) ∧ ∃ P : Int → Rf → Mem → Prop, qE mX7_answer GG GG [qP 0, qI (μ7 154 x2)] ρ6 μ7 P ∧ ∀ (z9 : Int) (ρ10 : Rf) (μ11 : Mem), P z9 ρ10 μ11 → Post z9 ρ10 μ11) ∧ (z1 = 0 → ∃ P : Int → Rf → Mem → Prop, qE mX7_fail GG GG [qP 0, qI 1] ρ2 μ3 P ∧ ∀ (z13 : Int) (ρ14 : Rf) (μ15 : Mem), P z13 ρ14 μ15 → Post z13 ρ14 μ15))) : qE mX7_share GG GG [qP 0, qI x1, qI x2, qI x3] ρ μ Post := by
  refine qE_intro pl_X7_share (Nat.le_of_ble_eq_true rfl) (Nat.le_refl _) ?_
  refine qX_aload_n 0 dX7_share_0 rfl rfl (by decide) ?_
  refine qX_iload_n 1 dX7_share_1 rfl rfl ?_
  refine qX_iload_n 2 dX7_share_2 rfl rfl ?_
  refine qX_iload_n 3 dX7_share_3 rfl rfl ?_
  obtain ⟨P, hE4, h⟩ := h
  refine qN_callV mX7_isCarMeal [_, _, _] _ 7 [] dX7_share_4 cm_X7_130 ⟨(Nat.le_of_ble_eq_true rfl), (Nat.le_of_ble_eq_true rfl)⟩ rfl rfl sh0 (Nat.le_of_ble_eq_true rfl) ⟨rfl, rfl⟩ hE4 (fun z1 ρ2 μ3 hz => ?_)
  replace h := h _ _ _ hz
  refine qX_if_ne 16 dX7_share_7 rfl (fun hc => ?_) (fun hc => ?_)
  · replace h := h.1 hc
    refine qX_aload_n 0 dX7_share_16 rfl rfl (by decide) ?_
    refine qX_iload_n 1 dX7_share_17 rfl rfl ?_
    refine qX_iload_n 3 dX7_share_18 rfl rfl ?_
    obtain ⟨P, hE8, h⟩ := h
    refine qN_callV mX7_shareInTrain [_, _] _ 7 [] dX7_share_19 cm_X7_202 ⟨(Nat.le_of_ble_eq_true rfl), (Nat.le_of_ble_eq_true rfl)⟩ rfl rfl sh0 (Nat.le_of_ble_eq_true rfl) ⟨rfl, rfl⟩ hE8 (fun z5 ρ6 μ7 hz => ?_)
    replace h := h _ _ _ hz
    refine qX_aload_n 0 dX7_share_22 rfl rfl (by decide) ?_
    refine qX_aload_n 0 dX7_share_23 rfl rfl (by decide) ?_
    refine qX_getS 7 7 _ 150 dX7_share_24 fs_X7_53 rfl rfl sh0 (x := 151) rfl ?_
    refine qX_getS 4 2 _ 2 dX7_share_27 fs_X7_206 rfl rfl sh151 (x := 154) rfl ?_
    refine qX_iload_n 2 dX7_share_30 rfl rfl ?_
    refine qX_iald dX7_share_31 sh154 h.1 ?_
    replace h := h.2
    obtain ⟨P, hE12, h⟩ := h
    refine qN_callV mX7_answer [_] _ 7 [] dX7_share_32 cm_X7_92 ⟨(Nat.le_of_ble_eq_true rfl), (Nat.le_of_ble_eq_true rfl)⟩ rfl rfl sh0 (Nat.le_of_ble_eq_true rfl) ⟨rfl, rfl⟩ hE12 (fun z9 ρ10 μ11 hz => ?_)
    replace h := h _ _ _ hz
    exact qX_ireturn rfl dX7_share_35 rfl ⟨(Nat.le_of_ble_eq_true rfl), (Nat.le_of_ble_eq_true rfl)⟩ h
  · replace h := h.2 hc
    refine qX_aload_n 0 dX7_share_10 rfl rfl (by decide) ?_
    refine qX_iconst dX7_share_11 (i32_of rfl) ?_
    obtain ⟨P, hE16, h⟩ := h
    refine qN_callV mX7_fail [_] _ 7 [] dX7_share_12 cm_X7_76 ⟨(Nat.le_of_ble_eq_true rfl), (Nat.le_of_ble_eq_true rfl)⟩ rfl rfl sh0 (Nat.le_of_ble_eq_true rfl) ⟨rfl, rfl⟩ hE16 (fun z13 ρ14 μ15 hz => ?_)
    replace h := h _ _ _ hz
    exact qX_ireturn rfl dX7_share_15 rfl ⟨(Nat.le_of_ble_eq_true rfl), (Nat.le_of_ble_eq_true rfl)⟩ h
set_option maxRecDepth 20000 in
theorem e_X7_coverage {Post : Int → Rf → Mem → Prop} {ρ : Rf} {μ : Mem} {x1 : Int} {x2 : Int} {x3 : Int}
  (h : ∃ P : Int → Rf → Mem → Prop, qE mX7_isTrain GG GG [qP 0, qI x1] ρ μ P ∧ ∀ (z1 : Int) (ρ2 : Rf) (μ3 : Mem), P z1 ρ2 μ3 → ((z1 = 0 → ∃ P : Int → Rf → Mem → Prop, qE mX7_failLong GG GG [qP 0, qI 1] ρ2 μ3 P ∧ ∀ (z5 : Int) (ρ6 : Rf) (μ7 : Mem), P z5 ρ6 μ7 → Post z5 ρ6 μ7) ∧ (z1 ≠ 0 → ∃ P : Int → Rf → Mem → Prop, qE mX7_isMeal GG GG [qP 0, qI x2] ρ2 μ3 P ∧ ∀ (z9 : Int) (ρ10 : Rf) (μ11 : Mem), P z9 ρ10 μ11 → ((z9 ≠ 0 → ∃ P : Int → Rf → Mem → Prop, qE mX7_lowestTerm GG GG [qP 0, qI x1, qI x2, qI x3] ρ10 μ11 P ∧ ∀ (z13 : Int) (ρ14 : Rf) (μ15 : Mem), P z13 ρ14 μ15 → ∃ P : Int → Rf → Mem → Prop, qE mX7_answerLong GG GG [qP 0, qJ z13] ρ14 μ15 P ∧ ∀ (z17 : Int) (ρ18 : Rf) (μ19 : Mem), P z17 ρ18 μ19 → Post z17 ρ18 μ19) ∧ (z9 = 0 → ∃ P : Int → Rf → Mem → Prop, qE mX7_failLong GG GG [qP 0, qI 1] ρ10 μ11 P ∧ ∀ (z21 : Int) (ρ22 : Rf) (μ23 : Mem), P z21 ρ22 μ23 → Post z21 ρ22 μ23))))) : qE mX7_coverage GG GG [qP 0, qI x1, qI x2, qI x3] ρ μ Post := by
  refine qE_intro pl_X7_coverage (Nat.le_of_ble_eq_true rfl) (Nat.le_refl _) ?_
  refine qX_aload_n 0 dX7_coverage_0 rfl rfl (by decide) ?_
  refine qX_iload_n 1 dX7_coverage_1 rfl rfl ?_
  obtain ⟨P, hE4, h⟩ := h
  refine qN_callV mX7_isTrain [_] _ 7 [] dX7_coverage_2 cm_X7_98 ⟨(Nat.le_of_ble_eq_true rfl), (Nat.le_of_ble_eq_true rfl)⟩ rfl rfl sh0 (Nat.le_of_ble_eq_true rfl) ⟨rfl, rfl⟩ hE4 (fun z1 ρ2 μ3 hz => ?_)
  replace h := h _ _ _ hz
  refine qX_if_eq 16 dX7_coverage_5 rfl (fun hc => ?_) (fun hc => ?_)
  · replace h := h.1 hc
    refine qX_aload_n 0 dX7_coverage_16 rfl rfl (by decide) ?_
    refine qX_iconst dX7_coverage_17 (i32_of rfl) ?_
    obtain ⟨P, hE8, h⟩ := h
    refine qN_callV mX7_failLong [_] _ 7 [] dX7_coverage_18 cm_X7_224 ⟨(Nat.le_of_ble_eq_true rfl), (Nat.le_of_ble_eq_true rfl)⟩ rfl rfl sh0 (Nat.le_of_ble_eq_true rfl) ⟨rfl, rfl⟩ hE8 (fun z5 ρ6 μ7 hz => ?_)
    replace h := h _ _ _ hz
    exact qX_lreturn rfl dX7_coverage_21 rfl ⟨(Nat.le_of_ble_eq_true rfl), (Nat.le_of_ble_eq_true rfl)⟩ h
  · replace h := h.2 hc
    refine qX_aload_n 0 dX7_coverage_8 rfl rfl (by decide) ?_
    refine qX_iload_n 2 dX7_coverage_9 rfl rfl ?_
    obtain ⟨P, hE12, h⟩ := h
    refine qN_callV mX7_isMeal [_] _ 7 [] dX7_coverage_10 cm_X7_209 ⟨(Nat.le_of_ble_eq_true rfl), (Nat.le_of_ble_eq_true rfl)⟩ rfl rfl sh0 (Nat.le_of_ble_eq_true rfl) ⟨rfl, rfl⟩ hE12 (fun z9 ρ10 μ11 hz => ?_)
    replace h := h _ _ _ hz
    refine qX_if_ne 22 dX7_coverage_13 rfl (fun hc => ?_) (fun hc => ?_)
    · replace h := h.1 hc
      refine qX_aload_n 0 dX7_coverage_22 rfl rfl (by decide) ?_
      refine qX_aload_n 0 dX7_coverage_23 rfl rfl (by decide) ?_
      refine qX_iload_n 1 dX7_coverage_24 rfl rfl ?_
      refine qX_iload_n 2 dX7_coverage_25 rfl rfl ?_
      refine qX_iload_n 3 dX7_coverage_26 rfl rfl ?_
      obtain ⟨P, hE16, h⟩ := h
      refine qN_callV mX7_lowestTerm [_, _, _] _ 7 [_] dX7_coverage_27 cm_X7_228 ⟨(Nat.le_of_ble_eq_true rfl), (Nat.le_of_ble_eq_true rfl)⟩ rfl rfl sh0 (Nat.le_of_ble_eq_true rfl) ⟨rfl, rfl⟩ hE16 (fun z13 ρ14 μ15 hz => ?_)
      replace h := h _ _ _ hz
      refine qX_i2l dX7_coverage_30 ?_
      obtain ⟨P, hE20, h⟩ := h
      refine qN_callV mX7_answerLong [_] _ 7 [] dX7_coverage_31 cm_X7_232 ⟨(Nat.le_of_ble_eq_true rfl), (Nat.le_of_ble_eq_true rfl)⟩ rfl rfl sh0 (Nat.le_of_ble_eq_true rfl) ⟨rfl, rfl⟩ hE20 (fun z17 ρ18 μ19 hz => ?_)
      replace h := h _ _ _ hz
      exact qX_lreturn rfl dX7_coverage_34 rfl ⟨(Nat.le_of_ble_eq_true rfl), (Nat.le_of_ble_eq_true rfl)⟩ h
    · replace h := h.2 hc
      refine qX_aload_n 0 dX7_coverage_16 rfl rfl (by decide) ?_
      refine qX_iconst dX7_coverage_17 (i32_of rfl) ?_
      obtain ⟨P, hE24, h⟩ := h
      refine qN_callV mX7_failLong [_] _ 7 [] dX7_coverage_18 cm_X7_224 ⟨(Nat.le_of_ble_eq_true rfl), (Nat.le_of_ble_eq_true rfl)⟩ rfl rfl sh0 (Nat.le_of_ble_eq_true rfl) ⟨rfl, rfl⟩ hE24 (fun z21 ρ22 μ23 hz => ?_)
      replace h := h _ _ _ hz
      exact qX_lreturn rfl dX7_coverage_21 rfl ⟨(Nat.le_of_ble_eq_true rfl), (Nat.le_of_ble_eq_true rfl)⟩ h
set_option maxRecDepth 20000 in
theorem e_X7_leastCoverage {Post : Int → Rf → Mem → Prop} {ρ : Rf} {μ : Mem} {x1 : Int} {x2 : Int}
  (h : ∃ P : Int → Rf → Mem → Prop, qE mX7_isTrain GG GG [qP 0, qI x1] ρ μ P ∧ ∀ (z1 : Int) (ρ2 : Rf) (μ3 : Mem), P z1 ρ2 μ3 → ((z1 ≠ 0 → qX mX7_leastCoverage GG Post GG (0, 0) 19 [some (qP 0), some (qI x1), some (qI x2), some (qI 0), some (qI 1)] [] ρ2 μ3) ∧ (z1 = 0 → ∃ P : Int → Rf → Mem → Prop, qE mX7_failLong GG GG [qP 0, qI 1] ρ2 μ3 P ∧ ∀ (z5 : Int) (ρ6 : Rf) (μ7 : Mem), P z5 ρ6 μ7 → Post z5 ρ6 μ7))) : qE mX7_leastCoverage GG GG [qP 0, qI x1, qI x2] ρ μ Post := by
  refine qE_intro pl_X7_leastCoverage (Nat.le_of_ble_eq_true rfl) (Nat.le_refl _) ?_
  refine qX_aload_n 0 dX7_leastCoverage_0 rfl rfl (by decide) ?_
  refine qX_iload_n 1 dX7_leastCoverage_1 rfl rfl ?_
  obtain ⟨P, hE4, h⟩ := h
  refine qN_callV mX7_isTrain [_] _ 7 [] dX7_leastCoverage_2 cm_X7_98 ⟨(Nat.le_of_ble_eq_true rfl), (Nat.le_of_ble_eq_true rfl)⟩ rfl rfl sh0 (Nat.le_of_ble_eq_true rfl) ⟨rfl, rfl⟩ hE4 (fun z1 ρ2 μ3 hz => ?_)
  replace h := h _ _ _ hz
  refine qX_if_ne 14 dX7_leastCoverage_5 rfl (fun hc => ?_) (fun hc => ?_)
  · replace h := h.1 hc
    refine qX_iconst dX7_leastCoverage_14 (i32_of rfl) ?_
    refine qX_istore_n 3 dX7_leastCoverage_15 rfl (Nat.le_of_ble_eq_true rfl) rfl ?_
    refine qX_iconst dX7_leastCoverage_16 (i32_of rfl) ?_
    refine qX_istore dX7_leastCoverage_17 (Nat.le_of_ble_eq_true rfl) rfl ?_
    exact qX_mask [true, true, true, true, true] h
  · replace h := h.2 hc
    refine qX_aload_n 0 dX7_leastCoverage_8 rfl rfl (by decide) ?_
    refine qX_iconst dX7_leastCoverage_9 (i32_of rfl) ?_
    obtain ⟨P, hE8, h⟩ := h
    refine qN_callV mX7_failLong [_] _ 7 [] dX7_leastCoverage_10 cm_X7_224 ⟨(Nat.le_of_ble_eq_true rfl), (Nat.le_of_ble_eq_true rfl)⟩ rfl rfl sh0 (Nat.le_of_ble_eq_true rfl) ⟨rfl, rfl⟩ hE8 (fun z5 ρ6 μ7 hz => ?_)
    replace h := h _ _ _ hz
    exact qX_lreturn rfl dX7_leastCoverage_13 rfl ⟨(Nat.le_of_ble_eq_true rfl), (Nat.le_of_ble_eq_true rfl)⟩ h
set_option maxRecDepth 20000 in
theorem w_X7_leastCoverage_19 {Post : Int → Rf → Mem → Prop} {ρ : Rf} {μ : Mem} {x1 : Int} {x2 : Int} {x3 : Int} {x4 : Int}
  (h : isO 0 (ρ 0 8) ∧ ((μ (ρ 0 8) 15 ≤ x4 → ∃ P : Int → Rf → Mem → Prop, qE mX7_lowestTerm GG GG [qP 0, qI x1, qI x3, qI x2] ρ μ P ∧ ∀ (z2 : Int) (ρ3 : Rf) (μ4 : Mem), P z2 ρ3 μ4 → ∃ P : Int → Rf → Mem → Prop, qE mX7_answerLong GG GG [qP 0, qJ z2] ρ3 μ4 P ∧ ∀ (z6 : Int) (ρ7 : Rf) (μ8 : Mem), P z6 ρ7 μ8 → Post z6 ρ7 μ8) ∧ (x4 < μ (ρ 0 8) 15 → ∃ P : Int → Rf → Mem → Prop, qE mX7_compareCoverage GG GG [qP 0, qI x1, qI x4, qI x1, qI x3] ρ μ P ∧ ∀ (z10 : Int) (ρ11 : Rf) (μ12 : Mem), P z10 ρ11 μ12 → ((0 ≤ z10 → i32 (x4 + 1) ∧ qX mX7_leastCoverage GG Post GG (0, 0) 19 [some (qP 0), some (qI x1), some (qI x2), some (qI x3), some (qI (x4 + 1))] [] ρ11 μ12) ∧ (z10 < 0 → i32 (x4 + 1) ∧ qX mX7_leastCoverage GG Post GG (0, 0) 19 [some (qP 0), some (qI x1), some (qI x2), some (qI x4), some (qI (x4 + 1))] [] ρ11 μ12))))) : qX mX7_leastCoverage GG Post GG (0, 0) 19 [some (qP 0), some (qI x1), some (qI x2), some (qI x3), some (qI x4)] [] ρ μ := by
  refine qX_iload dX7_leastCoverage_19 rfl ?_
  refine qX_aload_n 0 dX7_leastCoverage_21 rfl rfl (by decide) ?_
  refine qX_getR 7 8 _ dX7_leastCoverage_22 fs_X7_60 sh0 ?_
  have hO1 := h.1
  replace h := h.2
  refine qX_getI 0 15 _ dX7_leastCoverage_25 fs_X7_110 hO1 ?_
  refine qX_icmp_ge 52 dX7_leastCoverage_28 rfl (fun hc => ?_) (fun hc => ?_)
  · replace h := h.1 hc
    refine qX_aload_n 0 dX7_leastCoverage_52 rfl rfl (by decide) ?_
    refine qX_aload_n 0 dX7_leastCoverage_53 rfl rfl (by decide) ?_
    refine qX_iload_n 1 dX7_leastCoverage_54 rfl rfl ?_
    refine qX_iload_n 3 dX7_leastCoverage_55 rfl rfl ?_
    refine qX_iload_n 2 dX7_leastCoverage_56 rfl rfl ?_
    obtain ⟨P, hE5, h⟩ := h
    refine qN_callV mX7_lowestTerm [_, _, _] _ 7 [_] dX7_leastCoverage_57 cm_X7_228 ⟨(Nat.le_of_ble_eq_true rfl), (Nat.le_of_ble_eq_true rfl)⟩ rfl rfl sh0 (Nat.le_of_ble_eq_true rfl) ⟨rfl, rfl⟩ hE5 (fun z2 ρ3 μ4 hz => ?_)
    replace h := h _ _ _ hz
    refine qX_i2l dX7_leastCoverage_60 ?_
    obtain ⟨P, hE9, h⟩ := h
    refine qN_callV mX7_answerLong [_] _ 7 [] dX7_leastCoverage_61 cm_X7_232 ⟨(Nat.le_of_ble_eq_true rfl), (Nat.le_of_ble_eq_true rfl)⟩ rfl rfl sh0 (Nat.le_of_ble_eq_true rfl) ⟨rfl, rfl⟩ hE9 (fun z6 ρ7 μ8 hz => ?_)
    replace h := h _ _ _ hz
    exact qX_lreturn rfl dX7_leastCoverage_64 rfl ⟨(Nat.le_of_ble_eq_true rfl), (Nat.le_of_ble_eq_true rfl)⟩ h
  · replace h := h.2 hc
    refine qX_aload_n 0 dX7_leastCoverage_31 rfl rfl (by decide) ?_
    refine qX_iload_n 1 dX7_leastCoverage_32 rfl rfl ?_
    refine qX_iload dX7_leastCoverage_33 rfl ?_
    refine qX_iload_n 1 dX7_leastCoverage_35 rfl rfl ?_
    refine qX_iload_n 3 dX7_leastCoverage_36 rfl rfl ?_
    obtain ⟨P, hE13, h⟩ := h
    refine qN_callV mX7_compareCoverage [_, _, _, _] _ 7 [] dX7_leastCoverage_37 cm_X7_236 ⟨(Nat.le_of_ble_eq_true rfl), (Nat.le_of_ble_eq_true rfl)⟩ rfl rfl sh0 (Nat.le_of_ble_eq_true rfl) ⟨rfl, rfl⟩ hE13 (fun z10 ρ11 μ12 hz => ?_)
    replace h := h _ _ _ hz
    refine qX_if_ge 46 dX7_leastCoverage_40 rfl (fun hc => ?_) (fun hc => ?_)
    · replace h := h.1 hc
      refine qR_iinc dX7_leastCoverage_46 rfl (Nat.le_of_ble_eq_true rfl) rfl h.1 ?_
      replace h := h.2
      refine qX_goto 19 dX7_leastCoverage_49 rfl ?_
      exact qX_mask [true, true, true, true, true] h
    · replace h := h.2 hc
      refine qX_iload dX7_leastCoverage_43 rfl ?_
      refine qX_istore_n 3 dX7_leastCoverage_45 rfl (Nat.le_of_ble_eq_true rfl) rfl ?_
      refine qR_iinc dX7_leastCoverage_46 rfl (Nat.le_of_ble_eq_true rfl) rfl h.1 ?_
      replace h := h.2
      refine qX_goto 19 dX7_leastCoverage_49 rfl ?_
      exact qX_mask [true, true, true, true, true] h
set_option maxRecDepth 20000 in
theorem e_X7_bestSet {Post : Int → Rf → Mem → Prop} {ρ : Rf} {μ : Mem} {x1 : Int}
  (h : ∃ P : Int → Rf → Mem → Prop, qE mX7_isTrolley GG GG [qP 0, qI x1] ρ μ P ∧ ∀ (z1 : Int) (ρ2 : Rf) (μ3 : Mem), P z1 ρ2 μ3 → ((z1 ≠ 0 → isO 0 (ρ2 0 8) ∧ isO 6 (ρ2 0 9) ∧ ∃ P : Int → Rf → Mem → Prop, qE mX5_chooseBest GG GG [qP 141, qP (ρ2 0 8), qP (ρ2 0 9), qI x1] ρ2 μ3 P ∧ ∀ (z7 : Int) (ρ8 : Rf) (μ9 : Mem), P z7 ρ8 μ9 → ∃ P : Int → Rf → Mem → Prop, qE mX7_answer GG GG [qP 0, qI (μ9 141 3)] ρ8 μ9 P ∧ ∀ (z11 : Int) (ρ12 : Rf) (μ13 : Mem), P z11 ρ12 μ13 → Post z11 ρ12 μ13) ∧ (z1 = 0 → ∃ P : Int → Rf → Mem → Prop, qE mX7_fail GG GG [qP 0, qI 1] ρ2 μ3 P ∧ ∀ (z15 : Int) (ρ16 : Rf) (μ17 : Mem), P z15 ρ16 μ17 → Post z15 ρ16 μ17))) : qE mX7_bestSet GG GG [qP 0, qI x1] ρ μ Post := by
  refine qE_intro pl_X7_bestSet (Nat.le_of_ble_eq_true rfl) (Nat.le_refl _) ?_
  refine qX_aload_n 0 dX7_bestSet_0 rfl rfl (by decide) ?_
  refine qX_iload_n 1 dX7_bestSet_1 rfl rfl ?_
  obtain ⟨P, hE4, h⟩ := h
  refine qN_callV mX7_isTrolley [_] _ 7 [] dX7_bestSet_2 cm_X7_170 ⟨(Nat.le_of_ble_eq_true rfl), (Nat.le_of_ble_eq_true rfl)⟩ rfl rfl sh0 (Nat.le_of_ble_eq_true rfl) ⟨rfl, rfl⟩ hE4 (fun z1 ρ2 μ3 hz => ?_)
  replace h := h _ _ _ hz
  refine qX_if_ne 14 dX7_bestSet_5 rfl (fun hc => ?_) (fun hc => ?_)
  · replace h := h.1 hc
    refine qX_aload_n 0 dX7_bestSet_14 rfl rfl (by decide) ?_
    refine qX_getS 7 6 _ 140 dX7_bestSet_15 fs_X7_46 rfl rfl sh0 (x := 141) rfl ?_
    refine qX_aload_n 0 dX7_bestSet_18 rfl rfl (by decide) ?_
    refine qX_getR 7 8 _ dX7_bestSet_19 fs_X7_60 sh0 ?_
    refine qX_aload_n 0 dX7_bestSet_22 rfl rfl (by decide) ?_
    refine qX_getR 7 9 _ dX7_bestSet_23 fs_X7_64 sh0 ?_
    refine qX_iload_n 1 dX7_bestSet_26 rfl rfl ?_
    have hO5 := h.1
    replace h := h.2
    have hO6 := h.1
    replace h := h.2
    obtain ⟨P, hE10, h⟩ := h
    refine qN_callV mX5_chooseBest [_, _, _] _ 5 [] dX7_bestSet_27 cm_X7_240 ⟨(Nat.le_of_ble_eq_true rfl), (Nat.le_of_ble_eq_true rfl)⟩ rfl rfl sh141 (Nat.le_of_ble_eq_true rfl) ⟨rfl, rfl⟩ hE10 (fun z7 ρ8 μ9 hz => ?_)
    replace h := h _ _ _ hz
    refine qX_aload_n 0 dX7_bestSet_30 rfl rfl (by decide) ?_
    refine qX_aload_n 0 dX7_bestSet_31 rfl rfl (by decide) ?_
    refine qX_getS 7 6 _ 140 dX7_bestSet_32 fs_X7_46 rfl rfl sh0 (x := 141) rfl ?_
    refine qX_getI 5 3 _ dX7_bestSet_35 fs_X7_244 sh141 ?_
    obtain ⟨P, hE14, h⟩ := h
    refine qN_callV mX7_answer [_] _ 7 [] dX7_bestSet_38 cm_X7_92 ⟨(Nat.le_of_ble_eq_true rfl), (Nat.le_of_ble_eq_true rfl)⟩ rfl rfl sh0 (Nat.le_of_ble_eq_true rfl) ⟨rfl, rfl⟩ hE14 (fun z11 ρ12 μ13 hz => ?_)
    replace h := h _ _ _ hz
    exact qX_ireturn rfl dX7_bestSet_41 rfl ⟨(Nat.le_of_ble_eq_true rfl), (Nat.le_of_ble_eq_true rfl)⟩ h
  · replace h := h.2 hc
    refine qX_aload_n 0 dX7_bestSet_8 rfl rfl (by decide) ?_
    refine qX_iconst dX7_bestSet_9 (i32_of rfl) ?_
    obtain ⟨P, hE18, h⟩ := h
    refine qN_callV mX7_fail [_] _ 7 [] dX7_bestSet_10 cm_X7_76 ⟨(Nat.le_of_ble_eq_true rfl), (Nat.le_of_ble_eq_true rfl)⟩ rfl rfl sh0 (Nat.le_of_ble_eq_true rfl) ⟨rfl, rfl⟩ hE18 (fun z15 ρ16 μ17 hz => ?_)
    replace h := h _ _ _ hz
    exact qX_ireturn rfl dX7_bestSet_13 rfl ⟨(Nat.le_of_ble_eq_true rfl), (Nat.le_of_ble_eq_true rfl)⟩ h
set_option maxRecDepth 20000 in
theorem e_X7_bestMeals {Post : Int → Rf → Mem → Prop} {ρ : Rf} {μ : Mem} {x1 : Int}
  (h : ∃ P : Int → Rf → Mem → Prop, qE mX7_isTrolley GG GG [qP 0, qI x1] ρ μ P ∧ ∀ (z1 : Int) (ρ2 : Rf) (μ3 : Mem), P z1 ρ2 μ3 → ((z1 ≠ 0 → isO 0 (ρ2 0 8) ∧ isO 6 (ρ2 0 9) ∧ ∃ P : Int → Rf → Mem → Prop, qE mX5_chooseBest GG GG [qP 141, qP (ρ2 0 8), qP (ρ2 0 9), qI x1] ρ2 μ3 P ∧ ∀ (z7 : Int) (ρ8 : Rf) (μ9 : Mem), P z7 ρ8 μ9 → ∃ P : Int → Rf → Mem → Prop, qE mX5_mealsOf GG GG [qP 141, qI (μ9 141 3)] ρ8 μ9 P ∧ ∀ (z11 : Int) (ρ12 : Rf) (μ13 : Mem), P z11 ρ12 μ13 → ∃ P : Int → Rf → Mem → Prop, qE mX7_answer GG GG [qP 0, qI z11] ρ12 μ13 P ∧ ∀ (z15 : Int) (ρ16 : Rf) (μ17 : Mem), P z15 ρ16 μ17 → Post z15 ρ16 μ17) ∧ (z1 = 0 → ∃ P : Int → Rf → Mem → Prop, qE mX7_fail GG GG [qP 0, qI 1] ρ2 μ3 P ∧ ∀ (z19 : Int) (ρ20 : Rf) (μ21 : Mem), P z19 ρ20 μ21 → Post z19 ρ20 μ21))) : qE mX7_bestMeals GG GG [qP 0, qI x1] ρ μ Post := by
  refine qE_intro pl_X7_bestMeals (Nat.le_of_ble_eq_true rfl) (Nat.le_refl _) ?_
  refine qX_aload_n 0 dX7_bestMeals_0 rfl rfl (by decide) ?_
  refine qX_iload_n 1 dX7_bestMeals_1 rfl rfl ?_
  obtain ⟨P, hE4, h⟩ := h
  refine qN_callV mX7_isTrolley [_] _ 7 [] dX7_bestMeals_2 cm_X7_170 ⟨(Nat.le_of_ble_eq_true rfl), (Nat.le_of_ble_eq_true rfl)⟩ rfl rfl sh0 (Nat.le_of_ble_eq_true rfl) ⟨rfl, rfl⟩ hE4 (fun z1 ρ2 μ3 hz => ?_)
  replace h := h _ _ _ hz
  refine qX_if_ne 14 dX7_bestMeals_5 rfl (fun hc => ?_) (fun hc => ?_)
  · replace h := h.1 hc
    refine qX_aload_n 0 dX7_bestMeals_14 rfl rfl (by decide) ?_
    refine qX_getS 7 6 _ 140 dX7_bestMeals_15 fs_X7_46 rfl rfl sh0 (x := 141) rfl ?_
    refine qX_aload_n 0 dX7_bestMeals_18 rfl rfl (by decide) ?_
    refine qX_getR 7 8 _ dX7_bestMeals_19 fs_X7_60 sh0 ?_
    refine qX_aload_n 0 dX7_bestMeals_22 rfl rfl (by decide) ?_
    refine qX_getR 7 9 _ dX7_bestMeals_23 fs_X7_64 sh0 ?_
    refine qX_iload_n 1 dX7_bestMeals_26 rfl rfl ?_
    have hO5 := h.1
    replace h := h.2
    have hO6 := h.1
    replace h := h.2
    obtain ⟨P, hE10, h⟩ := h
    refine qN_callV mX5_chooseBest [_, _, _] _ 5 [] dX7_bestMeals_27 cm_X7_240 ⟨(Nat.le_of_ble_eq_true rfl), (Nat.le_of_ble_eq_true rfl)⟩ rfl rfl sh141 (Nat.le_of_ble_eq_true rfl) ⟨rfl, rfl⟩ hE10 (fun z7 ρ8 μ9 hz => ?_)
    replace h := h _ _ _ hz
    refine qX_aload_n 0 dX7_bestMeals_30 rfl rfl (by decide) ?_
    refine qX_aload_n 0 dX7_bestMeals_31 rfl rfl (by decide) ?_
    refine qX_getS 7 6 _ 140 dX7_bestMeals_32 fs_X7_46 rfl rfl sh0 (x := 141) rfl ?_
    refine qX_aload_n 0 dX7_bestMeals_35 rfl rfl (by decide) ?_
    refine qX_getS 7 6 _ 140 dX7_bestMeals_36 fs_X7_46 rfl rfl sh0 (x := 141) rfl ?_
    refine qX_getI 5 3 _ dX7_bestMeals_39 fs_X7_244 sh141 ?_
    obtain ⟨P, hE14, h⟩ := h
    refine qN_callV mX5_mealsOf [_] _ 5 [_] dX7_bestMeals_42 cm_X7_247 ⟨(Nat.le_of_ble_eq_true rfl), (Nat.le_of_ble_eq_true rfl)⟩ rfl rfl sh141 (Nat.le_of_ble_eq_true rfl) ⟨rfl, rfl⟩ hE14 (fun z11 ρ12 μ13 hz => ?_)
    replace h := h _ _ _ hz
    obtain ⟨P, hE18, h⟩ := h
    refine qN_callV mX7_answer [_] _ 7 [] dX7_bestMeals_45 cm_X7_92 ⟨(Nat.le_of_ble_eq_true rfl), (Nat.le_of_ble_eq_true rfl)⟩ rfl rfl sh0 (Nat.le_of_ble_eq_true rfl) ⟨rfl, rfl⟩ hE18 (fun z15 ρ16 μ17 hz => ?_)
    replace h := h _ _ _ hz
    exact qX_ireturn rfl dX7_bestMeals_48 rfl ⟨(Nat.le_of_ble_eq_true rfl), (Nat.le_of_ble_eq_true rfl)⟩ h
  · replace h := h.2 hc
    refine qX_aload_n 0 dX7_bestMeals_8 rfl rfl (by decide) ?_
    refine qX_iconst dX7_bestMeals_9 (i32_of rfl) ?_
    obtain ⟨P, hE22, h⟩ := h
    refine qN_callV mX7_fail [_] _ 7 [] dX7_bestMeals_10 cm_X7_76 ⟨(Nat.le_of_ble_eq_true rfl), (Nat.le_of_ble_eq_true rfl)⟩ rfl rfl sh0 (Nat.le_of_ble_eq_true rfl) ⟨rfl, rfl⟩ hE22 (fun z19 ρ20 μ21 hz => ?_)
    replace h := h _ _ _ hz
    exact qX_ireturn rfl dX7_bestMeals_13 rfl ⟨(Nat.le_of_ble_eq_true rfl), (Nat.le_of_ble_eq_true rfl)⟩ h
set_option maxRecDepth 20000 in
theorem e_X7_bestOrder {Post : Int → Rf → Mem → Prop} {ρ : Rf} {μ : Mem} {x1 : Int} {x2 : Int}
  (h : ∃ P : Int → Rf → Mem → Prop, qE mX7_isTrolley GG GG [qP 0, qI x1] ρ μ P ∧ ∀ (z1 : Int) (ρ2 : Rf) (μ3 : Mem), P z1 ρ2 μ3 → ((z1 ≠ 0 → isO 0 (ρ2 0 8) ∧ isO 6 (ρ2 0 9) ∧ ∃ P : Int → Rf → Mem → Prop, qE mX5_chooseBest GG GG [qP 141, qP (ρ2 0 8), qP (ρ2 0 9), qI x1] ρ2 μ3 P ∧ ∀ (z7 : Int) (ρ8 : Rf) (μ9 : Mem), P z7 ρ8 μ9 → ((x2 < 0 → ∃ P : Int → Rf → Mem → Prop, qE mX7_fail GG GG [qP 0, qI 6] ρ8 μ9 P ∧ ∀ (z11 : Int) (ρ12 : Rf) (μ13 : Mem), P z11 ρ12 μ13 → Post z11 ρ12 μ13) ∧ (0 ≤ x2 → ((x2 < μ9 141 4 → (0 ≤ x2 ∧ x2 < 8) ∧ ∃ P : Int → Rf → Mem → Prop, qE mX7_answer GG GG [qP 0, qI (μ9 143 x2)] ρ8 μ9 P ∧ ∀ (z15 : Int) (ρ16 : Rf) (μ17 : Mem), P z15 ρ16 μ17 → Post z15 ρ16 μ17) ∧ (μ9 141 4 ≤ x2 → ∃ P : Int → Rf → Mem → Prop, qE mX7_fail GG GG [qP 0, qI 6] ρ8 μ9 P ∧ ∀ (z19 : Int) (ρ20 : Rf) (μ21 : Mem), P z19 ρ20 μ21 → Post z19 ρ20 μ21))))) ∧ (z1 = 0 → ∃ P : Int → Rf → Mem → Prop, qE mX7_fail GG GG [qP 0, qI 1] ρ2 μ3 P ∧ ∀ (z23 : Int) (ρ24 : Rf) (μ25 : Mem), P z23 ρ24 μ25 → Post z23 ρ24 μ25))) : qE mX7_bestOrder GG GG [qP 0, qI x1, qI x2] ρ μ Post := by
  refine qE_intro pl_X7_bestOrder (Nat.le_of_ble_eq_true rfl) (Nat.le_refl _) ?_
  refine qX_aload_n 0 dX7_bestOrder_0 rfl rfl (by decide) ?_
  refine qX_iload_n 1 dX7_bestOrder_1 rfl rfl ?_
  obtain ⟨P, hE4, h⟩ := h
  refine qN_callV mX7_isTrolley [_] _ 7 [] dX7_bestOrder_2 cm_X7_170 ⟨(Nat.le_of_ble_eq_true rfl), (Nat.le_of_ble_eq_true rfl)⟩ rfl rfl sh0 (Nat.le_of_ble_eq_true rfl) ⟨rfl, rfl⟩ hE4 (fun z1 ρ2 μ3 hz => ?_)
  replace h := h _ _ _ hz
  refine qX_if_ne 14 dX7_bestOrder_5 rfl (fun hc => ?_) (fun hc => ?_)
  · replace h := h.1 hc
    refine qX_aload_n 0 dX7_bestOrder_14 rfl rfl (by decide) ?_
    refine qX_getS 7 6 _ 140 dX7_bestOrder_15 fs_X7_46 rfl rfl sh0 (x := 141) rfl ?_
    refine qX_aload_n 0 dX7_bestOrder_18 rfl rfl (by decide) ?_
    refine qX_getR 7 8 _ dX7_bestOrder_19 fs_X7_60 sh0 ?_
    refine qX_aload_n 0 dX7_bestOrder_22 rfl rfl (by decide) ?_
    refine qX_getR 7 9 _ dX7_bestOrder_23 fs_X7_64 sh0 ?_
    refine qX_iload_n 1 dX7_bestOrder_26 rfl rfl ?_
    have hO5 := h.1
    replace h := h.2
    have hO6 := h.1
    replace h := h.2
    obtain ⟨P, hE10, h⟩ := h
    refine qN_callV mX5_chooseBest [_, _, _] _ 5 [] dX7_bestOrder_27 cm_X7_240 ⟨(Nat.le_of_ble_eq_true rfl), (Nat.le_of_ble_eq_true rfl)⟩ rfl rfl sh141 (Nat.le_of_ble_eq_true rfl) ⟨rfl, rfl⟩ hE10 (fun z7 ρ8 μ9 hz => ?_)
    replace h := h _ _ _ hz
    refine qX_iload_n 2 dX7_bestOrder_30 rfl rfl ?_
    refine qX_if_lt 45 dX7_bestOrder_31 rfl (fun hc => ?_) (fun hc => ?_)
    · replace h := h.1 hc
      refine qX_aload_n 0 dX7_bestOrder_45 rfl rfl (by decide) ?_
      refine qX_bip dX7_bestOrder_46 rfl ?_
      obtain ⟨P, hE14, h⟩ := h
      refine qN_callV mX7_fail [_] _ 7 [] dX7_bestOrder_48 cm_X7_76 ⟨(Nat.le_of_ble_eq_true rfl), (Nat.le_of_ble_eq_true rfl)⟩ rfl rfl sh0 (Nat.le_of_ble_eq_true rfl) ⟨rfl, rfl⟩ hE14 (fun z11 ρ12 μ13 hz => ?_)
      replace h := h _ _ _ hz
      exact qX_ireturn rfl dX7_bestOrder_51 rfl ⟨(Nat.le_of_ble_eq_true rfl), (Nat.le_of_ble_eq_true rfl)⟩ h
    · replace h := h.2 hc
      refine qX_iload_n 2 dX7_bestOrder_34 rfl rfl ?_
      refine qX_aload_n 0 dX7_bestOrder_35 rfl rfl (by decide) ?_
      refine qX_getS 7 6 _ 140 dX7_bestOrder_36 fs_X7_46 rfl rfl sh0 (x := 141) rfl ?_
      refine qX_getI 5 4 _ dX7_bestOrder_39 fs_X7_250 sh141 ?_
      refine qX_icmp_lt 52 dX7_bestOrder_42 rfl (fun hc => ?_) (fun hc => ?_)
      · replace h := h.1 hc
        refine qX_aload_n 0 dX7_bestOrder_52 rfl rfl (by decide) ?_
        refine qX_aload_n 0 dX7_bestOrder_53 rfl rfl (by decide) ?_
        refine qX_getS 7 6 _ 140 dX7_bestOrder_54 fs_X7_46 rfl rfl sh0 (x := 141) rfl ?_
        refine qX_getS 5 1 _ 1 dX7_bestOrder_57 fs_X7_253 rfl rfl sh141 (x := 143) rfl ?_
        refine qX_iload_n 2 dX7_bestOrder_60 rfl rfl ?_
        refine qX_iald dX7_bestOrder_61 sh143 h.1 ?_
        replace h := h.2
        obtain ⟨P, hE18, h⟩ := h
        refine qN_callV mX7_answer [_] _ 7 [] dX7_bestOrder_62 cm_X7_92 ⟨(Nat.le_of_ble_eq_true rfl), (Nat.le_of_ble_eq_true rfl)⟩ rfl rfl sh0 (Nat.le_of_ble_eq_true rfl) ⟨rfl, rfl⟩ hE18 (fun z15 ρ16 μ17 hz => ?_)
        replace h := h _ _ _ hz
        exact qX_ireturn rfl dX7_bestOrder_65 rfl ⟨(Nat.le_of_ble_eq_true rfl), (Nat.le_of_ble_eq_true rfl)⟩ h
      · replace h := h.2 hc
        refine qX_aload_n 0 dX7_bestOrder_45 rfl rfl (by decide) ?_
        refine qX_bip dX7_bestOrder_46 rfl ?_
        obtain ⟨P, hE22, h⟩ := h
        refine qN_callV mX7_fail [_] _ 7 [] dX7_bestOrder_48 cm_X7_76 ⟨(Nat.le_of_ble_eq_true rfl), (Nat.le_of_ble_eq_true rfl)⟩ rfl rfl sh0 (Nat.le_of_ble_eq_true rfl) ⟨rfl, rfl⟩ hE22 (fun z19 ρ20 μ21 hz => ?_)
        replace h := h _ _ _ hz
        exact qX_ireturn rfl dX7_bestOrder_51 rfl ⟨(Nat.le_of_ble_eq_true rfl), (Nat.le_of_ble_eq_true rfl)⟩ h
  · replace h := h.2 hc
    refine qX_aload_n 0 dX7_bestOrder_8 rfl rfl (by decide) ?_
    refine qX_iconst dX7_bestOrder_9 (i32_of rfl) ?_
    obtain ⟨P, hE26, h⟩ := h
    refine qN_callV mX7_fail [_] _ 7 [] dX7_bestOrder_10 cm_X7_76 ⟨(Nat.le_of_ble_eq_true rfl), (Nat.le_of_ble_eq_true rfl)⟩ rfl rfl sh0 (Nat.le_of_ble_eq_true rfl) ⟨rfl, rfl⟩ hE26 (fun z23 ρ24 μ25 hz => ?_)
    replace h := h _ _ _ hz
    exact qX_ireturn rfl dX7_bestOrder_13 rfl ⟨(Nat.le_of_ble_eq_true rfl), (Nat.le_of_ble_eq_true rfl)⟩ h
set_option maxRecDepth 20000 in
theorem e_X7_neededDelay {Post : Int → Rf → Mem → Prop} {ρ : Rf} {μ : Mem} {x1 : Int}
  (h : ∃ P : Int → Rf → Mem → Prop, qE mX7_isTrain GG GG [qP 0, qI x1] ρ μ P ∧ ∀ (z1 : Int) (ρ2 : Rf) (μ3 : Mem), P z1 ρ2 μ3 → ((z1 ≠ 0 → isO 6 (ρ2 0 9) ∧ ∃ P : Int → Rf → Mem → Prop, qE mX6_copyFrom GG GG [qP 55, qP (ρ2 0 9)] ρ2 μ3 P ∧ ∀ (z6 : Int) (ρ7 : Rf) (μ8 : Mem), P z6 ρ7 μ8 → qX mX7_neededDelay GG Post GG (0, 0) 27 [some (qP 0), some (qI x1), some (qI 0)] [] ρ7 μ8) ∧ (z1 = 0 → ∃ P : Int → Rf → Mem → Prop, qE mX7_fail GG GG [qP 0, qI 1] ρ2 μ3 P ∧ ∀ (z10 : Int) (ρ11 : Rf) (μ12 : Mem), P z10 ρ11 μ12 → Post z10 ρ11 μ12))) : qE mX7_neededDelay GG GG [qP 0, qI x1] ρ μ Post := by
  refine qE_intro pl_X7_neededDelay (Nat.le_of_ble_eq_true rfl) (Nat.le_refl _) ?_
  refine qX_aload_n 0 dX7_neededDelay_0 rfl rfl (by decide) ?_
  refine qX_iload_n 1 dX7_neededDelay_1 rfl rfl ?_
  obtain ⟨P, hE4, h⟩ := h
  refine qN_callV mX7_isTrain [_] _ 7 [] dX7_neededDelay_2 cm_X7_98 ⟨(Nat.le_of_ble_eq_true rfl), (Nat.le_of_ble_eq_true rfl)⟩ rfl rfl sh0 (Nat.le_of_ble_eq_true rfl) ⟨rfl, rfl⟩ hE4 (fun z1 ρ2 μ3 hz => ?_)
  replace h := h _ _ _ hz
  refine qX_if_ne 14 dX7_neededDelay_5 rfl (fun hc => ?_) (fun hc => ?_)
  · replace h := h.1 hc
    refine qX_aload_n 0 dX7_neededDelay_14 rfl rfl (by decide) ?_
    refine qX_getS 7 3 _ 54 dX7_neededDelay_15 fs_X7_29 rfl rfl sh0 (x := 55) rfl ?_
    refine qX_aload_n 0 dX7_neededDelay_18 rfl rfl (by decide) ?_
    refine qX_getR 7 9 _ dX7_neededDelay_19 fs_X7_64 sh0 ?_
    have hO5 := h.1
    replace h := h.2
    obtain ⟨P, hE9, h⟩ := h
    refine qN_callV mX6_copyFrom [_] _ 6 [] dX7_neededDelay_22 cm_X7_267 ⟨(Nat.le_of_ble_eq_true rfl), (Nat.le_of_ble_eq_true rfl)⟩ rfl rfl sh55 (Nat.le_of_ble_eq_true rfl) ⟨rfl, rfl⟩ hE9 (fun z6 ρ7 μ8 hz => ?_)
    replace h := h _ _ _ hz
    refine qX_iconst dX7_neededDelay_25 (i32_of rfl) ?_
    refine qX_istore_n 2 dX7_neededDelay_26 rfl (Nat.le_of_ble_eq_true rfl) rfl ?_
    exact qX_mask [true, true, true] h
  · replace h := h.2 hc
    refine qX_aload_n 0 dX7_neededDelay_8 rfl rfl (by decide) ?_
    refine qX_iconst dX7_neededDelay_9 (i32_of rfl) ?_
    obtain ⟨P, hE13, h⟩ := h
    refine qN_callV mX7_fail [_] _ 7 [] dX7_neededDelay_10 cm_X7_76 ⟨(Nat.le_of_ble_eq_true rfl), (Nat.le_of_ble_eq_true rfl)⟩ rfl rfl sh0 (Nat.le_of_ble_eq_true rfl) ⟨rfl, rfl⟩ hE13 (fun z10 ρ11 μ12 hz => ?_)
    replace h := h _ _ _ hz
    exact qX_ireturn rfl dX7_neededDelay_13 rfl ⟨(Nat.le_of_ble_eq_true rfl), (Nat.le_of_ble_eq_true rfl)⟩ h
set_option maxRecDepth 20000 in
theorem w_X7_neededDelay_27 {Post : Int → Rf → Mem → Prop} {ρ : Rf} {μ : Mem} {x1 : Int} {x2 : Int}
  (h : ((60 < x2 → ∃ P : Int → Rf → Mem → Prop, qE mX7_fail GG GG [qP 0, qI 6] ρ μ P ∧ ∀ (z1 : Int) (ρ2 : Rf) (μ3 : Mem), P z1 ρ2 μ3 → Post z1 ρ2 μ3) ∧ (x2 ≤ 60 → isO 6 (ρ 0 9) ∧ (0 ≤ x1 ∧ x1 < 2) ∧ i32 ((μ (ρ 0 9 + 5) x1) + x2) ∧ (0 ≤ x1 ∧ x1 < 2) ∧ ∀ μ6, μ6 = up2 μ 60 x1 ((μ (ρ 0 9 + 5) x1) + x2) → isO 0 (ρ 0 8) ∧ ∃ P : Int → Rf → Mem → Prop, qE mX3_play GG GG [qP 41, qP (ρ 0 8), qP 55] ρ μ6 P ∧ ∀ (z8 : Int) (ρ9 : Rf) (μ10 : Mem), P z8 ρ9 μ10 → ∃ P : Int → Rf → Mem → Prop, qE mX3_leavesBehind GG GG [qP 41, qP 55, qI x1] ρ9 μ10 P ∧ ∀ (z12 : Int) (ρ13 : Rf) (μ14 : Mem), P z12 ρ13 μ14 → ((z12 ≠ 0 → i32 (x2 + 1) ∧ qX mX7_neededDelay GG Post GG (0, 0) 27 [some (qP 0), some (qI x1), some (qI (x2 + 1))] [] ρ13 μ14) ∧ (z12 = 0 → ∃ P : Int → Rf → Mem → Prop, qE mX7_answer GG GG [qP 0, qI x2] ρ13 μ14 P ∧ ∀ (z16 : Int) (ρ17 : Rf) (μ18 : Mem), P z16 ρ17 μ18 → Post z16 ρ17 μ18))))) : qX mX7_neededDelay GG Post GG (0, 0) 27 [some (qP 0), some (qI x1), some (qI x2)] [] ρ μ := by
  refine qX_iload_n 2 dX7_neededDelay_27 rfl rfl ?_
  refine qX_bip dX7_neededDelay_28 rfl ?_
  refine qX_icmp_gt 95 dX7_neededDelay_30 rfl (fun hc => ?_) (fun hc => ?_)
  · replace h := h.1 hc
    refine qX_aload_n 0 dX7_neededDelay_95 rfl rfl (by decide) ?_
    refine qX_bip dX7_neededDelay_96 rfl ?_
    obtain ⟨P, hE4, h⟩ := h
    refine qN_callV mX7_fail [_] _ 7 [] dX7_neededDelay_98 cm_X7_76 ⟨(Nat.le_of_ble_eq_true rfl), (Nat.le_of_ble_eq_true rfl)⟩ rfl rfl sh0 (Nat.le_of_ble_eq_true rfl) ⟨rfl, rfl⟩ hE4 (fun z1 ρ2 μ3 hz => ?_)
    replace h := h _ _ _ hz
    exact qX_ireturn rfl dX7_neededDelay_101 rfl ⟨(Nat.le_of_ble_eq_true rfl), (Nat.le_of_ble_eq_true rfl)⟩ h
  · replace h := h.2 hc
    refine qX_aload_n 0 dX7_neededDelay_33 rfl rfl (by decide) ?_
    refine qX_getS 7 3 _ 54 dX7_neededDelay_34 fs_X7_29 rfl rfl sh0 (x := 55) rfl ?_
    refine qX_getS 6 4 _ 4 dX7_neededDelay_37 fs_X7_116 rfl rfl sh55 (x := 60) rfl ?_
    refine qX_iload_n 1 dX7_neededDelay_40 rfl rfl ?_
    refine qX_aload_n 0 dX7_neededDelay_41 rfl rfl (by decide) ?_
    refine qX_getR 7 9 _ dX7_neededDelay_42 fs_X7_64 sh0 ?_
    have hO5 := h.1
    replace h := h.2
    refine qX_getS 6 4 _ 4 dX7_neededDelay_45 fs_X7_116 rfl rfl hO5 rfl ?_
    refine qX_iload_n 1 dX7_neededDelay_48 rfl rfl ?_
    refine qX_iald dX7_neededDelay_49 (ar6_4 hO5) h.1 ?_
    replace h := h.2
    refine qX_iload_n 2 dX7_neededDelay_50 rfl rfl ?_
    refine qR_iadd dX7_neededDelay_51 h.1 ?_
    replace h := h.2
    refine qX_iast dX7_neededDelay_52 sh60 h.1 ?_
    replace h := h.2
    replace h := h _ rfl
    refine qX_aload_n 0 dX7_neededDelay_53 rfl rfl (by decide) ?_
    refine qX_getS 7 2 _ 40 dX7_neededDelay_54 fs_X7_23 rfl rfl sh0 (x := 41) rfl ?_
    refine qX_aload_n 0 dX7_neededDelay_57 rfl rfl (by decide) ?_
    refine qX_getR 7 8 _ dX7_neededDelay_58 fs_X7_60 sh0 ?_
    refine qX_aload_n 0 dX7_neededDelay_61 rfl rfl (by decide) ?_
    refine qX_getS 7 3 _ 54 dX7_neededDelay_62 fs_X7_29 rfl rfl sh0 (x := 55) rfl ?_
    have hO7 := h.1
    replace h := h.2
    obtain ⟨P, hE11, h⟩ := h
    refine qN_callV mX3_play [_, _] _ 3 [] dX7_neededDelay_65 cm_X7_271 ⟨(Nat.le_of_ble_eq_true rfl), (Nat.le_of_ble_eq_true rfl)⟩ rfl rfl sh41 (Nat.le_of_ble_eq_true rfl) ⟨rfl, rfl⟩ hE11 (fun z8 ρ9 μ10 hz => ?_)
    replace h := h _ _ _ hz
    refine qX_aload_n 0 dX7_neededDelay_68 rfl rfl (by decide) ?_
    refine qX_getS 7 2 _ 40 dX7_neededDelay_69 fs_X7_23 rfl rfl sh0 (x := 41) rfl ?_
    refine qX_aload_n 0 dX7_neededDelay_72 rfl rfl (by decide) ?_
    refine qX_getS 7 3 _ 54 dX7_neededDelay_73 fs_X7_29 rfl rfl sh0 (x := 55) rfl ?_
    refine qX_iload_n 1 dX7_neededDelay_76 rfl rfl ?_
    obtain ⟨P, hE15, h⟩ := h
    refine qN_callV mX3_leavesBehind [_, _] _ 3 [] dX7_neededDelay_77 cm_X7_275 ⟨(Nat.le_of_ble_eq_true rfl), (Nat.le_of_ble_eq_true rfl)⟩ rfl rfl sh41 (Nat.le_of_ble_eq_true rfl) ⟨rfl, rfl⟩ hE15 (fun z12 ρ13 μ14 hz => ?_)
    replace h := h _ _ _ hz
    refine qX_if_ne 89 dX7_neededDelay_80 rfl (fun hc => ?_) (fun hc => ?_)
    · replace h := h.1 hc
      refine qR_iinc dX7_neededDelay_89 rfl (Nat.le_of_ble_eq_true rfl) rfl h.1 ?_
      replace h := h.2
      refine qX_goto 27 dX7_neededDelay_92 rfl ?_
      exact qX_mask [true, true, true] h
    · replace h := h.2 hc
      refine qX_aload_n 0 dX7_neededDelay_83 rfl rfl (by decide) ?_
      refine qX_iload_n 2 dX7_neededDelay_84 rfl rfl ?_
      obtain ⟨P, hE19, h⟩ := h
      refine qN_callV mX7_answer [_] _ 7 [] dX7_neededDelay_85 cm_X7_92 ⟨(Nat.le_of_ble_eq_true rfl), (Nat.le_of_ble_eq_true rfl)⟩ rfl rfl sh0 (Nat.le_of_ble_eq_true rfl) ⟨rfl, rfl⟩ hE19 (fun z16 ρ17 μ18 hz => ?_)
      replace h := h _ _ _ hz
      exact qX_ireturn rfl dX7_neededDelay_88 rfl ⟨(Nat.le_of_ble_eq_true rfl), (Nat.le_of_ble_eq_true rfl)⟩ h
set_option maxRecDepth 20000 in
theorem e_X7_deliveredWithout {Post : Int → Rf → Mem → Prop} {ρ : Rf} {μ : Mem} {x1 : Int}
  (h : ∃ P : Int → Rf → Mem → Prop, qE mX7_isTrolley GG GG [qP 0, qI x1] ρ μ P ∧ ∀ (z1 : Int) (ρ2 : Rf) (μ3 : Mem), P z1 ρ2 μ3 → ((z1 ≠ 0 → isO 6 (ρ2 0 9) ∧ ∃ P : Int → Rf → Mem → Prop, qE mX6_copyFrom GG GG [qP 55, qP (ρ2 0 9)] ρ2 μ3 P ∧ ∀ (z6 : Int) (ρ7 : Rf) (μ8 : Mem), P z6 ρ7 μ8 → isO 6 (ρ7 0 9) ∧ i32 ((μ8 (ρ7 0 9) 6) - 1) ∧ qX mX7_deliveredWithout GG Post GG (0, 0) 35 [some (qP 0), some (qI x1), some (qI ((μ8 (ρ7 0 9) 6) - 1))] [] ρ7 μ8) ∧ (z1 = 0 → ∃ P : Int → Rf → Mem → Prop, qE mX7_fail GG GG [qP 0, qI 1] ρ2 μ3 P ∧ ∀ (z11 : Int) (ρ12 : Rf) (μ13 : Mem), P z11 ρ12 μ13 → Post z11 ρ12 μ13))) : qE mX7_deliveredWithout GG GG [qP 0, qI x1] ρ μ Post := by
  refine qE_intro pl_X7_deliveredWithout (Nat.le_of_ble_eq_true rfl) (Nat.le_refl _) ?_
  refine qX_aload_n 0 dX7_deliveredWithout_0 rfl rfl (by decide) ?_
  refine qX_iload_n 1 dX7_deliveredWithout_1 rfl rfl ?_
  obtain ⟨P, hE4, h⟩ := h
  refine qN_callV mX7_isTrolley [_] _ 7 [] dX7_deliveredWithout_2 cm_X7_170 ⟨(Nat.le_of_ble_eq_true rfl), (Nat.le_of_ble_eq_true rfl)⟩ rfl rfl sh0 (Nat.le_of_ble_eq_true rfl) ⟨rfl, rfl⟩ hE4 (fun z1 ρ2 μ3 hz => ?_)
  replace h := h _ _ _ hz
  refine qX_if_ne 14 dX7_deliveredWithout_5 rfl (fun hc => ?_) (fun hc => ?_)
  · replace h := h.1 hc
    refine qX_aload_n 0 dX7_deliveredWithout_14 rfl rfl (by decide) ?_
    refine qX_getS 7 3 _ 54 dX7_deliveredWithout_15 fs_X7_29 rfl rfl sh0 (x := 55) rfl ?_
    refine qX_aload_n 0 dX7_deliveredWithout_18 rfl rfl (by decide) ?_
    refine qX_getR 7 9 _ dX7_deliveredWithout_19 fs_X7_64 sh0 ?_
    have hO5 := h.1
    replace h := h.2
    obtain ⟨P, hE9, h⟩ := h
    refine qN_callV mX6_copyFrom [_] _ 6 [] dX7_deliveredWithout_22 cm_X7_267 ⟨(Nat.le_of_ble_eq_true rfl), (Nat.le_of_ble_eq_true rfl)⟩ rfl rfl sh55 (Nat.le_of_ble_eq_true rfl) ⟨rfl, rfl⟩ hE9 (fun z6 ρ7 μ8 hz => ?_)
    replace h := h _ _ _ hz
    refine qX_aload_n 0 dX7_deliveredWithout_25 rfl rfl (by decide) ?_
    refine qX_getR 7 9 _ dX7_deliveredWithout_26 fs_X7_64 sh0 ?_
    have hO10 := h.1
    replace h := h.2
    refine qX_getI 6 6 _ dX7_deliveredWithout_29 fs_X7_89 hO10 ?_
    refine qX_iconst dX7_deliveredWithout_32 (i32_of rfl) ?_
    refine qR_isub dX7_deliveredWithout_33 h.1 ?_
    replace h := h.2
    refine qX_istore_n 2 dX7_deliveredWithout_34 rfl (Nat.le_of_ble_eq_true rfl) rfl ?_
    exact qX_mask [true, true, true] h
  · replace h := h.2 hc
    refine qX_aload_n 0 dX7_deliveredWithout_8 rfl rfl (by decide) ?_
    refine qX_iconst dX7_deliveredWithout_9 (i32_of rfl) ?_
    obtain ⟨P, hE14, h⟩ := h
    refine qN_callV mX7_fail [_] _ 7 [] dX7_deliveredWithout_10 cm_X7_76 ⟨(Nat.le_of_ble_eq_true rfl), (Nat.le_of_ble_eq_true rfl)⟩ rfl rfl sh0 (Nat.le_of_ble_eq_true rfl) ⟨rfl, rfl⟩ hE14 (fun z11 ρ12 μ13 hz => ?_)
    replace h := h _ _ _ hz
    exact qX_ireturn rfl dX7_deliveredWithout_13 rfl ⟨(Nat.le_of_ble_eq_true rfl), (Nat.le_of_ble_eq_true rfl)⟩ h
set_option maxRecDepth 20000 in
theorem w_X7_deliveredWithout_35 {Post : Int → Rf → Mem → Prop} {ρ : Rf} {μ : Mem} {x1 : Int} {x2 : Int}
  (h : ((x2 < 0 → ∃ P : Int → Rf → Mem → Prop, qE mX7_rehearse GG GG [qP 0] ρ μ P ∧ ∀ (z1 : Int) (ρ2 : Rf) (μ3 : Mem), P z1 ρ2 μ3 → ∃ P : Int → Rf → Mem → Prop, qE mX7_answer GG GG [qP 0, qI z1] ρ2 μ3 P ∧ ∀ (z5 : Int) (ρ6 : Rf) (μ7 : Mem), P z5 ρ6 μ7 → Post z5 ρ6 μ7) ∧ (0 ≤ x2 → isO 6 (ρ 0 9) ∧ (0 ≤ x2 ∧ x2 < 20) ∧ ((μ (ρ 0 9 + 1) x2 ≠ x1 → i32 (x2 + (-1)) ∧ qX mX7_deliveredWithout GG Post GG (0, 0) 35 [some (qP 0), some (qI x1), some (qI (x2 + (-1)))] [] ρ μ) ∧ (μ (ρ 0 9 + 1) x2 = x1 → ∃ P : Int → Rf → Mem → Prop, qE mX6_removeAt GG GG [qP 55, qI x2] ρ μ P ∧ ∀ (z10 : Int) (ρ11 : Rf) (μ12 : Mem), P z10 ρ11 μ12 → i32 (x2 + (-1)) ∧ qX mX7_deliveredWithout GG Post GG (0, 0) 35 [some (qP 0), some (qI x1), some (qI (x2 + (-1)))] [] ρ11 μ12))))) : qX mX7_deliveredWithout GG Post GG (0, 0) 35 [some (qP 0), some (qI x1), some (qI x2)] [] ρ μ := by
  refine qX_iload_n 2 dX7_deliveredWithout_35 rfl rfl ?_
  refine qX_if_lt 66 dX7_deliveredWithout_36 rfl (fun hc => ?_) (fun hc => ?_)
  · replace h := h.1 hc
    refine qX_aload_n 0 dX7_deliveredWithout_66 rfl rfl (by decide) ?_
    refine qX_aload_n 0 dX7_deliveredWithout_67 rfl rfl (by decide) ?_
    obtain ⟨P, hE4, h⟩ := h
    refine qN_callV mX7_rehearse [] _ 7 [_] dX7_deliveredWithout_68 cm_X7_282 ⟨(Nat.le_of_ble_eq_true rfl), (Nat.le_of_ble_eq_true rfl)⟩ rfl rfl sh0 (Nat.le_of_ble_eq_true rfl) ⟨rfl, rfl⟩ hE4 (fun z1 ρ2 μ3 hz => ?_)
    replace h := h _ _ _ hz
    obtain ⟨P, hE8, h⟩ := h
    refine qN_callV mX7_answer [_] _ 7 [] dX7_deliveredWithout_71 cm_X7_92 ⟨(Nat.le_of_ble_eq_true rfl), (Nat.le_of_ble_eq_true rfl)⟩ rfl rfl sh0 (Nat.le_of_ble_eq_true rfl) ⟨rfl, rfl⟩ hE8 (fun z5 ρ6 μ7 hz => ?_)
    replace h := h _ _ _ hz
    exact qX_ireturn rfl dX7_deliveredWithout_74 rfl ⟨(Nat.le_of_ble_eq_true rfl), (Nat.le_of_ble_eq_true rfl)⟩ h
  · replace h := h.2 hc
    refine qX_aload_n 0 dX7_deliveredWithout_39 rfl rfl (by decide) ?_
    refine qX_getR 7 9 _ dX7_deliveredWithout_40 fs_X7_64 sh0 ?_
    have hO9 := h.1
    replace h := h.2
    refine qX_getS 6 0 _ 0 dX7_deliveredWithout_43 fs_X7_143 rfl rfl hO9 rfl ?_
    refine qX_iload_n 2 dX7_deliveredWithout_46 rfl rfl ?_
    refine qX_iald dX7_deliveredWithout_47 (ar6_0 hO9) h.1 ?_
    replace h := h.2
    refine qX_iload_n 1 dX7_deliveredWithout_48 rfl rfl ?_
    refine qX_icmp_ne 60 dX7_deliveredWithout_49 rfl (fun hc => ?_) (fun hc => ?_)
    · replace h := h.1 hc
      refine qR_iinc dX7_deliveredWithout_60 rfl (Nat.le_of_ble_eq_true rfl) rfl h.1 ?_
      replace h := h.2
      refine qX_goto 35 dX7_deliveredWithout_63 rfl ?_
      exact qX_mask [true, true, true] h
    · replace h := h.2 hc
      refine qX_aload_n 0 dX7_deliveredWithout_52 rfl rfl (by decide) ?_
      refine qX_getS 7 3 _ 54 dX7_deliveredWithout_53 fs_X7_29 rfl rfl sh0 (x := 55) rfl ?_
      refine qX_iload_n 2 dX7_deliveredWithout_56 rfl rfl ?_
      obtain ⟨P, hE13, h⟩ := h
      refine qN_callV mX6_removeAt [_] _ 6 [] dX7_deliveredWithout_57 cm_X7_279 ⟨(Nat.le_of_ble_eq_true rfl), (Nat.le_of_ble_eq_true rfl)⟩ rfl rfl sh55 (Nat.le_of_ble_eq_true rfl) ⟨rfl, rfl⟩ hE13 (fun z10 ρ11 μ12 hz => ?_)
      replace h := h _ _ _ hz
      refine qR_iinc dX7_deliveredWithout_60 rfl (Nat.le_of_ble_eq_true rfl) rfl h.1 ?_
      replace h := h.2
      refine qX_goto 35 dX7_deliveredWithout_63 rfl ?_
      exact qX_mask [true, true, true] h
set_option maxRecDepth 20000 in
theorem e_X7_worstJob {Post : Int → Rf → Mem → Prop} {ρ : Rf} {μ : Mem} 
  (h : ((μ 0 10 ≠ 0 → qX mX7_worstJob GG Post GG (0, 0) 25 [some (qP 0), some (qI (-1)), some (qI (μ 27 9)), some (qI 0), none] [] ρ μ) ∧ (μ 0 10 = 0 → ∃ P : Int → Rf → Mem → Prop, qE mX7_fail GG GG [qP 0, qI 1] ρ μ P ∧ ∀ (z1 : Int) (ρ2 : Rf) (μ3 : Mem), P z1 ρ2 μ3 → Post z1 ρ2 μ3))) : qE mX7_worstJob GG GG [qP 0] ρ μ Post := by
  refine qE_intro pl_X7_worstJob (Nat.le_of_ble_eq_true rfl) (Nat.le_refl _) ?_
  refine qX_aload_n 0 dX7_worstJob_0 rfl rfl (by decide) ?_
  refine qX_getI 7 10 _ dX7_worstJob_1 fs_X7_106 sh0 ?_
  refine qX_if_ne 13 dX7_worstJob_4 rfl (fun hc => ?_) (fun hc => ?_)
  · replace h := h.1 hc
    refine qX_iconst dX7_worstJob_13 (i32_of rfl) ?_
    refine qX_istore_n 1 dX7_worstJob_14 rfl (Nat.le_of_ble_eq_true rfl) rfl ?_
    refine qX_aload_n 0 dX7_worstJob_15 rfl rfl (by decide) ?_
    refine qX_getS 7 1 _ 26 dX7_worstJob_16 fs_X7_19 rfl rfl sh0 (x := 27) rfl ?_
    refine qX_getI 3 9 _ dX7_worstJob_19 fs_X7_167 sh27 ?_
    refine qX_istore_n 2 dX7_worstJob_22 rfl (Nat.le_of_ble_eq_true rfl) rfl ?_
    refine qX_iconst dX7_worstJob_23 (i32_of rfl) ?_
    refine qX_istore_n 3 dX7_worstJob_24 rfl (Nat.le_of_ble_eq_true rfl) rfl ?_
    exact qX_mask [true, true, true, true, false] h
  · replace h := h.2 hc
    refine qX_aload_n 0 dX7_worstJob_7 rfl rfl (by decide) ?_
    refine qX_iconst dX7_worstJob_8 (i32_of rfl) ?_
    obtain ⟨P, hE4, h⟩ := h
    refine qN_callV mX7_fail [_] _ 7 [] dX7_worstJob_9 cm_X7_76 ⟨(Nat.le_of_ble_eq_true rfl), (Nat.le_of_ble_eq_true rfl)⟩ rfl rfl sh0 (Nat.le_of_ble_eq_true rfl) ⟨rfl, rfl⟩ hE4 (fun z1 ρ2 μ3 hz => ?_)
    replace h := h _ _ _ hz
    exact qX_ireturn rfl dX7_worstJob_12 rfl ⟨(Nat.le_of_ble_eq_true rfl), (Nat.le_of_ble_eq_true rfl)⟩ h
set_option maxRecDepth 20000 in
theorem w_X7_worstJob_25 {Post : Int → Rf → Mem → Prop} {ρ : Rf} {μ : Mem} {x1 : Int} {x2 : Int} {x3 : Int}
  (h : isO 6 (ρ 0 9) ∧ ((μ (ρ 0 9) 6 ≤ x3 → ((0 ≤ x1 → ∃ P : Int → Rf → Mem → Prop, qE mX7_answer GG GG [qP 0, qI x1] ρ μ P ∧ ∀ (z2 : Int) (ρ3 : Rf) (μ4 : Mem), P z2 ρ3 μ4 → Post z2 ρ3 μ4) ∧ (x1 < 0 → ∃ P : Int → Rf → Mem → Prop, qE mX7_fail GG GG [qP 0, qI 6] ρ μ P ∧ ∀ (z6 : Int) (ρ7 : Rf) (μ8 : Mem), P z6 ρ7 μ8 → Post z6 ρ7 μ8))) ∧ (x3 < μ (ρ 0 9) 6 → ∃ P : Int → Rf → Mem → Prop, qE mX6_copyFrom GG GG [qP 55, qP (ρ 0 9)] ρ μ P ∧ ∀ (z10 : Int) (ρ11 : Rf) (μ12 : Mem), P z10 ρ11 μ12 → ∃ P : Int → Rf → Mem → Prop, qE mX6_removeAt GG GG [qP 55, qI x3] ρ11 μ12 P ∧ ∀ (z14 : Int) (ρ15 : Rf) (μ16 : Mem), P z14 ρ15 μ16 → ∃ P : Int → Rf → Mem → Prop, qE mX7_rehearse GG GG [qP 0] ρ15 μ16 P ∧ ∀ (z18 : Int) (ρ19 : Rf) (μ20 : Mem), P z18 ρ19 μ20 → ((z18 ≤ x2 → i32 (x3 + 1) ∧ qX mX7_worstJob GG Post GG (0, 0) 25 [some (qP 0), some (qI x1), some (qI x2), some (qI (x3 + 1)), none] [] ρ19 μ20) ∧ (x2 < z18 → i32 (x3 + 1) ∧ qX mX7_worstJob GG Post GG (0, 0) 25 [some (qP 0), some (qI x3), some (qI z18), some (qI (x3 + 1)), none] [] ρ19 μ20))))) : qX mX7_worstJob GG Post GG (0, 0) 25 [some (qP 0), some (qI x1), some (qI x2), some (qI x3), none] [] ρ μ := by
  refine qX_iload_n 3 dX7_worstJob_25 rfl rfl ?_
  refine qX_aload_n 0 dX7_worstJob_26 rfl rfl (by decide) ?_
  refine qX_getR 7 9 _ dX7_worstJob_27 fs_X7_64 sh0 ?_
  have hO1 := h.1
  replace h := h.2
  refine qX_getI 6 6 _ dX7_worstJob_30 fs_X7_89 hO1 ?_
  refine qX_icmp_ge 78 dX7_worstJob_33 rfl (fun hc => ?_) (fun hc => ?_)
  · replace h := h.1 hc
    refine qX_iload_n 1 dX7_worstJob_78 rfl rfl ?_
    refine qX_if_ge 91 dX7_worstJob_79 rfl (fun hc => ?_) (fun hc => ?_)
    · replace h := h.1 hc
      refine qX_aload_n 0 dX7_worstJob_91 rfl rfl (by decide) ?_
      refine qX_iload_n 1 dX7_worstJob_92 rfl rfl ?_
      obtain ⟨P, hE5, h⟩ := h
      refine qN_callV mX7_answer [_] _ 7 [] dX7_worstJob_93 cm_X7_92 ⟨(Nat.le_of_ble_eq_true rfl), (Nat.le_of_ble_eq_true rfl)⟩ rfl rfl sh0 (Nat.le_of_ble_eq_true rfl) ⟨rfl, rfl⟩ hE5 (fun z2 ρ3 μ4 hz => ?_)
      replace h := h _ _ _ hz
      exact qX_ireturn rfl dX7_worstJob_96 rfl ⟨(Nat.le_of_ble_eq_true rfl), (Nat.le_of_ble_eq_true rfl)⟩ h
    · replace h := h.2 hc
      refine qX_aload_n 0 dX7_worstJob_82 rfl rfl (by decide) ?_
      refine qX_bip dX7_worstJob_83 rfl ?_
      obtain ⟨P, hE9, h⟩ := h
      refine qN_callV mX7_fail [_] _ 7 [] dX7_worstJob_85 cm_X7_76 ⟨(Nat.le_of_ble_eq_true rfl), (Nat.le_of_ble_eq_true rfl)⟩ rfl rfl sh0 (Nat.le_of_ble_eq_true rfl) ⟨rfl, rfl⟩ hE9 (fun z6 ρ7 μ8 hz => ?_)
      replace h := h _ _ _ hz
      refine qX_goto 96 dX7_worstJob_88 rfl ?_
      exact qX_ireturn rfl dX7_worstJob_96 rfl ⟨(Nat.le_of_ble_eq_true rfl), (Nat.le_of_ble_eq_true rfl)⟩ h
  · replace h := h.2 hc
    refine qX_aload_n 0 dX7_worstJob_36 rfl rfl (by decide) ?_
    refine qX_getS 7 3 _ 54 dX7_worstJob_37 fs_X7_29 rfl rfl sh0 (x := 55) rfl ?_
    refine qX_aload_n 0 dX7_worstJob_40 rfl rfl (by decide) ?_
    refine qX_getR 7 9 _ dX7_worstJob_41 fs_X7_64 sh0 ?_
    obtain ⟨P, hE13, h⟩ := h
    refine qN_callV mX6_copyFrom [_] _ 6 [] dX7_worstJob_44 cm_X7_267 ⟨(Nat.le_of_ble_eq_true rfl), (Nat.le_of_ble_eq_true rfl)⟩ rfl rfl sh55 (Nat.le_of_ble_eq_true rfl) ⟨rfl, rfl⟩ hE13 (fun z10 ρ11 μ12 hz => ?_)
    replace h := h _ _ _ hz
    refine qX_aload_n 0 dX7_worstJob_47 rfl rfl (by decide) ?_
    refine qX_getS 7 3 _ 54 dX7_worstJob_48 fs_X7_29 rfl rfl sh0 (x := 55) rfl ?_
    refine qX_iload_n 3 dX7_worstJob_51 rfl rfl ?_
    obtain ⟨P, hE17, h⟩ := h
    refine qN_callV mX6_removeAt [_] _ 6 [] dX7_worstJob_52 cm_X7_279 ⟨(Nat.le_of_ble_eq_true rfl), (Nat.le_of_ble_eq_true rfl)⟩ rfl rfl sh55 (Nat.le_of_ble_eq_true rfl) ⟨rfl, rfl⟩ hE17 (fun z14 ρ15 μ16 hz => ?_)
    replace h := h _ _ _ hz
    refine qX_aload_n 0 dX7_worstJob_55 rfl rfl (by decide) ?_
    obtain ⟨P, hE21, h⟩ := h
    refine qN_callV mX7_rehearse [] _ 7 [] dX7_worstJob_56 cm_X7_282 ⟨(Nat.le_of_ble_eq_true rfl), (Nat.le_of_ble_eq_true rfl)⟩ rfl rfl sh0 (Nat.le_of_ble_eq_true rfl) ⟨rfl, rfl⟩ hE21 (fun z18 ρ19 μ20 hz => ?_)
    replace h := h _ _ _ hz
    refine qX_istore dX7_worstJob_59 (Nat.le_of_ble_eq_true rfl) rfl ?_
    refine qX_iload dX7_worstJob_61 rfl ?_
    refine qX_iload_n 2 dX7_worstJob_63 rfl rfl ?_
    refine qX_icmp_le 72 dX7_worstJob_64 rfl (fun hc => ?_) (fun hc => ?_)
    · replace h := h.1 hc
      refine qR_iinc dX7_worstJob_72 rfl (Nat.le_of_ble_eq_true rfl) rfl h.1 ?_
      replace h := h.2
      refine qX_goto 25 dX7_worstJob_75 rfl ?_
      exact qX_mask [true, true, true, true, false] h
    · replace h := h.2 hc
      refine qX_iload dX7_worstJob_67 rfl ?_
      refine qX_istore_n 2 dX7_worstJob_69 rfl (Nat.le_of_ble_eq_true rfl) rfl ?_
      refine qX_iload_n 3 dX7_worstJob_70 rfl rfl ?_
      refine qX_istore_n 1 dX7_worstJob_71 rfl (Nat.le_of_ble_eq_true rfl) rfl ?_
      refine qR_iinc dX7_worstJob_72 rfl (Nat.le_of_ble_eq_true rfl) rfl h.1 ?_
      replace h := h.2
      refine qX_goto 25 dX7_worstJob_75 rfl ?_
      exact qX_mask [true, true, true, true, false] h
set_option maxRecDepth 20000 in
theorem e_X7_addJob {Post : Int → Rf → Mem → Prop} {ρ : Rf} {μ : Mem} {x1 : Int} {x2 : Int} {x3 : Int} {x4 : Int} {x5 : Int}
  (h : ∃ P : Int → Rf → Mem → Prop, qE mX7_isTrolley GG GG [qP 0, qI x1] ρ μ P ∧ ∀ (z1 : Int) (ρ2 : Rf) (μ3 : Mem), P z1 ρ2 μ3 → ((z1 = 0 → ∃ P : Int → Rf → Mem → Prop, qE mX7_fail GG GG [qP 0, qI 1] ρ2 μ3 P ∧ ∀ (z5 : Int) (ρ6 : Rf) (μ7 : Mem), P z5 ρ6 μ7 → Post z5 ρ6 μ7) ∧ (z1 ≠ 0 → ∃ P : Int → Rf → Mem → Prop, qE mX7_isCarMeal GG GG [qP 0, qI x2, qI x3, qI x4] ρ2 μ3 P ∧ ∀ (z9 : Int) (ρ10 : Rf) (μ11 : Mem), P z9 ρ10 μ11 → ((z9 ≠ 0 → ∃ P : Int → Rf → Mem → Prop, qE mX7_isJobQuantity GG GG [qI x5] ρ10 μ11 P ∧ ∀ (z13 : Int) (ρ14 : Rf) (μ15 : Mem), P z13 ρ14 μ15 → ((z13 ≠ 0 → isO 6 (ρ14 0 9) ∧ ((20 ≤ μ15 (ρ14 0 9) 6 → ∃ P : Int → Rf → Mem → Prop, qE mX7_fail GG GG [qP 0, qI 3] ρ14 μ15 P ∧ ∀ (z18 : Int) (ρ19 : Rf) (μ20 : Mem), P z18 ρ19 μ20 → Post z18 ρ19 μ20) ∧ (μ15 (ρ14 0 9) 6 < 20 → ∃ P : Int → Rf → Mem → Prop, qE mX6_jobsOf GG GG [qP (ρ14 0 9), qI x1] ρ14 μ15 P ∧ ∀ (z22 : Int) (ρ23 : Rf) (μ24 : Mem), P z22 ρ23 μ24 → ((z22 < 8 → isO 6 (ρ23 0 9) ∧ ∃ P : Int → Rf → Mem → Prop, qE mX1_push GG GG [qP 69, qP (ρ23 0 9)] ρ23 μ24 P ∧ ∀ (z27 : Int) (ρ28 : Rf) (μ29 : Mem), P z27 ρ28 μ29 → ∃ P : Int → Rf → Mem → Prop, qE mX7_doorIndex GG GG [qI x2, qI x3] ρ28 μ29 P ∧ ∀ (z31 : Int) (ρ32 : Rf) (μ33 : Mem), P z31 ρ32 μ33 → isO 6 (ρ28 0 9) ∧ ∃ P : Int → Rf → Mem → Prop, qE mX6_addLast GG GG [qP (ρ28 0 9), qI x1, qI z31, qI x4, qI x5] ρ32 μ33 P ∧ ∀ (z36 : Int) (ρ37 : Rf) (μ38 : Mem), P z36 ρ37 μ38 → isO 6 (ρ37 0 9) ∧ ∃ P : Int → Rf → Mem → Prop, qE mX7_changed GG GG [qP 0, qI (μ38 (ρ37 0 9) 6)] ρ37 μ38 P ∧ ∀ (z41 : Int) (ρ42 : Rf) (μ43 : Mem), P z41 ρ42 μ43 → Post z41 ρ42 μ43) ∧ (8 ≤ z22 → ∃ P : Int → Rf → Mem → Prop, qE mX7_fail GG GG [qP 0, qI 3] ρ23 μ24 P ∧ ∀ (z45 : Int) (ρ46 : Rf) (μ47 : Mem), P z45 ρ46 μ47 → Post z45 ρ46 μ47))))) ∧ (z13 = 0 → ∃ P : Int → Rf → Mem → Prop, qE mX7_fail GG GG [qP 0, qI 2] ρ14 μ15 P ∧ ∀ (z49 : Int) (ρ50 : Rf) (μ51 : Mem), P z49 ρ50 μ51 → Post z49 ρ50 μ51))) ∧ (z9 = 0 → ∃ P : Int → Rf → Mem → Prop, qE mX7_fail GG GG [qP 0, qI 1] ρ10 μ11 P ∧ ∀ (z53 : Int) (ρ54 : Rf) (μ55 : Mem), P z53 ρ54 μ55 → Post z53 ρ54 μ55))))) : qE mX7_addJob GG GG [qP 0, qI x1, qI x2, qI x3, qI x4, qI x5] ρ μ Post := by
  refine qE_intro pl_X7_addJob (Nat.le_of_ble_eq_true rfl) (Nat.le_refl _) ?_
  refine qX_aload_n 0 dX7_addJob_0 rfl rfl (by decide) ?_
  refine qX_iload_n 1 dX7_addJob_1 rfl rfl ?_
  obtain ⟨P, hE4, h⟩ := h
  refine qN_callV mX7_isTrolley [_] _ 7 [] dX7_addJob_2 cm_X7_170 ⟨(Nat.le_of_ble_eq_true rfl), (Nat.le_of_ble_eq_true rfl)⟩ rfl rfl sh0 (Nat.le_of_ble_eq_true rfl) ⟨rfl, rfl⟩ hE4 (fun z1 ρ2 μ3 hz => ?_)
  replace h := h _ _ _ hz
  refine qX_if_eq 19 dX7_addJob_5 rfl (fun hc => ?_) (fun hc => ?_)
  · replace h := h.1 hc
    refine qX_aload_n 0 dX7_addJob_19 rfl rfl (by decide) ?_
    refine qX_iconst dX7_addJob_20 (i32_of rfl) ?_
    obtain ⟨P, hE8, h⟩ := h
    refine qN_callV mX7_fail [_] _ 7 [] dX7_addJob_21 cm_X7_76 ⟨(Nat.le_of_ble_eq_true rfl), (Nat.le_of_ble_eq_true rfl)⟩ rfl rfl sh0 (Nat.le_of_ble_eq_true rfl) ⟨rfl, rfl⟩ hE8 (fun z5 ρ6 μ7 hz => ?_)
    replace h := h _ _ _ hz
    exact qX_ireturn rfl dX7_addJob_24 rfl ⟨(Nat.le_of_ble_eq_true rfl), (Nat.le_of_ble_eq_true rfl)⟩ h
  · replace h := h.2 hc
    refine qX_aload_n 0 dX7_addJob_8 rfl rfl (by decide) ?_
    refine qX_iload_n 2 dX7_addJob_9 rfl rfl ?_
    refine qX_iload_n 3 dX7_addJob_10 rfl rfl ?_
    refine qX_iload dX7_addJob_11 rfl ?_
    obtain ⟨P, hE12, h⟩ := h
    refine qN_callV mX7_isCarMeal [_, _, _] _ 7 [] dX7_addJob_13 cm_X7_130 ⟨(Nat.le_of_ble_eq_true rfl), (Nat.le_of_ble_eq_true rfl)⟩ rfl rfl sh0 (Nat.le_of_ble_eq_true rfl) ⟨rfl, rfl⟩ hE12 (fun z9 ρ10 μ11 hz => ?_)
    replace h := h _ _ _ hz
    refine qX_if_ne 25 dX7_addJob_16 rfl (fun hc => ?_) (fun hc => ?_)
    · replace h := h.1 hc
      refine qX_iload dX7_addJob_25 rfl ?_
      obtain ⟨P, hE16, h⟩ := h
      refine qN_callS mX7_isJobQuantity [_] [] dX7_addJob_27 cm_X7_291 ⟨(Nat.le_of_ble_eq_true rfl), (Nat.le_of_ble_eq_true rfl)⟩ rfl rfl (Nat.le_of_ble_eq_true rfl) ⟨rfl, rfl⟩ hE16 (fun z13 ρ14 μ15 hz => ?_)
      replace h := h _ _ _ hz
      refine qX_if_ne 39 dX7_addJob_30 rfl (fun hc => ?_) (fun hc => ?_)
      · replace h := h.1 hc
        refine qX_aload_n 0 dX7_addJob_39 rfl rfl (by decide) ?_
        refine qX_getR 7 9 _ dX7_addJob_40 fs_X7_64 sh0 ?_
        have hO17 := h.1
        replace h := h.2
        refine qX_getI 6 6 _ dX7_addJob_43 fs_X7_89 hO17 ?_
        refine qX_bip dX7_addJob_46 rfl ?_
        refine qX_icmp_ge 64 dX7_addJob_48 rfl (fun hc => ?_) (fun hc => ?_)
        · replace h := h.1 hc
          refine qX_aload_n 0 dX7_addJob_64 rfl rfl (by decide) ?_
          refine qX_iconst dX7_addJob_65 (i32_of rfl) ?_
          obtain ⟨P, hE21, h⟩ := h
          refine qN_callV mX7_fail [_] _ 7 [] dX7_addJob_66 cm_X7_76 ⟨(Nat.le_of_ble_eq_true rfl), (Nat.le_of_ble_eq_true rfl)⟩ rfl rfl sh0 (Nat.le_of_ble_eq_true rfl) ⟨rfl, rfl⟩ hE21 (fun z18 ρ19 μ20 hz => ?_)
          replace h := h _ _ _ hz
          exact qX_ireturn rfl dX7_addJob_69 rfl ⟨(Nat.le_of_ble_eq_true rfl), (Nat.le_of_ble_eq_true rfl)⟩ h
        · replace h := h.2 hc
          refine qX_aload_n 0 dX7_addJob_51 rfl rfl (by decide) ?_
          refine qX_getR 7 9 _ dX7_addJob_52 fs_X7_64 sh0 ?_
          refine qX_iload_n 1 dX7_addJob_55 rfl rfl ?_
          obtain ⟨P, hE25, h⟩ := h
          refine qN_callV mX6_jobsOf [_] _ 6 [] dX7_addJob_56 cm_X7_285 ⟨(Nat.le_of_ble_eq_true rfl), (Nat.le_of_ble_eq_true rfl)⟩ rfl rfl hO17 (Nat.le_of_ble_eq_true rfl) ⟨rfl, rfl⟩ hE25 (fun z22 ρ23 μ24 hz => ?_)
          replace h := h _ _ _ hz
          refine qX_bip dX7_addJob_59 rfl ?_
          refine qX_icmp_lt 70 dX7_addJob_61 rfl (fun hc => ?_) (fun hc => ?_)
          · replace h := h.1 hc
            refine qX_aload_n 0 dX7_addJob_70 rfl rfl (by decide) ?_
            refine qX_getS 7 5 _ 68 dX7_addJob_71 fs_X7_39 rfl rfl sh0 (x := 69) rfl ?_
            refine qX_aload_n 0 dX7_addJob_74 rfl rfl (by decide) ?_
            refine qX_getR 7 9 _ dX7_addJob_75 fs_X7_64 sh0 ?_
            have hO26 := h.1
            replace h := h.2
            obtain ⟨P, hE30, h⟩ := h
            refine qN_callV mX1_push [_] _ 1 [] dX7_addJob_78 cm_X7_294 ⟨(Nat.le_of_ble_eq_true rfl), (Nat.le_of_ble_eq_true rfl)⟩ rfl rfl sh69 (Nat.le_of_ble_eq_true rfl) ⟨rfl, rfl⟩ hE30 (fun z27 ρ28 μ29 hz => ?_)
            replace h := h _ _ _ hz
            refine qX_aload_n 0 dX7_addJob_81 rfl rfl (by decide) ?_
            refine qX_getR 7 9 _ dX7_addJob_82 fs_X7_64 sh0 ?_
            refine qX_iload_n 1 dX7_addJob_85 rfl rfl ?_
            refine qX_iload_n 2 dX7_addJob_86 rfl rfl ?_
            refine qX_iload_n 3 dX7_addJob_87 rfl rfl ?_
            obtain ⟨P, hE34, h⟩ := h
            refine qN_callS mX7_doorIndex [_, _] [_, _] dX7_addJob_88 cm_X7_134 ⟨(Nat.le_of_ble_eq_true rfl), (Nat.le_of_ble_eq_true rfl)⟩ rfl rfl (Nat.le_of_ble_eq_true rfl) ⟨rfl, rfl⟩ hE34 (fun z31 ρ32 μ33 hz => ?_)
            replace h := h _ _ _ hz
            refine qX_iload dX7_addJob_91 rfl ?_
            refine qX_iload dX7_addJob_93 rfl ?_
            have hO35 := h.1
            replace h := h.2
            obtain ⟨P, hE39, h⟩ := h
            refine qN_callV mX6_addLast [_, _, _, _] _ 6 [] dX7_addJob_95 cm_X7_297 ⟨(Nat.le_of_ble_eq_true rfl), (Nat.le_of_ble_eq_true rfl)⟩ rfl rfl hO35 (Nat.le_of_ble_eq_true rfl) ⟨rfl, rfl⟩ hE39 (fun z36 ρ37 μ38 hz => ?_)
            replace h := h _ _ _ hz
            refine qX_aload_n 0 dX7_addJob_98 rfl rfl (by decide) ?_
            refine qX_aload_n 0 dX7_addJob_99 rfl rfl (by decide) ?_
            refine qX_getR 7 9 _ dX7_addJob_100 fs_X7_64 sh0 ?_
            have hO40 := h.1
            replace h := h.2
            refine qX_getI 6 6 _ dX7_addJob_103 fs_X7_89 hO40 ?_
            obtain ⟨P, hE44, h⟩ := h
            refine qN_callV mX7_changed [_] _ 7 [] dX7_addJob_106 cm_X7_301 ⟨(Nat.le_of_ble_eq_true rfl), (Nat.le_of_ble_eq_true rfl)⟩ rfl rfl sh0 (Nat.le_of_ble_eq_true rfl) ⟨rfl, rfl⟩ hE44 (fun z41 ρ42 μ43 hz => ?_)
            replace h := h _ _ _ hz
            exact qX_ireturn rfl dX7_addJob_109 rfl ⟨(Nat.le_of_ble_eq_true rfl), (Nat.le_of_ble_eq_true rfl)⟩ h
          · replace h := h.2 hc
            refine qX_aload_n 0 dX7_addJob_64 rfl rfl (by decide) ?_
            refine qX_iconst dX7_addJob_65 (i32_of rfl) ?_
            obtain ⟨P, hE48, h⟩ := h
            refine qN_callV mX7_fail [_] _ 7 [] dX7_addJob_66 cm_X7_76 ⟨(Nat.le_of_ble_eq_true rfl), (Nat.le_of_ble_eq_true rfl)⟩ rfl rfl sh0 (Nat.le_of_ble_eq_true rfl) ⟨rfl, rfl⟩ hE48 (fun z45 ρ46 μ47 hz => ?_)
            replace h := h _ _ _ hz
            exact qX_ireturn rfl dX7_addJob_69 rfl ⟨(Nat.le_of_ble_eq_true rfl), (Nat.le_of_ble_eq_true rfl)⟩ h
      · replace h := h.2 hc
        refine qX_aload_n 0 dX7_addJob_33 rfl rfl (by decide) ?_
        refine qX_iconst dX7_addJob_34 (i32_of rfl) ?_
        obtain ⟨P, hE52, h⟩ := h
        refine qN_callV mX7_fail [_] _ 7 [] dX7_addJob_35 cm_X7_76 ⟨(Nat.le_of_ble_eq_true rfl), (Nat.le_of_ble_eq_true rfl)⟩ rfl rfl sh0 (Nat.le_of_ble_eq_true rfl) ⟨rfl, rfl⟩ hE52 (fun z49 ρ50 μ51 hz => ?_)
        replace h := h _ _ _ hz
        exact qX_ireturn rfl dX7_addJob_38 rfl ⟨(Nat.le_of_ble_eq_true rfl), (Nat.le_of_ble_eq_true rfl)⟩ h
    · replace h := h.2 hc
      refine qX_aload_n 0 dX7_addJob_19 rfl rfl (by decide) ?_
      refine qX_iconst dX7_addJob_20 (i32_of rfl) ?_
      obtain ⟨P, hE56, h⟩ := h
      refine qN_callV mX7_fail [_] _ 7 [] dX7_addJob_21 cm_X7_76 ⟨(Nat.le_of_ble_eq_true rfl), (Nat.le_of_ble_eq_true rfl)⟩ rfl rfl sh0 (Nat.le_of_ble_eq_true rfl) ⟨rfl, rfl⟩ hE56 (fun z53 ρ54 μ55 hz => ?_)
      replace h := h _ _ _ hz
      exact qX_ireturn rfl dX7_addJob_24 rfl ⟨(Nat.le_of_ble_eq_true rfl), (Nat.le_of_ble_eq_true rfl)⟩ h
set_option maxRecDepth 20000 in
theorem e_X7_removeJob {Post : Int → Rf → Mem → Prop} {ρ : Rf} {μ : Mem} {x1 : Int}
  (h : ∃ P : Int → Rf → Mem → Prop, qE mX7_isJob GG GG [qP 0, qI x1] ρ μ P ∧ ∀ (z1 : Int) (ρ2 : Rf) (μ3 : Mem), P z1 ρ2 μ3 → ((z1 ≠ 0 → isO 6 (ρ2 0 9) ∧ ∃ P : Int → Rf → Mem → Prop, qE mX1_push GG GG [qP 69, qP (ρ2 0 9)] ρ2 μ3 P ∧ ∀ (z6 : Int) (ρ7 : Rf) (μ8 : Mem), P z6 ρ7 μ8 → isO 6 (ρ7 0 9) ∧ ∃ P : Int → Rf → Mem → Prop, qE mX6_removeAt GG GG [qP (ρ7 0 9), qI x1] ρ7 μ8 P ∧ ∀ (z11 : Int) (ρ12 : Rf) (μ13 : Mem), P z11 ρ12 μ13 → isO 6 (ρ12 0 9) ∧ ∃ P : Int → Rf → Mem → Prop, qE mX7_changed GG GG [qP 0, qI (μ13 (ρ12 0 9) 6)] ρ12 μ13 P ∧ ∀ (z16 : Int) (ρ17 : Rf) (μ18 : Mem), P z16 ρ17 μ18 → Post z16 ρ17 μ18) ∧ (z1 = 0 → ∃ P : Int → Rf → Mem → Prop, qE mX7_fail GG GG [qP 0, qI 1] ρ2 μ3 P ∧ ∀ (z20 : Int) (ρ21 : Rf) (μ22 : Mem), P z20 ρ21 μ22 → Post z20 ρ21 μ22))) : qE mX7_removeJob GG GG [qP 0, qI x1] ρ μ Post := by
  refine qE_intro pl_X7_removeJob (Nat.le_of_ble_eq_true rfl) (Nat.le_refl _) ?_
  refine qX_aload_n 0 dX7_removeJob_0 rfl rfl (by decide) ?_
  refine qX_iload_n 1 dX7_removeJob_1 rfl rfl ?_
  obtain ⟨P, hE4, h⟩ := h
  refine qN_callV mX7_isJob [_] _ 7 [] dX7_removeJob_2 cm_X7_140 ⟨(Nat.le_of_ble_eq_true rfl), (Nat.le_of_ble_eq_true rfl)⟩ rfl rfl sh0 (Nat.le_of_ble_eq_true rfl) ⟨rfl, rfl⟩ hE4 (fun z1 ρ2 μ3 hz => ?_)
  replace h := h _ _ _ hz
  refine qX_if_ne 14 dX7_removeJob_5 rfl (fun hc => ?_) (fun hc => ?_)
  · replace h := h.1 hc
    refine qX_aload_n 0 dX7_removeJob_14 rfl rfl (by decide) ?_
    refine qX_getS 7 5 _ 68 dX7_removeJob_15 fs_X7_39 rfl rfl sh0 (x := 69) rfl ?_
    refine qX_aload_n 0 dX7_removeJob_18 rfl rfl (by decide) ?_
    refine qX_getR 7 9 _ dX7_removeJob_19 fs_X7_64 sh0 ?_
    have hO5 := h.1
    replace h := h.2
    obtain ⟨P, hE9, h⟩ := h
    refine qN_callV mX1_push [_] _ 1 [] dX7_removeJob_22 cm_X7_294 ⟨(Nat.le_of_ble_eq_true rfl), (Nat.le_of_ble_eq_true rfl)⟩ rfl rfl sh69 (Nat.le_of_ble_eq_true rfl) ⟨rfl, rfl⟩ hE9 (fun z6 ρ7 μ8 hz => ?_)
    replace h := h _ _ _ hz
    refine qX_aload_n 0 dX7_removeJob_25 rfl rfl (by decide) ?_
    refine qX_getR 7 9 _ dX7_removeJob_26 fs_X7_64 sh0 ?_
    refine qX_iload_n 1 dX7_removeJob_29 rfl rfl ?_
    have hO10 := h.1
    replace h := h.2
    obtain ⟨P, hE14, h⟩ := h
    refine qN_callV mX6_removeAt [_] _ 6 [] dX7_removeJob_30 cm_X7_279 ⟨(Nat.le_of_ble_eq_true rfl), (Nat.le_of_ble_eq_true rfl)⟩ rfl rfl hO10 (Nat.le_of_ble_eq_true rfl) ⟨rfl, rfl⟩ hE14 (fun z11 ρ12 μ13 hz => ?_)
    replace h := h _ _ _ hz
    refine qX_aload_n 0 dX7_removeJob_33 rfl rfl (by decide) ?_
    refine qX_aload_n 0 dX7_removeJob_34 rfl rfl (by decide) ?_
    refine qX_getR 7 9 _ dX7_removeJob_35 fs_X7_64 sh0 ?_
    have hO15 := h.1
    replace h := h.2
    refine qX_getI 6 6 _ dX7_removeJob_38 fs_X7_89 hO15 ?_
    obtain ⟨P, hE19, h⟩ := h
    refine qN_callV mX7_changed [_] _ 7 [] dX7_removeJob_41 cm_X7_301 ⟨(Nat.le_of_ble_eq_true rfl), (Nat.le_of_ble_eq_true rfl)⟩ rfl rfl sh0 (Nat.le_of_ble_eq_true rfl) ⟨rfl, rfl⟩ hE19 (fun z16 ρ17 μ18 hz => ?_)
    replace h := h _ _ _ hz
    exact qX_ireturn rfl dX7_removeJob_44 rfl ⟨(Nat.le_of_ble_eq_true rfl), (Nat.le_of_ble_eq_true rfl)⟩ h
  · replace h := h.2 hc
    refine qX_aload_n 0 dX7_removeJob_8 rfl rfl (by decide) ?_
    refine qX_iconst dX7_removeJob_9 (i32_of rfl) ?_
    obtain ⟨P, hE23, h⟩ := h
    refine qN_callV mX7_fail [_] _ 7 [] dX7_removeJob_10 cm_X7_76 ⟨(Nat.le_of_ble_eq_true rfl), (Nat.le_of_ble_eq_true rfl)⟩ rfl rfl sh0 (Nat.le_of_ble_eq_true rfl) ⟨rfl, rfl⟩ hE23 (fun z20 ρ21 μ22 hz => ?_)
    replace h := h _ _ _ hz
    exact qX_ireturn rfl dX7_removeJob_13 rfl ⟨(Nat.le_of_ble_eq_true rfl), (Nat.le_of_ble_eq_true rfl)⟩ h
set_option maxRecDepth 20000 in
theorem e_X7_moveJob {Post : Int → Rf → Mem → Prop} {ρ : Rf} {μ : Mem} {x1 : Int} {x2 : Int}
  (h : ∃ P : Int → Rf → Mem → Prop, qE mX7_isJob GG GG [qP 0, qI x1] ρ μ P ∧ ∀ (z1 : Int) (ρ2 : Rf) (μ3 : Mem), P z1 ρ2 μ3 → ((z1 = 0 → ∃ P : Int → Rf → Mem → Prop, qE mX7_fail GG GG [qP 0, qI 1] ρ2 μ3 P ∧ ∀ (z5 : Int) (ρ6 : Rf) (μ7 : Mem), P z5 ρ6 μ7 → Post z5 ρ6 μ7) ∧ (z1 ≠ 0 → ∃ P : Int → Rf → Mem → Prop, qE mX7_isJob GG GG [qP 0, qI x2] ρ2 μ3 P ∧ ∀ (z9 : Int) (ρ10 : Rf) (μ11 : Mem), P z9 ρ10 μ11 → ((z9 ≠ 0 → isO 6 (ρ10 0 9) ∧ ∃ P : Int → Rf → Mem → Prop, qE mX1_push GG GG [qP 69, qP (ρ10 0 9)] ρ10 μ11 P ∧ ∀ (z14 : Int) (ρ15 : Rf) (μ16 : Mem), P z14 ρ15 μ16 → qX mX7_moveJob GG Post GG (0, 0) 35 [some (qP 0), some (qI x1), some (qI x2), some (qI x1)] [] ρ15 μ16) ∧ (z9 = 0 → ∃ P : Int → Rf → Mem → Prop, qE mX7_fail GG GG [qP 0, qI 1] ρ10 μ11 P ∧ ∀ (z18 : Int) (ρ19 : Rf) (μ20 : Mem), P z18 ρ19 μ20 → Post z18 ρ19 μ20))))) : qE mX7_moveJob GG GG [qP 0, qI x1, qI x2] ρ μ Post := by
  refine qE_intro pl_X7_moveJob (Nat.le_of_ble_eq_true rfl) (Nat.le_refl _) ?_
  refine qX_aload_n 0 dX7_moveJob_0 rfl rfl (by decide) ?_
  refine qX_iload_n 1 dX7_moveJob_1 rfl rfl ?_
  obtain ⟨P, hE4, h⟩ := h
  refine qN_callV mX7_isJob [_] _ 7 [] dX7_moveJob_2 cm_X7_140 ⟨(Nat.le_of_ble_eq_true rfl), (Nat.le_of_ble_eq_true rfl)⟩ rfl rfl sh0 (Nat.le_of_ble_eq_true rfl) ⟨rfl, rfl⟩ hE4 (fun z1 ρ2 μ3 hz => ?_)
  replace h := h _ _ _ hz
  refine qX_if_eq 16 dX7_moveJob_5 rfl (fun hc => ?_) (fun hc => ?_)
  · replace h := h.1 hc
    refine qX_aload_n 0 dX7_moveJob_16 rfl rfl (by decide) ?_
    refine qX_iconst dX7_moveJob_17 (i32_of rfl) ?_
    obtain ⟨P, hE8, h⟩ := h
    refine qN_callV mX7_fail [_] _ 7 [] dX7_moveJob_18 cm_X7_76 ⟨(Nat.le_of_ble_eq_true rfl), (Nat.le_of_ble_eq_true rfl)⟩ rfl rfl sh0 (Nat.le_of_ble_eq_true rfl) ⟨rfl, rfl⟩ hE8 (fun z5 ρ6 μ7 hz => ?_)
    replace h := h _ _ _ hz
    exact qX_ireturn rfl dX7_moveJob_21 rfl ⟨(Nat.le_of_ble_eq_true rfl), (Nat.le_of_ble_eq_true rfl)⟩ h
  · replace h := h.2 hc
    refine qX_aload_n 0 dX7_moveJob_8 rfl rfl (by decide) ?_
    refine qX_iload_n 2 dX7_moveJob_9 rfl rfl ?_
    obtain ⟨P, hE12, h⟩ := h
    refine qN_callV mX7_isJob [_] _ 7 [] dX7_moveJob_10 cm_X7_140 ⟨(Nat.le_of_ble_eq_true rfl), (Nat.le_of_ble_eq_true rfl)⟩ rfl rfl sh0 (Nat.le_of_ble_eq_true rfl) ⟨rfl, rfl⟩ hE12 (fun z9 ρ10 μ11 hz => ?_)
    replace h := h _ _ _ hz
    refine qX_if_ne 22 dX7_moveJob_13 rfl (fun hc => ?_) (fun hc => ?_)
    · replace h := h.1 hc
      refine qX_aload_n 0 dX7_moveJob_22 rfl rfl (by decide) ?_
      refine qX_getS 7 5 _ 68 dX7_moveJob_23 fs_X7_39 rfl rfl sh0 (x := 69) rfl ?_
      refine qX_aload_n 0 dX7_moveJob_26 rfl rfl (by decide) ?_
      refine qX_getR 7 9 _ dX7_moveJob_27 fs_X7_64 sh0 ?_
      have hO13 := h.1
      replace h := h.2
      obtain ⟨P, hE17, h⟩ := h
      refine qN_callV mX1_push [_] _ 1 [] dX7_moveJob_30 cm_X7_294 ⟨(Nat.le_of_ble_eq_true rfl), (Nat.le_of_ble_eq_true rfl)⟩ rfl rfl sh69 (Nat.le_of_ble_eq_true rfl) ⟨rfl, rfl⟩ hE17 (fun z14 ρ15 μ16 hz => ?_)
      replace h := h _ _ _ hz
      refine qX_iload_n 1 dX7_moveJob_33 rfl rfl ?_
      refine qX_istore_n 3 dX7_moveJob_34 rfl (Nat.le_of_ble_eq_true rfl) rfl ?_
      exact qX_mask [true, true, true, true] h
    · replace h := h.2 hc
      refine qX_aload_n 0 dX7_moveJob_16 rfl rfl (by decide) ?_
      refine qX_iconst dX7_moveJob_17 (i32_of rfl) ?_
      obtain ⟨P, hE21, h⟩ := h
      refine qN_callV mX7_fail [_] _ 7 [] dX7_moveJob_18 cm_X7_76 ⟨(Nat.le_of_ble_eq_true rfl), (Nat.le_of_ble_eq_true rfl)⟩ rfl rfl sh0 (Nat.le_of_ble_eq_true rfl) ⟨rfl, rfl⟩ hE21 (fun z18 ρ19 μ20 hz => ?_)
      replace h := h _ _ _ hz
      exact qX_ireturn rfl dX7_moveJob_21 rfl ⟨(Nat.le_of_ble_eq_true rfl), (Nat.le_of_ble_eq_true rfl)⟩ h
set_option maxRecDepth 20000 in
theorem w_X7_moveJob_35 {Post : Int → Rf → Mem → Prop} {ρ : Rf} {μ : Mem} {x1 : Int} {x2 : Int} {x3 : Int}
  (h : ((x2 ≤ x3 → qX mX7_moveJob GG Post GG (0, 0) 59 [some (qP 0), none, some (qI x2), some (qI x1)] [] ρ μ) ∧ (x3 < x2 → i32 (x3 + 1) ∧ isO 6 (ρ 0 9) ∧ ∃ P : Int → Rf → Mem → Prop, qE mX6_exchange GG GG [qP (ρ 0 9), qI x3, qI (x3 + 1)] ρ μ P ∧ ∀ (z2 : Int) (ρ3 : Rf) (μ4 : Mem), P z2 ρ3 μ4 → i32 (x3 + 1) ∧ qX mX7_moveJob GG Post GG (0, 0) 35 [some (qP 0), some (qI x1), some (qI x2), some (qI (x3 + 1))] [] ρ3 μ4))) : qX mX7_moveJob GG Post GG (0, 0) 35 [some (qP 0), some (qI x1), some (qI x2), some (qI x3)] [] ρ μ := by
  refine qX_iload_n 3 dX7_moveJob_35 rfl rfl ?_
  refine qX_iload_n 2 dX7_moveJob_36 rfl rfl ?_
  refine qX_icmp_ge 57 dX7_moveJob_37 rfl (fun hc => ?_) (fun hc => ?_)
  · replace h := h.1 hc
    refine qX_iload_n 1 dX7_moveJob_57 rfl rfl ?_
    refine qX_istore_n 3 dX7_moveJob_58 rfl (Nat.le_of_ble_eq_true rfl) rfl ?_
    exact qX_mask [true, false, true, true] h
  · replace h := h.2 hc
    refine qX_aload_n 0 dX7_moveJob_40 rfl rfl (by decide) ?_
    refine qX_getR 7 9 _ dX7_moveJob_41 fs_X7_64 sh0 ?_
    refine qX_iload_n 3 dX7_moveJob_44 rfl rfl ?_
    refine qX_iload_n 3 dX7_moveJob_45 rfl rfl ?_
    refine qX_iconst dX7_moveJob_46 (i32_of rfl) ?_
    refine qR_iadd dX7_moveJob_47 h.1 ?_
    replace h := h.2
    have hO1 := h.1
    replace h := h.2
    obtain ⟨P, hE5, h⟩ := h
    refine qN_callV mX6_exchange [_, _] _ 6 [] dX7_moveJob_48 cm_X7_288 ⟨(Nat.le_of_ble_eq_true rfl), (Nat.le_of_ble_eq_true rfl)⟩ rfl rfl hO1 (Nat.le_of_ble_eq_true rfl) ⟨rfl, rfl⟩ hE5 (fun z2 ρ3 μ4 hz => ?_)
    replace h := h _ _ _ hz
    refine qR_iinc dX7_moveJob_51 rfl (Nat.le_of_ble_eq_true rfl) rfl h.1 ?_
    replace h := h.2
    refine qX_goto 35 dX7_moveJob_54 rfl ?_
    exact qX_mask [true, true, true, true] h
set_option maxRecDepth 20000 in
theorem w_X7_moveJob_59 {Post : Int → Rf → Mem → Prop} {ρ : Rf} {μ : Mem} {x2 : Int} {x3 : Int}
  (h : ((x3 ≤ x2 → ∃ P : Int → Rf → Mem → Prop, qE mX7_changed GG GG [qP 0, qI 0] ρ μ P ∧ ∀ (z1 : Int) (ρ2 : Rf) (μ3 : Mem), P z1 ρ2 μ3 → Post z1 ρ2 μ3) ∧ (x2 < x3 → i32 (x3 - 1) ∧ isO 6 (ρ 0 9) ∧ ∃ P : Int → Rf → Mem → Prop, qE mX6_exchange GG GG [qP (ρ 0 9), qI x3, qI (x3 - 1)] ρ μ P ∧ ∀ (z6 : Int) (ρ7 : Rf) (μ8 : Mem), P z6 ρ7 μ8 → i32 (x3 + (-1)) ∧ qX mX7_moveJob GG Post GG (0, 0) 59 [some (qP 0), none, some (qI x2), some (qI (x3 + (-1)))] [] ρ7 μ8))) : qX mX7_moveJob GG Post GG (0, 0) 59 [some (qP 0), none, some (qI x2), some (qI x3)] [] ρ μ := by
  refine qX_iload_n 3 dX7_moveJob_59 rfl rfl ?_
  refine qX_iload_n 2 dX7_moveJob_60 rfl rfl ?_
  refine qX_icmp_le 81 dX7_moveJob_61 rfl (fun hc => ?_) (fun hc => ?_)
  · replace h := h.1 hc
    refine qX_aload_n 0 dX7_moveJob_81 rfl rfl (by decide) ?_
    refine qX_iconst dX7_moveJob_82 (i32_of rfl) ?_
    obtain ⟨P, hE4, h⟩ := h
    refine qN_callV mX7_changed [_] _ 7 [] dX7_moveJob_83 cm_X7_301 ⟨(Nat.le_of_ble_eq_true rfl), (Nat.le_of_ble_eq_true rfl)⟩ rfl rfl sh0 (Nat.le_of_ble_eq_true rfl) ⟨rfl, rfl⟩ hE4 (fun z1 ρ2 μ3 hz => ?_)
    replace h := h _ _ _ hz
    exact qX_ireturn rfl dX7_moveJob_86 rfl ⟨(Nat.le_of_ble_eq_true rfl), (Nat.le_of_ble_eq_true rfl)⟩ h
  · replace h := h.2 hc
    refine qX_aload_n 0 dX7_moveJob_64 rfl rfl (by decide) ?_
    refine qX_getR 7 9 _ dX7_moveJob_65 fs_X7_64 sh0 ?_
    refine qX_iload_n 3 dX7_moveJob_68 rfl rfl ?_
    refine qX_iload_n 3 dX7_moveJob_69 rfl rfl ?_
    refine qX_iconst dX7_moveJob_70 (i32_of rfl) ?_
    refine qR_isub dX7_moveJob_71 h.1 ?_
    replace h := h.2
    have hO5 := h.1
    replace h := h.2
    obtain ⟨P, hE9, h⟩ := h
    refine qN_callV mX6_exchange [_, _] _ 6 [] dX7_moveJob_72 cm_X7_288 ⟨(Nat.le_of_ble_eq_true rfl), (Nat.le_of_ble_eq_true rfl)⟩ rfl rfl hO5 (Nat.le_of_ble_eq_true rfl) ⟨rfl, rfl⟩ hE9 (fun z6 ρ7 μ8 hz => ?_)
    replace h := h _ _ _ hz
    refine qR_iinc dX7_moveJob_75 rfl (Nat.le_of_ble_eq_true rfl) rfl h.1 ?_
    replace h := h.2
    refine qX_goto 59 dX7_moveJob_78 rfl ?_
    exact qX_mask [true, false, true, true] h
set_option maxRecDepth 20000 in
theorem e_X7_setDeparture {Post : Int → Rf → Mem → Prop} {ρ : Rf} {μ : Mem} {x1 : Int} {x2 : Int}
  (h : ∃ P : Int → Rf → Mem → Prop, qE mX7_isTrain GG GG [qP 0, qI x1] ρ μ P ∧ ∀ (z1 : Int) (ρ2 : Rf) (μ3 : Mem), P z1 ρ2 μ3 → ((z1 ≠ 0 → isO 0 (ρ2 0 8) ∧ (0 ≤ x1 ∧ x1 < 2) ∧ ((x2 < μ3 (ρ2 0 8 + 2) x1 → ∃ P : Int → Rf → Mem → Prop, qE mX7_fail GG GG [qP 0, qI 2] ρ2 μ3 P ∧ ∀ (z6 : Int) (ρ7 : Rf) (μ8 : Mem), P z6 ρ7 μ8 → Post z6 ρ7 μ8) ∧ (μ3 (ρ2 0 8 + 2) x1 ≤ x2 → ((x2 ≤ 999 → isO 6 (ρ2 0 9) ∧ ∃ P : Int → Rf → Mem → Prop, qE mX1_push GG GG [qP 69, qP (ρ2 0 9)] ρ2 μ3 P ∧ ∀ (z11 : Int) (ρ12 : Rf) (μ13 : Mem), P z11 ρ12 μ13 → isO 6 (ρ12 0 9) ∧ (0 ≤ x1 ∧ x1 < 2) ∧ (0 ≤ x1 ∧ x1 < 2) ∧ ∀ μ16, μ16 = up2 μ13 (ρ12 0 9 + 5) x1 x2 → ∃ P : Int → Rf → Mem → Prop, qE mX7_changed GG GG [qP 0, qI (μ13 (ρ12 0 9 + 5) x1)] ρ12 μ16 P ∧ ∀ (z17 : Int) (ρ18 : Rf) (μ19 : Mem), P z17 ρ18 μ19 → Post z17 ρ18 μ19) ∧ (999 < x2 → ∃ P : Int → Rf → Mem → Prop, qE mX7_fail GG GG [qP 0, qI 2] ρ2 μ3 P ∧ ∀ (z21 : Int) (ρ22 : Rf) (μ23 : Mem), P z21 ρ22 μ23 → Post z21 ρ22 μ23))))) ∧ (z1 = 0 → ∃ P : Int → Rf → Mem → Prop, qE mX7_fail GG GG [qP 0, qI 1] ρ2 μ3 P ∧ ∀ (z25 : Int) (ρ26 : Rf) (μ27 : Mem), P z25 ρ26 μ27 → Post z25 ρ26 μ27))) : qE mX7_setDeparture GG GG [qP 0, qI x1, qI x2] ρ μ Post := by
  refine qE_intro pl_X7_setDeparture (Nat.le_of_ble_eq_true rfl) (Nat.le_refl _) ?_
  refine qX_aload_n 0 dX7_setDeparture_0 rfl rfl (by decide) ?_
  refine qX_iload_n 1 dX7_setDeparture_1 rfl rfl ?_
  obtain ⟨P, hE4, h⟩ := h
  refine qN_callV mX7_isTrain [_] _ 7 [] dX7_setDeparture_2 cm_X7_98 ⟨(Nat.le_of_ble_eq_true rfl), (Nat.le_of_ble_eq_true rfl)⟩ rfl rfl sh0 (Nat.le_of_ble_eq_true rfl) ⟨rfl, rfl⟩ hE4 (fun z1 ρ2 μ3 hz => ?_)
  replace h := h _ _ _ hz
  refine qX_if_ne 14 dX7_setDeparture_5 rfl (fun hc => ?_) (fun hc => ?_)
  · replace h := h.1 hc
    refine qX_iload_n 2 dX7_setDeparture_14 rfl rfl ?_
    refine qX_aload_n 0 dX7_setDeparture_15 rfl rfl (by decide) ?_
    refine qX_getR 7 8 _ dX7_setDeparture_16 fs_X7_60 sh0 ?_
    have hO5 := h.1
    replace h := h.2
    refine qX_getS 0 1 _ 1 dX7_setDeparture_19 fs_X7_304 rfl rfl hO5 rfl ?_
    refine qX_iload_n 1 dX7_setDeparture_22 rfl rfl ?_
    refine qX_iald dX7_setDeparture_23 (ar0_1 hO5) h.1 ?_
    replace h := h.2
    refine qX_icmp_lt 34 dX7_setDeparture_24 rfl (fun hc => ?_) (fun hc => ?_)
    · replace h := h.1 hc
      refine qX_aload_n 0 dX7_setDeparture_34 rfl rfl (by decide) ?_
      refine qX_iconst dX7_setDeparture_35 (i32_of rfl) ?_
      obtain ⟨P, hE9, h⟩ := h
      refine qN_callV mX7_fail [_] _ 7 [] dX7_setDeparture_36 cm_X7_76 ⟨(Nat.le_of_ble_eq_true rfl), (Nat.le_of_ble_eq_true rfl)⟩ rfl rfl sh0 (Nat.le_of_ble_eq_true rfl) ⟨rfl, rfl⟩ hE9 (fun z6 ρ7 μ8 hz => ?_)
      replace h := h _ _ _ hz
      exact qX_ireturn rfl dX7_setDeparture_39 rfl ⟨(Nat.le_of_ble_eq_true rfl), (Nat.le_of_ble_eq_true rfl)⟩ h
    · replace h := h.2 hc
      refine qX_iload_n 2 dX7_setDeparture_27 rfl rfl ?_
      refine qX_sip dX7_setDeparture_28 rfl ?_
      refine qX_icmp_le 40 dX7_setDeparture_31 rfl (fun hc => ?_) (fun hc => ?_)
      · replace h := h.1 hc
        refine qX_aload_n 0 dX7_setDeparture_40 rfl rfl (by decide) ?_
        refine qX_getS 7 5 _ 68 dX7_setDeparture_41 fs_X7_39 rfl rfl sh0 (x := 69) rfl ?_
        refine qX_aload_n 0 dX7_setDeparture_44 rfl rfl (by decide) ?_
        refine qX_getR 7 9 _ dX7_setDeparture_45 fs_X7_64 sh0 ?_
        have hO10 := h.1
        replace h := h.2
        obtain ⟨P, hE14, h⟩ := h
        refine qN_callV mX1_push [_] _ 1 [] dX7_setDeparture_48 cm_X7_294 ⟨(Nat.le_of_ble_eq_true rfl), (Nat.le_of_ble_eq_true rfl)⟩ rfl rfl sh69 (Nat.le_of_ble_eq_true rfl) ⟨rfl, rfl⟩ hE14 (fun z11 ρ12 μ13 hz => ?_)
        replace h := h _ _ _ hz
        refine qX_aload_n 0 dX7_setDeparture_51 rfl rfl (by decide) ?_
        refine qX_getR 7 9 _ dX7_setDeparture_52 fs_X7_64 sh0 ?_
        have hO15 := h.1
        replace h := h.2
        refine qX_getS 6 4 _ 4 dX7_setDeparture_55 fs_X7_116 rfl rfl hO15 rfl ?_
        refine qX_iload_n 1 dX7_setDeparture_58 rfl rfl ?_
        refine qX_iald dX7_setDeparture_59 (ar6_4 hO15) h.1 ?_
        replace h := h.2
        refine qX_istore_n 3 dX7_setDeparture_60 rfl (Nat.le_of_ble_eq_true rfl) rfl ?_
        refine qX_aload_n 0 dX7_setDeparture_61 rfl rfl (by decide) ?_
        refine qX_getR 7 9 _ dX7_setDeparture_62 fs_X7_64 sh0 ?_
        refine qX_getS 6 4 _ 4 dX7_setDeparture_65 fs_X7_116 rfl rfl hO15 rfl ?_
        refine qX_iload_n 1 dX7_setDeparture_68 rfl rfl ?_
        refine qX_iload_n 2 dX7_setDeparture_69 rfl rfl ?_
        refine qX_iast dX7_setDeparture_70 (ar6_4 hO15) h.1 ?_
        replace h := h.2
        replace h := h _ rfl
        refine qX_aload_n 0 dX7_setDeparture_71 rfl rfl (by decide) ?_
        refine qX_iload_n 3 dX7_setDeparture_72 rfl rfl ?_
        obtain ⟨P, hE20, h⟩ := h
        refine qN_callV mX7_changed [_] _ 7 [] dX7_setDeparture_73 cm_X7_301 ⟨(Nat.le_of_ble_eq_true rfl), (Nat.le_of_ble_eq_true rfl)⟩ rfl rfl sh0 (Nat.le_of_ble_eq_true rfl) ⟨rfl, rfl⟩ hE20 (fun z17 ρ18 μ19 hz => ?_)
        replace h := h _ _ _ hz
        exact qX_ireturn rfl dX7_setDeparture_76 rfl ⟨(Nat.le_of_ble_eq_true rfl), (Nat.le_of_ble_eq_true rfl)⟩ h
      · replace h := h.2 hc
        refine qX_aload_n 0 dX7_setDeparture_34 rfl rfl (by decide) ?_
        refine qX_iconst dX7_setDeparture_35 (i32_of rfl) ?_
        obtain ⟨P, hE24, h⟩ := h
        refine qN_callV mX7_fail [_] _ 7 [] dX7_setDeparture_36 cm_X7_76 ⟨(Nat.le_of_ble_eq_true rfl), (Nat.le_of_ble_eq_true rfl)⟩ rfl rfl sh0 (Nat.le_of_ble_eq_true rfl) ⟨rfl, rfl⟩ hE24 (fun z21 ρ22 μ23 hz => ?_)
        replace h := h _ _ _ hz
        exact qX_ireturn rfl dX7_setDeparture_39 rfl ⟨(Nat.le_of_ble_eq_true rfl), (Nat.le_of_ble_eq_true rfl)⟩ h
  · replace h := h.2 hc
    refine qX_aload_n 0 dX7_setDeparture_8 rfl rfl (by decide) ?_
    refine qX_iconst dX7_setDeparture_9 (i32_of rfl) ?_
    obtain ⟨P, hE28, h⟩ := h
    refine qN_callV mX7_fail [_] _ 7 [] dX7_setDeparture_10 cm_X7_76 ⟨(Nat.le_of_ble_eq_true rfl), (Nat.le_of_ble_eq_true rfl)⟩ rfl rfl sh0 (Nat.le_of_ble_eq_true rfl) ⟨rfl, rfl⟩ hE28 (fun z25 ρ26 μ27 hz => ?_)
    replace h := h _ _ _ hz
    exact qX_ireturn rfl dX7_setDeparture_13 rfl ⟨(Nat.le_of_ble_eq_true rfl), (Nat.le_of_ble_eq_true rfl)⟩ h
set_option maxRecDepth 20000 in
theorem e_X7_setStock {Post : Int → Rf → Mem → Prop} {ρ : Rf} {μ : Mem} {x1 : Int} {x2 : Int} {x3 : Int}
  (h : ∃ P : Int → Rf → Mem → Prop, qE mX7_isStock GG GG [qP 0, qI x1, qI x2] ρ μ P ∧ ∀ (z1 : Int) (ρ2 : Rf) (μ3 : Mem), P z1 ρ2 μ3 → ((z1 ≠ 0 → ((x3 < 0 → ∃ P : Int → Rf → Mem → Prop, qE mX7_fail GG GG [qP 0, qI 2] ρ2 μ3 P ∧ ∀ (z5 : Int) (ρ6 : Rf) (μ7 : Mem), P z5 ρ6 μ7 → Post z5 ρ6 μ7) ∧ (0 ≤ x3 → ((x3 ≤ 999 → isO 6 (ρ2 0 9) ∧ ∃ P : Int → Rf → Mem → Prop, qE mX1_push GG GG [qP 69, qP (ρ2 0 9)] ρ2 μ3 P ∧ ∀ (z10 : Int) (ρ11 : Rf) (μ12 : Mem), P z10 ρ11 μ12 → ∃ P : Int → Rf → Mem → Prop, qE mX7_stockIndex GG GG [qI x1, qI x2] ρ11 μ12 P ∧ ∀ (z14 : Int) (ρ15 : Rf) (μ16 : Mem), P z14 ρ15 μ16 → isO 6 (ρ15 0 9) ∧ (0 ≤ z14 ∧ z14 < 12) ∧ (0 ≤ z14 ∧ z14 < 12) ∧ ∀ μ19, μ19 = up2 μ16 (ρ15 0 9 + 6) z14 x3 → ∃ P : Int → Rf → Mem → Prop, qE mX7_changed GG GG [qP 0, qI (μ16 (ρ15 0 9 + 6) z14)] ρ15 μ19 P ∧ ∀ (z20 : Int) (ρ21 : Rf) (μ22 : Mem), P z20 ρ21 μ22 → Post z20 ρ21 μ22) ∧ (999 < x3 → ∃ P : Int → Rf → Mem → Prop, qE mX7_fail GG GG [qP 0, qI 2] ρ2 μ3 P ∧ ∀ (z24 : Int) (ρ25 : Rf) (μ26 : Mem), P z24 ρ25 μ26 → Post z24 ρ25 μ26))))) ∧ (z1 = 0 → ∃ P : Int → Rf → Mem → Prop, qE mX7_fail GG GG [qP 0, qI 1] ρ2 μ3 P ∧ ∀ (z28 : Int) (ρ29 : Rf) (μ30 : Mem), P z28 ρ29 μ30 → Post z28 ρ29 μ30))) : qE mX7_setStock GG GG [qP 0, qI x1, qI x2, qI x3] ρ μ Post := by
  refine qE_intro pl_X7_setStock (Nat.le_of_ble_eq_true rfl) (Nat.le_refl _) ?_
  refine qX_aload_n 0 dX7_setStock_0 rfl rfl (by decide) ?_
  refine qX_iload_n 1 dX7_setStock_1 rfl rfl ?_
  refine qX_iload_n 2 dX7_setStock_2 rfl rfl ?_
  obtain ⟨P, hE4, h⟩ := h
  refine qN_callV mX7_isStock [_, _] _ 7 [] dX7_setStock_3 cm_X7_119 ⟨(Nat.le_of_ble_eq_true rfl), (Nat.le_of_ble_eq_true rfl)⟩ rfl rfl sh0 (Nat.le_of_ble_eq_true rfl) ⟨rfl, rfl⟩ hE4 (fun z1 ρ2 μ3 hz => ?_)
  replace h := h _ _ _ hz
  refine qX_if_ne 15 dX7_setStock_6 rfl (fun hc => ?_) (fun hc => ?_)
  · replace h := h.1 hc
    refine qX_iload_n 3 dX7_setStock_15 rfl rfl ?_
    refine qX_if_lt 26 dX7_setStock_16 rfl (fun hc => ?_) (fun hc => ?_)
    · replace h := h.1 hc
      refine qX_aload_n 0 dX7_setStock_26 rfl rfl (by decide) ?_
      refine qX_iconst dX7_setStock_27 (i32_of rfl) ?_
      obtain ⟨P, hE8, h⟩ := h
      refine qN_callV mX7_fail [_] _ 7 [] dX7_setStock_28 cm_X7_76 ⟨(Nat.le_of_ble_eq_true rfl), (Nat.le_of_ble_eq_true rfl)⟩ rfl rfl sh0 (Nat.le_of_ble_eq_true rfl) ⟨rfl, rfl⟩ hE8 (fun z5 ρ6 μ7 hz => ?_)
      replace h := h _ _ _ hz
      exact qX_ireturn rfl dX7_setStock_31 rfl ⟨(Nat.le_of_ble_eq_true rfl), (Nat.le_of_ble_eq_true rfl)⟩ h
    · replace h := h.2 hc
      refine qX_iload_n 3 dX7_setStock_19 rfl rfl ?_
      refine qX_sip dX7_setStock_20 rfl ?_
      refine qX_icmp_le 32 dX7_setStock_23 rfl (fun hc => ?_) (fun hc => ?_)
      · replace h := h.1 hc
        refine qX_aload_n 0 dX7_setStock_32 rfl rfl (by decide) ?_
        refine qX_getS 7 5 _ 68 dX7_setStock_33 fs_X7_39 rfl rfl sh0 (x := 69) rfl ?_
        refine qX_aload_n 0 dX7_setStock_36 rfl rfl (by decide) ?_
        refine qX_getR 7 9 _ dX7_setStock_37 fs_X7_64 sh0 ?_
        have hO9 := h.1
        replace h := h.2
        obtain ⟨P, hE13, h⟩ := h
        refine qN_callV mX1_push [_] _ 1 [] dX7_setStock_40 cm_X7_294 ⟨(Nat.le_of_ble_eq_true rfl), (Nat.le_of_ble_eq_true rfl)⟩ rfl rfl sh69 (Nat.le_of_ble_eq_true rfl) ⟨rfl, rfl⟩ hE13 (fun z10 ρ11 μ12 hz => ?_)
        replace h := h _ _ _ hz
        refine qX_iload_n 1 dX7_setStock_43 rfl rfl ?_
        refine qX_iload_n 2 dX7_setStock_44 rfl rfl ?_
        obtain ⟨P, hE17, h⟩ := h
        refine qN_callS mX7_stockIndex [_, _] [] dX7_setStock_45 cm_X7_126 ⟨(Nat.le_of_ble_eq_true rfl), (Nat.le_of_ble_eq_true rfl)⟩ rfl rfl (Nat.le_of_ble_eq_true rfl) ⟨rfl, rfl⟩ hE17 (fun z14 ρ15 μ16 hz => ?_)
        replace h := h _ _ _ hz
        refine qX_istore dX7_setStock_48 (Nat.le_of_ble_eq_true rfl) rfl ?_
        refine qX_aload_n 0 dX7_setStock_50 rfl rfl (by decide) ?_
        refine qX_getR 7 9 _ dX7_setStock_51 fs_X7_64 sh0 ?_
        have hO18 := h.1
        replace h := h.2
        refine qX_getS 6 5 _ 5 dX7_setStock_54 fs_X7_123 rfl rfl hO18 rfl ?_
        refine qX_iload dX7_setStock_57 rfl ?_
        refine qX_iald dX7_setStock_59 (ar6_5 hO18) h.1 ?_
        replace h := h.2
        refine qX_istore dX7_setStock_60 (Nat.le_of_ble_eq_true rfl) rfl ?_
        refine qX_aload_n 0 dX7_setStock_62 rfl rfl (by decide) ?_
        refine qX_getR 7 9 _ dX7_setStock_63 fs_X7_64 sh0 ?_
        refine qX_getS 6 5 _ 5 dX7_setStock_66 fs_X7_123 rfl rfl hO18 rfl ?_
        refine qX_iload dX7_setStock_69 rfl ?_
        refine qX_iload_n 3 dX7_setStock_71 rfl rfl ?_
        refine qX_iast dX7_setStock_72 (ar6_5 hO18) h.1 ?_
        replace h := h.2
        replace h := h _ rfl
        refine qX_aload_n 0 dX7_setStock_73 rfl rfl (by decide) ?_
        refine qX_iload dX7_setStock_74 rfl ?_
        obtain ⟨P, hE23, h⟩ := h
        refine qN_callV mX7_changed [_] _ 7 [] dX7_setStock_76 cm_X7_301 ⟨(Nat.le_of_ble_eq_true rfl), (Nat.le_of_ble_eq_true rfl)⟩ rfl rfl sh0 (Nat.le_of_ble_eq_true rfl) ⟨rfl, rfl⟩ hE23 (fun z20 ρ21 μ22 hz => ?_)
        replace h := h _ _ _ hz
        exact qX_ireturn rfl dX7_setStock_79 rfl ⟨(Nat.le_of_ble_eq_true rfl), (Nat.le_of_ble_eq_true rfl)⟩ h
      · replace h := h.2 hc
        refine qX_aload_n 0 dX7_setStock_26 rfl rfl (by decide) ?_
        refine qX_iconst dX7_setStock_27 (i32_of rfl) ?_
        obtain ⟨P, hE27, h⟩ := h
        refine qN_callV mX7_fail [_] _ 7 [] dX7_setStock_28 cm_X7_76 ⟨(Nat.le_of_ble_eq_true rfl), (Nat.le_of_ble_eq_true rfl)⟩ rfl rfl sh0 (Nat.le_of_ble_eq_true rfl) ⟨rfl, rfl⟩ hE27 (fun z24 ρ25 μ26 hz => ?_)
        replace h := h _ _ _ hz
        exact qX_ireturn rfl dX7_setStock_31 rfl ⟨(Nat.le_of_ble_eq_true rfl), (Nat.le_of_ble_eq_true rfl)⟩ h
  · replace h := h.2 hc
    refine qX_aload_n 0 dX7_setStock_9 rfl rfl (by decide) ?_
    refine qX_iconst dX7_setStock_10 (i32_of rfl) ?_
    obtain ⟨P, hE31, h⟩ := h
    refine qN_callV mX7_fail [_] _ 7 [] dX7_setStock_11 cm_X7_76 ⟨(Nat.le_of_ble_eq_true rfl), (Nat.le_of_ble_eq_true rfl)⟩ rfl rfl sh0 (Nat.le_of_ble_eq_true rfl) ⟨rfl, rfl⟩ hE31 (fun z28 ρ29 μ30 hz => ?_)
    replace h := h _ _ _ hz
    exact qX_ireturn rfl dX7_setStock_14 rfl ⟨(Nat.le_of_ble_eq_true rfl), (Nat.le_of_ble_eq_true rfl)⟩ h
set_option maxRecDepth 20000 in
theorem e_X7_applyBest {Post : Int → Rf → Mem → Prop} {ρ : Rf} {μ : Mem} {x1 : Int}
  (h : ∃ P : Int → Rf → Mem → Prop, qE mX7_isTrolley GG GG [qP 0, qI x1] ρ μ P ∧ ∀ (z1 : Int) (ρ2 : Rf) (μ3 : Mem), P z1 ρ2 μ3 → ((z1 ≠ 0 → isO 0 (ρ2 0 8) ∧ isO 6 (ρ2 0 9) ∧ ∃ P : Int → Rf → Mem → Prop, qE mX5_chooseBest GG GG [qP 141, qP (ρ2 0 8), qP (ρ2 0 9), qI x1] ρ2 μ3 P ∧ ∀ (z7 : Int) (ρ8 : Rf) (μ9 : Mem), P z7 ρ8 μ9 → isO 6 (ρ8 0 9) ∧ ∃ P : Int → Rf → Mem → Prop, qE mX1_push GG GG [qP 69, qP (ρ8 0 9)] ρ8 μ9 P ∧ ∀ (z12 : Int) (ρ13 : Rf) (μ14 : Mem), P z12 ρ13 μ14 → isO 6 (ρ13 0 9) ∧ ∃ P : Int → Rf → Mem → Prop, qE mX6_copyFrom GG GG [qP 55, qP (ρ13 0 9)] ρ13 μ14 P ∧ ∀ (z17 : Int) (ρ18 : Rf) (μ19 : Mem), P z17 ρ18 μ19 → qX mX7_applyBest GG Post GG (0, 0) 54 [some (qP 0), none, some (qI 0)] [] ρ18 μ19) ∧ (z1 = 0 → ∃ P : Int → Rf → Mem → Prop, qE mX7_fail GG GG [qP 0, qI 1] ρ2 μ3 P ∧ ∀ (z21 : Int) (ρ22 : Rf) (μ23 : Mem), P z21 ρ22 μ23 → Post z21 ρ22 μ23))) : qE mX7_applyBest GG GG [qP 0, qI x1] ρ μ Post := by
  refine qE_intro pl_X7_applyBest (Nat.le_of_ble_eq_true rfl) (Nat.le_refl _) ?_
  refine qX_aload_n 0 dX7_applyBest_0 rfl rfl (by decide) ?_
  refine qX_iload_n 1 dX7_applyBest_1 rfl rfl ?_
  obtain ⟨P, hE4, h⟩ := h
  refine qN_callV mX7_isTrolley [_] _ 7 [] dX7_applyBest_2 cm_X7_170 ⟨(Nat.le_of_ble_eq_true rfl), (Nat.le_of_ble_eq_true rfl)⟩ rfl rfl sh0 (Nat.le_of_ble_eq_true rfl) ⟨rfl, rfl⟩ hE4 (fun z1 ρ2 μ3 hz => ?_)
  replace h := h _ _ _ hz
  refine qX_if_ne 14 dX7_applyBest_5 rfl (fun hc => ?_) (fun hc => ?_)
  · replace h := h.1 hc
    refine qX_aload_n 0 dX7_applyBest_14 rfl rfl (by decide) ?_
    refine qX_getS 7 6 _ 140 dX7_applyBest_15 fs_X7_46 rfl rfl sh0 (x := 141) rfl ?_
    refine qX_aload_n 0 dX7_applyBest_18 rfl rfl (by decide) ?_
    refine qX_getR 7 8 _ dX7_applyBest_19 fs_X7_60 sh0 ?_
    refine qX_aload_n 0 dX7_applyBest_22 rfl rfl (by decide) ?_
    refine qX_getR 7 9 _ dX7_applyBest_23 fs_X7_64 sh0 ?_
    refine qX_iload_n 1 dX7_applyBest_26 rfl rfl ?_
    have hO5 := h.1
    replace h := h.2
    have hO6 := h.1
    replace h := h.2
    obtain ⟨P, hE10, h⟩ := h
    refine qN_callV mX5_chooseBest [_, _, _] _ 5 [] dX7_applyBest_27 cm_X7_240 ⟨(Nat.le_of_ble_eq_true rfl), (Nat.le_of_ble_eq_true rfl)⟩ rfl rfl sh141 (Nat.le_of_ble_eq_true rfl) ⟨rfl, rfl⟩ hE10 (fun z7 ρ8 μ9 hz => ?_)
    replace h := h _ _ _ hz
    refine qX_aload_n 0 dX7_applyBest_30 rfl rfl (by decide) ?_
    refine qX_getS 7 5 _ 68 dX7_applyBest_31 fs_X7_39 rfl rfl sh0 (x := 69) rfl ?_
    refine qX_aload_n 0 dX7_applyBest_34 rfl rfl (by decide) ?_
    refine qX_getR 7 9 _ dX7_applyBest_35 fs_X7_64 sh0 ?_
    have hO11 := h.1
    replace h := h.2
    obtain ⟨P, hE15, h⟩ := h
    refine qN_callV mX1_push [_] _ 1 [] dX7_applyBest_38 cm_X7_294 ⟨(Nat.le_of_ble_eq_true rfl), (Nat.le_of_ble_eq_true rfl)⟩ rfl rfl sh69 (Nat.le_of_ble_eq_true rfl) ⟨rfl, rfl⟩ hE15 (fun z12 ρ13 μ14 hz => ?_)
    replace h := h _ _ _ hz
    refine qX_aload_n 0 dX7_applyBest_41 rfl rfl (by decide) ?_
    refine qX_getS 7 3 _ 54 dX7_applyBest_42 fs_X7_29 rfl rfl sh0 (x := 55) rfl ?_
    refine qX_aload_n 0 dX7_applyBest_45 rfl rfl (by decide) ?_
    refine qX_getR 7 9 _ dX7_applyBest_46 fs_X7_64 sh0 ?_
    have hO16 := h.1
    replace h := h.2
    obtain ⟨P, hE20, h⟩ := h
    refine qN_callV mX6_copyFrom [_] _ 6 [] dX7_applyBest_49 cm_X7_267 ⟨(Nat.le_of_ble_eq_true rfl), (Nat.le_of_ble_eq_true rfl)⟩ rfl rfl sh55 (Nat.le_of_ble_eq_true rfl) ⟨rfl, rfl⟩ hE20 (fun z17 ρ18 μ19 hz => ?_)
    replace h := h _ _ _ hz
    refine qX_iconst dX7_applyBest_52 (i32_of rfl) ?_
    refine qX_istore_n 2 dX7_applyBest_53 rfl (Nat.le_of_ble_eq_true rfl) rfl ?_
    exact qX_mask [true, false, true] h
  · replace h := h.2 hc
    refine qX_aload_n 0 dX7_applyBest_8 rfl rfl (by decide) ?_
    refine qX_iconst dX7_applyBest_9 (i32_of rfl) ?_
    obtain ⟨P, hE24, h⟩ := h
    refine qN_callV mX7_fail [_] _ 7 [] dX7_applyBest_10 cm_X7_76 ⟨(Nat.le_of_ble_eq_true rfl), (Nat.le_of_ble_eq_true rfl)⟩ rfl rfl sh0 (Nat.le_of_ble_eq_true rfl) ⟨rfl, rfl⟩ hE24 (fun z21 ρ22 μ23 hz => ?_)
    replace h := h _ _ _ hz
    exact qX_ireturn rfl dX7_applyBest_13 rfl ⟨(Nat.le_of_ble_eq_true rfl), (Nat.le_of_ble_eq_true rfl)⟩ h
set_option maxRecDepth 20000 in
theorem w_X7_applyBest_54 {Post : Int → Rf → Mem → Prop} {ρ : Rf} {μ : Mem} {x2 : Int}
  (h : ((μ 141 4 ≤ x2 → i32 ((μ 141 2) - 1) ∧ qX mX7_applyBest GG Post GG (0, 0) 110 [some (qP 0), none, some (qI ((μ 141 2) - 1))] [] ρ μ) ∧ (x2 < μ 141 4 → (0 ≤ x2 ∧ x2 < 8) ∧ (0 ≤ x2 ∧ x2 < 8) ∧ isO 6 (ρ 0 9) ∧ ∃ P : Int → Rf → Mem → Prop, qE mX6_takeJob GG GG [qP (ρ 0 9), qP 55, qI (μ 143 x2), qI (μ 142 x2)] ρ μ P ∧ ∀ (z2 : Int) (ρ3 : Rf) (μ4 : Mem), P z2 ρ3 μ4 → i32 (x2 + 1) ∧ qX mX7_applyBest GG Post GG (0, 0) 54 [some (qP 0), none, some (qI (x2 + 1))] [] ρ3 μ4))) : qX mX7_applyBest GG Post GG (0, 0) 54 [some (qP 0), none, some (qI x2)] [] ρ μ := by
  refine qX_iload_n 2 dX7_applyBest_54 rfl rfl ?_
  refine qX_aload_n 0 dX7_applyBest_55 rfl rfl (by decide) ?_
  refine qX_getS 7 6 _ 140 dX7_applyBest_56 fs_X7_46 rfl rfl sh0 (x := 141) rfl ?_
  refine qX_getI 5 4 _ dX7_applyBest_59 fs_X7_250 sh141 ?_
  refine qX_icmp_ge 100 dX7_applyBest_62 rfl (fun hc => ?_) (fun hc => ?_)
  · replace h := h.1 hc
    refine qX_aload_n 0 dX7_applyBest_100 rfl rfl (by decide) ?_
    refine qX_getS 7 6 _ 140 dX7_applyBest_101 fs_X7_46 rfl rfl sh0 (x := 141) rfl ?_
    refine qX_getI 5 2 _ dX7_applyBest_104 fs_X7_314 sh141 ?_
    refine qX_iconst dX7_applyBest_107 (i32_of rfl) ?_
    refine qR_isub dX7_applyBest_108 h.1 ?_
    replace h := h.2
    refine qX_istore_n 2 dX7_applyBest_109 rfl (Nat.le_of_ble_eq_true rfl) rfl ?_
    exact qX_mask [true, false, true] h
  · replace h := h.2 hc
    refine qX_aload_n 0 dX7_applyBest_65 rfl rfl (by decide) ?_
    refine qX_getR 7 9 _ dX7_applyBest_66 fs_X7_64 sh0 ?_
    refine qX_aload_n 0 dX7_applyBest_69 rfl rfl (by decide) ?_
    refine qX_getS 7 3 _ 54 dX7_applyBest_70 fs_X7_29 rfl rfl sh0 (x := 55) rfl ?_
    refine qX_aload_n 0 dX7_applyBest_73 rfl rfl (by decide) ?_
    refine qX_getS 7 6 _ 140 dX7_applyBest_74 fs_X7_46 rfl rfl sh0 (x := 141) rfl ?_
    refine qX_getS 5 1 _ 1 dX7_applyBest_77 fs_X7_253 rfl rfl sh141 (x := 143) rfl ?_
    refine qX_iload_n 2 dX7_applyBest_80 rfl rfl ?_
    refine qX_iald dX7_applyBest_81 sh143 h.1 ?_
    replace h := h.2
    refine qX_aload_n 0 dX7_applyBest_82 rfl rfl (by decide) ?_
    refine qX_getS 7 6 _ 140 dX7_applyBest_83 fs_X7_46 rfl rfl sh0 (x := 141) rfl ?_
    refine qX_getS 5 0 _ 0 dX7_applyBest_86 fs_X7_307 rfl rfl sh141 (x := 142) rfl ?_
    refine qX_iload_n 2 dX7_applyBest_89 rfl rfl ?_
    refine qX_iald dX7_applyBest_90 sh142 h.1 ?_
    replace h := h.2
    have hO1 := h.1
    replace h := h.2
    obtain ⟨P, hE5, h⟩ := h
    refine qN_callV mX6_takeJob [_, _, _] _ 6 [] dX7_applyBest_91 cm_X7_310 ⟨(Nat.le_of_ble_eq_true rfl), (Nat.le_of_ble_eq_true rfl)⟩ rfl rfl hO1 (Nat.le_of_ble_eq_true rfl) ⟨rfl, rfl⟩ hE5 (fun z2 ρ3 μ4 hz => ?_)
    replace h := h _ _ _ hz
    refine qR_iinc dX7_applyBest_94 rfl (Nat.le_of_ble_eq_true rfl) rfl h.1 ?_
    replace h := h.2
    refine qX_goto 54 dX7_applyBest_97 rfl ?_
    exact qX_mask [true, false, true] h
set_option maxRecDepth 20000 in
theorem w_X7_applyBest_110 {Post : Int → Rf → Mem → Prop} {ρ : Rf} {μ : Mem} {x2 : Int}
  (h : ((x2 < μ 141 4 → i32 ((μ 141 2) - (μ 141 4)) ∧ ∃ P : Int → Rf → Mem → Prop, qE mX7_changed GG GG [qP 0, qI ((μ 141 2) - (μ 141 4))] ρ μ P ∧ ∀ (z1 : Int) (ρ2 : Rf) (μ3 : Mem), P z1 ρ2 μ3 → Post z1 ρ2 μ3) ∧ (μ 141 4 ≤ x2 → (0 ≤ x2 ∧ x2 < 8) ∧ isO 6 (ρ 0 9) ∧ ∃ P : Int → Rf → Mem → Prop, qE mX6_removeAt GG GG [qP (ρ 0 9), qI (μ 142 x2)] ρ μ P ∧ ∀ (z6 : Int) (ρ7 : Rf) (μ8 : Mem), P z6 ρ7 μ8 → i32 (x2 + (-1)) ∧ qX mX7_applyBest GG Post GG (0, 0) 110 [some (qP 0), none, some (qI (x2 + (-1)))] [] ρ7 μ8))) : qX mX7_applyBest GG Post GG (0, 0) 110 [some (qP 0), none, some (qI x2)] [] ρ μ := by
  refine qX_iload_n 2 dX7_applyBest_110 rfl rfl ?_
  refine qX_aload_n 0 dX7_applyBest_111 rfl rfl (by decide) ?_
  refine qX_getS 7 6 _ 140 dX7_applyBest_112 fs_X7_46 rfl rfl sh0 (x := 141) rfl ?_
  refine qX_getI 5 4 _ dX7_applyBest_115 fs_X7_250 sh141 ?_
  refine qX_icmp_lt 143 dX7_applyBest_118 rfl (fun hc => ?_) (fun hc => ?_)
  · replace h := h.1 hc
    refine qX_aload_n 0 dX7_applyBest_143 rfl rfl (by decide) ?_
    refine qX_aload_n 0 dX7_applyBest_144 rfl rfl (by decide) ?_
    refine qX_getS 7 6 _ 140 dX7_applyBest_145 fs_X7_46 rfl rfl sh0 (x := 141) rfl ?_
    refine qX_getI 5 2 _ dX7_applyBest_148 fs_X7_314 sh141 ?_
    refine qX_aload_n 0 dX7_applyBest_151 rfl rfl (by decide) ?_
    refine qX_getS 7 6 _ 140 dX7_applyBest_152 fs_X7_46 rfl rfl sh0 (x := 141) rfl ?_
    refine qX_getI 5 4 _ dX7_applyBest_155 fs_X7_250 sh141 ?_
    refine qR_isub dX7_applyBest_158 h.1 ?_
    replace h := h.2
    obtain ⟨P, hE4, h⟩ := h
    refine qN_callV mX7_changed [_] _ 7 [] dX7_applyBest_159 cm_X7_301 ⟨(Nat.le_of_ble_eq_true rfl), (Nat.le_of_ble_eq_true rfl)⟩ rfl rfl sh0 (Nat.le_of_ble_eq_true rfl) ⟨rfl, rfl⟩ hE4 (fun z1 ρ2 μ3 hz => ?_)
    replace h := h _ _ _ hz
    exact qX_ireturn rfl dX7_applyBest_162 rfl ⟨(Nat.le_of_ble_eq_true rfl), (Nat.le_of_ble_eq_true rfl)⟩ h
  · replace h := h.2 hc
    refine qX_aload_n 0 dX7_applyBest_121 rfl rfl (by decide) ?_
    refine qX_getR 7 9 _ dX7_applyBest_122 fs_X7_64 sh0 ?_
    refine qX_aload_n 0 dX7_applyBest_125 rfl rfl (by decide) ?_
    refine qX_getS 7 6 _ 140 dX7_applyBest_126 fs_X7_46 rfl rfl sh0 (x := 141) rfl ?_
    refine qX_getS 5 0 _ 0 dX7_applyBest_129 fs_X7_307 rfl rfl sh141 (x := 142) rfl ?_
    refine qX_iload_n 2 dX7_applyBest_132 rfl rfl ?_
    refine qX_iald dX7_applyBest_133 sh142 h.1 ?_
    replace h := h.2
    have hO5 := h.1
    replace h := h.2
    obtain ⟨P, hE9, h⟩ := h
    refine qN_callV mX6_removeAt [_] _ 6 [] dX7_applyBest_134 cm_X7_279 ⟨(Nat.le_of_ble_eq_true rfl), (Nat.le_of_ble_eq_true rfl)⟩ rfl rfl hO5 (Nat.le_of_ble_eq_true rfl) ⟨rfl, rfl⟩ hE9 (fun z6 ρ7 μ8 hz => ?_)
    replace h := h _ _ _ hz
    refine qR_iinc dX7_applyBest_137 rfl (Nat.le_of_ble_eq_true rfl) rfl h.1 ?_
    replace h := h.2
    refine qX_goto 110 dX7_applyBest_140 rfl ?_
    exact qX_mask [true, false, true] h
set_option maxRecDepth 20000 in
theorem e_X7_undo {Post : Int → Rf → Mem → Prop} {ρ : Rf} {μ : Mem} 
  (h : ((μ 0 10 ≠ 0 → ((μ 69 1 ≠ 0 → isO 6 (ρ 0 9) ∧ ∃ P : Int → Rf → Mem → Prop, qE mX1_popInto GG GG [qP 69, qP (ρ 0 9)] ρ μ P ∧ ∀ (z2 : Int) (ρ3 : Rf) (μ4 : Mem), P z2 ρ3 μ4 → ∃ P : Int → Rf → Mem → Prop, qE mX7_changed GG GG [qP 0, qI (μ4 69 1)] ρ3 μ4 P ∧ ∀ (z6 : Int) (ρ7 : Rf) (μ8 : Mem), P z6 ρ7 μ8 → Post z6 ρ7 μ8) ∧ (μ 69 1 = 0 → ∃ P : Int → Rf → Mem → Prop, qE mX7_fail GG GG [qP 0, qI 6] ρ μ P ∧ ∀ (z10 : Int) (ρ11 : Rf) (μ12 : Mem), P z10 ρ11 μ12 → Post z10 ρ11 μ12))) ∧ (μ 0 10 = 0 → ∃ P : Int → Rf → Mem → Prop, qE mX7_fail GG GG [qP 0, qI 1] ρ μ P ∧ ∀ (z14 : Int) (ρ15 : Rf) (μ16 : Mem), P z14 ρ15 μ16 → Post z14 ρ15 μ16))) : qE mX7_undo GG GG [qP 0] ρ μ Post := by
  refine qE_intro pl_X7_undo (Nat.le_of_ble_eq_true rfl) (Nat.le_refl _) ?_
  refine qX_aload_n 0 dX7_undo_0 rfl rfl (by decide) ?_
  refine qX_getI 7 10 _ dX7_undo_1 fs_X7_106 sh0 ?_
  refine qX_if_ne 13 dX7_undo_4 rfl (fun hc => ?_) (fun hc => ?_)
  · replace h := h.1 hc
    refine qX_aload_n 0 dX7_undo_13 rfl rfl (by decide) ?_
    refine qX_getS 7 5 _ 68 dX7_undo_14 fs_X7_39 rfl rfl sh0 (x := 69) rfl ?_
    refine qX_getI 1 1 _ dX7_undo_17 fs_X7_317 sh69 ?_
    refine qX_if_ne 30 dX7_undo_20 rfl (fun hc => ?_) (fun hc => ?_)
    · replace h := h.1 hc
      refine qX_aload_n 0 dX7_undo_30 rfl rfl (by decide) ?_
      refine qX_getS 7 5 _ 68 dX7_undo_31 fs_X7_39 rfl rfl sh0 (x := 69) rfl ?_
      refine qX_aload_n 0 dX7_undo_34 rfl rfl (by decide) ?_
      refine qX_getR 7 9 _ dX7_undo_35 fs_X7_64 sh0 ?_
      have hO1 := h.1
      replace h := h.2
      obtain ⟨P, hE5, h⟩ := h
      refine qN_callV mX1_popInto [_] _ 1 [] dX7_undo_38 cm_X7_318 ⟨(Nat.le_of_ble_eq_true rfl), (Nat.le_of_ble_eq_true rfl)⟩ rfl rfl sh69 (Nat.le_of_ble_eq_true rfl) ⟨rfl, rfl⟩ hE5 (fun z2 ρ3 μ4 hz => ?_)
      replace h := h _ _ _ hz
      refine qX_aload_n 0 dX7_undo_41 rfl rfl (by decide) ?_
      refine qX_aload_n 0 dX7_undo_42 rfl rfl (by decide) ?_
      refine qX_getS 7 5 _ 68 dX7_undo_43 fs_X7_39 rfl rfl sh0 (x := 69) rfl ?_
      refine qX_getI 1 1 _ dX7_undo_46 fs_X7_317 sh69 ?_
      obtain ⟨P, hE9, h⟩ := h
      refine qN_callV mX7_changed [_] _ 7 [] dX7_undo_49 cm_X7_301 ⟨(Nat.le_of_ble_eq_true rfl), (Nat.le_of_ble_eq_true rfl)⟩ rfl rfl sh0 (Nat.le_of_ble_eq_true rfl) ⟨rfl, rfl⟩ hE9 (fun z6 ρ7 μ8 hz => ?_)
      replace h := h _ _ _ hz
      exact qX_ireturn rfl dX7_undo_52 rfl ⟨(Nat.le_of_ble_eq_true rfl), (Nat.le_of_ble_eq_true rfl)⟩ h
    · replace h := h.2 hc
      refine qX_aload_n 0 dX7_undo_23 rfl rfl (by decide) ?_
      refine qX_bip dX7_undo_24 rfl ?_
      obtain ⟨P, hE13, h⟩ := h
      refine qN_callV mX7_fail [_] _ 7 [] dX7_undo_26 cm_X7_76 ⟨(Nat.le_of_ble_eq_true rfl), (Nat.le_of_ble_eq_true rfl)⟩ rfl rfl sh0 (Nat.le_of_ble_eq_true rfl) ⟨rfl, rfl⟩ hE13 (fun z10 ρ11 μ12 hz => ?_)
      replace h := h _ _ _ hz
      exact qX_ireturn rfl dX7_undo_29 rfl ⟨(Nat.le_of_ble_eq_true rfl), (Nat.le_of_ble_eq_true rfl)⟩ h
  · replace h := h.2 hc
    refine qX_aload_n 0 dX7_undo_7 rfl rfl (by decide) ?_
    refine qX_iconst dX7_undo_8 (i32_of rfl) ?_
    obtain ⟨P, hE17, h⟩ := h
    refine qN_callV mX7_fail [_] _ 7 [] dX7_undo_9 cm_X7_76 ⟨(Nat.le_of_ble_eq_true rfl), (Nat.le_of_ble_eq_true rfl)⟩ rfl rfl sh0 (Nat.le_of_ble_eq_true rfl) ⟨rfl, rfl⟩ hE17 (fun z14 ρ15 μ16 hz => ?_)
    replace h := h _ _ _ hz
    exact qX_ireturn rfl dX7_undo_12 rfl ⟨(Nat.le_of_ble_eq_true rfl), (Nat.le_of_ble_eq_true rfl)⟩ h
