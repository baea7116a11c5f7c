/-! ===== conditions of the methods, from cut to cut (generated, part 4) ===== -/
set_option maxRecDepth 20000 in
theorem e_X8_readCar {Post : Int → Rf → Mem → Prop} {ρ : Rf} {μ : Mem} 
  (h : ∃ P : Int → Rf → Mem → Prop, qE mX8_advance GG GG [qP 178] ρ μ P ∧ ∀ (z1 : Int) (ρ2 : Rf) (μ3 : Mem), P z1 ρ2 μ3 → ∃ P : Int → Rf → Mem → Prop, qE mX8_peekTrain GG GG [qP 178] ρ2 μ3 P ∧ ∀ (z5 : Int) (ρ6 : Rf) (μ7 : Mem), P z5 ρ6 μ7 → i32 (4 + z5) ∧ (0 ≤ 4 + z5 ∧ 4 + z5 < 188) ∧ ((μ7 181 (4 + z5) ≠ 5 → qX mX8_readCar GG Post GG (0, 0) 26 [some (qP 178), some (qI z5), none, none, none, none] [] ρ6 μ7) ∧ (μ7 181 (4 + z5) = 5 → ∃ P : Int → Rf → Mem → Prop, qE mX8_report GG GG [qP 178, qI 4] ρ6 μ7 P ∧ ∀ (z9 : Int) (ρ10 : Rf) (μ11 : Mem), P z9 ρ10 μ11 → qX mX8_readCar GG Post GG (0, 0) 26 [some (qP 178), some (qI z5), none, none, none, none] [] ρ10 μ11))) : qE mX8_readCar GG GG [qP 178] ρ μ Post := by
  refine qE_intro pl_X8_readCar (Nat.le_of_ble_eq_true rfl) (Nat.le_refl _) ?_
  refine qX_aload_n 0 dX8_readCar_0 rfl rfl (by decide) ?_
  obtain ⟨P, hE4, h⟩ := h
  refine qN_callV mX8_advance [] _ 8 [] dX8_readCar_1 cm_X8_171 ⟨(Nat.le_of_ble_eq_true rfl), (Nat.le_of_ble_eq_true rfl)⟩ rfl rfl sh178 (Nat.le_of_ble_eq_true rfl) ⟨rfl, rfl⟩ hE4 (fun z1 ρ2 μ3 hz => ?_)
  replace h := h _ _ _ hz
  refine qX_aload_n 0 dX8_readCar_4 rfl rfl (by decide) ?_
  obtain ⟨P, hE8, h⟩ := h
  refine qN_callV mX8_peekTrain [] _ 8 [] dX8_readCar_5 cm_X8_188 ⟨(Nat.le_of_ble_eq_true rfl), (Nat.le_of_ble_eq_true rfl)⟩ rfl rfl sh178 (Nat.le_of_ble_eq_true rfl) ⟨rfl, rfl⟩ hE8 (fun z5 ρ6 μ7 hz => ?_)
  replace h := h _ _ _ hz
  refine qX_istore_n 1 dX8_readCar_8 rfl (Nat.le_of_ble_eq_true rfl) rfl ?_
  refine qX_aload_n 0 dX8_readCar_9 rfl rfl (by decide) ?_
  refine qX_getS 8 13 _ 2 dX8_readCar_10 fs_X8_20 rfl rfl sh178 (x := 181) rfl ?_
  refine qX_iconst dX8_readCar_13 (i32_of rfl) ?_
  refine qX_iload_n 1 dX8_readCar_14 rfl rfl ?_
  refine qR_iadd dX8_readCar_15 h.1 ?_
  replace h := h.2
  refine qX_iald dX8_readCar_16 sh181 h.1 ?_
  replace h := h.2
  refine qX_iconst dX8_readCar_17 (i32_of rfl) ?_
  refine qX_icmp_ne 26 dX8_readCar_18 rfl (fun hc => ?_) (fun hc => ?_)
  · replace h := h.1 hc
    exact qX_mask [true, true, false, false, false, false] h
  · replace h := h.2 hc
    refine qX_aload_n 0 dX8_readCar_21 rfl rfl (by decide) ?_
    refine qX_iconst dX8_readCar_22 (i32_of rfl) ?_
    obtain ⟨P, hE12, h⟩ := h
    refine qN_callV mX8_report [_] _ 8 [] dX8_readCar_23 cm_X8_168 ⟨(Nat.le_of_ble_eq_true rfl), (Nat.le_of_ble_eq_true rfl)⟩ rfl rfl sh178 (Nat.le_of_ble_eq_true rfl) ⟨rfl, rfl⟩ hE12 (fun z9 ρ10 μ11 hz => ?_)
    replace h := h _ _ _ hz
    exact qX_mask [true, true, false, false, false, false] h
set_option maxRecDepth 20000 in
theorem w_X8_readCar_26 {Post : Int → Rf → Mem → Prop} {ρ : Rf} {μ : Mem} {x1 : Int}
  (h : ∃ P : Int → Rf → Mem → Prop, qE mX8_advance GG GG [qP 178] ρ μ P ∧ ∀ (z1 : Int) (ρ2 : Rf) (μ3 : Mem), P z1 ρ2 μ3 → ∃ P : Int → Rf → Mem → Prop, qE mX8_number GG GG [qP 178, qI 0, qI 99] ρ2 μ3 P ∧ ∀ (z5 : Int) (ρ6 : Rf) (μ7 : Mem), P z5 ρ6 μ7 → ∃ P : Int → Rf → Mem → Prop, qE mX8_number GG GG [qP 178, qI 0, qI 99] ρ6 μ7 P ∧ ∀ (z9 : Int) (ρ10 : Rf) (μ11 : Mem), P z9 ρ10 μ11 → ∃ P : Int → Rf → Mem → Prop, qE mX8_number GG GG [qP 178, qI 0, qI 99] ρ10 μ11 P ∧ ∀ (z13 : Int) (ρ14 : Rf) (μ15 : Mem), P z13 ρ14 μ15 → ((μ15 178 6 ≤ 0 → i32 (5 * x1) ∧ i32 (4 + x1) ∧ (0 ≤ 4 + x1 ∧ 4 + x1 < 188) ∧ i32 ((5 * x1) + (μ15 181 (4 + x1))) ∧ i32 (6 + ((5 * x1) + (μ15 181 (4 + x1)))) ∧ (0 ≤ 6 + ((5 * x1) + (μ15 181 (4 + x1))) ∧ 6 + ((5 * x1) + (μ15 181 (4 + x1))) < 188) ∧ ∀ μ17, μ17 = up2 μ15 181 (6 + ((5 * x1) + (μ15 181 (4 + x1)))) z5 → i32 (16 + ((5 * x1) + (μ15 181 (4 + x1)))) ∧ (0 ≤ 16 + ((5 * x1) + (μ15 181 (4 + x1))) ∧ 16 + ((5 * x1) + (μ15 181 (4 + x1))) < 188) ∧ ∀ μ18, μ18 = up2 μ17 181 (16 + ((5 * x1) + (μ15 181 (4 + x1)))) z9 → i32 (26 + ((5 * x1) + (μ15 181 (4 + x1)))) ∧ (0 ≤ 26 + ((5 * x1) + (μ15 181 (4 + x1))) ∧ 26 + ((5 * x1) + (μ15 181 (4 + x1))) < 188) ∧ ∀ μ19, μ19 = up2 μ18 181 (26 + ((5 * x1) + (μ15 181 (4 + x1)))) z13 → i32 (4 + x1) ∧ (0 ≤ 4 + x1 ∧ 4 + x1 < 188) ∧ i32 ((μ19 181 (4 + x1)) + 1) ∧ (0 ≤ 4 + x1 ∧ 4 + x1 < 188) ∧ ∀ μ20, μ20 = up2 μ19 181 (4 + x1) ((μ19 181 (4 + x1)) + 1) → Post 0 ρ14 μ20) ∧ (0 < μ15 178 6 → Post 0 ρ14 μ15))) : qX mX8_readCar GG Post GG (0, 0) 26 [some (qP 178), some (qI x1), none, none, none, none] [] ρ μ := by
  refine qX_aload_n 0 dX8_readCar_26 rfl rfl (by decide) ?_
  obtain ⟨P, hE4, h⟩ := h
  refine qN_callV mX8_advance [] _ 8 [] dX8_readCar_27 cm_X8_171 ⟨(Nat.le_of_ble_eq_true rfl), (Nat.le_of_ble_eq_true rfl)⟩ rfl rfl sh178 (Nat.le_of_ble_eq_true rfl) ⟨rfl, rfl⟩ hE4 (fun z1 ρ2 μ3 hz => ?_)
  replace h := h _ _ _ hz
  refine qX_aload_n 0 dX8_readCar_30 rfl rfl (by decide) ?_
  refine qX_iconst dX8_readCar_31 (i32_of rfl) ?_
  refine qX_bip dX8_readCar_32 rfl ?_
  obtain ⟨P, hE8, h⟩ := h
  refine qN_callV mX8_number [_, _] _ 8 [] dX8_readCar_34 cm_X8_185 ⟨(Nat.le_of_ble_eq_true rfl), (Nat.le_of_ble_eq_true rfl)⟩ rfl rfl sh178 (Nat.le_of_ble_eq_true rfl) ⟨rfl, rfl⟩ hE8 (fun z5 ρ6 μ7 hz => ?_)
  replace h := h _ _ _ hz
  refine qX_istore_n 2 dX8_readCar_37 rfl (Nat.le_of_ble_eq_true rfl) rfl ?_
  refine qX_aload_n 0 dX8_readCar_38 rfl rfl (by decide) ?_
  refine qX_iconst dX8_readCar_39 (i32_of rfl) ?_
  refine qX_bip dX8_readCar_40 rfl ?_
  obtain ⟨P, hE12, h⟩ := h
  refine qN_callV mX8_number [_, _] _ 8 [] dX8_readCar_42 cm_X8_185 ⟨(Nat.le_of_ble_eq_true rfl), (Nat.le_of_ble_eq_true rfl)⟩ rfl rfl sh178 (Nat.le_of_ble_eq_true rfl) ⟨rfl, rfl⟩ hE12 (fun z9 ρ10 μ11 hz => ?_)
  replace h := h _ _ _ hz
  refine qX_istore_n 3 dX8_readCar_45 rfl (Nat.le_of_ble_eq_true rfl) rfl ?_
  refine qX_aload_n 0 dX8_readCar_46 rfl rfl (by decide) ?_
  refine qX_iconst dX8_readCar_47 (i32_of rfl) ?_
  refine qX_bip dX8_readCar_48 rfl ?_
  obtain ⟨P, hE16, h⟩ := h
  refine qN_callV mX8_number [_, _] _ 8 [] dX8_readCar_50 cm_X8_185 ⟨(Nat.le_of_ble_eq_true rfl), (Nat.le_of_ble_eq_true rfl)⟩ rfl rfl sh178 (Nat.le_of_ble_eq_true rfl) ⟨rfl, rfl⟩ hE16 (fun z13 ρ14 μ15 hz => ?_)
  replace h := h _ _ _ hz
  refine qX_istore dX8_readCar_53 (Nat.le_of_ble_eq_true rfl) rfl ?_
  refine qX_aload_n 0 dX8_readCar_55 rfl rfl (by decide) ?_
  refine qX_getI 8 6 _ dX8_readCar_56 fs_X8_119 sh178 ?_
  refine qX_if_le 63 dX8_readCar_59 rfl (fun hc => ?_) (fun hc => ?_)
  · replace h := h.1 hc
    refine qX_iconst dX8_readCar_63 (i32_of rfl) ?_
    refine qX_iload_n 1 dX8_readCar_64 rfl rfl ?_
    refine qR_imul dX8_readCar_65 h.1 ?_
    replace h := h.2
    refine qX_aload_n 0 dX8_readCar_66 rfl rfl (by decide) ?_
    refine qX_getS 8 13 _ 2 dX8_readCar_67 fs_X8_20 rfl rfl sh178 (x := 181) rfl ?_
    refine qX_iconst dX8_readCar_70 (i32_of rfl) ?_
    refine qX_iload_n 1 dX8_readCar_71 rfl rfl ?_
    refine qR_iadd dX8_readCar_72 h.1 ?_
    replace h := h.2
    refine qX_iald dX8_readCar_73 sh181 h.1 ?_
    replace h := h.2
    refine qR_iadd dX8_readCar_74 h.1 ?_
    replace h := h.2
    refine qX_istore dX8_readCar_75 (Nat.le_of_ble_eq_true rfl) rfl ?_
    refine qX_aload_n 0 dX8_readCar_77 rfl rfl (by decide) ?_
    refine qX_getS 8 13 _ 2 dX8_readCar_78 fs_X8_20 rfl rfl sh178 (x := 181) rfl ?_
    refine qX_bip dX8_readCar_81 rfl ?_
    refine qX_iload dX8_readCar_83 rfl ?_
    refine qR_iadd dX8_readCar_85 h.1 ?_
    replace h := h.2
    refine qX_iload_n 2 dX8_readCar_86 rfl rfl ?_
    refine qX_iast dX8_readCar_87 sh181 h.1 ?_
    replace h := h.2
    replace h := h _ rfl
    refine qX_aload_n 0 dX8_readCar_88 rfl rfl (by decide) ?_
    refine qX_getS 8 13 _ 2 dX8_readCar_89 fs_X8_20 rfl rfl sh178 (x := 181) rfl ?_
    refine qX_bip dX8_readCar_92 rfl ?_
    refine qX_iload dX8_readCar_94 rfl ?_
    refine qR_iadd dX8_readCar_96 h.1 ?_
    replace h := h.2
    refine qX_iload_n 3 dX8_readCar_97 rfl rfl ?_
    refine qX_iast dX8_readCar_98 sh181 h.1 ?_
    replace h := h.2
    replace h := h _ rfl
    refine qX_aload_n 0 dX8_readCar_99 rfl rfl (by decide) ?_
    refine qX_getS 8 13 _ 2 dX8_readCar_100 fs_X8_20 rfl rfl sh178 (x := 181) rfl ?_
    refine qX_bip dX8_readCar_103 rfl ?_
    refine qX_iload dX8_readCar_105 rfl ?_
    refine qR_iadd dX8_readCar_107 h.1 ?_
    replace h := h.2
    refine qX_iload dX8_readCar_108 rfl ?_
    refine qX_iast dX8_readCar_110 sh181 h.1 ?_
    replace h := h.2
    replace h := h _ rfl
    refine qX_aload_n 0 dX8_readCar_111 rfl rfl (by decide) ?_
    refine qX_getS 8 13 _ 2 dX8_readCar_112 fs_X8_20 rfl rfl sh178 (x := 181) rfl ?_
    refine qX_iconst dX8_readCar_115 (i32_of rfl) ?_
    refine qX_iload_n 1 dX8_readCar_116 rfl rfl ?_
    refine qR_iadd dX8_readCar_117 h.1 ?_
    replace h := h.2
    refine qX_dup2 dX8_readCar_118 rfl rfl ?_
    refine qX_iald dX8_readCar_119 sh181 h.1 ?_
    replace h := h.2
    refine qX_iconst dX8_readCar_120 (i32_of rfl) ?_
    refine qR_iadd dX8_readCar_121 h.1 ?_
    replace h := h.2
    refine qX_iast dX8_readCar_122 sh181 h.1 ?_
    replace h := h.2
    replace h := h _ rfl
    exact qX_return rfl dX8_readCar_123 rfl ⟨Nat.le_refl _, Nat.le_refl _⟩ h
  · replace h := h.2 hc
    exact qX_return rfl dX8_readCar_62 rfl ⟨Nat.le_refl _, Nat.le_refl _⟩ h
set_option maxRecDepth 20000 in
theorem e_X8_readMeal {Post : Int → Rf → Mem → Prop} {ρ : Rf} {μ : Mem} 
  (h : ((μ 181 36 ≠ 4 → qX mX8_readMeal GG Post GG (0, 0) 18 [some (qP 178), some (qI (μ 181 36))] [] ρ μ) ∧ (μ 181 36 = 4 → ∃ P : Int → Rf → Mem → Prop, qE mX8_report GG GG [qP 178, qI 4] ρ μ P ∧ ∀ (z1 : Int) (ρ2 : Rf) (μ3 : Mem), P z1 ρ2 μ3 → qX mX8_readMeal GG Post GG (0, 0) 18 [some (qP 178), some (qI (μ 181 36))] [] ρ2 μ3))) : qE mX8_readMeal GG GG [qP 178] ρ μ Post := by
  refine qE_intro pl_X8_readMeal (Nat.le_of_ble_eq_true rfl) (Nat.le_refl _) ?_
  refine qX_aload_n 0 dX8_readMeal_0 rfl rfl (by decide) ?_
  refine qX_getS 8 13 _ 2 dX8_readMeal_1 fs_X8_20 rfl rfl sh178 (x := 181) rfl ?_
  refine qX_bip dX8_readMeal_4 rfl ?_
  refine qX_iald dX8_readMeal_6 sh181 ⟨by decide, by decide⟩ ?_
  refine qX_istore_n 1 dX8_readMeal_7 rfl (Nat.le_of_ble_eq_true rfl) rfl ?_
  refine qX_iload_n 1 dX8_readMeal_8 rfl rfl ?_
  refine qX_iconst dX8_readMeal_9 (i32_of rfl) ?_
  refine qX_icmp_ne 18 dX8_readMeal_10 rfl (fun hc => ?_) (fun hc => ?_)
  · replace h := h.1 hc
    exact qX_mask [true, true] h
  · replace h := h.2 hc
    refine qX_aload_n 0 dX8_readMeal_13 rfl rfl (by decide) ?_
    refine qX_iconst dX8_readMeal_14 (i32_of rfl) ?_
    obtain ⟨P, hE4, h⟩ := h
    refine qN_callV mX8_report [_] _ 8 [] dX8_readMeal_15 cm_X8_168 ⟨(Nat.le_of_ble_eq_true rfl), (Nat.le_of_ble_eq_true rfl)⟩ rfl rfl sh178 (Nat.le_of_ble_eq_true rfl) ⟨rfl, rfl⟩ hE4 (fun z1 ρ2 μ3 hz => ?_)
    replace h := h _ _ _ hz
    exact qX_mask [true, true] h
set_option maxRecDepth 20000 in
theorem w_X8_readMeal_18 {Post : Int → Rf → Mem → Prop} {ρ : Rf} {μ : Mem} {x1 : Int}
  (h : ∃ P : Int → Rf → Mem → Prop, qE mX8_advance GG GG [qP 178] ρ μ P ∧ ∀ (z1 : Int) (ρ2 : Rf) (μ3 : Mem), P z1 ρ2 μ3 → ((μ3 178 6 ≠ 0 → qX mX8_readMeal GG Post GG (0, 0) 49 [some (qP 178), some (qI x1)] [] ρ2 μ3) ∧ (μ3 178 6 = 0 → ((μ3 178 8 ≠ 2 → qX mX8_readMeal GG Post GG (0, 0) 44 [some (qP 178), some (qI x1)] [] ρ2 μ3) ∧ (μ3 178 8 = 2 → ∃ P : Int → Rf → Mem → Prop, qE mX8_reserved GG GG [qP 178] ρ2 μ3 P ∧ ∀ (z5 : Int) (ρ6 : Rf) (μ7 : Mem), P z5 ρ6 μ7 → ((z5 < 0 → qX mX8_readMeal GG Post GG (0, 0) 49 [some (qP 178), some (qI x1)] [] ρ6 μ7) ∧ (0 ≤ z5 → qX mX8_readMeal GG Post GG (0, 0) 44 [some (qP 178), some (qI x1)] [] ρ6 μ7))))))) : qX mX8_readMeal GG Post GG (0, 0) 18 [some (qP 178), some (qI x1)] [] ρ μ := by
  refine qX_aload_n 0 dX8_readMeal_18 rfl rfl (by decide) ?_
  obtain ⟨P, hE4, h⟩ := h
  refine qN_callV mX8_advance [] _ 8 [] dX8_readMeal_19 cm_X8_171 ⟨(Nat.le_of_ble_eq_true rfl), (Nat.le_of_ble_eq_true rfl)⟩ rfl rfl sh178 (Nat.le_of_ble_eq_true rfl) ⟨rfl, rfl⟩ hE4 (fun z1 ρ2 μ3 hz => ?_)
  replace h := h _ _ _ hz
  refine qX_aload_n 0 dX8_readMeal_22 rfl rfl (by decide) ?_
  refine qX_getI 8 6 _ dX8_readMeal_23 fs_X8_119 sh178 ?_
  refine qX_if_ne 49 dX8_readMeal_26 rfl (fun hc => ?_) (fun hc => ?_)
  · replace h := h.1 hc
    exact qX_mask [true, true] h
  · replace h := h.2 hc
    refine qX_aload_n 0 dX8_readMeal_29 rfl rfl (by decide) ?_
    refine qX_getI 8 8 _ dX8_readMeal_30 fs_X8_139 sh178 ?_
    refine qX_iconst dX8_readMeal_33 (i32_of rfl) ?_
    refine qX_icmp_ne 44 dX8_readMeal_34 rfl (fun hc => ?_) (fun hc => ?_)
    · replace h := h.1 hc
      exact qX_mask [true, true] h
    · replace h := h.2 hc
      refine qX_aload_n 0 dX8_readMeal_37 rfl rfl (by decide) ?_
      obtain ⟨P, hE8, h⟩ := h
      refine qN_callV mX8_reserved [] _ 8 [] dX8_readMeal_38 cm_X8_165 ⟨(Nat.le_of_ble_eq_true rfl), (Nat.le_of_ble_eq_true rfl)⟩ rfl rfl sh178 (Nat.le_of_ble_eq_true rfl) ⟨rfl, rfl⟩ hE8 (fun z5 ρ6 μ7 hz => ?_)
      replace h := h _ _ _ hz
      refine qX_if_lt 49 dX8_readMeal_41 rfl (fun hc => ?_) (fun hc => ?_)
      · replace h := h.1 hc
        exact qX_mask [true, true] h
      · replace h := h.2 hc
        exact qX_mask [true, true] h
set_option maxRecDepth 20000 in
theorem w_X8_readMeal_49 {Post : Int → Rf → Mem → Prop} {ρ : Rf} {μ : Mem} {x1 : Int}
  (h : ((μ 178 6 ≠ 0 → qX mX8_readMeal GG Post GG (0, 0) 72 [some (qP 178), some (qI x1)] [] ρ μ) ∧ (μ 178 6 = 0 → ∃ P : Int → Rf → Mem → Prop, qE mX8_mealBy GG GG [qP 178, qJ (μ 178 11)] ρ μ P ∧ ∀ (z1 : Int) (ρ2 : Rf) (μ3 : Mem), P z1 ρ2 μ3 → ((z1 < 0 → qX mX8_readMeal GG Post GG (0, 0) 72 [some (qP 178), some (qI x1)] [] ρ2 μ3) ∧ (0 ≤ z1 → ∃ P : Int → Rf → Mem → Prop, qE mX8_report GG GG [qP 178, qI 3] ρ2 μ3 P ∧ ∀ (z5 : Int) (ρ6 : Rf) (μ7 : Mem), P z5 ρ6 μ7 → qX mX8_readMeal GG Post GG (0, 0) 72 [some (qP 178), some (qI x1)] [] ρ6 μ7))))) : qX mX8_readMeal GG Post GG (0, 0) 49 [some (qP 178), some (qI x1)] [] ρ μ := by
  refine qX_aload_n 0 dX8_readMeal_49 rfl rfl (by decide) ?_
  refine qX_getI 8 6 _ dX8_readMeal_50 fs_X8_119 sh178 ?_
  refine qX_if_ne 72 dX8_readMeal_53 rfl (fun hc => ?_) (fun hc => ?_)
  · replace h := h.1 hc
    exact qX_mask [true, true] h
  · replace h := h.2 hc
    refine qX_aload_n 0 dX8_readMeal_56 rfl rfl (by decide) ?_
    refine qX_aload_n 0 dX8_readMeal_57 rfl rfl (by decide) ?_
    refine qX_getJ 8 11 _ dX8_readMeal_58 fs_X8_135 sh178 ?_
    obtain ⟨P, hE4, h⟩ := h
    refine qN_callV mX8_mealBy [_] _ 8 [] dX8_readMeal_61 cm_X8_178 ⟨(Nat.le_of_ble_eq_true rfl), (Nat.le_of_ble_eq_true rfl)⟩ rfl rfl sh178 (Nat.le_of_ble_eq_true rfl) ⟨rfl, rfl⟩ hE4 (fun z1 ρ2 μ3 hz => ?_)
    replace h := h _ _ _ hz
    refine qX_if_lt 72 dX8_readMeal_64 rfl (fun hc => ?_) (fun hc => ?_)
    · replace h := h.1 hc
      exact qX_mask [true, true] h
    · replace h := h.2 hc
      refine qX_aload_n 0 dX8_readMeal_67 rfl rfl (by decide) ?_
      refine qX_iconst dX8_readMeal_68 (i32_of rfl) ?_
      obtain ⟨P, hE8, h⟩ := h
      refine qN_callV mX8_report [_] _ 8 [] dX8_readMeal_69 cm_X8_168 ⟨(Nat.le_of_ble_eq_true rfl), (Nat.le_of_ble_eq_true rfl)⟩ rfl rfl sh178 (Nat.le_of_ble_eq_true rfl) ⟨rfl, rfl⟩ hE8 (fun z5 ρ6 μ7 hz => ?_)
      replace h := h _ _ _ hz
      exact qX_mask [true, true] h
set_option maxRecDepth 20000 in
theorem w_X8_readMeal_44 {Post : Int → Rf → Mem → Prop} {ρ : Rf} {μ : Mem} {x1 : Int}
  (h : ∃ P : Int → Rf → Mem → Prop, qE mX8_report GG GG [qP 178, qI 1] ρ μ P ∧ ∀ (z1 : Int) (ρ2 : Rf) (μ3 : Mem), P z1 ρ2 μ3 → qX mX8_readMeal GG Post GG (0, 0) 49 [some (qP 178), some (qI x1)] [] ρ2 μ3) : qX mX8_readMeal GG Post GG (0, 0) 44 [some (qP 178), some (qI x1)] [] ρ μ := by
  refine qX_aload_n 0 dX8_readMeal_44 rfl rfl (by decide) ?_
  refine qX_iconst dX8_readMeal_45 (i32_of rfl) ?_
  obtain ⟨P, hE4, h⟩ := h
  refine qN_callV mX8_report [_] _ 8 [] dX8_readMeal_46 cm_X8_168 ⟨(Nat.le_of_ble_eq_true rfl), (Nat.le_of_ble_eq_true rfl)⟩ rfl rfl sh178 (Nat.le_of_ble_eq_true rfl) ⟨rfl, rfl⟩ hE4 (fun z1 ρ2 μ3 hz => ?_)
  replace h := h _ _ _ hz
  exact qX_mask [true, true] h
set_option maxRecDepth 20000 in
theorem w_X8_readMeal_72 {Post : Int → Rf → Mem → Prop} {ρ : Rf} {μ : Mem} {x1 : Int}
  (h : ((μ 178 6 ≤ 0 → (0 ≤ x1 ∧ x1 < 4) ∧ ∀ μ1, μ1 = up2 μ 184 x1 (μ 178 11) → ∃ P : Int → Rf → Mem → Prop, qE mX8_advance GG GG [qP 178] ρ μ1 P ∧ ∀ (z2 : Int) (ρ3 : Rf) (μ4 : Mem), P z2 ρ3 μ4 → i32 (37 + x1) ∧ ∃ P : Int → Rf → Mem → Prop, qE mX8_number GG GG [qP 178, qI 0, qI 20] ρ3 μ4 P ∧ ∀ (z6 : Int) (ρ7 : Rf) (μ8 : Mem), P z6 ρ7 μ8 → (0 ≤ 37 + x1 ∧ 37 + x1 < 188) ∧ ∀ μ10, μ10 = up2 μ8 181 (37 + x1) z6 → i32 (41 + x1) ∧ ∃ P : Int → Rf → Mem → Prop, qE mX8_number GG GG [qP 178, qI 0, qI 20] ρ7 μ10 P ∧ ∀ (z11 : Int) (ρ12 : Rf) (μ13 : Mem), P z11 ρ12 μ13 → (0 ≤ 41 + x1 ∧ 41 + x1 < 188) ∧ ∀ μ15, μ15 = up2 μ13 181 (41 + x1) z11 → i32 ((μ15 181 36) + 1) ∧ ∀ μ16, μ16 = up2 μ15 181 36 ((μ15 181 36) + 1) → Post 0 ρ12 μ16) ∧ (0 < μ 178 6 → Post 0 ρ μ))) : qX mX8_readMeal GG Post GG (0, 0) 72 [some (qP 178), some (qI x1)] [] ρ μ := by
  refine qX_aload_n 0 dX8_readMeal_72 rfl rfl (by decide) ?_
  refine qX_getI 8 6 _ dX8_readMeal_73 fs_X8_119 sh178 ?_
  refine qX_if_le 80 dX8_readMeal_76 rfl (fun hc => ?_) (fun hc => ?_)
  · replace h := h.1 hc
    refine qX_aload_n 0 dX8_readMeal_80 rfl rfl (by decide) ?_
    refine qX_getS 8 16 _ 5 dX8_readMeal_81 fs_X8_29 rfl rfl sh178 (x := 184) rfl ?_
    refine qX_iload_n 1 dX8_readMeal_84 rfl rfl ?_
    refine qX_aload_n 0 dX8_readMeal_85 rfl rfl (by decide) ?_
    refine qX_getJ 8 11 _ dX8_readMeal_86 fs_X8_135 sh178 ?_
    refine qX_last dX8_readMeal_89 sh184 h.1 ?_
    replace h := h.2
    replace h := h _ rfl
    refine qX_aload_n 0 dX8_readMeal_90 rfl rfl (by decide) ?_
    obtain ⟨P, hE5, h⟩ := h
    refine qN_callV mX8_advance [] _ 8 [] dX8_readMeal_91 cm_X8_171 ⟨(Nat.le_of_ble_eq_true rfl), (Nat.le_of_ble_eq_true rfl)⟩ rfl rfl sh178 (Nat.le_of_ble_eq_true rfl) ⟨rfl, rfl⟩ hE5 (fun z2 ρ3 μ4 hz => ?_)
    replace h := h _ _ _ hz
    refine qX_aload_n 0 dX8_readMeal_94 rfl rfl (by decide) ?_
    refine qX_getS 8 13 _ 2 dX8_readMeal_95 fs_X8_20 rfl rfl sh178 (x := 181) rfl ?_
    refine qX_bip dX8_readMeal_98 rfl ?_
    refine qX_iload_n 1 dX8_readMeal_100 rfl rfl ?_
    refine qR_iadd dX8_readMeal_101 h.1 ?_
    replace h := h.2
    refine qX_aload_n 0 dX8_readMeal_102 rfl rfl (by decide) ?_
    refine qX_iconst dX8_readMeal_103 (i32_of rfl) ?_
    refine qX_bip dX8_readMeal_104 rfl ?_
    obtain ⟨P, hE9, h⟩ := h
    refine qN_callV mX8_number [_, _] _ 8 [_, _] dX8_readMeal_106 cm_X8_185 ⟨(Nat.le_of_ble_eq_true rfl), (Nat.le_of_ble_eq_true rfl)⟩ rfl rfl sh178 (Nat.le_of_ble_eq_true rfl) ⟨rfl, rfl⟩ hE9 (fun z6 ρ7 μ8 hz => ?_)
    replace h := h _ _ _ hz
    refine qX_iast dX8_readMeal_109 sh181 h.1 ?_
    replace h := h.2
    replace h := h _ rfl
    refine qX_aload_n 0 dX8_readMeal_110 rfl rfl (by decide) ?_
    refine qX_getS 8 13 _ 2 dX8_readMeal_111 fs_X8_20 rfl rfl sh178 (x := 181) rfl ?_
    refine qX_bip dX8_readMeal_114 rfl ?_
    refine qX_iload_n 1 dX8_readMeal_116 rfl rfl ?_
    refine qR_iadd dX8_readMeal_117 h.1 ?_
    replace h := h.2
    refine qX_aload_n 0 dX8_readMeal_118 rfl rfl (by decide) ?_
    refine qX_iconst dX8_readMeal_119 (i32_of rfl) ?_
    refine qX_bip dX8_readMeal_120 rfl ?_
    obtain ⟨P, hE14, h⟩ := h
    refine qN_callV mX8_number [_, _] _ 8 [_, _] dX8_readMeal_122 cm_X8_185 ⟨(Nat.le_of_ble_eq_true rfl), (Nat.le_of_ble_eq_true rfl)⟩ rfl rfl sh178 (Nat.le_of_ble_eq_true rfl) ⟨rfl, rfl⟩ hE14 (fun z11 ρ12 μ13 hz => ?_)
    replace h := h _ _ _ hz
    refine qX_iast dX8_readMeal_125 sh181 h.1 ?_
    replace h := h.2
    replace h := h _ rfl
    refine qX_aload_n 0 dX8_readMeal_126 rfl rfl (by decide) ?_
    refine qX_getS 8 13 _ 2 dX8_readMeal_127 fs_X8_20 rfl rfl sh178 (x := 181) rfl ?_
    refine qX_bip dX8_readMeal_130 rfl ?_
    refine qX_dup2 dX8_readMeal_132 rfl rfl ?_
    refine qX_iald dX8_readMeal_133 sh181 ⟨by decide, by decide⟩ ?_
    refine qX_iconst dX8_readMeal_134 (i32_of rfl) ?_
    refine qR_iadd dX8_readMeal_135 h.1 ?_
    replace h := h.2
    refine qX_iast dX8_readMeal_136 sh181 ⟨by decide, by decide⟩ ?_
    replace h := h _ rfl
    exact qX_return rfl dX8_readMeal_137 rfl ⟨Nat.le_refl _, Nat.le_refl _⟩ h
  · replace h := h.2 hc
    exact qX_return rfl dX8_readMeal_79 rfl ⟨Nat.le_refl _, Nat.le_refl _⟩ h
set_option maxRecDepth 20000 in
theorem e_X8_readKitchen {Post : Int → Rf → Mem → Prop} {ρ : Rf} {μ : Mem} 
  (h : ((μ 181 45 ≠ 3 → qX mX8_readKitchen GG Post GG (0, 0) 18 [some (qP 178), some (qI (μ 181 45)), none] [] ρ μ) ∧ (μ 181 45 = 3 → ∃ P : Int → Rf → Mem → Prop, qE mX8_report GG GG [qP 178, qI 4] ρ μ P ∧ ∀ (z1 : Int) (ρ2 : Rf) (μ3 : Mem), P z1 ρ2 μ3 → qX mX8_readKitchen GG Post GG (0, 0) 18 [some (qP 178), some (qI (μ 181 45)), none] [] ρ2 μ3))) : qE mX8_readKitchen GG GG [qP 178] ρ μ Post := by
  refine qE_intro pl_X8_readKitchen (Nat.le_of_ble_eq_true rfl) (Nat.le_refl _) ?_
  refine qX_aload_n 0 dX8_readKitchen_0 rfl rfl (by decide) ?_
  refine qX_getS 8 13 _ 2 dX8_readKitchen_1 fs_X8_20 rfl rfl sh178 (x := 181) rfl ?_
  refine qX_bip dX8_readKitchen_4 rfl ?_
  refine qX_iald dX8_readKitchen_6 sh181 ⟨by decide, by decide⟩ ?_
  refine qX_istore_n 1 dX8_readKitchen_7 rfl (Nat.le_of_ble_eq_true rfl) rfl ?_
  refine qX_iload_n 1 dX8_readKitchen_8 rfl rfl ?_
  refine qX_iconst dX8_readKitchen_9 (i32_of rfl) ?_
  refine qX_icmp_ne 18 dX8_readKitchen_10 rfl (fun hc => ?_) (fun hc => ?_)
  · replace h := h.1 hc
    exact qX_mask [true, true, false] h
  · replace h := h.2 hc
    refine qX_aload_n 0 dX8_readKitchen_13 rfl rfl (by decide) ?_
    refine qX_iconst dX8_readKitchen_14 (i32_of rfl) ?_
    obtain ⟨P, hE4, h⟩ := h
    refine qN_callV mX8_report [_] _ 8 [] dX8_readKitchen_15 cm_X8_168 ⟨(Nat.le_of_ble_eq_true rfl), (Nat.le_of_ble_eq_true rfl)⟩ rfl rfl sh178 (Nat.le_of_ble_eq_true rfl) ⟨rfl, rfl⟩ hE4 (fun z1 ρ2 μ3 hz => ?_)
    replace h := h _ _ _ hz
    exact qX_mask [true, true, false] h
set_option maxRecDepth 20000 in
theorem w_X8_readKitchen_18 {Post : Int → Rf → Mem → Prop} {ρ : Rf} {μ : Mem} {x1 : Int}
  (h : ∃ P : Int → Rf → Mem → Prop, qE mX8_advance GG GG [qP 178] ρ μ P ∧ ∀ (z1 : Int) (ρ2 : Rf) (μ3 : Mem), P z1 ρ2 μ3 → ∃ P : Int → Rf → Mem → Prop, qE mX8_number GG GG [qP 178, qI 0, qI 99] ρ2 μ3 P ∧ ∀ (z5 : Int) (ρ6 : Rf) (μ7 : Mem), P z5 ρ6 μ7 → ((μ7 178 6 ≤ 0 → i32 (46 + x1) ∧ (0 ≤ 46 + x1 ∧ 46 + x1 < 188) ∧ ∀ μ9, μ9 = up2 μ7 181 (46 + x1) z5 → i32 ((μ9 181 45) + 1) ∧ ∀ μ10, μ10 = up2 μ9 181 45 ((μ9 181 45) + 1) → Post 0 ρ6 μ10) ∧ (0 < μ7 178 6 → Post 0 ρ6 μ7))) : qX mX8_readKitchen GG Post GG (0, 0) 18 [some (qP 178), some (qI x1), none] [] ρ μ := by
  refine qX_aload_n 0 dX8_readKitchen_18 rfl rfl (by decide) ?_
  obtain ⟨P, hE4, h⟩ := h
  refine qN_callV mX8_advance [] _ 8 [] dX8_readKitchen_19 cm_X8_171 ⟨(Nat.le_of_ble_eq_true rfl), (Nat.le_of_ble_eq_true rfl)⟩ rfl rfl sh178 (Nat.le_of_ble_eq_true rfl) ⟨rfl, rfl⟩ hE4 (fun z1 ρ2 μ3 hz => ?_)
  replace h := h _ _ _ hz
  refine qX_aload_n 0 dX8_readKitchen_22 rfl rfl (by decide) ?_
  refine qX_iconst dX8_readKitchen_23 (i32_of rfl) ?_
  refine qX_bip dX8_readKitchen_24 rfl ?_
  obtain ⟨P, hE8, h⟩ := h
  refine qN_callV mX8_number [_, _] _ 8 [] dX8_readKitchen_26 cm_X8_185 ⟨(Nat.le_of_ble_eq_true rfl), (Nat.le_of_ble_eq_true rfl)⟩ rfl rfl sh178 (Nat.le_of_ble_eq_true rfl) ⟨rfl, rfl⟩ hE8 (fun z5 ρ6 μ7 hz => ?_)
  replace h := h _ _ _ hz
  refine qX_istore_n 2 dX8_readKitchen_29 rfl (Nat.le_of_ble_eq_true rfl) rfl ?_
  refine qX_aload_n 0 dX8_readKitchen_30 rfl rfl (by decide) ?_
  refine qX_getI 8 6 _ dX8_readKitchen_31 fs_X8_119 sh178 ?_
  refine qX_if_le 38 dX8_readKitchen_34 rfl (fun hc => ?_) (fun hc => ?_)
  · replace h := h.1 hc
    refine qX_aload_n 0 dX8_readKitchen_38 rfl rfl (by decide) ?_
    refine qX_getS 8 13 _ 2 dX8_readKitchen_39 fs_X8_20 rfl rfl sh178 (x := 181) rfl ?_
    refine qX_bip dX8_readKitchen_42 rfl ?_
    refine qX_iload_n 1 dX8_readKitchen_44 rfl rfl ?_
    refine qR_iadd dX8_readKitchen_45 h.1 ?_
    replace h := h.2
    refine qX_iload_n 2 dX8_readKitchen_46 rfl rfl ?_
    refine qX_iast dX8_readKitchen_47 sh181 h.1 ?_
    replace h := h.2
    replace h := h _ rfl
    refine qX_aload_n 0 dX8_readKitchen_48 rfl rfl (by decide) ?_
    refine qX_getS 8 13 _ 2 dX8_readKitchen_49 fs_X8_20 rfl rfl sh178 (x := 181) rfl ?_
    refine qX_bip dX8_readKitchen_52 rfl ?_
    refine qX_dup2 dX8_readKitchen_54 rfl rfl ?_
    refine qX_iald dX8_readKitchen_55 sh181 ⟨by decide, by decide⟩ ?_
    refine qX_iconst dX8_readKitchen_56 (i32_of rfl) ?_
    refine qR_iadd dX8_readKitchen_57 h.1 ?_
    replace h := h.2
    refine qX_iast dX8_readKitchen_58 sh181 ⟨by decide, by decide⟩ ?_
    replace h := h _ rfl
    exact qX_return rfl dX8_readKitchen_59 rfl ⟨Nat.le_refl _, Nat.le_refl _⟩ h
  · replace h := h.2 hc
    exact qX_return rfl dX8_readKitchen_37 rfl ⟨Nat.le_refl _, Nat.le_refl _⟩ h
set_option maxRecDepth 20000 in
theorem e_X8_readStock {Post : Int → Rf → Mem → Prop} {ρ : Rf} {μ : Mem} 
  (h : ∃ P : Int → Rf → Mem → Prop, qE mX8_advance GG GG [qP 178] ρ μ P ∧ ∀ (z1 : Int) (ρ2 : Rf) (μ3 : Mem), P z1 ρ2 μ3 → i32 ((μ3 181 45) - 1) ∧ ∃ P : Int → Rf → Mem → Prop, qE mX8_number GG GG [qP 178, qI 0, qI ((μ3 181 45) - 1)] ρ2 μ3 P ∧ ∀ (z5 : Int) (ρ6 : Rf) (μ7 : Mem), P z5 ρ6 μ7 → ∃ P : Int → Rf → Mem → Prop, qE mX8_peekMeal GG GG [qP 178] ρ6 μ7 P ∧ ∀ (z9 : Int) (ρ10 : Rf) (μ11 : Mem), P z9 ρ10 μ11 → ((μ11 178 6 ≠ 0 → qX mX8_readStock GG Post GG (0, 0) 49 [some (qP 178), some (qI z5), some (qI z9), none] [] ρ10 μ11) ∧ (μ11 178 6 = 0 → i32 (4 * z5) ∧ i32 ((4 * z5) + z9) ∧ (0 ≤ (4 * z5) + z9 ∧ (4 * z5) + z9 < 12) ∧ ((μ11 186 ((4 * z5) + z9) = 0 → qX mX8_readStock GG Post GG (0, 0) 49 [some (qP 178), some (qI z5), some (qI z9), none] [] ρ10 μ11) ∧ (μ11 186 ((4 * z5) + z9) ≠ 0 → ∃ P : Int → Rf → Mem → Prop, qE mX8_report GG GG [qP 178, qI 3] ρ10 μ11 P ∧ ∀ (z13 : Int) (ρ14 : Rf) (μ15 : Mem), P z13 ρ14 μ15 → qX mX8_readStock GG Post GG (0, 0) 49 [some (qP 178), some (qI z5), some (qI z9), none] [] ρ14 μ15))))) : qE mX8_readStock GG GG [qP 178] ρ μ Post := by
  refine qE_intro pl_X8_readStock (Nat.le_of_ble_eq_true rfl) (Nat.le_refl _) ?_
  refine qX_aload_n 0 dX8_readStock_0 rfl rfl (by decide) ?_
  obtain ⟨P, hE4, h⟩ := h
  refine qN_callV mX8_advance [] _ 8 [] dX8_readStock_1 cm_X8_171 ⟨(Nat.le_of_ble_eq_true rfl), (Nat.le_of_ble_eq_true rfl)⟩ rfl rfl sh178 (Nat.le_of_ble_eq_true rfl) ⟨rfl, rfl⟩ hE4 (fun z1 ρ2 μ3 hz => ?_)
  replace h := h _ _ _ hz
  refine qX_aload_n 0 dX8_readStock_4 rfl rfl (by decide) ?_
  refine qX_iconst dX8_readStock_5 (i32_of rfl) ?_
  refine qX_aload_n 0 dX8_readStock_6 rfl rfl (by decide) ?_
  refine qX_getS 8 13 _ 2 dX8_readStock_7 fs_X8_20 rfl rfl sh178 (x := 181) rfl ?_
  refine qX_bip dX8_readStock_10 rfl ?_
  refine qX_iald dX8_readStock_12 sh181 ⟨by decide, by decide⟩ ?_
  refine qX_iconst dX8_readStock_13 (i32_of rfl) ?_
  refine qR_isub dX8_readStock_14 h.1 ?_
  replace h := h.2
  obtain ⟨P, hE8, h⟩ := h
  refine qN_callV mX8_number [_, _] _ 8 [] dX8_readStock_15 cm_X8_185 ⟨(Nat.le_of_ble_eq_true rfl), (Nat.le_of_ble_eq_true rfl)⟩ rfl rfl sh178 (Nat.le_of_ble_eq_true rfl) ⟨rfl, rfl⟩ hE8 (fun z5 ρ6 μ7 hz => ?_)
  replace h := h _ _ _ hz
  refine qX_istore_n 1 dX8_readStock_18 rfl (Nat.le_of_ble_eq_true rfl) rfl ?_
  refine qX_aload_n 0 dX8_readStock_19 rfl rfl (by decide) ?_
  obtain ⟨P, hE12, h⟩ := h
  refine qN_callV mX8_peekMeal [] _ 8 [] dX8_readStock_20 cm_X8_191 ⟨(Nat.le_of_ble_eq_true rfl), (Nat.le_of_ble_eq_true rfl)⟩ rfl rfl sh178 (Nat.le_of_ble_eq_true rfl) ⟨rfl, rfl⟩ hE12 (fun z9 ρ10 μ11 hz => ?_)
  replace h := h _ _ _ hz
  refine qX_istore_n 2 dX8_readStock_23 rfl (Nat.le_of_ble_eq_true rfl) rfl ?_
  refine qX_aload_n 0 dX8_readStock_24 rfl rfl (by decide) ?_
  refine qX_getI 8 6 _ dX8_readStock_25 fs_X8_119 sh178 ?_
  refine qX_if_ne 49 dX8_readStock_28 rfl (fun hc => ?_) (fun hc => ?_)
  · replace h := h.1 hc
    exact qX_mask [true, true, true, false] h
  · replace h := h.2 hc
    refine qX_aload_n 0 dX8_readStock_31 rfl rfl (by decide) ?_
    refine qX_getS 8 18 _ 7 dX8_readStock_32 fs_X8_37 rfl rfl sh178 (x := 186) rfl ?_
    refine qX_iconst dX8_readStock_35 (i32_of rfl) ?_
    refine qX_iload_n 1 dX8_readStock_36 rfl rfl ?_
    refine qR_imul dX8_readStock_37 h.1 ?_
    replace h := h.2
    refine qX_iload_n 2 dX8_readStock_38 rfl rfl ?_
    refine qR_iadd dX8_readStock_39 h.1 ?_
    replace h := h.2
    refine qX_zald dX8_readStock_40 sh186 h.1 ?_
    replace h := h.2
    refine qX_if_eq 49 dX8_readStock_41 rfl (fun hc => ?_) (fun hc => ?_)
    · replace h := h.1 hc
      exact qX_mask [true, true, true, false] h
    · replace h := h.2 hc
      refine qX_aload_n 0 dX8_readStock_44 rfl rfl (by decide) ?_
      refine qX_iconst dX8_readStock_45 (i32_of rfl) ?_
      obtain ⟨P, hE16, h⟩ := h
      refine qN_callV mX8_report [_] _ 8 [] dX8_readStock_46 cm_X8_168 ⟨(Nat.le_of_ble_eq_true rfl), (Nat.le_of_ble_eq_true rfl)⟩ rfl rfl sh178 (Nat.le_of_ble_eq_true rfl) ⟨rfl, rfl⟩ hE16 (fun z13 ρ14 μ15 hz => ?_)
      replace h := h _ _ _ hz
      exact qX_mask [true, true, true, false] h
set_option maxRecDepth 20000 in
theorem w_X8_readStock_49 {Post : Int → Rf → Mem → Prop} {ρ : Rf} {μ : Mem} {x1 : Int} {x2 : Int}
  (h : ∃ P : Int → Rf → Mem → Prop, qE mX8_advance GG GG [qP 178] ρ μ P ∧ ∀ (z1 : Int) (ρ2 : Rf) (μ3 : Mem), P z1 ρ2 μ3 → ∃ P : Int → Rf → Mem → Prop, qE mX8_number GG GG [qP 178, qI 0, qI 999] ρ2 μ3 P ∧ ∀ (z5 : Int) (ρ6 : Rf) (μ7 : Mem), P z5 ρ6 μ7 → ((μ7 178 6 ≤ 0 → i32 (4 * x1) ∧ i32 ((4 * x1) + x2) ∧ (0 ≤ (4 * x1) + x2 ∧ (4 * x1) + x2 < 12) ∧ ∀ μ9, μ9 = up2 μ7 186 ((4 * x1) + x2) 1 → i32 (4 * x1) ∧ i32 (49 + (4 * x1)) ∧ i32 ((49 + (4 * x1)) + x2) ∧ (0 ≤ (49 + (4 * x1)) + x2 ∧ (49 + (4 * x1)) + x2 < 188) ∧ ∀ μ10, μ10 = up2 μ9 181 ((49 + (4 * x1)) + x2) z5 → Post 0 ρ6 μ10) ∧ (0 < μ7 178 6 → Post 0 ρ6 μ7))) : qX mX8_readStock GG Post GG (0, 0) 49 [some (qP 178), some (qI x1), some (qI x2), none] [] ρ μ := by
  refine qX_aload_n 0 dX8_readStock_49 rfl rfl (by decide) ?_
  obtain ⟨P, hE4, h⟩ := h
  refine qN_callV mX8_advance [] _ 8 [] dX8_readStock_50 cm_X8_171 ⟨(Nat.le_of_ble_eq_true rfl), (Nat.le_of_ble_eq_true rfl)⟩ rfl rfl sh178 (Nat.le_of_ble_eq_true rfl) ⟨rfl, rfl⟩ hE4 (fun z1 ρ2 μ3 hz => ?_)
  replace h := h _ _ _ hz
  refine qX_aload_n 0 dX8_readStock_53 rfl rfl (by decide) ?_
  refine qX_iconst dX8_readStock_54 (i32_of rfl) ?_
  refine qX_sip dX8_readStock_55 rfl ?_
  obtain ⟨P, hE8, h⟩ := h
  refine qN_callV mX8_number [_, _] _ 8 [] dX8_readStock_58 cm_X8_185 ⟨(Nat.le_of_ble_eq_true rfl), (Nat.le_of_ble_eq_true rfl)⟩ rfl rfl sh178 (Nat.le_of_ble_eq_true rfl) ⟨rfl, rfl⟩ hE8 (fun z5 ρ6 μ7 hz => ?_)
  replace h := h _ _ _ hz
  refine qX_istore_n 3 dX8_readStock_61 rfl (Nat.le_of_ble_eq_true rfl) rfl ?_
  refine qX_aload_n 0 dX8_readStock_62 rfl rfl (by decide) ?_
  refine qX_getI 8 6 _ dX8_readStock_63 fs_X8_119 sh178 ?_
  refine qX_if_le 70 dX8_readStock_66 rfl (fun hc => ?_) (fun hc => ?_)
  · replace h := h.1 hc
    refine qX_aload_n 0 dX8_readStock_70 rfl rfl (by decide) ?_
    refine qX_getS 8 18 _ 7 dX8_readStock_71 fs_X8_37 rfl rfl sh178 (x := 186) rfl ?_
    refine qX_iconst dX8_readStock_74 (i32_of rfl) ?_
    refine qX_iload_n 1 dX8_readStock_75 rfl rfl ?_
    refine qR_imul dX8_readStock_76 h.1 ?_
    replace h := h.2
    refine qX_iload_n 2 dX8_readStock_77 rfl rfl ?_
    refine qR_iadd dX8_readStock_78 h.1 ?_
    replace h := h.2
    refine qX_iconst dX8_readStock_79 (i32_of rfl) ?_
    refine qX_zast dX8_readStock_80 sh186 h.1 (by decide) ?_
    replace h := h.2
    replace h := h _ rfl
    refine qX_aload_n 0 dX8_readStock_81 rfl rfl (by decide) ?_
    refine qX_getS 8 13 _ 2 dX8_readStock_82 fs_X8_20 rfl rfl sh178 (x := 181) rfl ?_
    refine qX_bip dX8_readStock_85 rfl ?_
    refine qX_iconst dX8_readStock_87 (i32_of rfl) ?_
    refine qX_iload_n 1 dX8_readStock_88 rfl rfl ?_
    refine qR_imul dX8_readStock_89 h.1 ?_
    replace h := h.2
    refine qR_iadd dX8_readStock_90 h.1 ?_
    replace h := h.2
    refine qX_iload_n 2 dX8_readStock_91 rfl rfl ?_
    refine qR_iadd dX8_readStock_92 h.1 ?_
    replace h := h.2
    refine qX_iload_n 3 dX8_readStock_93 rfl rfl ?_
    refine qX_iast dX8_readStock_94 sh181 h.1 ?_
    replace h := h.2
    replace h := h _ rfl
    exact qX_return rfl dX8_readStock_95 rfl ⟨Nat.le_refl _, Nat.le_refl _⟩ h
  · replace h := h.2 hc
    exact qX_return rfl dX8_readStock_69 rfl ⟨Nat.le_refl _, Nat.le_refl _⟩ h
set_option maxRecDepth 20000 in
theorem e_X8_readTrolley {Post : Int → Rf → Mem → Prop} {ρ : Rf} {μ : Mem} 
  (h : ((μ 181 61 ≠ 5 → qX mX8_readTrolley GG Post GG (0, 0) 18 [some (qP 178), some (qI (μ 181 61)), none, none, none, none, none, none] [] ρ μ) ∧ (μ 181 61 = 5 → ∃ P : Int → Rf → Mem → Prop, qE mX8_report GG GG [qP 178, qI 4] ρ μ P ∧ ∀ (z1 : Int) (ρ2 : Rf) (μ3 : Mem), P z1 ρ2 μ3 → qX mX8_readTrolley GG Post GG (0, 0) 18 [some (qP 178), some (qI (μ 181 61)), none, none, none, none, none, none] [] ρ2 μ3))) : qE mX8_readTrolley GG GG [qP 178] ρ μ Post := by
  refine qE_intro pl_X8_readTrolley (Nat.le_of_ble_eq_true rfl) (Nat.le_refl _) ?_
  refine qX_aload_n 0 dX8_readTrolley_0 rfl rfl (by decide) ?_
  refine qX_getS 8 13 _ 2 dX8_readTrolley_1 fs_X8_20 rfl rfl sh178 (x := 181) rfl ?_
  refine qX_bip dX8_readTrolley_4 rfl ?_
  refine qX_iald dX8_readTrolley_6 sh181 ⟨by decide, by decide⟩ ?_
  refine qX_istore_n 1 dX8_readTrolley_7 rfl (Nat.le_of_ble_eq_true rfl) rfl ?_
  refine qX_iload_n 1 dX8_readTrolley_8 rfl rfl ?_
  refine qX_iconst dX8_readTrolley_9 (i32_of rfl) ?_
  refine qX_icmp_ne 18 dX8_readTrolley_10 rfl (fun hc => ?_) (fun hc => ?_)
  · replace h := h.1 hc
    exact qX_mask [true, true, false, false, false, false, false, false] h
  · replace h := h.2 hc
    refine qX_aload_n 0 dX8_readTrolley_13 rfl rfl (by decide) ?_
    refine qX_iconst dX8_readTrolley_14 (i32_of rfl) ?_
    obtain ⟨P, hE4, h⟩ := h
    refine qN_callV mX8_report [_] _ 8 [] dX8_readTrolley_15 cm_X8_168 ⟨(Nat.le_of_ble_eq_true rfl), (Nat.le_of_ble_eq_true rfl)⟩ rfl rfl sh178 (Nat.le_of_ble_eq_true rfl) ⟨rfl, rfl⟩ hE4 (fun z1 ρ2 μ3 hz => ?_)
    replace h := h _ _ _ hz
    exact qX_mask [true, true, false, false, false, false, false, false] h
set_option maxRecDepth 20000 in
theorem w_X8_readTrolley_18 {Post : Int → Rf → Mem → Prop} {ρ : Rf} {μ : Mem} {x1 : Int}
  (h : ∃ P : Int → Rf → Mem → Prop, qE mX8_advance GG GG [qP 178] ρ μ P ∧ ∀ (z1 : Int) (ρ2 : Rf) (μ3 : Mem), P z1 ρ2 μ3 → i32 ((μ3 181 45) - 1) ∧ ∃ P : Int → Rf → Mem → Prop, qE mX8_number GG GG [qP 178, qI 0, qI ((μ3 181 45) - 1)] ρ2 μ3 P ∧ ∀ (z5 : Int) (ρ6 : Rf) (μ7 : Mem), P z5 ρ6 μ7 → ∃ P : Int → Rf → Mem → Prop, qE mX8_number GG GG [qP 178, qI 1, qI 99] ρ6 μ7 P ∧ ∀ (z9 : Int) (ρ10 : Rf) (μ11 : Mem), P z9 ρ10 μ11 → ∃ P : Int → Rf → Mem → Prop, qE mX8_number GG GG [qP 178, qI 1, qI 9] ρ10 μ11 P ∧ ∀ (z13 : Int) (ρ14 : Rf) (μ15 : Mem), P z13 ρ14 μ15 → ∃ P : Int → Rf → Mem → Prop, qE mX8_number GG GG [qP 178, qI 1, qI 5] ρ14 μ15 P ∧ ∀ (z17 : Int) (ρ18 : Rf) (μ19 : Mem), P z17 ρ18 μ19 → ∃ P : Int → Rf → Mem → Prop, qE mX8_number GG GG [qP 178, qI 1, qI 5] ρ18 μ19 P ∧ ∀ (z21 : Int) (ρ22 : Rf) (μ23 : Mem), P z21 ρ22 μ23 → ((μ23 178 6 ≤ 0 → i32 (5 * x1) ∧ i32 (62 + (5 * x1)) ∧ i32 ((62 + (5 * x1)) + 0) ∧ (0 ≤ (62 + (5 * x1)) + 0 ∧ (62 + (5 * x1)) + 0 < 188) ∧ ∀ μ25, μ25 = up2 μ23 181 ((62 + (5 * x1)) + 0) z5 → i32 ((62 + (5 * x1)) + 1) ∧ (0 ≤ (62 + (5 * x1)) + 1 ∧ (62 + (5 * x1)) + 1 < 188) ∧ ∀ μ26, μ26 = up2 μ25 181 ((62 + (5 * x1)) + 1) z9 → i32 ((62 + (5 * x1)) + 2) ∧ (0 ≤ (62 + (5 * x1)) + 2 ∧ (62 + (5 * x1)) + 2 < 188) ∧ ∀ μ27, μ27 = up2 μ26 181 ((62 + (5 * x1)) + 2) z13 → i32 ((62 + (5 * x1)) + 3) ∧ (0 ≤ (62 + (5 * x1)) + 3 ∧ (62 + (5 * x1)) + 3 < 188) ∧ ∀ μ28, μ28 = up2 μ27 181 ((62 + (5 * x1)) + 3) z17 → i32 ((62 + (5 * x1)) + 4) ∧ (0 ≤ (62 + (5 * x1)) + 4 ∧ (62 + (5 * x1)) + 4 < 188) ∧ ∀ μ29, μ29 = up2 μ28 181 ((62 + (5 * x1)) + 4) z21 → i32 ((μ29 181 61) + 1) ∧ ∀ μ30, μ30 = up2 μ29 181 61 ((μ29 181 61) + 1) → Post 0 ρ22 μ30) ∧ (0 < μ23 178 6 → Post 0 ρ22 μ23))) : qX mX8_readTrolley GG Post GG (0, 0) 18 [some (qP 178), some (qI x1), none, none, none, none, none, none] [] ρ μ := by
  refine qX_aload_n 0 dX8_readTrolley_18 rfl rfl (by decide) ?_
  obtain ⟨P, hE4, h⟩ := h
  refine qN_callV mX8_advance [] _ 8 [] dX8_readTrolley_19 cm_X8_171 ⟨(Nat.le_of_ble_eq_true rfl), (Nat.le_of_ble_eq_true rfl)⟩ rfl rfl sh178 (Nat.le_of_ble_eq_true rfl) ⟨rfl, rfl⟩ hE4 (fun z1 ρ2 μ3 hz => ?_)
  replace h := h _ _ _ hz
  refine qX_aload_n 0 dX8_readTrolley_22 rfl rfl (by decide) ?_
  refine qX_iconst dX8_readTrolley_23 (i32_of rfl) ?_
  refine qX_aload_n 0 dX8_readTrolley_24 rfl rfl (by decide) ?_
  refine qX_getS 8 13 _ 2 dX8_readTrolley_25 fs_X8_20 rfl rfl sh178 (x := 181) rfl ?_
  refine qX_bip dX8_readTrolley_28 rfl ?_
  refine qX_iald dX8_readTrolley_30 sh181 ⟨by decide, by decide⟩ ?_
  refine qX_iconst dX8_readTrolley_31 (i32_of rfl) ?_
  refine qR_isub dX8_readTrolley_32 h.1 ?_
  replace h := h.2
  obtain ⟨P, hE8, h⟩ := h
  refine qN_callV mX8_number [_, _] _ 8 [] dX8_readTrolley_33 cm_X8_185 ⟨(Nat.le_of_ble_eq_true rfl), (Nat.le_of_ble_eq_true rfl)⟩ rfl rfl sh178 (Nat.le_of_ble_eq_true rfl) ⟨rfl, rfl⟩ hE8 (fun z5 ρ6 μ7 hz => ?_)
  replace h := h _ _ _ hz
  refine qX_istore_n 2 dX8_readTrolley_36 rfl (Nat.le_of_ble_eq_true rfl) rfl ?_
  refine qX_aload_n 0 dX8_readTrolley_37 rfl rfl (by decide) ?_
  refine qX_iconst dX8_readTrolley_38 (i32_of rfl) ?_
  refine qX_bip dX8_readTrolley_39 rfl ?_
  obtain ⟨P, hE12, h⟩ := h
  refine qN_callV mX8_number [_, _] _ 8 [] dX8_readTrolley_41 cm_X8_185 ⟨(Nat.le_of_ble_eq_true rfl), (Nat.le_of_ble_eq_true rfl)⟩ rfl rfl sh178 (Nat.le_of_ble_eq_true rfl) ⟨rfl, rfl⟩ hE12 (fun z9 ρ10 μ11 hz => ?_)
  replace h := h _ _ _ hz
  refine qX_istore_n 3 dX8_readTrolley_44 rfl (Nat.le_of_ble_eq_true rfl) rfl ?_
  refine qX_aload_n 0 dX8_readTrolley_45 rfl rfl (by decide) ?_
  refine qX_iconst dX8_readTrolley_46 (i32_of rfl) ?_
  refine qX_bip dX8_readTrolley_47 rfl ?_
  obtain ⟨P, hE16, h⟩ := h
  refine qN_callV mX8_number [_, _] _ 8 [] dX8_readTrolley_49 cm_X8_185 ⟨(Nat.le_of_ble_eq_true rfl), (Nat.le_of_ble_eq_true rfl)⟩ rfl rfl sh178 (Nat.le_of_ble_eq_true rfl) ⟨rfl, rfl⟩ hE16 (fun z13 ρ14 μ15 hz => ?_)
  replace h := h _ _ _ hz
  refine qX_istore dX8_readTrolley_52 (Nat.le_of_ble_eq_true rfl) rfl ?_
  refine qX_aload_n 0 dX8_readTrolley_54 rfl rfl (by decide) ?_
  refine qX_iconst dX8_readTrolley_55 (i32_of rfl) ?_
  refine qX_iconst dX8_readTrolley_56 (i32_of rfl) ?_
  obtain ⟨P, hE20, h⟩ := h
  refine qN_callV mX8_number [_, _] _ 8 [] dX8_readTrolley_57 cm_X8_185 ⟨(Nat.le_of_ble_eq_true rfl), (Nat.le_of_ble_eq_true rfl)⟩ rfl rfl sh178 (Nat.le_of_ble_eq_true rfl) ⟨rfl, rfl⟩ hE20 (fun z17 ρ18 μ19 hz => ?_)
  replace h := h _ _ _ hz
  refine qX_istore dX8_readTrolley_60 (Nat.le_of_ble_eq_true rfl) rfl ?_
  refine qX_aload_n 0 dX8_readTrolley_62 rfl rfl (by decide) ?_
  refine qX_iconst dX8_readTrolley_63 (i32_of rfl) ?_
  refine qX_iconst dX8_readTrolley_64 (i32_of rfl) ?_
  obtain ⟨P, hE24, h⟩ := h
  refine qN_callV mX8_number [_, _] _ 8 [] dX8_readTrolley_65 cm_X8_185 ⟨(Nat.le_of_ble_eq_true rfl), (Nat.le_of_ble_eq_true rfl)⟩ rfl rfl sh178 (Nat.le_of_ble_eq_true rfl) ⟨rfl, rfl⟩ hE24 (fun z21 ρ22 μ23 hz => ?_)
  replace h := h _ _ _ hz
  refine qX_istore dX8_readTrolley_68 (Nat.le_of_ble_eq_true rfl) rfl ?_
  refine qX_aload_n 0 dX8_readTrolley_70 rfl rfl (by decide) ?_
  refine qX_getI 8 6 _ dX8_readTrolley_71 fs_X8_119 sh178 ?_
  refine qX_if_le 78 dX8_readTrolley_74 rfl (fun hc => ?_) (fun hc => ?_)
  · replace h := h.1 hc
    refine qX_bip dX8_readTrolley_78 rfl ?_
    refine qX_iconst dX8_readTrolley_80 (i32_of rfl) ?_
    refine qX_iload_n 1 dX8_readTrolley_81 rfl rfl ?_
    refine qR_imul dX8_readTrolley_82 h.1 ?_
    replace h := h.2
    refine qR_iadd dX8_readTrolley_83 h.1 ?_
    replace h := h.2
    refine qX_istore dX8_readTrolley_84 (Nat.le_of_ble_eq_true rfl) rfl ?_
    refine qX_aload_n 0 dX8_readTrolley_86 rfl rfl (by decide) ?_
    refine qX_getS 8 13 _ 2 dX8_readTrolley_87 fs_X8_20 rfl rfl sh178 (x := 181) rfl ?_
    refine qX_iload dX8_readTrolley_90 rfl ?_
    refine qX_iconst dX8_readTrolley_92 (i32_of rfl) ?_
    refine qR_iadd dX8_readTrolley_93 h.1 ?_
    replace h := h.2
    refine qX_iload_n 2 dX8_readTrolley_94 rfl rfl ?_
    refine qX_iast dX8_readTrolley_95 sh181 h.1 ?_
    replace h := h.2
    replace h := h _ rfl
    refine qX_aload_n 0 dX8_readTrolley_96 rfl rfl (by decide) ?_
    refine qX_getS 8 13 _ 2 dX8_readTrolley_97 fs_X8_20 rfl rfl sh178 (x := 181) rfl ?_
    refine qX_iload dX8_readTrolley_100 rfl ?_
    refine qX_iconst dX8_readTrolley_102 (i32_of rfl) ?_
    refine qR_iadd dX8_readTrolley_103 h.1 ?_
    replace h := h.2
    refine qX_iload_n 3 dX8_readTrolley_104 rfl rfl ?_
    refine qX_iast dX8_readTrolley_105 sh181 h.1 ?_
    replace h := h.2
    replace h := h _ rfl
    refine qX_aload_n 0 dX8_readTrolley_106 rfl rfl (by decide) ?_
    refine qX_getS 8 13 _ 2 dX8_readTrolley_107 fs_X8_20 rfl rfl sh178 (x := 181) rfl ?_
    refine qX_iload dX8_readTrolley_110 rfl ?_
    refine qX_iconst dX8_readTrolley_112 (i32_of rfl) ?_
    refine qR_iadd dX8_readTrolley_113 h.1 ?_
    replace h := h.2
    refine qX_iload dX8_readTrolley_114 rfl ?_
    refine qX_iast dX8_readTrolley_116 sh181 h.1 ?_
    replace h := h.2
    replace h := h _ rfl
    refine qX_aload_n 0 dX8_readTrolley_117 rfl rfl (by decide) ?_
    refine qX_getS 8 13 _ 2 dX8_readTrolley_118 fs_X8_20 rfl rfl sh178 (x := 181) rfl ?_
    refine qX_iload dX8_readTrolley_121 rfl ?_
    refine qX_iconst dX8_readTrolley_123 (i32_of rfl) ?_
    refine qR_iadd dX8_readTrolley_124 h.1 ?_
    replace h := h.2
    refine qX_iload dX8_readTrolley_125 rfl ?_
    refine qX_iast dX8_readTrolley_127 sh181 h.1 ?_
    replace h := h.2
    replace h := h _ rfl
    refine qX_aload_n 0 dX8_readTrolley_128 rfl rfl (by decide) ?_
    refine qX_getS 8 13 _ 2 dX8_readTrolley_129 fs_X8_20 rfl rfl sh178 (x := 181) rfl ?_
    refine qX_iload dX8_readTrolley_132 rfl ?_
    refine qX_iconst dX8_readTrolley_134 (i32_of rfl) ?_
    refine qR_iadd dX8_readTrolley_135 h.1 ?_
    replace h := h.2
    refine qX_iload dX8_readTrolley_136 rfl ?_
    refine qX_iast dX8_readTrolley_138 sh181 h.1 ?_
    replace h := h.2
    replace h := h _ rfl
    refine qX_aload_n 0 dX8_readTrolley_139 rfl rfl (by decide) ?_
    refine qX_getS 8 13 _ 2 dX8_readTrolley_140 fs_X8_20 rfl rfl sh178 (x := 181) rfl ?_
    refine qX_bip dX8_readTrolley_143 rfl ?_
    refine qX_dup2 dX8_readTrolley_145 rfl rfl ?_
    refine qX_iald dX8_readTrolley_146 sh181 ⟨by decide, by decide⟩ ?_
    refine qX_iconst dX8_readTrolley_147 (i32_of rfl) ?_
    refine qR_iadd dX8_readTrolley_148 h.1 ?_
    replace h := h.2
    refine qX_iast dX8_readTrolley_149 sh181 ⟨by decide, by decide⟩ ?_
    replace h := h _ rfl
    exact qX_return rfl dX8_readTrolley_150 rfl ⟨Nat.le_refl _, Nat.le_refl _⟩ h
  · replace h := h.2 hc
    exact qX_return rfl dX8_readTrolley_77 rfl ⟨Nat.le_refl _, Nat.le_refl _⟩ h
set_option maxRecDepth 20000 in
theorem e_X8_jobsOf {Post : Int → Rf → Mem → Prop} {ρ : Rf} {μ : Mem} {x0 nx0 : Nat} (hx0 : GG.2[x0]? = some (10, nx0)) {x1 : Int}
  (h : qX mX8_jobsOf GG Post GG (0, 0) 4 [some (qP x0), some (qI x1), some (qI 0), some (qI 0)] [] ρ μ) : qE mX8_jobsOf GG GG [qP x0, qI x1] ρ μ Post := by
  refine qE_intro pl_X8_jobsOf (Nat.le_of_ble_eq_true rfl) (Nat.le_refl _) ?_
  refine qX_iconst dX8_jobsOf_0 (i32_of rfl) ?_
  refine qX_istore_n 2 dX8_jobsOf_1 rfl (Nat.le_of_ble_eq_true rfl) rfl ?_
  refine qX_iconst dX8_jobsOf_2 (i32_of rfl) ?_
  refine qX_istore_n 3 dX8_jobsOf_3 rfl (Nat.le_of_ble_eq_true rfl) rfl ?_
  exact qX_mask [true, true, true, true] h
set_option maxRecDepth 20000 in
theorem w_X8_jobsOf_4 {Post : Int → Rf → Mem → Prop} {ρ : Rf} {μ : Mem} {x0 nx0 : Nat} (hx0 : GG.2[x0]? = some (10, nx0)) {x1 : Int} {x2 : Int} {x3 : Int}
  (h : (0 ≤ (87 : Int) ∧ (87 : Int) < nx0) ∧ ((μ x0 87 ≤ x3 → Post x2 ρ μ) ∧ (x3 < μ x0 87 → i32 (5 * x3) ∧ i32 (88 + (5 * x3)) ∧ i32 ((88 + (5 * x3)) + 0) ∧ (0 ≤ (88 + (5 * x3)) + 0 ∧ (88 + (5 * x3)) + 0 < nx0) ∧ ((μ x0 ((88 + (5 * x3)) + 0) ≠ x1 → i32 (x2 + 0) ∧ i32 (x3 + 1) ∧ qX mX8_jobsOf GG Post GG (0, 0) 4 [some (qP x0), some (qI x1), some (qI (x2 + 0)), some (qI (x3 + 1))] [] ρ μ) ∧ (μ x0 ((88 + (5 * x3)) + 0) = x1 → i32 (x2 + 1) ∧ i32 (x3 + 1) ∧ qX mX8_jobsOf GG Post GG (0, 0) 4 [some (qP x0), some (qI x1), some (qI (x2 + 1)), some (qI (x3 + 1))] [] ρ μ))))) : qX mX8_jobsOf GG Post GG (0, 0) 4 [some (qP x0), some (qI x1), some (qI x2), some (qI x3)] [] ρ μ := by
  refine qX_iload_n 3 dX8_jobsOf_4 rfl rfl ?_
  refine qX_aload_n 0 dX8_jobsOf_5 rfl rfl (shN hx0) ?_
  refine qX_bip dX8_jobsOf_6 rfl ?_
  refine qX_iald dX8_jobsOf_8 hx0 h.1 ?_
  replace h := h.2
  refine qX_icmp_ge 40 dX8_jobsOf_9 rfl (fun hc => ?_) (fun hc => ?_)
  · replace h := h.1 hc
    refine qX_iload_n 2 dX8_jobsOf_40 rfl rfl ?_
    exact qX_ireturn rfl dX8_jobsOf_41 rfl ⟨Nat.le_refl _, Nat.le_refl _⟩ h
  · replace h := h.2 hc
    refine qX_iload_n 2 dX8_jobsOf_12 rfl rfl ?_
    refine qX_aload_n 0 dX8_jobsOf_13 rfl rfl (shN hx0) ?_
    refine qX_bip dX8_jobsOf_14 rfl ?_
    refine qX_iconst dX8_jobsOf_16 (i32_of rfl) ?_
    refine qX_iload_n 3 dX8_jobsOf_17 rfl rfl ?_
    refine qR_imul dX8_jobsOf_18 h.1 ?_
    replace h := h.2
    refine qR_iadd dX8_jobsOf_19 h.1 ?_
    replace h := h.2
    refine qX_iconst dX8_jobsOf_20 (i32_of rfl) ?_
    refine qR_iadd dX8_jobsOf_21 h.1 ?_
    replace h := h.2
    refine qX_iald dX8_jobsOf_22 hx0 h.1 ?_
    replace h := h.2
    refine qX_iload_n 1 dX8_jobsOf_23 rfl rfl ?_
    refine qX_icmp_ne 31 dX8_jobsOf_24 rfl (fun hc => ?_) (fun hc => ?_)
    · replace h := h.1 hc
      refine qX_iconst dX8_jobsOf_31 (i32_of rfl) ?_
      refine qR_iadd dX8_jobsOf_32 h.1 ?_
      replace h := h.2
      refine qX_istore_n 2 dX8_jobsOf_33 rfl (Nat.le_of_ble_eq_true rfl) rfl ?_
      refine qR_iinc dX8_jobsOf_34 rfl (Nat.le_of_ble_eq_true rfl) rfl h.1 ?_
      replace h := h.2
      refine qX_goto 4 dX8_jobsOf_37 rfl ?_
      exact qX_mask [true, true, true, true] h
    · replace h := h.2 hc
      refine qX_iconst dX8_jobsOf_27 (i32_of rfl) ?_
      refine qX_goto 32 dX8_jobsOf_28 rfl ?_
      refine qR_iadd dX8_jobsOf_32 h.1 ?_
      replace h := h.2
      refine qX_istore_n 2 dX8_jobsOf_33 rfl (Nat.le_of_ble_eq_true rfl) rfl ?_
      refine qR_iinc dX8_jobsOf_34 rfl (Nat.le_of_ble_eq_true rfl) rfl h.1 ?_
      replace h := h.2
      refine qX_goto 4 dX8_jobsOf_37 rfl ?_
      exact qX_mask [true, true, true, true] h
set_option maxRecDepth 20000 in
theorem e_X8_layJob {Post : Int → Rf → Mem → Prop} {ρ : Rf} {μ : Mem} {x0 nx0 : Nat} (hx0 : GG.2[x0]? = some (10, nx0)) {x1 : Int} {x2 : Int} {x3 : Int} {x4 : Int} {x5 : Int} {x6 : Int}
  (h : i32 (5 * x1) ∧ i32 (88 + (5 * x1)) ∧ i32 ((88 + (5 * x1)) + 0) ∧ (0 ≤ (88 + (5 * x1)) + 0 ∧ (88 + (5 * x1)) + 0 < nx0) ∧ ∀ μ1, μ1 = up2 μ x0 ((88 + (5 * x1)) + 0) x2 → i32 ((88 + (5 * x1)) + 1) ∧ (0 ≤ (88 + (5 * x1)) + 1 ∧ (88 + (5 * x1)) + 1 < nx0) ∧ ∀ μ2, μ2 = up2 μ1 x0 ((88 + (5 * x1)) + 1) x3 → i32 ((88 + (5 * x1)) + 2) ∧ (0 ≤ (88 + (5 * x1)) + 2 ∧ (88 + (5 * x1)) + 2 < nx0) ∧ ∀ μ3, μ3 = up2 μ2 x0 ((88 + (5 * x1)) + 2) x4 → i32 ((88 + (5 * x1)) + 3) ∧ (0 ≤ (88 + (5 * x1)) + 3 ∧ (88 + (5 * x1)) + 3 < nx0) ∧ ∀ μ4, μ4 = up2 μ3 x0 ((88 + (5 * x1)) + 3) x5 → i32 ((88 + (5 * x1)) + 4) ∧ (0 ≤ (88 + (5 * x1)) + 4 ∧ (88 + (5 * x1)) + 4 < nx0) ∧ ∀ μ5, μ5 = up2 μ4 x0 ((88 + (5 * x1)) + 4) x6 → Post 0 ρ μ5) : qE mX8_layJob GG GG [qP x0, qI x1, qI x2, qI x3, qI x4, qI x5, qI x6] ρ μ Post := by
  refine qE_intro pl_X8_layJob (Nat.le_of_ble_eq_true rfl) (Nat.le_refl _) ?_
  refine qX_bip dX8_layJob_0 rfl ?_
  refine qX_iconst dX8_layJob_2 (i32_of rfl) ?_
  refine qX_iload_n 1 dX8_layJob_3 rfl rfl ?_
  refine qR_imul dX8_layJob_4 h.1 ?_
  replace h := h.2
  refine qR_iadd dX8_layJob_5 h.1 ?_
  replace h := h.2
  refine qX_istore dX8_layJob_6 (Nat.le_of_ble_eq_true rfl) rfl ?_
  refine qX_aload_n 0 dX8_layJob_8 rfl rfl (shN hx0) ?_
  refine qX_iload dX8_layJob_9 rfl ?_
  refine qX_iconst dX8_layJob_11 (i32_of rfl) ?_
  refine qR_iadd dX8_layJob_12 h.1 ?_
  replace h := h.2
  refine qX_iload_n 2 dX8_layJob_13 rfl rfl ?_
  refine qX_iast dX8_layJob_14 hx0 h.1 ?_
  replace h := h.2
  replace h := h _ rfl
  refine qX_aload_n 0 dX8_layJob_15 rfl rfl (shN hx0) ?_
  refine qX_iload dX8_layJob_16 rfl ?_
  refine qX_iconst dX8_layJob_18 (i32_of rfl) ?_
  refine qR_iadd dX8_layJob_19 h.1 ?_
  replace h := h.2
  refine qX_iload_n 3 dX8_layJob_20 rfl rfl ?_
  refine qX_iast dX8_layJob_21 hx0 h.1 ?_
  replace h := h.2
  replace h := h _ rfl
  refine qX_aload_n 0 dX8_layJob_22 rfl rfl (shN hx0) ?_
  refine qX_iload dX8_layJob_23 rfl ?_
  refine qX_iconst dX8_layJob_25 (i32_of rfl) ?_
  refine qR_iadd dX8_layJob_26 h.1 ?_
  replace h := h.2
  refine qX_iload dX8_layJob_27 rfl ?_
  refine qX_iast dX8_layJob_29 hx0 h.1 ?_
  replace h := h.2
  replace h := h _ rfl
  refine qX_aload_n 0 dX8_layJob_30 rfl rfl (shN hx0) ?_
  refine qX_iload dX8_layJob_31 rfl ?_
  refine qX_iconst dX8_layJob_33 (i32_of rfl) ?_
  refine qR_iadd dX8_layJob_34 h.1 ?_
  replace h := h.2
  refine qX_iload dX8_layJob_35 rfl ?_
  refine qX_iast dX8_layJob_37 hx0 h.1 ?_
  replace h := h.2
  replace h := h _ rfl
  refine qX_aload_n 0 dX8_layJob_38 rfl rfl (shN hx0) ?_
  refine qX_iload dX8_layJob_39 rfl ?_
  refine qX_iconst dX8_layJob_41 (i32_of rfl) ?_
  refine qR_iadd dX8_layJob_42 h.1 ?_
  replace h := h.2
  refine qX_iload dX8_layJob_43 rfl ?_
  refine qX_iast dX8_layJob_45 hx0 h.1 ?_
  replace h := h.2
  replace h := h _ rfl
  exact qX_return rfl dX8_layJob_46 rfl ⟨Nat.le_refl _, Nat.le_refl _⟩ h
set_option maxRecDepth 20000 in
theorem e_X8_readJob {Post : Int → Rf → Mem → Prop} {ρ : Rf} {μ : Mem} 
  (h : ((μ 181 87 ≠ 20 → qX mX8_readJob GG Post GG (0, 0) 17 [some (qP 178), none, none, none, none, none] [] ρ μ) ∧ (μ 181 87 = 20 → ∃ P : Int → Rf → Mem → Prop, qE mX8_report GG GG [qP 178, qI 4] ρ μ P ∧ ∀ (z1 : Int) (ρ2 : Rf) (μ3 : Mem), P z1 ρ2 μ3 → qX mX8_readJob GG Post GG (0, 0) 17 [some (qP 178), none, none, none, none, none] [] ρ2 μ3))) : qE mX8_readJob GG GG [qP 178] ρ μ Post := by
  refine qE_intro pl_X8_readJob (Nat.le_of_ble_eq_true rfl) (Nat.le_refl _) ?_
  refine qX_aload_n 0 dX8_readJob_0 rfl rfl (by decide) ?_
  refine qX_getS 8 13 _ 2 dX8_readJob_1 fs_X8_20 rfl rfl sh178 (x := 181) rfl ?_
  refine qX_bip dX8_readJob_4 rfl ?_
  refine qX_iald dX8_readJob_6 sh181 ⟨by decide, by decide⟩ ?_
  refine qX_bip dX8_readJob_7 rfl ?_
  refine qX_icmp_ne 17 dX8_readJob_9 rfl (fun hc => ?_) (fun hc => ?_)
  · replace h := h.1 hc
    exact qX_mask [true, false, false, false, false, false] h
  · replace h := h.2 hc
    refine qX_aload_n 0 dX8_readJob_12 rfl rfl (by decide) ?_
    refine qX_iconst dX8_readJob_13 (i32_of rfl) ?_
    obtain ⟨P, hE4, h⟩ := h
    refine qN_callV mX8_report [_] _ 8 [] dX8_readJob_14 cm_X8_168 ⟨(Nat.le_of_ble_eq_true rfl), (Nat.le_of_ble_eq_true rfl)⟩ rfl rfl sh178 (Nat.le_of_ble_eq_true rfl) ⟨rfl, rfl⟩ hE4 (fun z1 ρ2 μ3 hz => ?_)
    replace h := h _ _ _ hz
    exact qX_mask [true, false, false, false, false, false] h
set_option maxRecDepth 20000 in
theorem w_X8_readJob_17 {Post : Int → Rf → Mem → Prop} {ρ : Rf} {μ : Mem} 
  (h : ∃ P : Int → Rf → Mem → Prop, qE mX8_advance GG GG [qP 178] ρ μ P ∧ ∀ (z1 : Int) (ρ2 : Rf) (μ3 : Mem), P z1 ρ2 μ3 → i32 ((μ3 181 61) - 1) ∧ ∃ P : Int → Rf → Mem → Prop, qE mX8_peek GG GG [qP 178, qI 0, qI ((μ3 181 61) - 1)] ρ2 μ3 P ∧ ∀ (z5 : Int) (ρ6 : Rf) (μ7 : Mem), P z5 ρ6 μ7 → ((μ7 178 6 ≠ 0 → qX mX8_readJob GG Post GG (0, 0) 61 [some (qP 178), some (qI z5), none, none, none, none] [] ρ6 μ7) ∧ (μ7 178 6 = 0 → ∃ P : Int → Rf → Mem → Prop, qE mX8_jobsOf GG GG [qP 181, qI z5] ρ6 μ7 P ∧ ∀ (z9 : Int) (ρ10 : Rf) (μ11 : Mem), P z9 ρ10 μ11 → ((z9 ≠ 8 → qX mX8_readJob GG Post GG (0, 0) 61 [some (qP 178), some (qI z5), none, none, none, none] [] ρ10 μ11) ∧ (z9 = 8 → ∃ P : Int → Rf → Mem → Prop, qE mX8_report GG GG [qP 178, qI 4] ρ10 μ11 P ∧ ∀ (z13 : Int) (ρ14 : Rf) (μ15 : Mem), P z13 ρ14 μ15 → qX mX8_readJob GG Post GG (0, 0) 61 [some (qP 178), some (qI z5), none, none, none, none] [] ρ14 μ15))))) : qX mX8_readJob GG Post GG (0, 0) 17 [some (qP 178), none, none, none, none, none] [] ρ μ := by
  refine qX_aload_n 0 dX8_readJob_17 rfl rfl (by decide) ?_
  obtain ⟨P, hE4, h⟩ := h
  refine qN_callV mX8_advance [] _ 8 [] dX8_readJob_18 cm_X8_171 ⟨(Nat.le_of_ble_eq_true rfl), (Nat.le_of_ble_eq_true rfl)⟩ rfl rfl sh178 (Nat.le_of_ble_eq_true rfl) ⟨rfl, rfl⟩ hE4 (fun z1 ρ2 μ3 hz => ?_)
  replace h := h _ _ _ hz
  refine qX_aload_n 0 dX8_readJob_21 rfl rfl (by decide) ?_
  refine qX_iconst dX8_readJob_22 (i32_of rfl) ?_
  refine qX_aload_n 0 dX8_readJob_23 rfl rfl (by decide) ?_
  refine qX_getS 8 13 _ 2 dX8_readJob_24 fs_X8_20 rfl rfl sh178 (x := 181) rfl ?_
  refine qX_bip dX8_readJob_27 rfl ?_
  refine qX_iald dX8_readJob_29 sh181 ⟨by decide, by decide⟩ ?_
  refine qX_iconst dX8_readJob_30 (i32_of rfl) ?_
  refine qR_isub dX8_readJob_31 h.1 ?_
  replace h := h.2
  obtain ⟨P, hE8, h⟩ := h
  refine qN_callV mX8_peek [_, _] _ 8 [] dX8_readJob_32 cm_X8_174 ⟨(Nat.le_of_ble_eq_true rfl), (Nat.le_of_ble_eq_true rfl)⟩ rfl rfl sh178 (Nat.le_of_ble_eq_true rfl) ⟨rfl, rfl⟩ hE8 (fun z5 ρ6 μ7 hz => ?_)
  replace h := h _ _ _ hz
  refine qX_istore_n 1 dX8_readJob_35 rfl (Nat.le_of_ble_eq_true rfl) rfl ?_
  refine qX_aload_n 0 dX8_readJob_36 rfl rfl (by decide) ?_
  refine qX_getI 8 6 _ dX8_readJob_37 fs_X8_119 sh178 ?_
  refine qX_if_ne 61 dX8_readJob_40 rfl (fun hc => ?_) (fun hc => ?_)
  · replace h := h.1 hc
    exact qX_mask [true, true, false, false, false, false] h
  · replace h := h.2 hc
    refine qX_aload_n 0 dX8_readJob_43 rfl rfl (by decide) ?_
    refine qX_getS 8 13 _ 2 dX8_readJob_44 fs_X8_20 rfl rfl sh178 (x := 181) rfl ?_
    refine qX_iload_n 1 dX8_readJob_47 rfl rfl ?_
    obtain ⟨P, hE12, h⟩ := h
    refine qN_callS mX8_jobsOf [_, _] [] dX8_readJob_48 cm_X8_194 ⟨(Nat.le_of_ble_eq_true rfl), (Nat.le_of_ble_eq_true rfl)⟩ rfl rfl (Nat.le_of_ble_eq_true rfl) ⟨rfl, rfl⟩ hE12 (fun z9 ρ10 μ11 hz => ?_)
    replace h := h _ _ _ hz
    refine qX_bip dX8_readJob_51 rfl ?_
    refine qX_icmp_ne 61 dX8_readJob_53 rfl (fun hc => ?_) (fun hc => ?_)
    · replace h := h.1 hc
      exact qX_mask [true, true, false, false, false, false] h
    · replace h := h.2 hc
      refine qX_aload_n 0 dX8_readJob_56 rfl rfl (by decide) ?_
      refine qX_iconst dX8_readJob_57 (i32_of rfl) ?_
      obtain ⟨P, hE16, h⟩ := h
      refine qN_callV mX8_report [_] _ 8 [] dX8_readJob_58 cm_X8_168 ⟨(Nat.le_of_ble_eq_true rfl), (Nat.le_of_ble_eq_true rfl)⟩ rfl rfl sh178 (Nat.le_of_ble_eq_true rfl) ⟨rfl, rfl⟩ hE16 (fun z13 ρ14 μ15 hz => ?_)
      replace h := h _ _ _ hz
      exact qX_mask [true, true, false, false, false, false] h
set_option maxRecDepth 20000 in
theorem w_X8_readJob_61 {Post : Int → Rf → Mem → Prop} {ρ : Rf} {μ : Mem} {x1 : Int}
  (h : ∃ P : Int → Rf → Mem → Prop, qE mX8_advance GG GG [qP 178] ρ μ P ∧ ∀ (z1 : Int) (ρ2 : Rf) (μ3 : Mem), P z1 ρ2 μ3 → ∃ P : Int → Rf → Mem → Prop, qE mX8_peekTrain GG GG [qP 178] ρ2 μ3 P ∧ ∀ (z5 : Int) (ρ6 : Rf) (μ7 : Mem), P z5 ρ6 μ7 → ∃ P : Int → Rf → Mem → Prop, qE mX8_advance GG GG [qP 178] ρ6 μ7 P ∧ ∀ (z9 : Int) (ρ10 : Rf) (μ11 : Mem), P z9 ρ10 μ11 → i32 (4 + z5) ∧ (0 ≤ 4 + z5 ∧ 4 + z5 < 188) ∧ i32 ((μ11 181 (4 + z5)) - 1) ∧ ∃ P : Int → Rf → Mem → Prop, qE mX8_number GG GG [qP 178, qI 0, qI ((μ11 181 (4 + z5)) - 1)] ρ10 μ11 P ∧ ∀ (z13 : Int) (ρ14 : Rf) (μ15 : Mem), P z13 ρ14 μ15 → ∃ P : Int → Rf → Mem → Prop, qE mX8_peekMeal GG GG [qP 178] ρ14 μ15 P ∧ ∀ (z17 : Int) (ρ18 : Rf) (μ19 : Mem), P z17 ρ18 μ19 → ∃ P : Int → Rf → Mem → Prop, qE mX8_advance GG GG [qP 178] ρ18 μ19 P ∧ ∀ (z21 : Int) (ρ22 : Rf) (μ23 : Mem), P z21 ρ22 μ23 → ∃ P : Int → Rf → Mem → Prop, qE mX8_number GG GG [qP 178, qI 1, qI 99] ρ22 μ23 P ∧ ∀ (z25 : Int) (ρ26 : Rf) (μ27 : Mem), P z25 ρ26 μ27 → ((μ27 178 6 ≤ 0 → ∃ P : Int → Rf → Mem → Prop, qE mX8_layJob GG GG [qP 181, qI (μ27 181 87), qI x1, qI z5, qI z13, qI z17, qI z25] ρ26 μ27 P ∧ ∀ (z29 : Int) (ρ30 : Rf) (μ31 : Mem), P z29 ρ30 μ31 → i32 ((μ31 181 87) + 1) ∧ ∀ μ33, μ33 = up2 μ31 181 87 ((μ31 181 87) + 1) → Post 0 ρ30 μ33) ∧ (0 < μ27 178 6 → Post 0 ρ26 μ27))) : qX mX8_readJob GG Post GG (0, 0) 61 [some (qP 178), some (qI x1), none, none, none, none] [] ρ μ := by
  refine qX_aload_n 0 dX8_readJob_61 rfl rfl (by decide) ?_
  obtain ⟨P, hE4, h⟩ := h
  refine qN_callV mX8_advance [] _ 8 [] dX8_readJob_62 cm_X8_171 ⟨(Nat.le_of_ble_eq_true rfl), (Nat.le_of_ble_eq_true rfl)⟩ rfl rfl sh178 (Nat.le_of_ble_eq_true rfl) ⟨rfl, rfl⟩ hE4 (fun z1 ρ2 μ3 hz => ?_)
  replace h := h _ _ _ hz
  refine qX_aload_n 0 dX8_readJob_65 rfl rfl (by decide) ?_
  obtain ⟨P, hE8, h⟩ := h
  refine qN_callV mX8_peekTrain [] _ 8 [] dX8_readJob_66 cm_X8_188 ⟨(Nat.le_of_ble_eq_true rfl), (Nat.le_of_ble_eq_true rfl)⟩ rfl rfl sh178 (Nat.le_of_ble_eq_true rfl) ⟨rfl, rfl⟩ hE8 (fun z5 ρ6 μ7 hz => ?_)
  replace h := h _ _ _ hz
  refine qX_istore_n 2 dX8_readJob_69 rfl (Nat.le_of_ble_eq_true rfl) rfl ?_
  refine qX_aload_n 0 dX8_readJob_70 rfl rfl (by decide) ?_
  obtain ⟨P, hE12, h⟩ := h
  refine qN_callV mX8_advance [] _ 8 [] dX8_readJob_71 cm_X8_171 ⟨(Nat.le_of_ble_eq_true rfl), (Nat.le_of_ble_eq_true rfl)⟩ rfl rfl sh178 (Nat.le_of_ble_eq_true rfl) ⟨rfl, rfl⟩ hE12 (fun z9 ρ10 μ11 hz => ?_)
  replace h := h _ _ _ hz
  refine qX_aload_n 0 dX8_readJob_74 rfl rfl (by decide) ?_
  refine qX_iconst dX8_readJob_75 (i32_of rfl) ?_
  refine qX_aload_n 0 dX8_readJob_76 rfl rfl (by decide) ?_
  refine qX_getS 8 13 _ 2 dX8_readJob_77 fs_X8_20 rfl rfl sh178 (x := 181) rfl ?_
  refine qX_iconst dX8_readJob_80 (i32_of rfl) ?_
  refine qX_iload_n 2 dX8_readJob_81 rfl rfl ?_
  refine qR_iadd dX8_readJob_82 h.1 ?_
  replace h := h.2
  refine qX_iald dX8_readJob_83 sh181 h.1 ?_
  replace h := h.2
  refine qX_iconst dX8_readJob_84 (i32_of rfl) ?_
  refine qR_isub dX8_readJob_85 h.1 ?_
  replace h := h.2
  obtain ⟨P, hE16, h⟩ := h
  refine qN_callV mX8_number [_, _] _ 8 [] dX8_readJob_86 cm_X8_185 ⟨(Nat.le_of_ble_eq_true rfl), (Nat.le_of_ble_eq_true rfl)⟩ rfl rfl sh178 (Nat.le_of_ble_eq_true rfl) ⟨rfl, rfl⟩ hE16 (fun z13 ρ14 μ15 hz => ?_)
  replace h := h _ _ _ hz
  refine qX_istore_n 3 dX8_readJob_89 rfl (Nat.le_of_ble_eq_true rfl) rfl ?_
  refine qX_aload_n 0 dX8_readJob_90 rfl rfl (by decide) ?_
  obtain ⟨P, hE20, h⟩ := h
  refine qN_callV mX8_peekMeal [] _ 8 [] dX8_readJob_91 cm_X8_191 ⟨(Nat.le_of_ble_eq_true rfl), (Nat.le_of_ble_eq_true rfl)⟩ rfl rfl sh178 (Nat.le_of_ble_eq_true rfl) ⟨rfl, rfl⟩ hE20 (fun z17 ρ18 μ19 hz => ?_)
  replace h := h _ _ _ hz
  refine qX_istore dX8_readJob_94 (Nat.le_of_ble_eq_true rfl) rfl ?_
  refine qX_aload_n 0 dX8_readJob_96 rfl rfl (by decide) ?_
  obtain ⟨P, hE24, h⟩ := h
  refine qN_callV mX8_advance [] _ 8 [] dX8_readJob_97 cm_X8_171 ⟨(Nat.le_of_ble_eq_true rfl), (Nat.le_of_ble_eq_true rfl)⟩ rfl rfl sh178 (Nat.le_of_ble_eq_true rfl) ⟨rfl, rfl⟩ hE24 (fun z21 ρ22 μ23 hz => ?_)
  replace h := h _ _ _ hz
  refine qX_aload_n 0 dX8_readJob_100 rfl rfl (by decide) ?_
  refine qX_iconst dX8_readJob_101 (i32_of rfl) ?_
  refine qX_bip dX8_readJob_102 rfl ?_
  obtain ⟨P, hE28, h⟩ := h
  refine qN_callV mX8_number [_, _] _ 8 [] dX8_readJob_104 cm_X8_185 ⟨(Nat.le_of_ble_eq_true rfl), (Nat.le_of_ble_eq_true rfl)⟩ rfl rfl sh178 (Nat.le_of_ble_eq_true rfl) ⟨rfl, rfl⟩ hE28 (fun z25 ρ26 μ27 hz => ?_)
  replace h := h _ _ _ hz
  refine qX_istore dX8_readJob_107 (Nat.le_of_ble_eq_true rfl) rfl ?_
  refine qX_aload_n 0 dX8_readJob_109 rfl rfl (by decide) ?_
  refine qX_getI 8 6 _ dX8_readJob_110 fs_X8_119 sh178 ?_
  refine qX_if_le 117 dX8_readJob_113 rfl (fun hc => ?_) (fun hc => ?_)
  · replace h := h.1 hc
    refine qX_aload_n 0 dX8_readJob_117 rfl rfl (by decide) ?_
    refine qX_getS 8 13 _ 2 dX8_readJob_118 fs_X8_20 rfl rfl sh178 (x := 181) rfl ?_
    refine qX_aload_n 0 dX8_readJob_121 rfl rfl (by decide) ?_
    refine qX_getS 8 13 _ 2 dX8_readJob_122 fs_X8_20 rfl rfl sh178 (x := 181) rfl ?_
    refine qX_bip dX8_readJob_125 rfl ?_
    refine qX_iald dX8_readJob_127 sh181 ⟨by decide, by decide⟩ ?_
    refine qX_iload_n 1 dX8_readJob_128 rfl rfl ?_
    refine qX_iload_n 2 dX8_readJob_129 rfl rfl ?_
    refine qX_iload_n 3 dX8_readJob_130 rfl rfl ?_
    refine qX_iload dX8_readJob_131 rfl ?_
    refine qX_iload dX8_readJob_133 rfl ?_
    obtain ⟨P, hE32, h⟩ := h
    refine qN_callS mX8_layJob [_, _, _, _, _, _, _] [] dX8_readJob_135 cm_X8_198 ⟨(Nat.le_of_ble_eq_true rfl), (Nat.le_of_ble_eq_true rfl)⟩ rfl rfl (Nat.le_of_ble_eq_true rfl) ⟨rfl, rfl⟩ hE32 (fun z29 ρ30 μ31 hz => ?_)
    replace h := h _ _ _ hz
    refine qX_aload_n 0 dX8_readJob_138 rfl rfl (by decide) ?_
    refine qX_getS 8 13 _ 2 dX8_readJob_139 fs_X8_20 rfl rfl sh178 (x := 181) rfl ?_
    refine qX_bip dX8_readJob_142 rfl ?_
    refine qX_dup2 dX8_readJob_144 rfl rfl ?_
    refine qX_iald dX8_readJob_145 sh181 ⟨by decide, by decide⟩ ?_
    refine qX_iconst dX8_readJob_146 (i32_of rfl) ?_
    refine qR_iadd dX8_readJob_147 h.1 ?_
    replace h := h.2
    refine qX_iast dX8_readJob_148 sh181 ⟨by decide, by decide⟩ ?_
    replace h := h _ rfl
    exact qX_return rfl dX8_readJob_149 rfl ⟨Nat.le_refl _, Nat.le_refl _⟩ h
  · replace h := h.2 hc
    exact qX_return rfl dX8_readJob_116 rfl ⟨Nat.le_refl _, Nat.le_refl _⟩ h
set_option maxRecDepth 20000 in
theorem e_X8_readLine {Post : Int → Rf → Mem → Prop} {ρ : Rf} {μ : Mem} 
  (h : ∃ P : Int → Rf → Mem → Prop, qE mX8_reserved GG GG [qP 178] ρ μ P ∧ ∀ (z1 : Int) (ρ2 : Rf) (μ3 : Mem), P z1 ρ2 μ3 → (((z1 < 0 ∨ 6 < z1) → ∃ P : Int → Rf → Mem → Prop, qE mX8_report GG GG [qP 178, qI 1] ρ2 μ3 P ∧ ∀ (z5 : Int) (ρ6 : Rf) (μ7 : Mem), P z5 ρ6 μ7 → Post 0 ρ6 μ7) ∧ (z1 = 0 → ∃ P : Int → Rf → Mem → Prop, qE mX8_readTrain GG GG [qP 178] ρ2 μ3 P ∧ ∀ (z9 : Int) (ρ10 : Rf) (μ11 : Mem), P z9 ρ10 μ11 → Post 0 ρ10 μ11) ∧ (z1 = 1 → ∃ P : Int → Rf → Mem → Prop, qE mX8_readCar GG GG [qP 178] ρ2 μ3 P ∧ ∀ (z13 : Int) (ρ14 : Rf) (μ15 : Mem), P z13 ρ14 μ15 → Post 0 ρ14 μ15) ∧ (z1 = 2 → ∃ P : Int → Rf → Mem → Prop, qE mX8_readMeal GG GG [qP 178] ρ2 μ3 P ∧ ∀ (z17 : Int) (ρ18 : Rf) (μ19 : Mem), P z17 ρ18 μ19 → Post 0 ρ18 μ19) ∧ (z1 = 3 → ∃ P : Int → Rf → Mem → Prop, qE mX8_readKitchen GG GG [qP 178] ρ2 μ3 P ∧ ∀ (z21 : Int) (ρ22 : Rf) (μ23 : Mem), P z21 ρ22 μ23 → Post 0 ρ22 μ23) ∧ (z1 = 4 → ∃ P : Int → Rf → Mem → Prop, qE mX8_readStock GG GG [qP 178] ρ2 μ3 P ∧ ∀ (z25 : Int) (ρ26 : Rf) (μ27 : Mem), P z25 ρ26 μ27 → Post 0 ρ26 μ27) ∧ (z1 = 5 → ∃ P : Int → Rf → Mem → Prop, qE mX8_readTrolley GG GG [qP 178] ρ2 μ3 P ∧ ∀ (z29 : Int) (ρ30 : Rf) (μ31 : Mem), P z29 ρ30 μ31 → Post 0 ρ30 μ31) ∧ (z1 = 6 → ∃ P : Int → Rf → Mem → Prop, qE mX8_readJob GG GG [qP 178] ρ2 μ3 P ∧ ∀ (z33 : Int) (ρ34 : Rf) (μ35 : Mem), P z33 ρ34 μ35 → Post 0 ρ34 μ35))) : qE mX8_readLine GG GG [qP 178] ρ μ Post := by
  refine qE_intro pl_X8_readLine (Nat.le_of_ble_eq_true rfl) (Nat.le_refl _) ?_
  refine qX_aload_n 0 dX8_readLine_0 rfl rfl (by decide) ?_
  obtain ⟨P, hE4, h⟩ := h
  refine qN_callV mX8_reserved [] _ 8 [] dX8_readLine_1 cm_X8_165 ⟨(Nat.le_of_ble_eq_true rfl), (Nat.le_of_ble_eq_true rfl)⟩ rfl rfl sh178 (Nat.le_of_ble_eq_true rfl) ⟨rfl, rfl⟩ hE4 (fun z1 ρ2 μ3 hz => ?_)
  replace h := h _ _ _ hz
  refine qX_tswN 97 dX8_readLine_4 rfl (fun hc => ?_) (fun j hj hc => ?_)
  · replace h := h.1 hc
    refine qX_aload_n 0 dX8_readLine_97 rfl rfl (by decide) ?_
    refine qX_iconst dX8_readLine_98 (i32_of rfl) ?_
    obtain ⟨P, hE8, h⟩ := h
    refine qN_callV mX8_report [_] _ 8 [] dX8_readLine_99 cm_X8_168 ⟨(Nat.le_of_ble_eq_true rfl), (Nat.le_of_ble_eq_true rfl)⟩ rfl rfl sh178 (Nat.le_of_ble_eq_true rfl) ⟨rfl, rfl⟩ hE8 (fun z5 ρ6 μ7 hz => ?_)
    replace h := h _ _ _ hz
    exact qX_return rfl dX8_readLine_102 rfl ⟨Nat.le_refl _, Nat.le_refl _⟩ h
  · match j, hj, hc with
    | 0, _, hc =>
      refine ⟨48, _, rfl, rfl, ?_⟩
      replace h := h.2.1 hc
      refine qX_aload_n 0 dX8_readLine_48 rfl rfl (by decide) ?_
      obtain ⟨P, hE12, h⟩ := h
      refine qN_callV mX8_readTrain [] _ 8 [] dX8_readLine_49 cm_X8_202 ⟨(Nat.le_of_ble_eq_true rfl), (Nat.le_of_ble_eq_true rfl)⟩ rfl rfl sh178 (Nat.le_of_ble_eq_true rfl) ⟨rfl, rfl⟩ hE12 (fun z9 ρ10 μ11 hz => ?_)
      replace h := h _ _ _ hz
      refine qX_goto 102 dX8_readLine_52 rfl ?_
      exact qX_return rfl dX8_readLine_102 rfl ⟨Nat.le_refl _, Nat.le_refl _⟩ h
    | 1, _, hc =>
      refine ⟨55, _, rfl, rfl, ?_⟩
      replace h := h.2.2.1 hc
      refine qX_aload_n 0 dX8_readLine_55 rfl rfl (by decide) ?_
      obtain ⟨P, hE16, h⟩ := h
      refine qN_callV mX8_readCar [] _ 8 [] dX8_readLine_56 cm_X8_205 ⟨(Nat.le_of_ble_eq_true rfl), (Nat.le_of_ble_eq_true rfl)⟩ rfl rfl sh178 (Nat.le_of_ble_eq_true rfl) ⟨rfl, rfl⟩ hE16 (fun z13 ρ14 μ15 hz => ?_)
      replace h := h _ _ _ hz
      refine qX_goto 102 dX8_readLine_59 rfl ?_
      exact qX_return rfl dX8_readLine_102 rfl ⟨Nat.le_refl _, Nat.le_refl _⟩ h
    | 2, _, hc =>
      refine ⟨62, _, rfl, rfl, ?_⟩
      replace h := h.2.2.2.1 hc
      refine qX_aload_n 0 dX8_readLine_62 rfl rfl (by decide) ?_
      obtain ⟨P, hE20, h⟩ := h
      refine qN_callV mX8_readMeal [] _ 8 [] dX8_readLine_63 cm_X8_208 ⟨(Nat.le_of_ble_eq_true rfl), (Nat.le_of_ble_eq_true rfl)⟩ rfl rfl sh178 (Nat.le_of_ble_eq_true rfl) ⟨rfl, rfl⟩ hE20 (fun z17 ρ18 μ19 hz => ?_)
      replace h := h _ _ _ hz
      refine qX_goto 102 dX8_readLine_66 rfl ?_
      exact qX_return rfl dX8_readLine_102 rfl ⟨Nat.le_refl _, Nat.le_refl _⟩ h
    | 3, _, hc =>
      refine ⟨69, _, rfl, rfl, ?_⟩
      replace h := h.2.2.2.2.1 hc
      refine qX_aload_n 0 dX8_readLine_69 rfl rfl (by decide) ?_
      obtain ⟨P, hE24, h⟩ := h
      refine qN_callV mX8_readKitchen [] _ 8 [] dX8_readLine_70 cm_X8_211 ⟨(Nat.le_of_ble_eq_true rfl), (Nat.le_of_ble_eq_true rfl)⟩ rfl rfl sh178 (Nat.le_of_ble_eq_true rfl) ⟨rfl, rfl⟩ hE24 (fun z21 ρ22 μ23 hz => ?_)
      replace h := h _ _ _ hz
      refine qX_goto 102 dX8_readLine_73 rfl ?_
      exact qX_return rfl dX8_readLine_102 rfl ⟨Nat.le_refl _, Nat.le_refl _⟩ h
    | 4, _, hc =>
      refine ⟨76, _, rfl, rfl, ?_⟩
      replace h := h.2.2.2.2.2.1 hc
      refine qX_aload_n 0 dX8_readLine_76 rfl rfl (by decide) ?_
      obtain ⟨P, hE28, h⟩ := h
      refine qN_callV mX8_readStock [] _ 8 [] dX8_readLine_77 cm_X8_214 ⟨(Nat.le_of_ble_eq_true rfl), (Nat.le_of_ble_eq_true rfl)⟩ rfl rfl sh178 (Nat.le_of_ble_eq_true rfl) ⟨rfl, rfl⟩ hE28 (fun z25 ρ26 μ27 hz => ?_)
      replace h := h _ _ _ hz
      refine qX_goto 102 dX8_readLine_80 rfl ?_
      exact qX_return rfl dX8_readLine_102 rfl ⟨Nat.le_refl _, Nat.le_refl _⟩ h
    | 5, _, hc =>
      refine ⟨83, _, rfl, rfl, ?_⟩
      replace h := h.2.2.2.2.2.2.1 hc
      refine qX_aload_n 0 dX8_readLine_83 rfl rfl (by decide) ?_
      obtain ⟨P, hE32, h⟩ := h
      refine qN_callV mX8_readTrolley [] _ 8 [] dX8_readLine_84 cm_X8_217 ⟨(Nat.le_of_ble_eq_true rfl), (Nat.le_of_ble_eq_true rfl)⟩ rfl rfl sh178 (Nat.le_of_ble_eq_true rfl) ⟨rfl, rfl⟩ hE32 (fun z29 ρ30 μ31 hz => ?_)
      replace h := h _ _ _ hz
      refine qX_goto 102 dX8_readLine_87 rfl ?_
      exact qX_return rfl dX8_readLine_102 rfl ⟨Nat.le_refl _, Nat.le_refl _⟩ h
    | 6, _, hc =>
      refine ⟨90, _, rfl, rfl, ?_⟩
      replace h := h.2.2.2.2.2.2.2 hc
      refine qX_aload_n 0 dX8_readLine_90 rfl rfl (by decide) ?_
      obtain ⟨P, hE36, h⟩ := h
      refine qN_callV mX8_readJob [] _ 8 [] dX8_readLine_91 cm_X8_220 ⟨(Nat.le_of_ble_eq_true rfl), (Nat.le_of_ble_eq_true rfl)⟩ rfl rfl sh178 (Nat.le_of_ble_eq_true rfl) ⟨rfl, rfl⟩ hE36 (fun z33 ρ34 μ35 hz => ?_)
      replace h := h _ _ _ hz
      refine qX_goto 102 dX8_readLine_94 rfl ?_
      exact qX_return rfl dX8_readLine_102 rfl ⟨Nat.le_refl _, Nat.le_refl _⟩ h
    | j + 7, hj, _ => exact absurd hj (by omega)
set_option maxRecDepth 20000 in
theorem e_X8_readText {Post : Int → Rf → Mem → Prop} {ρ : Rf} {μ : Mem} 
  (h : qX mX8_readText GG Post GG (0, 0) 2 [some (qP 178), some (qI 0)] [] ρ μ) : qE mX8_readText GG GG [qP 178] ρ μ Post := by
  refine qE_intro pl_X8_readText (Nat.le_of_ble_eq_true rfl) (Nat.le_refl _) ?_
  refine qX_iconst dX8_readText_0 (i32_of rfl) ?_
  refine qX_istore_n 1 dX8_readText_1 rfl (Nat.le_of_ble_eq_true rfl) rfl ?_
  exact qX_mask [true, true] h
set_option maxRecDepth 20000 in
theorem w_X8_readText_2 {Post : Int → Rf → Mem → Prop} {ρ : Rf} {μ : Mem} {x1 : Int}
  (h : ((188 ≤ x1 → qX mX8_readText GG Post GG (0, 0) 24 [some (qP 178), some (qI 0)] [] ρ μ) ∧ (x1 < 188 → (0 ≤ x1 ∧ x1 < 188) ∧ ∀ μ1, μ1 = up2 μ 181 x1 0 → i32 (x1 + 1) ∧ qX mX8_readText GG Post GG (0, 0) 2 [some (qP 178), some (qI (x1 + 1))] [] ρ μ1))) : qX mX8_readText GG Post GG (0, 0) 2 [some (qP 178), some (qI x1)] [] ρ μ := by
  refine qX_iload_n 1 dX8_readText_2 rfl rfl ?_
  refine qX_sip dX8_readText_3 rfl ?_
  refine qX_icmp_ge 22 dX8_readText_6 rfl (fun hc => ?_) (fun hc => ?_)
  · replace h := h.1 hc
    refine qX_iconst dX8_readText_22 (i32_of rfl) ?_
    refine qX_istore_n 1 dX8_readText_23 rfl (Nat.le_of_ble_eq_true rfl) rfl ?_
    exact qX_mask [true, true] h
  · replace h := h.2 hc
    refine qX_aload_n 0 dX8_readText_9 rfl rfl (by decide) ?_
    refine qX_getS 8 13 _ 2 dX8_readText_10 fs_X8_20 rfl rfl sh178 (x := 181) rfl ?_
    refine qX_iload_n 1 dX8_readText_13 rfl rfl ?_
    refine qX_iconst dX8_readText_14 (i32_of rfl) ?_
    refine qX_iast dX8_readText_15 sh181 h.1 ?_
    replace h := h.2
    replace h := h _ rfl
    refine qR_iinc dX8_readText_16 rfl (Nat.le_of_ble_eq_true rfl) rfl h.1 ?_
    replace h := h.2
    refine qX_goto 2 dX8_readText_19 rfl ?_
    exact qX_mask [true, true] h
set_option maxRecDepth 20000 in
theorem w_X8_readText_24 {Post : Int → Rf → Mem → Prop} {ρ : Rf} {μ : Mem} {x1 : Int}
  (h : ((12 ≤ x1 → ∀ μ1, μ1 = up2 μ 185 0 0 → ∀ μ2, μ2 = up2 μ1 185 1 0 → ∃ P : Int → Rf → Mem → Prop, qE mX8_advance GG GG [qP 178] ρ μ2 P ∧ ∀ (z3 : Int) (ρ4 : Rf) (μ5 : Mem), P z3 ρ4 μ5 → ∃ P : Int → Rf → Mem → Prop, qE mX8_readLine GG GG [qP 178] ρ4 μ5 P ∧ ∀ (z7 : Int) (ρ8 : Rf) (μ9 : Mem), P z7 ρ8 μ9 → qX mX8_readText GG Post GG (0, 0) 65 [some (qP 178), none] [] ρ8 μ9) ∧ (x1 < 12 → (0 ≤ x1 ∧ x1 < 12) ∧ ∀ μ11, μ11 = up2 μ 186 x1 0 → i32 (x1 + 1) ∧ qX mX8_readText GG Post GG (0, 0) 24 [some (qP 178), some (qI (x1 + 1))] [] ρ μ11))) : qX mX8_readText GG Post GG (0, 0) 24 [some (qP 178), some (qI x1)] [] ρ μ := by
  refine qX_iload_n 1 dX8_readText_24 rfl rfl ?_
  refine qX_bip dX8_readText_25 rfl ?_
  refine qX_icmp_ge 43 dX8_readText_27 rfl (fun hc => ?_) (fun hc => ?_)
  · replace h := h.1 hc
    refine qX_aload_n 0 dX8_readText_43 rfl rfl (by decide) ?_
    refine qX_getS 8 17 _ 6 dX8_readText_44 fs_X8_33 rfl rfl sh178 (x := 185) rfl ?_
    refine qX_iconst dX8_readText_47 (i32_of rfl) ?_
    refine qX_iconst dX8_readText_48 (i32_of rfl) ?_
    refine qX_zast dX8_readText_49 sh185 ⟨by decide, by decide⟩ (by decide) ?_
    replace h := h _ rfl
    refine qX_aload_n 0 dX8_readText_50 rfl rfl (by decide) ?_
    refine qX_getS 8 17 _ 6 dX8_readText_51 fs_X8_33 rfl rfl sh178 (x := 185) rfl ?_
    refine qX_iconst dX8_readText_54 (i32_of rfl) ?_
    refine qX_iconst dX8_readText_55 (i32_of rfl) ?_
    refine qX_zast dX8_readText_56 sh185 ⟨by decide, by decide⟩ (by decide) ?_
    replace h := h _ rfl
    refine qX_aload_n 0 dX8_readText_57 rfl rfl (by decide) ?_
    obtain ⟨P, hE6, h⟩ := h
    refine qN_callV mX8_advance [] _ 8 [] dX8_readText_58 cm_X8_171 ⟨(Nat.le_of_ble_eq_true rfl), (Nat.le_of_ble_eq_true rfl)⟩ rfl rfl sh178 (Nat.le_of_ble_eq_true rfl) ⟨rfl, rfl⟩ hE6 (fun z3 ρ4 μ5 hz => ?_)
    replace h := h _ _ _ hz
    refine qX_aload_n 0 dX8_readText_61 rfl rfl (by decide) ?_
    obtain ⟨P, hE10, h⟩ := h
    refine qN_callV mX8_readLine [] _ 8 [] dX8_readText_62 cm_X8_223 ⟨(Nat.le_of_ble_eq_true rfl), (Nat.le_of_ble_eq_true rfl)⟩ rfl rfl sh178 (Nat.le_of_ble_eq_true rfl) ⟨rfl, rfl⟩ hE10 (fun z7 ρ8 μ9 hz => ?_)
    replace h := h _ _ _ hz
    exact qX_mask [true, false] h
  · replace h := h.2 hc
    refine qX_aload_n 0 dX8_readText_30 rfl rfl (by decide) ?_
    refine qX_getS 8 18 _ 7 dX8_readText_31 fs_X8_37 rfl rfl sh178 (x := 186) rfl ?_
    refine qX_iload_n 1 dX8_readText_34 rfl rfl ?_
    refine qX_iconst dX8_readText_35 (i32_of rfl) ?_
    refine qX_zast dX8_readText_36 sh186 h.1 (by decide) ?_
    replace h := h.2
    replace h := h _ rfl
    refine qR_iinc dX8_readText_37 rfl (Nat.le_of_ble_eq_true rfl) rfl h.1 ?_
    replace h := h.2
    refine qX_goto 24 dX8_readText_40 rfl ?_
    exact qX_mask [true, true] h
set_option maxRecDepth 20000 in
theorem w_X8_readText_65 {Post : Int → Rf → Mem → Prop} {ρ : Rf} {μ : Mem} 
  (h : ((μ 178 6 ≠ 0 → qX mX8_readText GG Post GG (0, 0) 91 [some (qP 178), none] [] ρ μ) ∧ (μ 178 6 = 0 → ((μ 178 8 ≠ 4 → qX mX8_readText GG Post GG (0, 0) 91 [some (qP 178), none] [] ρ μ) ∧ (μ 178 8 = 4 → ∃ P : Int → Rf → Mem → Prop, qE mX8_advance GG GG [qP 178] ρ μ P ∧ ∀ (z1 : Int) (ρ2 : Rf) (μ3 : Mem), P z1 ρ2 μ3 → ∃ P : Int → Rf → Mem → Prop, qE mX8_readLine GG GG [qP 178] ρ2 μ3 P ∧ ∀ (z5 : Int) (ρ6 : Rf) (μ7 : Mem), P z5 ρ6 μ7 → qX mX8_readText GG Post GG (0, 0) 65 [some (qP 178), none] [] ρ6 μ7))))) : qX mX8_readText GG Post GG (0, 0) 65 [some (qP 178), none] [] ρ μ := by
  refine qX_aload_n 0 dX8_readText_65 rfl rfl (by decide) ?_
  refine qX_getI 8 6 _ dX8_readText_66 fs_X8_119 sh178 ?_
  refine qX_if_ne 91 dX8_readText_69 rfl (fun hc => ?_) (fun hc => ?_)
  · replace h := h.1 hc
    exact qX_mask [true, false] h
  · replace h := h.2 hc
    refine qX_aload_n 0 dX8_readText_72 rfl rfl (by decide) ?_
    refine qX_getI 8 8 _ dX8_readText_73 fs_X8_139 sh178 ?_
    refine qX_iconst dX8_readText_76 (i32_of rfl) ?_
    refine qX_icmp_ne 91 dX8_readText_77 rfl (fun hc => ?_) (fun hc => ?_)
    · replace h := h.1 hc
      exact qX_mask [true, false] h
    · replace h := h.2 hc
      refine qX_aload_n 0 dX8_readText_80 rfl rfl (by decide) ?_
      obtain ⟨P, hE4, h⟩ := h
      refine qN_callV mX8_advance [] _ 8 [] dX8_readText_81 cm_X8_171 ⟨(Nat.le_of_ble_eq_true rfl), (Nat.le_of_ble_eq_true rfl)⟩ rfl rfl sh178 (Nat.le_of_ble_eq_true rfl) ⟨rfl, rfl⟩ hE4 (fun z1 ρ2 μ3 hz => ?_)
      replace h := h _ _ _ hz
      refine qX_aload_n 0 dX8_readText_84 rfl rfl (by decide) ?_
      obtain ⟨P, hE8, h⟩ := h
      refine qN_callV mX8_readLine [] _ 8 [] dX8_readText_85 cm_X8_223 ⟨(Nat.le_of_ble_eq_true rfl), (Nat.le_of_ble_eq_true rfl)⟩ rfl rfl sh178 (Nat.le_of_ble_eq_true rfl) ⟨rfl, rfl⟩ hE8 (fun z5 ρ6 μ7 hz => ?_)
      replace h := h _ _ _ hz
      refine qX_goto 65 dX8_readText_88 rfl ?_
      exact qX_mask [true, false] h
set_option maxRecDepth 20000 in
theorem w_X8_readText_91 {Post : Int → Rf → Mem → Prop} {ρ : Rf} {μ : Mem} 
  (h : ((μ 178 6 ≠ 0 → qX mX8_readText GG Post GG (0, 0) 111 [some (qP 178), none] [] ρ μ) ∧ (μ 178 6 = 0 → ((μ 178 8 = 1 → qX mX8_readText GG Post GG (0, 0) 111 [some (qP 178), none] [] ρ μ) ∧ (μ 178 8 ≠ 1 → ∃ P : Int → Rf → Mem → Prop, qE mX8_report GG GG [qP 178, qI 1] ρ μ P ∧ ∀ (z1 : Int) (ρ2 : Rf) (μ3 : Mem), P z1 ρ2 μ3 → qX mX8_readText GG Post GG (0, 0) 111 [some (qP 178), none] [] ρ2 μ3))))) : qX mX8_readText GG Post GG (0, 0) 91 [some (qP 178), none] [] ρ μ := by
  refine qX_aload_n 0 dX8_readText_91 rfl rfl (by decide) ?_
  refine qX_getI 8 6 _ dX8_readText_92 fs_X8_119 sh178 ?_
  refine qX_if_ne 111 dX8_readText_95 rfl (fun hc => ?_) (fun hc => ?_)
  · replace h := h.1 hc
    exact qX_mask [true, false] h
  · replace h := h.2 hc
    refine qX_aload_n 0 dX8_readText_98 rfl rfl (by decide) ?_
    refine qX_getI 8 8 _ dX8_readText_99 fs_X8_139 sh178 ?_
    refine qX_iconst dX8_readText_102 (i32_of rfl) ?_
    refine qX_icmp_eq 111 dX8_readText_103 rfl (fun hc => ?_) (fun hc => ?_)
    · replace h := h.1 hc
      exact qX_mask [true, false] h
    · replace h := h.2 hc
      refine qX_aload_n 0 dX8_readText_106 rfl rfl (by decide) ?_
      refine qX_iconst dX8_readText_107 (i32_of rfl) ?_
      obtain ⟨P, hE4, h⟩ := h
      refine qN_callV mX8_report [_] _ 8 [] dX8_readText_108 cm_X8_168 ⟨(Nat.le_of_ble_eq_true rfl), (Nat.le_of_ble_eq_true rfl)⟩ rfl rfl sh178 (Nat.le_of_ble_eq_true rfl) ⟨rfl, rfl⟩ hE4 (fun z1 ρ2 μ3 hz => ?_)
      replace h := h _ _ _ hz
      exact qX_mask [true, false] h
set_option maxRecDepth 20000 in
theorem w_X8_readText_111 {Post : Int → Rf → Mem → Prop} {ρ : Rf} {μ : Mem} 
  (h : qX mX8_readText GG Post GG (0, 0) 113 [some (qP 178), some (qI 0)] [] ρ μ) : qX mX8_readText GG Post GG (0, 0) 111 [some (qP 178), none] [] ρ μ := by
  refine qX_iconst dX8_readText_111 (i32_of rfl) ?_
  refine qX_istore_n 1 dX8_readText_112 rfl (Nat.le_of_ble_eq_true rfl) rfl ?_
  exact qX_mask [true, true] h
set_option maxRecDepth 20000 in
theorem w_X8_readText_113 {Post : Int → Rf → Mem → Prop} {ρ : Rf} {μ : Mem} {x1 : Int}
  (h : ((2 ≤ x1 → ((μ 181 36 = 0 → ∃ P : Int → Rf → Mem → Prop, qE mX8_report GG GG [qP 178, qI 5] ρ μ P ∧ ∀ (z1 : Int) (ρ2 : Rf) (μ3 : Mem), P z1 ρ2 μ3 → Post 0 ρ2 μ3) ∧ (μ 181 36 ≠ 0 → ((μ 181 61 ≠ 0 → Post 0 ρ μ) ∧ (μ 181 61 = 0 → ∃ P : Int → Rf → Mem → Prop, qE mX8_report GG GG [qP 178, qI 5] ρ μ P ∧ ∀ (z5 : Int) (ρ6 : Rf) (μ7 : Mem), P z5 ρ6 μ7 → Post 0 ρ6 μ7))))) ∧ (x1 < 2 → (0 ≤ x1 ∧ x1 < 2) ∧ ((μ 185 x1 = 0 → qX mX8_readText GG Post GG (0, 0) 138 [some (qP 178), some (qI x1)] [] ρ μ) ∧ (μ 185 x1 ≠ 0 → i32 (4 + x1) ∧ (0 ≤ 4 + x1 ∧ 4 + x1 < 188) ∧ ((μ 181 (4 + x1) ≠ 0 → qX mX8_readText GG Post GG (0, 0) 143 [some (qP 178), some (qI x1)] [] ρ μ) ∧ (μ 181 (4 + x1) = 0 → qX mX8_readText GG Post GG (0, 0) 138 [some (qP 178), some (qI x1)] [] ρ μ))))))) : qX mX8_readText GG Post GG (0, 0) 113 [some (qP 178), some (qI x1)] [] ρ μ := by
  refine qX_iload_n 1 dX8_readText_113 rfl rfl ?_
  refine qX_iconst dX8_readText_114 (i32_of rfl) ?_
  refine qX_icmp_ge 149 dX8_readText_115 rfl (fun hc => ?_) (fun hc => ?_)
  · replace h := h.1 hc
    refine qX_aload_n 0 dX8_readText_149 rfl rfl (by decide) ?_
    refine qX_getS 8 13 _ 2 dX8_readText_150 fs_X8_20 rfl rfl sh178 (x := 181) rfl ?_
    refine qX_bip dX8_readText_153 rfl ?_
    refine qX_iald dX8_readText_155 sh181 ⟨by decide, by decide⟩ ?_
    refine qX_if_eq 169 dX8_readText_156 rfl (fun hc => ?_) (fun hc => ?_)
    · replace h := h.1 hc
      refine qX_aload_n 0 dX8_readText_169 rfl rfl (by decide) ?_
      refine qX_iconst dX8_readText_170 (i32_of rfl) ?_
      obtain ⟨P, hE4, h⟩ := h
      refine qN_callV mX8_report [_] _ 8 [] dX8_readText_171 cm_X8_168 ⟨(Nat.le_of_ble_eq_true rfl), (Nat.le_of_ble_eq_true rfl)⟩ rfl rfl sh178 (Nat.le_of_ble_eq_true rfl) ⟨rfl, rfl⟩ hE4 (fun z1 ρ2 μ3 hz => ?_)
      replace h := h _ _ _ hz
      exact qX_return rfl dX8_readText_174 rfl ⟨Nat.le_refl _, Nat.le_refl _⟩ h
    · replace h := h.2 hc
      refine qX_aload_n 0 dX8_readText_159 rfl rfl (by decide) ?_
      refine qX_getS 8 13 _ 2 dX8_readText_160 fs_X8_20 rfl rfl sh178 (x := 181) rfl ?_
      refine qX_bip dX8_readText_163 rfl ?_
      refine qX_iald dX8_readText_165 sh181 ⟨by decide, by decide⟩ ?_
      refine qX_if_ne 174 dX8_readText_166 rfl (fun hc => ?_) (fun hc => ?_)
      · replace h := h.1 hc
        exact qX_return rfl dX8_readText_174 rfl ⟨Nat.le_refl _, Nat.le_refl _⟩ h
      · replace h := h.2 hc
        refine qX_aload_n 0 dX8_readText_169 rfl rfl (by decide) ?_
        refine qX_iconst dX8_readText_170 (i32_of rfl) ?_
        obtain ⟨P, hE8, h⟩ := h
        refine qN_callV mX8_report [_] _ 8 [] dX8_readText_171 cm_X8_168 ⟨(Nat.le_of_ble_eq_true rfl), (Nat.le_of_ble_eq_true rfl)⟩ rfl rfl sh178 (Nat.le_of_ble_eq_true rfl) ⟨rfl, rfl⟩ hE8 (fun z5 ρ6 μ7 hz => ?_)
        replace h := h _ _ _ hz
        exact qX_return rfl dX8_readText_174 rfl ⟨Nat.le_refl _, Nat.le_refl _⟩ h
  · replace h := h.2 hc
    refine qX_aload_n 0 dX8_readText_118 rfl rfl (by decide) ?_
    refine qX_getS 8 17 _ 6 dX8_readText_119 fs_X8_33 rfl rfl sh178 (x := 185) rfl ?_
    refine qX_iload_n 1 dX8_readText_122 rfl rfl ?_
    refine qX_zald dX8_readText_123 sh185 h.1 ?_
    replace h := h.2
    refine qX_if_eq 138 dX8_readText_124 rfl (fun hc => ?_) (fun hc => ?_)
    · replace h := h.1 hc
      exact qX_mask [true, true] h
    · replace h := h.2 hc
      refine qX_aload_n 0 dX8_readText_127 rfl rfl (by decide) ?_
      refine qX_getS 8 13 _ 2 dX8_readText_128 fs_X8_20 rfl rfl sh178 (x := 181) rfl ?_
      refine qX_iconst dX8_readText_131 (i32_of rfl) ?_
      refine qX_iload_n 1 dX8_readText_132 rfl rfl ?_
      refine qR_iadd dX8_readText_133 h.1 ?_
      replace h := h.2
      refine qX_iald dX8_readText_134 sh181 h.1 ?_
      replace h := h.2
      refine qX_if_ne 143 dX8_readText_135 rfl (fun hc => ?_) (fun hc => ?_)
      · replace h := h.1 hc
        exact qX_mask [true, true] h
      · replace h := h.2 hc
        exact qX_mask [true, true] h
set_option maxRecDepth 20000 in
theorem w_X8_readText_138 {Post : Int → Rf → Mem → Prop} {ρ : Rf} {μ : Mem} {x1 : Int}
  (h : ∃ P : Int → Rf → Mem → Prop, qE mX8_report GG GG [qP 178, qI 5] ρ μ P ∧ ∀ (z1 : Int) (ρ2 : Rf) (μ3 : Mem), P z1 ρ2 μ3 → qX mX8_readText GG Post GG (0, 0) 143 [some (qP 178), some (qI x1)] [] ρ2 μ3) : qX mX8_readText GG Post GG (0, 0) 138 [some (qP 178), some (qI x1)] [] ρ μ := by
  refine qX_aload_n 0 dX8_readText_138 rfl rfl (by decide) ?_
  refine qX_iconst dX8_readText_139 (i32_of rfl) ?_
  obtain ⟨P, hE4, h⟩ := h
  refine qN_callV mX8_report [_] _ 8 [] dX8_readText_140 cm_X8_168 ⟨(Nat.le_of_ble_eq_true rfl), (Nat.le_of_ble_eq_true rfl)⟩ rfl rfl sh178 (Nat.le_of_ble_eq_true rfl) ⟨rfl, rfl⟩ hE4 (fun z1 ρ2 μ3 hz => ?_)
  replace h := h _ _ _ hz
  exact qX_mask [true, true] h
set_option maxRecDepth 20000 in
theorem w_X8_readText_143 {Post : Int → Rf → Mem → Prop} {ρ : Rf} {μ : Mem} {x1 : Int}
  (h : i32 (x1 + 1) ∧ qX mX8_readText GG Post GG (0, 0) 113 [some (qP 178), some (qI (x1 + 1))] [] ρ μ) : qX mX8_readText GG Post GG (0, 0) 143 [some (qP 178), some (qI x1)] [] ρ μ := by
  refine qR_iinc dX8_readText_143 rfl (Nat.le_of_ble_eq_true rfl) rfl h.1 ?_
  replace h := h.2
  refine qX_goto 113 dX8_readText_146 rfl ?_
  exact qX_mask [true, true] h
set_option maxRecDepth 20000 in
theorem e_X8_load {Post : Int → Rf → Mem → Prop} {ρ : Rf} {μ : Mem} {x1 : Int}
  (h : ∀ μ1, μ1 = up2 μ 178 0 0 → ∃ P : Int → Rf → Mem → Prop, qE mX8_in GG GG [qI x1, qI 0, qI (μ1 178 3)] ρ μ1 P ∧ ∀ (z2 : Int) (ρ3 : Rf) (μ4 : Mem), P z2 ρ3 μ4 → ((z2 ≠ 0 → ∀ μ6, μ6 = up2 μ4 178 4 x1 → ∀ μ7, μ7 = up2 μ6 178 3 0 → ∀ μ8, μ8 = up2 μ7 178 5 0 → ∀ μ9, μ9 = up2 μ8 178 6 0 → ∀ μ10, μ10 = up2 μ9 178 7 (-1) → ∃ P : Int → Rf → Mem → Prop, qE mX8_readText GG GG [qP 178] ρ3 μ10 P ∧ ∀ (z11 : Int) (ρ12 : Rf) (μ13 : Mem), P z11 ρ12 μ13 → ((μ13 178 6 ≤ 0 → ∃ P : Int → Rf → Mem → Prop, qE mX8_copy GG GG [qP 181, qI 0, qP 180, qI 0] ρ12 μ13 P ∧ ∀ (z15 : Int) (ρ16 : Rf) (μ17 : Mem), P z15 ρ16 μ17 → ∀ μ19, μ19 = up2 μ17 178 20 1 → ∀ μ20, μ20 = up2 μ19 178 21 0 → ∀ μ21, μ21 = up2 μ20 178 19 0 → ∃ P : Int → Rf → Mem → Prop, qE mX8_done GG GG [qP 178, qI (μ21 180 87)] ρ16 μ21 P ∧ ∀ (z22 : Int) (ρ23 : Rf) (μ24 : Mem), P z22 ρ23 μ24 → Post z22 ρ23 μ24) ∧ (0 < μ13 178 6 → ∃ P : Int → Rf → Mem → Prop, qE mX8_failed GG GG [qP 178, qI 4] ρ12 μ13 P ∧ ∀ (z26 : Int) (ρ27 : Rf) (μ28 : Mem), P z26 ρ27 μ28 → Post z26 ρ27 μ28))) ∧ (z2 = 0 → ∃ P : Int → Rf → Mem → Prop, qE mX8_failed GG GG [qP 178, qI 2] ρ3 μ4 P ∧ ∀ (z30 : Int) (ρ31 : Rf) (μ32 : Mem), P z30 ρ31 μ32 → Post z30 ρ31 μ32))) : qE mX8_load GG GG [qP 178, qI x1] ρ μ Post := by
  refine qE_intro pl_X8_load (Nat.le_of_ble_eq_true rfl) (Nat.le_refl _) ?_
  refine qX_aload_n 0 dX8_load_0 rfl rfl (by decide) ?_
  refine qX_iconst dX8_load_1 (i32_of rfl) ?_
  refine qX_putI 8 0 _ dX8_load_2 fs_X8_103 sh178 ?_
  replace h := h _ rfl
  refine qX_iload_n 1 dX8_load_5 rfl rfl ?_
  refine qX_iconst dX8_load_6 (i32_of rfl) ?_
  refine qX_aload_n 0 dX8_load_7 rfl rfl (by decide) ?_
  refine qX_getI 8 3 _ dX8_load_8 fs_X8_112 sh178 ?_
  obtain ⟨P, hE5, h⟩ := h
  refine qN_callS mX8_in [_, _, _] [] dX8_load_11 cm_X8_142 ⟨(Nat.le_of_ble_eq_true rfl), (Nat.le_of_ble_eq_true rfl)⟩ rfl rfl (Nat.le_of_ble_eq_true rfl) ⟨rfl, rfl⟩ hE5 (fun z2 ρ3 μ4 hz => ?_)
  replace h := h _ _ _ hz
  refine qX_if_ne 23 dX8_load_14 rfl (fun hc => ?_) (fun hc => ?_)
  · replace h := h.1 hc
    refine qX_aload_n 0 dX8_load_23 rfl rfl (by decide) ?_
    refine qX_iload_n 1 dX8_load_24 rfl rfl ?_
    refine qX_putI 8 4 _ dX8_load_25 fs_X8_122 sh178 ?_
    replace h := h _ rfl
    refine qX_aload_n 0 dX8_load_28 rfl rfl (by decide) ?_
    refine qX_iconst dX8_load_29 (i32_of rfl) ?_
    refine qX_putI 8 3 _ dX8_load_30 fs_X8_112 sh178 ?_
    replace h := h _ rfl
    refine qX_aload_n 0 dX8_load_33 rfl rfl (by decide) ?_
    refine qX_iconst dX8_load_34 (i32_of rfl) ?_
    refine qX_putI 8 5 _ dX8_load_35 fs_X8_128 sh178 ?_
    replace h := h _ rfl
    refine qX_aload_n 0 dX8_load_38 rfl rfl (by decide) ?_
    refine qX_iconst dX8_load_39 (i32_of rfl) ?_
    refine qX_putI 8 6 _ dX8_load_40 fs_X8_119 sh178 ?_
    replace h := h _ rfl
    refine qX_aload_n 0 dX8_load_43 rfl rfl (by decide) ?_
    refine qX_iconst dX8_load_44 (i32_of rfl) ?_
    refine qX_putI 8 7 _ dX8_load_45 fs_X8_13 sh178 ?_
    replace h := h _ rfl
    refine qX_aload_n 0 dX8_load_48 rfl rfl (by decide) ?_
    obtain ⟨P, hE14, h⟩ := h
    refine qN_callV mX8_readText [] _ 8 [] dX8_load_49 cm_X8_229 ⟨(Nat.le_of_ble_eq_true rfl), (Nat.le_of_ble_eq_true rfl)⟩ rfl rfl sh178 (Nat.le_of_ble_eq_true rfl) ⟨rfl, rfl⟩ hE14 (fun z11 ρ12 μ13 hz => ?_)
    replace h := h _ _ _ hz
    refine qX_aload_n 0 dX8_load_52 rfl rfl (by decide) ?_
    refine qX_getI 8 6 _ dX8_load_53 fs_X8_119 sh178 ?_
    refine qX_if_le 65 dX8_load_56 rfl (fun hc => ?_) (fun hc => ?_)
    · replace h := h.1 hc
      refine qX_aload_n 0 dX8_load_65 rfl rfl (by decide) ?_
      refine qX_getS 8 13 _ 2 dX8_load_66 fs_X8_20 rfl rfl sh178 (x := 181) rfl ?_
      refine qX_iconst dX8_load_69 (i32_of rfl) ?_
      refine qX_aload_n 0 dX8_load_70 rfl rfl (by decide) ?_
      refine qX_getS 8 12 _ 1 dX8_load_71 fs_X8_17 rfl rfl sh178 (x := 180) rfl ?_
      refine qX_iconst dX8_load_74 (i32_of rfl) ?_
      obtain ⟨P, hE18, h⟩ := h
      refine qN_callS mX8_copy [_, _, _, _] [] dX8_load_75 cm_X8_232 ⟨(Nat.le_of_ble_eq_true rfl), (Nat.le_of_ble_eq_true rfl)⟩ rfl rfl (Nat.le_of_ble_eq_true rfl) ⟨rfl, rfl⟩ hE18 (fun z15 ρ16 μ17 hz => ?_)
      replace h := h _ _ _ hz
      refine qX_aload_n 0 dX8_load_78 rfl rfl (by decide) ?_
      refine qX_iconst dX8_load_79 (i32_of rfl) ?_
      refine qX_putZ 8 20 _ dX8_load_80 fs_X8_236 sh178 (by decide) ?_
      replace h := h _ rfl
      refine qX_aload_n 0 dX8_load_83 rfl rfl (by decide) ?_
      refine qX_iconst dX8_load_84 (i32_of rfl) ?_
      refine qX_putZ 8 21 _ dX8_load_85 fs_X8_240 sh178 (by decide) ?_
      replace h := h _ rfl
      refine qX_aload_n 0 dX8_load_88 rfl rfl (by decide) ?_
      refine qX_iconst dX8_load_89 (i32_of rfl) ?_
      refine qX_putI 8 19 _ dX8_load_90 fs_X8_243 sh178 ?_
      replace h := h _ rfl
      refine qX_aload_n 0 dX8_load_93 rfl rfl (by decide) ?_
      refine qX_aload_n 0 dX8_load_94 rfl rfl (by decide) ?_
      refine qX_getS 8 12 _ 1 dX8_load_95 fs_X8_17 rfl rfl sh178 (x := 180) rfl ?_
      refine qX_bip dX8_load_98 rfl ?_
      refine qX_iald dX8_load_100 sh180 ⟨by decide, by decide⟩ ?_
      obtain ⟨P, hE25, h⟩ := h
      refine qN_callV mX8_done [_] _ 8 [] dX8_load_101 cm_X8_246 ⟨(Nat.le_of_ble_eq_true rfl), (Nat.le_of_ble_eq_true rfl)⟩ rfl rfl sh178 (Nat.le_of_ble_eq_true rfl) ⟨rfl, rfl⟩ hE25 (fun z22 ρ23 μ24 hz => ?_)
      replace h := h _ _ _ hz
      exact qX_ireturn rfl dX8_load_104 rfl ⟨Nat.le_refl _, Nat.le_refl _⟩ h
    · replace h := h.2 hc
      refine qX_aload_n 0 dX8_load_59 rfl rfl (by decide) ?_
      refine qX_iconst dX8_load_60 (i32_of rfl) ?_
      obtain ⟨P, hE29, h⟩ := h
      refine qN_callV mX8_failed [_] _ 8 [] dX8_load_61 cm_X8_226 ⟨(Nat.le_of_ble_eq_true rfl), (Nat.le_of_ble_eq_true rfl)⟩ rfl rfl sh178 (Nat.le_of_ble_eq_true rfl) ⟨rfl, rfl⟩ hE29 (fun z26 ρ27 μ28 hz => ?_)
      replace h := h _ _ _ hz
      exact qX_ireturn rfl dX8_load_64 rfl ⟨Nat.le_refl _, Nat.le_refl _⟩ h
  · replace h := h.2 hc
    refine qX_aload_n 0 dX8_load_17 rfl rfl (by decide) ?_
    refine qX_iconst dX8_load_18 (i32_of rfl) ?_
    obtain ⟨P, hE33, h⟩ := h
    refine qN_callV mX8_failed [_] _ 8 [] dX8_load_19 cm_X8_226 ⟨(Nat.le_of_ble_eq_true rfl), (Nat.le_of_ble_eq_true rfl)⟩ rfl rfl sh178 (Nat.le_of_ble_eq_true rfl) ⟨rfl, rfl⟩ hE33 (fun z30 ρ31 μ32 hz => ?_)
    replace h := h _ _ _ hz
    exact qX_ireturn rfl dX8_load_22 rfl ⟨Nat.le_refl _, Nat.le_refl _⟩ h
set_option maxRecDepth 20000 in
theorem e_X8_copy {Post : Int → Rf → Mem → Prop} {ρ : Rf} {μ : Mem} {x0 nx0 : Nat} (hx0 : GG.2[x0]? = some (10, nx0)) {x1 : Int} {x2 nx2 : Nat} (hx2 : GG.2[x2]? = some (10, nx2)) {x3 : Int}
  (h : qX mX8_copy GG Post GG (0, 0) 3 [some (qP x0), some (qI x1), some (qP x2), some (qI x3), some (qI 0)] [] ρ μ) : qE mX8_copy GG GG [qP x0, qI x1, qP x2, qI x3] ρ μ Post := by
  refine qE_intro pl_X8_copy (Nat.le_of_ble_eq_true rfl) (Nat.le_refl _) ?_
  refine qX_iconst dX8_copy_0 (i32_of rfl) ?_
  refine qX_istore dX8_copy_1 (Nat.le_of_ble_eq_true rfl) rfl ?_
  exact qX_mask [true, true, true, true, true] h
set_option maxRecDepth 20000 in
theorem w_X8_copy_3 {Post : Int → Rf → Mem → Prop} {ρ : Rf} {μ : Mem} {x0 nx0 : Nat} (hx0 : GG.2[x0]? = some (10, nx0)) {x1 : Int} {x2 nx2 : Nat} (hx2 : GG.2[x2]? = some (10, nx2)) {x3 : Int} {x4 : Int}
  (h : ((188 ≤ x4 → Post 0 ρ μ) ∧ (x4 < 188 → i32 (x3 + x4) ∧ i32 (x1 + x4) ∧ (0 ≤ x1 + x4 ∧ x1 + x4 < nx0) ∧ (0 ≤ x3 + x4 ∧ x3 + x4 < nx2) ∧ ∀ μ1, μ1 = up2 μ x2 (x3 + x4) (μ x0 (x1 + x4)) → i32 (x4 + 1) ∧ qX mX8_copy GG Post GG (0, 0) 3 [some (qP x0), some (qI x1), some (qP x2), some (qI x3), some (qI (x4 + 1))] [] ρ μ1))) : qX mX8_copy GG Post GG (0, 0) 3 [some (qP x0), some (qI x1), some (qP x2), some (qI x3), some (qI x4)] [] ρ μ := by
  refine qX_iload dX8_copy_3 rfl ?_
  refine qX_sip dX8_copy_5 rfl ?_
  refine qX_icmp_ge 29 dX8_copy_8 rfl (fun hc => ?_) (fun hc => ?_)
  · replace h := h.1 hc
    exact qX_return rfl dX8_copy_29 rfl ⟨Nat.le_refl _, Nat.le_refl _⟩ h
  · replace h := h.2 hc
    refine qX_aload_n 2 dX8_copy_11 rfl rfl (shN hx2) ?_
    refine qX_iload_n 3 dX8_copy_12 rfl rfl ?_
    refine qX_iload dX8_copy_13 rfl ?_
    refine qR_iadd dX8_copy_15 h.1 ?_
    replace h := h.2
    refine qX_aload_n 0 dX8_copy_16 rfl rfl (shN hx0) ?_
    refine qX_iload_n 1 dX8_copy_17 rfl rfl ?_
    refine qX_iload dX8_copy_18 rfl ?_
    refine qR_iadd dX8_copy_20 h.1 ?_
    replace h := h.2
    refine qX_iald dX8_copy_21 hx0 h.1 ?_
    replace h := h.2
    refine qX_iast dX8_copy_22 hx2 h.1 ?_
    replace h := h.2
    replace h := h _ rfl
    refine qR_iinc dX8_copy_23 rfl (Nat.le_of_ble_eq_true rfl) rfl h.1 ?_
    replace h := h.2
    refine qX_goto 3 dX8_copy_26 rfl ?_
    exact qX_mask [true, true, true, true, true] h
set_option maxRecDepth 20000 in
theorem e_X8_remember {Post : Int → Rf → Mem → Prop} {ρ : Rf} {μ : Mem} 
  (h : ((μ 178 19 ≠ 10 → i32 (188 * (μ 178 19)) ∧ ∃ P : Int → Rf → Mem → Prop, qE mX8_copy GG GG [qP 180, qI 0, qP 183, qI (188 * (μ 178 19))] ρ μ P ∧ ∀ (z1 : Int) (ρ2 : Rf) (μ3 : Mem), P z1 ρ2 μ3 → i32 ((μ3 178 19) + 1) ∧ ∀ μ5, μ5 = up2 μ3 178 19 ((μ3 178 19) + 1) → Post 0 ρ2 μ5) ∧ (μ 178 19 = 10 → qX mX8_remember GG Post GG (0, 0) 13 [some (qP 178), some (qI 188)] [] ρ μ))) : qE mX8_remember GG GG [qP 178] ρ μ Post := by
  refine qE_intro pl_X8_remember (Nat.le_of_ble_eq_true rfl) (Nat.le_refl _) ?_
  refine qX_aload_n 0 dX8_remember_0 rfl rfl (by decide) ?_
  refine qX_getI 8 19 _ dX8_remember_1 fs_X8_243 sh178 ?_
  refine qX_bip dX8_remember_4 rfl ?_
  refine qX_icmp_ne 54 dX8_remember_6 rfl (fun hc => ?_) (fun hc => ?_)
  · replace h := h.1 hc
    refine qX_aload_n 0 dX8_remember_54 rfl rfl (by decide) ?_
    refine qX_getS 8 12 _ 1 dX8_remember_55 fs_X8_17 rfl rfl sh178 (x := 180) rfl ?_
    refine qX_iconst dX8_remember_58 (i32_of rfl) ?_
    refine qX_aload_n 0 dX8_remember_59 rfl rfl (by decide) ?_
    refine qX_getS 8 15 _ 4 dX8_remember_60 fs_X8_26 rfl rfl sh178 (x := 183) rfl ?_
    refine qX_sip dX8_remember_63 rfl ?_
    refine qX_aload_n 0 dX8_remember_66 rfl rfl (by decide) ?_
    refine qX_getI 8 19 _ dX8_remember_67 fs_X8_243 sh178 ?_
    refine qR_imul dX8_remember_70 h.1 ?_
    replace h := h.2
    obtain ⟨P, hE4, h⟩ := h
    refine qN_callS mX8_copy [_, _, _, _] [] dX8_remember_71 cm_X8_232 ⟨(Nat.le_of_ble_eq_true rfl), (Nat.le_of_ble_eq_true rfl)⟩ rfl rfl (Nat.le_of_ble_eq_true rfl) ⟨rfl, rfl⟩ hE4 (fun z1 ρ2 μ3 hz => ?_)
    replace h := h _ _ _ hz
    refine qX_aload_n 0 dX8_remember_74 rfl rfl (by decide) ?_
    refine qX_dup dX8_remember_75 rfl ?_
    refine qX_getI 8 19 _ dX8_remember_76 fs_X8_243 sh178 ?_
    refine qX_iconst dX8_remember_79 (i32_of rfl) ?_
    refine qR_iadd dX8_remember_80 h.1 ?_
    replace h := h.2
    refine qX_putI 8 19 _ dX8_remember_81 fs_X8_243 sh178 ?_
    replace h := h _ rfl
    exact qX_return rfl dX8_remember_84 rfl ⟨Nat.le_refl _, Nat.le_refl _⟩ h
  · replace h := h.2 hc
    refine qX_sip dX8_remember_9 rfl ?_
    refine qX_istore_n 1 dX8_remember_12 rfl (Nat.le_of_ble_eq_true rfl) rfl ?_
    exact qX_mask [true, true] h
set_option maxRecDepth 20000 in
theorem w_X8_remember_13 {Post : Int → Rf → Mem → Prop} {ρ : Rf} {μ : Mem} {x1 : Int}
  (h : ((1880 ≤ x1 → i32 ((μ 178 19) - 1) ∧ ∀ μ1, μ1 = up2 μ 178 19 ((μ 178 19) - 1) → i32 (188 * (μ1 178 19)) ∧ ∃ P : Int → Rf → Mem → Prop, qE mX8_copy GG GG [qP 180, qI 0, qP 183, qI (188 * (μ1 178 19))] ρ μ1 P ∧ ∀ (z2 : Int) (ρ3 : Rf) (μ4 : Mem), P z2 ρ3 μ4 → i32 ((μ4 178 19) + 1) ∧ ∀ μ6, μ6 = up2 μ4 178 19 ((μ4 178 19) + 1) → Post 0 ρ3 μ6) ∧ (x1 < 1880 → i32 (x1 - 188) ∧ (0 ≤ x1 ∧ x1 < 1880) ∧ (0 ≤ x1 - 188 ∧ x1 - 188 < 1880) ∧ ∀ μ7, μ7 = up2 μ 183 (x1 - 188) (μ 183 x1) → i32 (x1 + 1) ∧ qX mX8_remember GG Post GG (0, 0) 13 [some (qP 178), some (qI (x1 + 1))] [] ρ μ7))) : qX mX8_remember GG Post GG (0, 0) 13 [some (qP 178), some (qI x1)] [] ρ μ := by
  refine qX_iload_n 1 dX8_remember_13 rfl rfl ?_
  refine qX_aload_n 0 dX8_remember_14 rfl rfl (by decide) ?_
  refine qX_getS 8 15 _ 4 dX8_remember_15 fs_X8_26 rfl rfl sh178 (x := 183) rfl ?_
  refine qX_alen dX8_remember_18 sh183 (by decide) ?_
  refine qX_icmp_ge 44 dX8_remember_19 rfl (fun hc => ?_) (fun hc => ?_)
  · replace h := h.1 hc
    refine qX_aload_n 0 dX8_remember_44 rfl rfl (by decide) ?_
    refine qX_dup dX8_remember_45 rfl ?_
    refine qX_getI 8 19 _ dX8_remember_46 fs_X8_243 sh178 ?_
    refine qX_iconst dX8_remember_49 (i32_of rfl) ?_
    refine qR_isub dX8_remember_50 h.1 ?_
    replace h := h.2
    refine qX_putI 8 19 _ dX8_remember_51 fs_X8_243 sh178 ?_
    replace h := h _ rfl
    refine qX_aload_n 0 dX8_remember_54 rfl rfl (by decide) ?_
    refine qX_getS 8 12 _ 1 dX8_remember_55 fs_X8_17 rfl rfl sh178 (x := 180) rfl ?_
    refine qX_iconst dX8_remember_58 (i32_of rfl) ?_
    refine qX_aload_n 0 dX8_remember_59 rfl rfl (by decide) ?_
    refine qX_getS 8 15 _ 4 dX8_remember_60 fs_X8_26 rfl rfl sh178 (x := 183) rfl ?_
    refine qX_sip dX8_remember_63 rfl ?_
    refine qX_aload_n 0 dX8_remember_66 rfl rfl (by decide) ?_
    refine qX_getI 8 19 _ dX8_remember_67 fs_X8_243 sh178 ?_
    refine qR_imul dX8_remember_70 h.1 ?_
    replace h := h.2
    obtain ⟨P, hE5, h⟩ := h
    refine qN_callS mX8_copy [_, _, _, _] [] dX8_remember_71 cm_X8_232 ⟨(Nat.le_of_ble_eq_true rfl), (Nat.le_of_ble_eq_true rfl)⟩ rfl rfl (Nat.le_of_ble_eq_true rfl) ⟨rfl, rfl⟩ hE5 (fun z2 ρ3 μ4 hz => ?_)
    replace h := h _ _ _ hz
    refine qX_aload_n 0 dX8_remember_74 rfl rfl (by decide) ?_
    refine qX_dup dX8_remember_75 rfl ?_
    refine qX_getI 8 19 _ dX8_remember_76 fs_X8_243 sh178 ?_
    refine qX_iconst dX8_remember_79 (i32_of rfl) ?_
    refine qR_iadd dX8_remember_80 h.1 ?_
    replace h := h.2
    refine qX_putI 8 19 _ dX8_remember_81 fs_X8_243 sh178 ?_
    replace h := h _ rfl
    exact qX_return rfl dX8_remember_84 rfl ⟨Nat.le_refl _, Nat.le_refl _⟩ h
  · replace h := h.2 hc
    refine qX_aload_n 0 dX8_remember_22 rfl rfl (by decide) ?_
    refine qX_getS 8 15 _ 4 dX8_remember_23 fs_X8_26 rfl rfl sh178 (x := 183) rfl ?_
    refine qX_iload_n 1 dX8_remember_26 rfl rfl ?_
    refine qX_sip dX8_remember_27 rfl ?_
    refine qR_isub dX8_remember_30 h.1 ?_
    replace h := h.2
    refine qX_aload_n 0 dX8_remember_31 rfl rfl (by decide) ?_
    refine qX_getS 8 15 _ 4 dX8_remember_32 fs_X8_26 rfl rfl sh178 (x := 183) rfl ?_
    refine qX_iload_n 1 dX8_remember_35 rfl rfl ?_
    refine qX_iald dX8_remember_36 sh183 h.1 ?_
    replace h := h.2
    refine qX_iast dX8_remember_37 sh183 h.1 ?_
    replace h := h.2
    replace h := h _ rfl
    refine qR_iinc dX8_remember_38 rfl (Nat.le_of_ble_eq_true rfl) rfl h.1 ?_
    replace h := h.2
    refine qX_goto 13 dX8_remember_41 rfl ?_
    exact qX_mask [true, true] h
set_option maxRecDepth 20000 in
theorem e_X8_isTrainNow {Post : Int → Rf → Mem → Prop} {ρ : Rf} {μ : Mem} {x1 : Int}
  (h : ((μ 178 20 = 0 → Post 0 ρ μ) ∧ (μ 178 20 ≠ 0 → ∃ P : Int → Rf → Mem → Prop, qE mX8_in GG GG [qI x1, qI 0, qI 1] ρ μ P ∧ ∀ (z1 : Int) (ρ2 : Rf) (μ3 : Mem), P z1 ρ2 μ3 → ((z1 = 0 → Post 0 ρ2 μ3) ∧ (z1 ≠ 0 → Post 1 ρ2 μ3))))) : qE mX8_isTrainNow GG GG [qP 178, qI x1] ρ μ Post := by
  refine qE_intro pl_X8_isTrainNow (Nat.le_of_ble_eq_true rfl) (Nat.le_refl _) ?_
  refine qX_aload_n 0 dX8_isTrainNow_0 rfl rfl (by decide) ?_
  refine qX_getI 8 20 _ dX8_isTrainNow_1 fs_X8_236 sh178 ?_
  refine qX_if_eq 20 dX8_isTrainNow_4 rfl (fun hc => ?_) (fun hc => ?_)
  · replace h := h.1 hc
    refine qX_iconst dX8_isTrainNow_20 (i32_of rfl) ?_
    exact qX_zreturn rfl dX8_isTrainNow_21 rfl ⟨Nat.le_refl _, Nat.le_refl _⟩ (by decide) h
  · replace h := h.2 hc
    refine qX_iload_n 1 dX8_isTrainNow_7 rfl rfl ?_
    refine qX_iconst dX8_isTrainNow_8 (i32_of rfl) ?_
    refine qX_iconst dX8_isTrainNow_9 (i32_of rfl) ?_
    obtain ⟨P, hE4, h⟩ := h
    refine qN_callS mX8_in [_, _, _] [] dX8_isTrainNow_10 cm_X8_142 ⟨(Nat.le_of_ble_eq_true rfl), (Nat.le_of_ble_eq_true rfl)⟩ rfl rfl (Nat.le_of_ble_eq_true rfl) ⟨rfl, rfl⟩ hE4 (fun z1 ρ2 μ3 hz => ?_)
    replace h := h _ _ _ hz
    refine qX_if_eq 20 dX8_isTrainNow_13 rfl (fun hc => ?_) (fun hc => ?_)
    · replace h := h.1 hc
      refine qX_iconst dX8_isTrainNow_20 (i32_of rfl) ?_
      exact qX_zreturn rfl dX8_isTrainNow_21 rfl ⟨Nat.le_refl _, Nat.le_refl _⟩ (by decide) h
    · replace h := h.2 hc
      refine qX_iconst dX8_isTrainNow_16 (i32_of rfl) ?_
      refine qX_goto 21 dX8_isTrainNow_17 rfl ?_
      exact qX_zreturn rfl dX8_isTrainNow_21 rfl ⟨Nat.le_refl _, Nat.le_refl _⟩ (by decide) h
set_option maxRecDepth 20000 in
theorem e_X8_isCar {Post : Int → Rf → Mem → Prop} {ρ : Rf} {μ : Mem} {x1 : Int} {x2 : Int}
  (h : ∃ P : Int → Rf → Mem → Prop, qE mX8_isTrainNow GG GG [qP 178, qI x1] ρ μ P ∧ ∀ (z1 : Int) (ρ2 : Rf) (μ3 : Mem), P z1 ρ2 μ3 → ((z1 = 0 → Post 0 ρ2 μ3) ∧ (z1 ≠ 0 → i32 (4 + x1) ∧ (0 ≤ 4 + x1 ∧ 4 + x1 < 188) ∧ i32 ((μ3 180 (4 + x1)) - 1) ∧ ∃ P : Int → Rf → Mem → Prop, qE mX8_in GG GG [qI x2, qI 0, qI ((μ3 180 (4 + x1)) - 1)] ρ2 μ3 P ∧ ∀ (z5 : Int) (ρ6 : Rf) (μ7 : Mem), P z5 ρ6 μ7 → ((z5 = 0 → Post 0 ρ6 μ7) ∧ (z5 ≠ 0 → Post 1 ρ6 μ7))))) : qE mX8_isCar GG GG [qP 178, qI x1, qI x2] ρ μ Post := by
  refine qE_intro pl_X8_isCar (Nat.le_of_ble_eq_true rfl) (Nat.le_refl _) ?_
  refine qX_aload_n 0 dX8_isCar_0 rfl rfl (by decide) ?_
  refine qX_iload_n 1 dX8_isCar_1 rfl rfl ?_
  obtain ⟨P, hE4, h⟩ := h
  refine qN_callV mX8_isTrainNow [_] _ 8 [] dX8_isCar_2 cm_X8_249 ⟨(Nat.le_of_ble_eq_true rfl), (Nat.le_of_ble_eq_true rfl)⟩ rfl rfl sh178 (Nat.le_of_ble_eq_true rfl) ⟨rfl, rfl⟩ hE4 (fun z1 ρ2 μ3 hz => ?_)
  replace h := h _ _ _ hz
  refine qX_if_eq 30 dX8_isCar_5 rfl (fun hc => ?_) (fun hc => ?_)
  · replace h := h.1 hc
    refine qX_iconst dX8_isCar_30 (i32_of rfl) ?_
    exact qX_zreturn rfl dX8_isCar_31 rfl ⟨Nat.le_refl _, Nat.le_refl _⟩ (by decide) h
  · replace h := h.2 hc
    refine qX_iload_n 2 dX8_isCar_8 rfl rfl ?_
    refine qX_iconst dX8_isCar_9 (i32_of rfl) ?_
    refine qX_aload_n 0 dX8_isCar_10 rfl rfl (by decide) ?_
    refine qX_getS 8 12 _ 1 dX8_isCar_11 fs_X8_17 rfl rfl sh178 (x := 180) rfl ?_
    refine qX_iconst dX8_isCar_14 (i32_of rfl) ?_
    refine qX_iload_n 1 dX8_isCar_15 rfl rfl ?_
    refine qR_iadd dX8_isCar_16 h.1 ?_
    replace h := h.2
    refine qX_iald dX8_isCar_17 sh180 h.1 ?_
    replace h := h.2
    refine qX_iconst dX8_isCar_18 (i32_of rfl) ?_
    refine qR_isub dX8_isCar_19 h.1 ?_
    replace h := h.2
    obtain ⟨P, hE8, h⟩ := h
    refine qN_callS mX8_in [_, _, _] [] dX8_isCar_20 cm_X8_142 ⟨(Nat.le_of_ble_eq_true rfl), (Nat.le_of_ble_eq_true rfl)⟩ rfl rfl (Nat.le_of_ble_eq_true rfl) ⟨rfl, rfl⟩ hE8 (fun z5 ρ6 μ7 hz => ?_)
    replace h := h _ _ _ hz
    refine qX_if_eq 30 dX8_isCar_23 rfl (fun hc => ?_) (fun hc => ?_)
    · replace h := h.1 hc
      refine qX_iconst dX8_isCar_30 (i32_of rfl) ?_
      exact qX_zreturn rfl dX8_isCar_31 rfl ⟨Nat.le_refl _, Nat.le_refl _⟩ (by decide) h
    · replace h := h.2 hc
      refine qX_iconst dX8_isCar_26 (i32_of rfl) ?_
      refine qX_goto 31 dX8_isCar_27 rfl ?_
      exact qX_zreturn rfl dX8_isCar_31 rfl ⟨Nat.le_refl _, Nat.le_refl _⟩ (by decide) h
set_option maxRecDepth 20000 in
theorem e_X8_isMeal {Post : Int → Rf → Mem → Prop} {ρ : Rf} {μ : Mem} {x1 : Int}
  (h : ((μ 178 20 = 0 → Post 0 ρ μ) ∧ (μ 178 20 ≠ 0 → i32 ((μ 180 36) - 1) ∧ ∃ P : Int → Rf → Mem → Prop, qE mX8_in GG GG [qI x1, qI 0, qI ((μ 180 36) - 1)] ρ μ P ∧ ∀ (z1 : Int) (ρ2 : Rf) (μ3 : Mem), P z1 ρ2 μ3 → ((z1 = 0 → Post 0 ρ2 μ3) ∧ (z1 ≠ 0 → Post 1 ρ2 μ3))))) : qE mX8_isMeal GG GG [qP 178, qI x1] ρ μ Post := by
  refine qE_intro pl_X8_isMeal (Nat.le_of_ble_eq_true rfl) (Nat.le_refl _) ?_
  refine qX_aload_n 0 dX8_isMeal_0 rfl rfl (by decide) ?_
  refine qX_getI 8 20 _ dX8_isMeal_1 fs_X8_236 sh178 ?_
  refine qX_if_eq 28 dX8_isMeal_4 rfl (fun hc => ?_) (fun hc => ?_)
  · replace h := h.1 hc
    refine qX_iconst dX8_isMeal_28 (i32_of rfl) ?_
    exact qX_zreturn rfl dX8_isMeal_29 rfl ⟨Nat.le_refl _, Nat.le_refl _⟩ (by decide) h
  · replace h := h.2 hc
    refine qX_iload_n 1 dX8_isMeal_7 rfl rfl ?_
    refine qX_iconst dX8_isMeal_8 (i32_of rfl) ?_
    refine qX_aload_n 0 dX8_isMeal_9 rfl rfl (by decide) ?_
    refine qX_getS 8 12 _ 1 dX8_isMeal_10 fs_X8_17 rfl rfl sh178 (x := 180) rfl ?_
    refine qX_bip dX8_isMeal_13 rfl ?_
    refine qX_iald dX8_isMeal_15 sh180 ⟨by decide, by decide⟩ ?_
    refine qX_iconst dX8_isMeal_16 (i32_of rfl) ?_
    refine qR_isub dX8_isMeal_17 h.1 ?_
    replace h := h.2
    obtain ⟨P, hE4, h⟩ := h
    refine qN_callS mX8_in [_, _, _] [] dX8_isMeal_18 cm_X8_142 ⟨(Nat.le_of_ble_eq_true rfl), (Nat.le_of_ble_eq_true rfl)⟩ rfl rfl (Nat.le_of_ble_eq_true rfl) ⟨rfl, rfl⟩ hE4 (fun z1 ρ2 μ3 hz => ?_)
    replace h := h _ _ _ hz
    refine qX_if_eq 28 dX8_isMeal_21 rfl (fun hc => ?_) (fun hc => ?_)
    · replace h := h.1 hc
      refine qX_iconst dX8_isMeal_28 (i32_of rfl) ?_
      exact qX_zreturn rfl dX8_isMeal_29 rfl ⟨Nat.le_refl _, Nat.le_refl _⟩ (by decide) h
    · replace h := h.2 hc
      refine qX_iconst dX8_isMeal_24 (i32_of rfl) ?_
      refine qX_goto 29 dX8_isMeal_25 rfl ?_
      exact qX_zreturn rfl dX8_isMeal_29 rfl ⟨Nat.le_refl _, Nat.le_refl _⟩ (by decide) h
set_option maxRecDepth 20000 in
theorem e_X8_isKitchen {Post : Int → Rf → Mem → Prop} {ρ : Rf} {μ : Mem} {x1 : Int}
  (h : ((μ 178 20 = 0 → Post 0 ρ μ) ∧ (μ 178 20 ≠ 0 → i32 ((μ 180 45) - 1) ∧ ∃ P : Int → Rf → Mem → Prop, qE mX8_in GG GG [qI x1, qI 0, qI ((μ 180 45) - 1)] ρ μ P ∧ ∀ (z1 : Int) (ρ2 : Rf) (μ3 : Mem), P z1 ρ2 μ3 → ((z1 = 0 → Post 0 ρ2 μ3) ∧ (z1 ≠ 0 → Post 1 ρ2 μ3))))) : qE mX8_isKitchen GG GG [qP 178, qI x1] ρ μ Post := by
  refine qE_intro pl_X8_isKitchen (Nat.le_of_ble_eq_true rfl) (Nat.le_refl _) ?_
  refine qX_aload_n 0 dX8_isKitchen_0 rfl rfl (by decide) ?_
  refine qX_getI 8 20 _ dX8_isKitchen_1 fs_X8_236 sh178 ?_
  refine qX_if_eq 28 dX8_isKitchen_4 rfl (fun hc => ?_) (fun hc => ?_)
  · replace h := h.1 hc
    refine qX_iconst dX8_isKitchen_28 (i32_of rfl) ?_
    exact qX_zreturn rfl dX8_isKitchen_29 rfl ⟨Nat.le_refl _, Nat.le_refl _⟩ (by decide) h
  · replace h := h.2 hc
    refine qX_iload_n 1 dX8_isKitchen_7 rfl rfl ?_
    refine qX_iconst dX8_isKitchen_8 (i32_of rfl) ?_
    refine qX_aload_n 0 dX8_isKitchen_9 rfl rfl (by decide) ?_
    refine qX_getS 8 12 _ 1 dX8_isKitchen_10 fs_X8_17 rfl rfl sh178 (x := 180) rfl ?_
    refine qX_bip dX8_isKitchen_13 rfl ?_
    refine qX_iald dX8_isKitchen_15 sh180 ⟨by decide, by decide⟩ ?_
    refine qX_iconst dX8_isKitchen_16 (i32_of rfl) ?_
    refine qR_isub dX8_isKitchen_17 h.1 ?_
    replace h := h.2
    obtain ⟨P, hE4, h⟩ := h
    refine qN_callS mX8_in [_, _, _] [] dX8_isKitchen_18 cm_X8_142 ⟨(Nat.le_of_ble_eq_true rfl), (Nat.le_of_ble_eq_true rfl)⟩ rfl rfl (Nat.le_of_ble_eq_true rfl) ⟨rfl, rfl⟩ hE4 (fun z1 ρ2 μ3 hz => ?_)
    replace h := h _ _ _ hz
    refine qX_if_eq 28 dX8_isKitchen_21 rfl (fun hc => ?_) (fun hc => ?_)
    · replace h := h.1 hc
      refine qX_iconst dX8_isKitchen_28 (i32_of rfl) ?_
      exact qX_zreturn rfl dX8_isKitchen_29 rfl ⟨Nat.le_refl _, Nat.le_refl _⟩ (by decide) h
    · replace h := h.2 hc
      refine qX_iconst dX8_isKitchen_24 (i32_of rfl) ?_
      refine qX_goto 29 dX8_isKitchen_25 rfl ?_
      exact qX_zreturn rfl dX8_isKitchen_29 rfl ⟨Nat.le_refl _, Nat.le_refl _⟩ (by decide) h
set_option maxRecDepth 20000 in
theorem e_X8_isTrolley {Post : Int → Rf → Mem → Prop} {ρ : Rf} {μ : Mem} {x1 : Int}
  (h : ((μ 178 20 = 0 → Post 0 ρ μ) ∧ (μ 178 20 ≠ 0 → i32 ((μ 180 61) - 1) ∧ ∃ P : Int → Rf → Mem → Prop, qE mX8_in GG GG [qI x1, qI 0, qI ((μ 180 61) - 1)] ρ μ P ∧ ∀ (z1 : Int) (ρ2 : Rf) (μ3 : Mem), P z1 ρ2 μ3 → ((z1 = 0 → Post 0 ρ2 μ3) ∧ (z1 ≠ 0 → Post 1 ρ2 μ3))))) : qE mX8_isTrolley GG GG [qP 178, qI x1] ρ μ Post := by
  refine qE_intro pl_X8_isTrolley (Nat.le_of_ble_eq_true rfl) (Nat.le_refl _) ?_
  refine qX_aload_n 0 dX8_isTrolley_0 rfl rfl (by decide) ?_
  refine qX_getI 8 20 _ dX8_isTrolley_1 fs_X8_236 sh178 ?_
  refine qX_if_eq 28 dX8_isTrolley_4 rfl (fun hc => ?_) (fun hc => ?_)
  · replace h := h.1 hc
    refine qX_iconst dX8_isTrolley_28 (i32_of rfl) ?_
    exact qX_zreturn rfl dX8_isTrolley_29 rfl ⟨Nat.le_refl _, Nat.le_refl _⟩ (by decide) h
  · replace h := h.2 hc
    refine qX_iload_n 1 dX8_isTrolley_7 rfl rfl ?_
    refine qX_iconst dX8_isTrolley_8 (i32_of rfl) ?_
    refine qX_aload_n 0 dX8_isTrolley_9 rfl rfl (by decide) ?_
    refine qX_getS 8 12 _ 1 dX8_isTrolley_10 fs_X8_17 rfl rfl sh178 (x := 180) rfl ?_
    refine qX_bip dX8_isTrolley_13 rfl ?_
    refine qX_iald dX8_isTrolley_15 sh180 ⟨by decide, by decide⟩ ?_
    refine qX_iconst dX8_isTrolley_16 (i32_of rfl) ?_
    refine qR_isub dX8_isTrolley_17 h.1 ?_
    replace h := h.2
    obtain ⟨P, hE4, h⟩ := h
    refine qN_callS mX8_in [_, _, _] [] dX8_isTrolley_18 cm_X8_142 ⟨(Nat.le_of_ble_eq_true rfl), (Nat.le_of_ble_eq_true rfl)⟩ rfl rfl (Nat.le_of_ble_eq_true rfl) ⟨rfl, rfl⟩ hE4 (fun z1 ρ2 μ3 hz => ?_)
    replace h := h _ _ _ hz
    refine qX_if_eq 28 dX8_isTrolley_21 rfl (fun hc => ?_) (fun hc => ?_)
    · replace h := h.1 hc
      refine qX_iconst dX8_isTrolley_28 (i32_of rfl) ?_
      exact qX_zreturn rfl dX8_isTrolley_29 rfl ⟨Nat.le_refl _, Nat.le_refl _⟩ (by decide) h
    · replace h := h.2 hc
      refine qX_iconst dX8_isTrolley_24 (i32_of rfl) ?_
      refine qX_goto 29 dX8_isTrolley_25 rfl ?_
      exact qX_zreturn rfl dX8_isTrolley_29 rfl ⟨Nat.le_refl _, Nat.le_refl _⟩ (by decide) h
set_option maxRecDepth 20000 in
theorem e_X8_isJob {Post : Int → Rf → Mem → Prop} {ρ : Rf} {μ : Mem} {x1 : Int}
  (h : ((μ 178 20 = 0 → Post 0 ρ μ) ∧ (μ 178 20 ≠ 0 → i32 ((μ 180 87) - 1) ∧ ∃ P : Int → Rf → Mem → Prop, qE mX8_in GG GG [qI x1, qI 0, qI ((μ 180 87) - 1)] ρ μ P ∧ ∀ (z1 : Int) (ρ2 : Rf) (μ3 : Mem), P z1 ρ2 μ3 → ((z1 = 0 → Post 0 ρ2 μ3) ∧ (z1 ≠ 0 → Post 1 ρ2 μ3))))) : qE mX8_isJob GG GG [qP 178, qI x1] ρ μ Post := by
  refine qE_intro pl_X8_isJob (Nat.le_of_ble_eq_true rfl) (Nat.le_refl _) ?_
  refine qX_aload_n 0 dX8_isJob_0 rfl rfl (by decide) ?_
  refine qX_getI 8 20 _ dX8_isJob_1 fs_X8_236 sh178 ?_
  refine qX_if_eq 28 dX8_isJob_4 rfl (fun hc => ?_) (fun hc => ?_)
  · replace h := h.1 hc
    refine qX_iconst dX8_isJob_28 (i32_of rfl) ?_
    exact qX_zreturn rfl dX8_isJob_29 rfl ⟨Nat.le_refl _, Nat.le_refl _⟩ (by decide) h
  · replace h := h.2 hc
    refine qX_iload_n 1 dX8_isJob_7 rfl rfl ?_
    refine qX_iconst dX8_isJob_8 (i32_of rfl) ?_
    refine qX_aload_n 0 dX8_isJob_9 rfl rfl (by decide) ?_
    refine qX_getS 8 12 _ 1 dX8_isJob_10 fs_X8_17 rfl rfl sh178 (x := 180) rfl ?_
    refine qX_bip dX8_isJob_13 rfl ?_
    refine qX_iald dX8_isJob_15 sh180 ⟨by decide, by decide⟩ ?_
    refine qX_iconst dX8_isJob_16 (i32_of rfl) ?_
    refine qR_isub dX8_isJob_17 h.1 ?_
    replace h := h.2
    obtain ⟨P, hE4, h⟩ := h
    refine qN_callS mX8_in [_, _, _] [] dX8_isJob_18 cm_X8_142 ⟨(Nat.le_of_ble_eq_true rfl), (Nat.le_of_ble_eq_true rfl)⟩ rfl rfl (Nat.le_of_ble_eq_true rfl) ⟨rfl, rfl⟩ hE4 (fun z1 ρ2 μ3 hz => ?_)
    replace h := h _ _ _ hz
    refine qX_if_eq 28 dX8_isJob_21 rfl (fun hc => ?_) (fun hc => ?_)
    · replace h := h.1 hc
      refine qX_iconst dX8_isJob_28 (i32_of rfl) ?_
      exact qX_zreturn rfl dX8_isJob_29 rfl ⟨Nat.le_refl _, Nat.le_refl _⟩ (by decide) h
    · replace h := h.2 hc
      refine qX_iconst dX8_isJob_24 (i32_of rfl) ?_
      refine qX_goto 29 dX8_isJob_25 rfl ?_
      exact qX_zreturn rfl dX8_isJob_29 rfl ⟨Nat.le_refl _, Nat.le_refl _⟩ (by decide) h
set_option maxRecDepth 20000 in
theorem e_X8_tell {Post : Int → Rf → Mem → Prop} {ρ : Rf} {μ : Mem} {x1 : Int} {x2 : Int}
  (h : ∀ μ1, μ1 = up2 μ 178 0 0 → ((x1 = 0 → ∃ P : Int → Rf → Mem → Prop, qE mX8_failed GG GG [qP 178, qI 1] ρ μ1 P ∧ ∀ (z2 : Int) (ρ3 : Rf) (μ4 : Mem), P z2 ρ3 μ4 → Post z2 ρ3 μ4) ∧ (x1 ≠ 0 → (0 ≤ x2 ∧ x2 < 188) ∧ ∃ P : Int → Rf → Mem → Prop, qE mX8_done GG GG [qP 178, qI (μ1 180 x2)] ρ μ1 P ∧ ∀ (z6 : Int) (ρ7 : Rf) (μ8 : Mem), P z6 ρ7 μ8 → Post z6 ρ7 μ8))) : qE mX8_tell GG GG [qP 178, qI x1, qI x2] ρ μ Post := by
  refine qE_intro pl_X8_tell (Nat.le_of_ble_eq_true rfl) (Nat.le_refl _) ?_
  refine qX_aload_n 0 dX8_tell_0 rfl rfl (by decide) ?_
  refine qX_iconst dX8_tell_1 (i32_of rfl) ?_
  refine qX_putI 8 0 _ dX8_tell_2 fs_X8_103 sh178 ?_
  replace h := h _ rfl
  refine qX_iload_n 1 dX8_tell_5 rfl rfl ?_
  refine qX_if_eq 22 dX8_tell_6 rfl (fun hc => ?_) (fun hc => ?_)
  · replace h := h.1 hc
    refine qX_aload_n 0 dX8_tell_22 rfl rfl (by decide) ?_
    refine qX_iconst dX8_tell_23 (i32_of rfl) ?_
    obtain ⟨P, hE5, h⟩ := h
    refine qN_callV mX8_failed [_] _ 8 [] dX8_tell_24 cm_X8_226 ⟨(Nat.le_of_ble_eq_true rfl), (Nat.le_of_ble_eq_true rfl)⟩ rfl rfl sh178 (Nat.le_of_ble_eq_true rfl) ⟨rfl, rfl⟩ hE5 (fun z2 ρ3 μ4 hz => ?_)
    replace h := h _ _ _ hz
    exact qX_ireturn rfl dX8_tell_27 rfl ⟨Nat.le_refl _, Nat.le_refl _⟩ h
  · replace h := h.2 hc
    refine qX_aload_n 0 dX8_tell_9 rfl rfl (by decide) ?_
    refine qX_aload_n 0 dX8_tell_10 rfl rfl (by decide) ?_
    refine qX_getS 8 12 _ 1 dX8_tell_11 fs_X8_17 rfl rfl sh178 (x := 180) rfl ?_
    refine qX_iload_n 2 dX8_tell_14 rfl rfl ?_
    refine qX_iald dX8_tell_15 sh180 h.1 ?_
    replace h := h.2
    obtain ⟨P, hE9, h⟩ := h
    refine qN_callV mX8_done [_] _ 8 [] dX8_tell_16 cm_X8_246 ⟨(Nat.le_of_ble_eq_true rfl), (Nat.le_of_ble_eq_true rfl)⟩ rfl rfl sh178 (Nat.le_of_ble_eq_true rfl) ⟨rfl, rfl⟩ hE9 (fun z6 ρ7 μ8 hz => ?_)
    replace h := h _ _ _ hz
    refine qX_goto 27 dX8_tell_19 rfl ?_
    exact qX_ireturn rfl dX8_tell_27 rfl ⟨Nat.le_refl _, Nat.le_refl _⟩ h
set_option maxRecDepth 20000 in
theorem e_X8_carCount {Post : Int → Rf → Mem → Prop} {ρ : Rf} {μ : Mem} {x1 : Int}
  (h : ∃ P : Int → Rf → Mem → Prop, qE mX8_isTrainNow GG GG [qP 178, qI x1] ρ μ P ∧ ∀ (z1 : Int) (ρ2 : Rf) (μ3 : Mem), P z1 ρ2 μ3 → ∃ P : Int → Rf → Mem → Prop, qE mX8_isTrainNow GG GG [qP 178, qI x1] ρ2 μ3 P ∧ ∀ (z5 : Int) (ρ6 : Rf) (μ7 : Mem), P z5 ρ6 μ7 → ((z5 = 0 → ∃ P : Int → Rf → Mem → Prop, qE mX8_tell GG GG [qP 178, qI z1, qI 0] ρ6 μ7 P ∧ ∀ (z9 : Int) (ρ10 : Rf) (μ11 : Mem), P z9 ρ10 μ11 → Post z9 ρ10 μ11) ∧ (z5 ≠ 0 → i32 (4 + x1) ∧ ∃ P : Int → Rf → Mem → Prop, qE mX8_tell GG GG [qP 178, qI z1, qI (4 + x1)] ρ6 μ7 P ∧ ∀ (z13 : Int) (ρ14 : Rf) (μ15 : Mem), P z13 ρ14 μ15 → Post z13 ρ14 μ15))) : qE mX8_carCount GG GG [qP 178, qI x1] ρ μ Post := by
  refine qE_intro pl_X8_carCount (Nat.le_of_ble_eq_true rfl) (Nat.le_refl _) ?_
  refine qX_aload_n 0 dX8_carCount_0 rfl rfl (by decide) ?_
  refine qX_aload_n 0 dX8_carCount_1 rfl rfl (by decide) ?_
  refine qX_iload_n 1 dX8_carCount_2 rfl rfl ?_
  obtain ⟨P, hE4, h⟩ := h
  refine qN_callV mX8_isTrainNow [_] _ 8 [_] dX8_carCount_3 cm_X8_249 ⟨(Nat.le_of_ble_eq_true rfl), (Nat.le_of_ble_eq_true rfl)⟩ rfl rfl sh178 (Nat.le_of_ble_eq_true rfl) ⟨rfl, rfl⟩ hE4 (fun z1 ρ2 μ3 hz => ?_)
  replace h := h _ _ _ hz
  refine qX_aload_n 0 dX8_carCount_6 rfl rfl (by decide) ?_
  refine qX_iload_n 1 dX8_carCount_7 rfl rfl ?_
  obtain ⟨P, hE8, h⟩ := h
  refine qN_callV mX8_isTrainNow [_] _ 8 [_, _] dX8_carCount_8 cm_X8_249 ⟨(Nat.le_of_ble_eq_true rfl), (Nat.le_of_ble_eq_true rfl)⟩ rfl rfl sh178 (Nat.le_of_ble_eq_true rfl) ⟨rfl, rfl⟩ hE8 (fun z5 ρ6 μ7 hz => ?_)
  replace h := h _ _ _ hz
  refine qX_if_eq 20 dX8_carCount_11 rfl (fun hc => ?_) (fun hc => ?_)
  · replace h := h.1 hc
    refine qX_iconst dX8_carCount_20 (i32_of rfl) ?_
    obtain ⟨P, hE12, h⟩ := h
    refine qN_callV mX8_tell [_, _] _ 8 [] dX8_carCount_21 cm_X8_253 ⟨(Nat.le_of_ble_eq_true rfl), (Nat.le_of_ble_eq_true rfl)⟩ rfl rfl sh178 (Nat.le_of_ble_eq_true rfl) ⟨rfl, rfl⟩ hE12 (fun z9 ρ10 μ11 hz => ?_)
    replace h := h _ _ _ hz
    exact qX_ireturn rfl dX8_carCount_24 rfl ⟨Nat.le_refl _, Nat.le_refl _⟩ h
  · replace h := h.2 hc
    refine qX_iconst dX8_carCount_14 (i32_of rfl) ?_
    refine qX_iload_n 1 dX8_carCount_15 rfl rfl ?_
    refine qR_iadd dX8_carCount_16 h.1 ?_
    replace h := h.2
    refine qX_goto 21 dX8_carCount_17 rfl ?_
    obtain ⟨P, hE16, h⟩ := h
    refine qN_callV mX8_tell [_, _] _ 8 [] dX8_carCount_21 cm_X8_253 ⟨(Nat.le_of_ble_eq_true rfl), (Nat.le_of_ble_eq_true rfl)⟩ rfl rfl sh178 (Nat.le_of_ble_eq_true rfl) ⟨rfl, rfl⟩ hE16 (fun z13 ρ14 μ15 hz => ?_)
    replace h := h _ _ _ hz
    exact qX_ireturn rfl dX8_carCount_24 rfl ⟨Nat.le_refl _, Nat.le_refl _⟩ h
set_option maxRecDepth 20000 in
theorem e_X8_mealCount {Post : Int → Rf → Mem → Prop} {ρ : Rf} {μ : Mem} 
  (h : ∃ P : Int → Rf → Mem → Prop, qE mX8_tell GG GG [qP 178, qI (μ 178 20), qI 36] ρ μ P ∧ ∀ (z1 : Int) (ρ2 : Rf) (μ3 : Mem), P z1 ρ2 μ3 → Post z1 ρ2 μ3) : qE mX8_mealCount GG GG [qP 178] ρ μ Post := by
  refine qE_intro pl_X8_mealCount (Nat.le_of_ble_eq_true rfl) (Nat.le_refl _) ?_
  refine qX_aload_n 0 dX8_mealCount_0 rfl rfl (by decide) ?_
  refine qX_aload_n 0 dX8_mealCount_1 rfl rfl (by decide) ?_
  refine qX_getI 8 20 _ dX8_mealCount_2 fs_X8_236 sh178 ?_
  refine qX_bip dX8_mealCount_5 rfl ?_
  obtain ⟨P, hE4, h⟩ := h
  refine qN_callV mX8_tell [_, _] _ 8 [] dX8_mealCount_7 cm_X8_253 ⟨(Nat.le_of_ble_eq_true rfl), (Nat.le_of_ble_eq_true rfl)⟩ rfl rfl sh178 (Nat.le_of_ble_eq_true rfl) ⟨rfl, rfl⟩ hE4 (fun z1 ρ2 μ3 hz => ?_)
  replace h := h _ _ _ hz
  exact qX_ireturn rfl dX8_mealCount_10 rfl ⟨Nat.le_refl _, Nat.le_refl _⟩ h
set_option maxRecDepth 20000 in
theorem e_X8_trolleyCount {Post : Int → Rf → Mem → Prop} {ρ : Rf} {μ : Mem} 
  (h : ∃ P : Int → Rf → Mem → Prop, qE mX8_tell GG GG [qP 178, qI (μ 178 20), qI 61] ρ μ P ∧ ∀ (z1 : Int) (ρ2 : Rf) (μ3 : Mem), P z1 ρ2 μ3 → Post z1 ρ2 μ3) : qE mX8_trolleyCount GG GG [qP 178] ρ μ Post := by
  refine qE_intro pl_X8_trolleyCount (Nat.le_of_ble_eq_true rfl) (Nat.le_refl _) ?_
  refine qX_aload_n 0 dX8_trolleyCount_0 rfl rfl (by decide) ?_
  refine qX_aload_n 0 dX8_trolleyCount_1 rfl rfl (by decide) ?_
  refine qX_getI 8 20 _ dX8_trolleyCount_2 fs_X8_236 sh178 ?_
  refine qX_bip dX8_trolleyCount_5 rfl ?_
  obtain ⟨P, hE4, h⟩ := h
  refine qN_callV mX8_tell [_, _] _ 8 [] dX8_trolleyCount_7 cm_X8_253 ⟨(Nat.le_of_ble_eq_true rfl), (Nat.le_of_ble_eq_true rfl)⟩ rfl rfl sh178 (Nat.le_of_ble_eq_true rfl) ⟨rfl, rfl⟩ hE4 (fun z1 ρ2 μ3 hz => ?_)
  replace h := h _ _ _ hz
  exact qX_ireturn rfl dX8_trolleyCount_10 rfl ⟨Nat.le_refl _, Nat.le_refl _⟩ h
set_option maxRecDepth 20000 in
theorem e_X8_jobCount {Post : Int → Rf → Mem → Prop} {ρ : Rf} {μ : Mem} 
  (h : ∃ P : Int → Rf → Mem → Prop, qE mX8_tell GG GG [qP 178, qI (μ 178 20), qI 87] ρ μ P ∧ ∀ (z1 : Int) (ρ2 : Rf) (μ3 : Mem), P z1 ρ2 μ3 → Post z1 ρ2 μ3) : qE mX8_jobCount GG GG [qP 178] ρ μ Post := by
  refine qE_intro pl_X8_jobCount (Nat.le_of_ble_eq_true rfl) (Nat.le_refl _) ?_
  refine qX_aload_n 0 dX8_jobCount_0 rfl rfl (by decide) ?_
  refine qX_aload_n 0 dX8_jobCount_1 rfl rfl (by decide) ?_
  refine qX_getI 8 20 _ dX8_jobCount_2 fs_X8_236 sh178 ?_
  refine qX_bip dX8_jobCount_5 rfl ?_
  obtain ⟨P, hE4, h⟩ := h
  refine qN_callV mX8_tell [_, _] _ 8 [] dX8_jobCount_7 cm_X8_253 ⟨(Nat.le_of_ble_eq_true rfl), (Nat.le_of_ble_eq_true rfl)⟩ rfl rfl sh178 (Nat.le_of_ble_eq_true rfl) ⟨rfl, rfl⟩ hE4 (fun z1 ρ2 μ3 hz => ?_)
  replace h := h _ _ _ hz
  exact qX_ireturn rfl dX8_jobCount_10 rfl ⟨Nat.le_refl _, Nat.le_refl _⟩ h
set_option maxRecDepth 20000 in
theorem e_X8_departure {Post : Int → Rf → Mem → Prop} {ρ : Rf} {μ : Mem} {x1 : Int}
  (h : ∃ P : Int → Rf → Mem → Prop, qE mX8_isTrainNow GG GG [qP 178, qI x1] ρ μ P ∧ ∀ (z1 : Int) (ρ2 : Rf) (μ3 : Mem), P z1 ρ2 μ3 → ∃ P : Int → Rf → Mem → Prop, qE mX8_isTrainNow GG GG [qP 178, qI x1] ρ2 μ3 P ∧ ∀ (z5 : Int) (ρ6 : Rf) (μ7 : Mem), P z5 ρ6 μ7 → ((z5 = 0 → ∃ P : Int → Rf → Mem → Prop, qE mX8_tell GG GG [qP 178, qI z1, qI 0] ρ6 μ7 P ∧ ∀ (z9 : Int) (ρ10 : Rf) (μ11 : Mem), P z9 ρ10 μ11 → Post z9 ρ10 μ11) ∧ (z5 ≠ 0 → i32 (2 + x1) ∧ ∃ P : Int → Rf → Mem → Prop, qE mX8_tell GG GG [qP 178, qI z1, qI (2 + x1)] ρ6 μ7 P ∧ ∀ (z13 : Int) (ρ14 : Rf) (μ15 : Mem), P z13 ρ14 μ15 → Post z13 ρ14 μ15))) : qE mX8_departure GG GG [qP 178, qI x1] ρ μ Post := by
  refine qE_intro pl_X8_departure (Nat.le_of_ble_eq_true rfl) (Nat.le_refl _) ?_
  refine qX_aload_n 0 dX8_departure_0 rfl rfl (by decide) ?_
  refine qX_aload_n 0 dX8_departure_1 rfl rfl (by decide) ?_
  refine qX_iload_n 1 dX8_departure_2 rfl rfl ?_
  obtain ⟨P, hE4, h⟩ := h
  refine qN_callV mX8_isTrainNow [_] _ 8 [_] dX8_departure_3 cm_X8_249 ⟨(Nat.le_of_ble_eq_true rfl), (Nat.le_of_ble_eq_true rfl)⟩ rfl rfl sh178 (Nat.le_of_ble_eq_true rfl) ⟨rfl, rfl⟩ hE4 (fun z1 ρ2 μ3 hz => ?_)
  replace h := h _ _ _ hz
  refine qX_aload_n 0 dX8_departure_6 rfl rfl (by decide) ?_
  refine qX_iload_n 1 dX8_departure_7 rfl rfl ?_
  obtain ⟨P, hE8, h⟩ := h
  refine qN_callV mX8_isTrainNow [_] _ 8 [_, _] dX8_departure_8 cm_X8_249 ⟨(Nat.le_of_ble_eq_true rfl), (Nat.le_of_ble_eq_true rfl)⟩ rfl rfl sh178 (Nat.le_of_ble_eq_true rfl) ⟨rfl, rfl⟩ hE8 (fun z5 ρ6 μ7 hz => ?_)
  replace h := h _ _ _ hz
  refine qX_if_eq 20 dX8_departure_11 rfl (fun hc => ?_) (fun hc => ?_)
  · replace h := h.1 hc
    refine qX_iconst dX8_departure_20 (i32_of rfl) ?_
    obtain ⟨P, hE12, h⟩ := h
    refine qN_callV mX8_tell [_, _] _ 8 [] dX8_departure_21 cm_X8_253 ⟨(Nat.le_of_ble_eq_true rfl), (Nat.le_of_ble_eq_true rfl)⟩ rfl rfl sh178 (Nat.le_of_ble_eq_true rfl) ⟨rfl, rfl⟩ hE12 (fun z9 ρ10 μ11 hz => ?_)
    replace h := h _ _ _ hz
    exact qX_ireturn rfl dX8_departure_24 rfl ⟨Nat.le_refl _, Nat.le_refl _⟩ h
  · replace h := h.2 hc
    refine qX_iconst dX8_departure_14 (i32_of rfl) ?_
    refine qX_iload_n 1 dX8_departure_15 rfl rfl ?_
    refine qR_iadd dX8_departure_16 h.1 ?_
    replace h := h.2
    refine qX_goto 21 dX8_departure_17 rfl ?_
    obtain ⟨P, hE16, h⟩ := h
    refine qN_callV mX8_tell [_, _] _ 8 [] dX8_departure_21 cm_X8_253 ⟨(Nat.le_of_ble_eq_true rfl), (Nat.le_of_ble_eq_true rfl)⟩ rfl rfl sh178 (Nat.le_of_ble_eq_true rfl) ⟨rfl, rfl⟩ hE16 (fun z13 ρ14 μ15 hz => ?_)
    replace h := h _ _ _ hz
    exact qX_ireturn rfl dX8_departure_24 rfl ⟨Nat.le_refl _, Nat.le_refl _⟩ h
set_option maxRecDepth 20000 in
theorem e_X8_stock {Post : Int → Rf → Mem → Prop} {ρ : Rf} {μ : Mem} {x1 : Int} {x2 : Int}
  (h : ∃ P : Int → Rf → Mem → Prop, qE mX8_isKitchen GG GG [qP 178, qI x1] ρ μ P ∧ ∀ (z1 : Int) (ρ2 : Rf) (μ3 : Mem), P z1 ρ2 μ3 → ((z1 = 0 → qX mX8_stock GG Post GG (0, 0) 20 [some (qP 178), some (qI x1), some (qI x2), none] [] ρ2 μ3) ∧ (z1 ≠ 0 → ∃ P : Int → Rf → Mem → Prop, qE mX8_isMeal GG GG [qP 178, qI x2] ρ2 μ3 P ∧ ∀ (z5 : Int) (ρ6 : Rf) (μ7 : Mem), P z5 ρ6 μ7 → ((z5 = 0 → qX mX8_stock GG Post GG (0, 0) 20 [some (qP 178), some (qI x1), some (qI x2), none] [] ρ6 μ7) ∧ (z5 ≠ 0 → qX mX8_stock GG Post GG (0, 0) 21 [some (qP 178), some (qI x1), some (qI x2), none] [qI 1] ρ6 μ7))))) : qE mX8_stock GG GG [qP 178, qI x1, qI x2] ρ μ Post := by
  refine qE_intro pl_X8_stock (Nat.le_of_ble_eq_true rfl) (Nat.le_refl _) ?_
  refine qX_aload_n 0 dX8_stock_0 rfl rfl (by decide) ?_
  refine qX_iload_n 1 dX8_stock_1 rfl rfl ?_
  obtain ⟨P, hE4, h⟩ := h
  refine qN_callV mX8_isKitchen [_] _ 8 [] dX8_stock_2 cm_X8_257 ⟨(Nat.le_of_ble_eq_true rfl), (Nat.le_of_ble_eq_true rfl)⟩ rfl rfl sh178 (Nat.le_of_ble_eq_true rfl) ⟨rfl, rfl⟩ hE4 (fun z1 ρ2 μ3 hz => ?_)
  replace h := h _ _ _ hz
  refine qX_if_eq 20 dX8_stock_5 rfl (fun hc => ?_) (fun hc => ?_)
  · replace h := h.1 hc
    exact qX_mask [true, true, true, false] h
  · replace h := h.2 hc
    refine qX_aload_n 0 dX8_stock_8 rfl rfl (by decide) ?_
    refine qX_iload_n 2 dX8_stock_9 rfl rfl ?_
    obtain ⟨P, hE8, h⟩ := h
    refine qN_callV mX8_isMeal [_] _ 8 [] dX8_stock_10 cm_X8_260 ⟨(Nat.le_of_ble_eq_true rfl), (Nat.le_of_ble_eq_true rfl)⟩ rfl rfl sh178 (Nat.le_of_ble_eq_true rfl) ⟨rfl, rfl⟩ hE8 (fun z5 ρ6 μ7 hz => ?_)
    replace h := h _ _ _ hz
    refine qX_if_eq 20 dX8_stock_13 rfl (fun hc => ?_) (fun hc => ?_)
    · replace h := h.1 hc
      exact qX_mask [true, true, true, false] h
    · replace h := h.2 hc
      refine qX_iconst dX8_stock_16 (i32_of rfl) ?_
      refine qX_goto 21 dX8_stock_17 rfl ?_
      exact qX_mask [true, true, true, false] h
set_option maxRecDepth 20000 in
theorem w_X8_stock_20 {Post : Int → Rf → Mem → Prop} {ρ : Rf} {μ : Mem} {x1 : Int} {x2 : Int}
  (h : qX mX8_stock GG Post GG (0, 0) 21 [some (qP 178), some (qI x1), some (qI x2), none] [qI 0] ρ μ) : qX mX8_stock GG Post GG (0, 0) 20 [some (qP 178), some (qI x1), some (qI x2), none] [] ρ μ := by
  refine qX_iconst dX8_stock_20 (i32_of rfl) ?_
  exact qX_mask [true, true, true, false] h
set_option maxRecDepth 20000 in
theorem w_X8_stock_21 {Post : Int → Rf → Mem → Prop} {ρ : Rf} {μ : Mem} {s0 : Int} {x1 : Int} {x2 : Int}
  (h : ((s0 = 0 → ∃ P : Int → Rf → Mem → Prop, qE mX8_tell GG GG [qP 178, qI s0, qI 0] ρ μ P ∧ ∀ (z1 : Int) (ρ2 : Rf) (μ3 : Mem), P z1 ρ2 μ3 → Post z1 ρ2 μ3) ∧ (s0 ≠ 0 → i32 (4 * x1) ∧ i32 (49 + (4 * x1)) ∧ i32 ((49 + (4 * x1)) + x2) ∧ ∃ P : Int → Rf → Mem → Prop, qE mX8_tell GG GG [qP 178, qI s0, qI ((49 + (4 * x1)) + x2)] ρ μ P ∧ ∀ (z5 : Int) (ρ6 : Rf) (μ7 : Mem), P z5 ρ6 μ7 → Post z5 ρ6 μ7))) : qX mX8_stock GG Post GG (0, 0) 21 [some (qP 178), some (qI x1), some (qI x2), none] [qI s0] ρ μ := by
  refine qX_istore_n 3 dX8_stock_21 rfl (Nat.le_of_ble_eq_true rfl) rfl ?_
  refine qX_aload_n 0 dX8_stock_22 rfl rfl (by decide) ?_
  refine qX_iload_n 3 dX8_stock_23 rfl rfl ?_
  refine qX_iload_n 3 dX8_stock_24 rfl rfl ?_
  refine qX_if_eq 39 dX8_stock_25 rfl (fun hc => ?_) (fun hc => ?_)
  · replace h := h.1 hc
    refine qX_iconst dX8_stock_39 (i32_of rfl) ?_
    obtain ⟨P, hE4, h⟩ := h
    refine qN_callV mX8_tell [_, _] _ 8 [] dX8_stock_40 cm_X8_253 ⟨(Nat.le_of_ble_eq_true rfl), (Nat.le_of_ble_eq_true rfl)⟩ rfl rfl sh178 (Nat.le_of_ble_eq_true rfl) ⟨rfl, rfl⟩ hE4 (fun z1 ρ2 μ3 hz => ?_)
    replace h := h _ _ _ hz
    exact qX_ireturn rfl dX8_stock_43 rfl ⟨Nat.le_refl _, Nat.le_refl _⟩ h
  · replace h := h.2 hc
    refine qX_bip dX8_stock_28 rfl ?_
    refine qX_iconst dX8_stock_30 (i32_of rfl) ?_
    refine qX_iload_n 1 dX8_stock_31 rfl rfl ?_
    refine qR_imul dX8_stock_32 h.1 ?_
    replace h := h.2
    refine qR_iadd dX8_stock_33 h.1 ?_
    replace h := h.2
    refine qX_iload_n 2 dX8_stock_34 rfl rfl ?_
    refine qR_iadd dX8_stock_35 h.1 ?_
    replace h := h.2
    refine qX_goto 40 dX8_stock_36 rfl ?_
    obtain ⟨P, hE8, h⟩ := h
    refine qN_callV mX8_tell [_, _] _ 8 [] dX8_stock_40 cm_X8_253 ⟨(Nat.le_of_ble_eq_true rfl), (Nat.le_of_ble_eq_true rfl)⟩ rfl rfl sh178 (Nat.le_of_ble_eq_true rfl) ⟨rfl, rfl⟩ hE8 (fun z5 ρ6 μ7 hz => ?_)
    replace h := h _ _ _ hz
    exact qX_ireturn rfl dX8_stock_43 rfl ⟨Nat.le_refl _, Nat.le_refl _⟩ h
set_option maxRecDepth 20000 in
theorem e_X8_demandOf {Post : Int → Rf → Mem → Prop} {ρ : Rf} {μ : Mem} {x1 : Int} {x2 : Int} {x3 : Int}
  (h : i32 (5 * x1) ∧ i32 ((5 * x1) + x2) ∧ i32 (16 + ((5 * x1) + x2)) ∧ (0 ≤ 16 + ((5 * x1) + x2) ∧ 16 + ((5 * x1) + x2) < 188) ∧ i32 (37 + x3) ∧ (0 ≤ 37 + x3 ∧ 37 + x3 < 188) ∧ i32 ((μ 180 (16 + ((5 * x1) + x2))) * (μ 180 (37 + x3))) ∧ i32 (26 + ((5 * x1) + x2)) ∧ (0 ≤ 26 + ((5 * x1) + x2) ∧ 26 + ((5 * x1) + x2) < 188) ∧ i32 (41 + x3) ∧ (0 ≤ 41 + x3 ∧ 41 + x3 < 188) ∧ i32 ((μ 180 (26 + ((5 * x1) + x2))) * (μ 180 (41 + x3))) ∧ i32 (((μ 180 (16 + ((5 * x1) + x2))) * (μ 180 (37 + x3))) + ((μ 180 (26 + ((5 * x1) + x2))) * (μ 180 (41 + x3)))) ∧ i32 ((((μ 180 (16 + ((5 * x1) + x2))) * (μ 180 (37 + x3))) + ((μ 180 (26 + ((5 * x1) + x2))) * (μ 180 (41 + x3)))) + 9) ∧ (0 ≤ (((μ 180 (16 + ((5 * x1) + x2))) * (μ 180 (37 + x3))) + ((μ 180 (26 + ((5 * x1) + x2))) * (μ 180 (41 + x3)))) + 9 ∧ 0 < (10 : Int)) ∧ Post (((((μ 180 (16 + ((5 * x1) + x2))) * (μ 180 (37 + x3))) + ((μ 180 (26 + ((5 * x1) + x2))) * (μ 180 (41 + x3)))) + 9) / 10) ρ μ) : qE mX8_demandOf GG GG [qP 178, qI x1, qI x2, qI x3] ρ μ Post := by
  refine qE_intro pl_X8_demandOf (Nat.le_of_ble_eq_true rfl) (Nat.le_refl _) ?_
  refine qX_iconst dX8_demandOf_0 (i32_of rfl) ?_
  refine qX_iload_n 1 dX8_demandOf_1 rfl rfl ?_
  refine qR_imul dX8_demandOf_2 h.1 ?_
  replace h := h.2
  refine qX_iload_n 2 dX8_demandOf_3 rfl rfl ?_
  refine qR_iadd dX8_demandOf_4 h.1 ?_
  replace h := h.2
  refine qX_istore dX8_demandOf_5 (Nat.le_of_ble_eq_true rfl) rfl ?_
  refine qX_aload_n 0 dX8_demandOf_7 rfl rfl (by decide) ?_
  refine qX_getS 8 12 _ 1 dX8_demandOf_8 fs_X8_17 rfl rfl sh178 (x := 180) rfl ?_
  refine qX_bip dX8_demandOf_11 rfl ?_
  refine qX_iload dX8_demandOf_13 rfl ?_
  refine qR_iadd dX8_demandOf_15 h.1 ?_
  replace h := h.2
  refine qX_iald dX8_demandOf_16 sh180 h.1 ?_
  replace h := h.2
  refine qX_aload_n 0 dX8_demandOf_17 rfl rfl (by decide) ?_
  refine qX_getS 8 12 _ 1 dX8_demandOf_18 fs_X8_17 rfl rfl sh178 (x := 180) rfl ?_
  refine qX_bip dX8_demandOf_21 rfl ?_
  refine qX_iload_n 3 dX8_demandOf_23 rfl rfl ?_
  refine qR_iadd dX8_demandOf_24 h.1 ?_
  replace h := h.2
  refine qX_iald dX8_demandOf_25 sh180 h.1 ?_
  replace h := h.2
  refine qR_imul dX8_demandOf_26 h.1 ?_
  replace h := h.2
  refine qX_aload_n 0 dX8_demandOf_27 rfl rfl (by decide) ?_
  refine qX_getS 8 12 _ 1 dX8_demandOf_28 fs_X8_17 rfl rfl sh178 (x := 180) rfl ?_
  refine qX_bip dX8_demandOf_31 rfl ?_
  refine qX_iload dX8_demandOf_33 rfl ?_
  refine qR_iadd dX8_demandOf_35 h.1 ?_
  replace h := h.2
  refine qX_iald dX8_demandOf_36 sh180 h.1 ?_
  replace h := h.2
  refine qX_aload_n 0 dX8_demandOf_37 rfl rfl (by decide) ?_
  refine qX_getS 8 12 _ 1 dX8_demandOf_38 fs_X8_17 rfl rfl sh178 (x := 180) rfl ?_
  refine qX_bip dX8_demandOf_41 rfl ?_
  refine qX_iload_n 3 dX8_demandOf_43 rfl rfl ?_
  refine qR_iadd dX8_demandOf_44 h.1 ?_
  replace h := h.2
  refine qX_iald dX8_demandOf_45 sh180 h.1 ?_
  replace h := h.2
  refine qR_imul dX8_demandOf_46 h.1 ?_
  replace h := h.2
  refine qR_iadd dX8_demandOf_47 h.1 ?_
  replace h := h.2
  refine qX_istore dX8_demandOf_48 (Nat.le_of_ble_eq_true rfl) rfl ?_
  refine qX_iload dX8_demandOf_50 rfl ?_
  refine qX_bip dX8_demandOf_52 rfl ?_
  refine qR_iadd dX8_demandOf_54 h.1 ?_
  replace h := h.2
  refine qX_bip dX8_demandOf_55 rfl ?_
  refine qR_idiv dX8_demandOf_57 h.1 ?_
  replace h := h.2
  exact qX_ireturn rfl dX8_demandOf_58 rfl ⟨Nat.le_refl _, Nat.le_refl _⟩ h
set_option maxRecDepth 20000 in
theorem e_X8_demandOfTrain {Post : Int → Rf → Mem → Prop} {ρ : Rf} {μ : Mem} {x1 : Int} {x2 : Int}
  (h : qX mX8_demandOfTrain GG Post GG (0, 0) 5 [some (qP 178), some (qI x1), some (qI x2), some (qI 0), some (qI 0)] [] ρ μ) : qE mX8_demandOfTrain GG GG [qP 178, qI x1, qI x2] ρ μ Post := by
  refine qE_intro pl_X8_demandOfTrain (Nat.le_of_ble_eq_true rfl) (Nat.le_refl _) ?_
  refine qX_iconst dX8_demandOfTrain_0 (i32_of rfl) ?_
  refine qX_istore_n 3 dX8_demandOfTrain_1 rfl (Nat.le_of_ble_eq_true rfl) rfl ?_
  refine qX_iconst dX8_demandOfTrain_2 (i32_of rfl) ?_
  refine qX_istore dX8_demandOfTrain_3 (Nat.le_of_ble_eq_true rfl) rfl ?_
  exact qX_mask [true, true, true, true, true] h
set_option maxRecDepth 20000 in
theorem w_X8_demandOfTrain_5 {Post : Int → Rf → Mem → Prop} {ρ : Rf} {μ : Mem} {x1 : Int} {x2 : Int} {x3 : Int} {x4 : Int}
  (h : i32 (4 + x1) ∧ (0 ≤ 4 + x1 ∧ 4 + x1 < 188) ∧ ((μ 180 (4 + x1) ≤ x4 → Post x3 ρ μ) ∧ (x4 < μ 180 (4 + x1) → ∃ P : Int → Rf → Mem → Prop, qE mX8_demandOf GG GG [qP 178, qI x1, qI x4, qI x2] ρ μ P ∧ ∀ (z1 : Int) (ρ2 : Rf) (μ3 : Mem), P z1 ρ2 μ3 → i32 (x3 + z1) ∧ i32 (x4 + 1) ∧ qX mX8_demandOfTrain GG Post GG (0, 0) 5 [some (qP 178), some (qI x1), some (qI x2), some (qI (x3 + z1)), some (qI (x4 + 1))] [] ρ2 μ3))) : qX mX8_demandOfTrain GG Post GG (0, 0) 5 [some (qP 178), some (qI x1), some (qI x2), some (qI x3), some (qI x4)] [] ρ μ := by
  refine qX_iload dX8_demandOfTrain_5 rfl ?_
  refine qX_aload_n 0 dX8_demandOfTrain_7 rfl rfl (by decide) ?_
  refine qX_getS 8 12 _ 1 dX8_demandOfTrain_8 fs_X8_17 rfl rfl sh178 (x := 180) rfl ?_
  refine qX_iconst dX8_demandOfTrain_11 (i32_of rfl) ?_
  refine qX_iload_n 1 dX8_demandOfTrain_12 rfl rfl ?_
  refine qR_iadd dX8_demandOfTrain_13 h.1 ?_
  replace h := h.2
  refine qX_iald dX8_demandOfTrain_14 sh180 h.1 ?_
  replace h := h.2
  refine qX_icmp_ge 35 dX8_demandOfTrain_15 rfl (fun hc => ?_) (fun hc => ?_)
  · replace h := h.1 hc
    refine qX_iload_n 3 dX8_demandOfTrain_35 rfl rfl ?_
    exact qX_ireturn rfl dX8_demandOfTrain_36 rfl ⟨Nat.le_refl _, Nat.le_refl _⟩ h
  · replace h := h.2 hc
    refine qX_iload_n 3 dX8_demandOfTrain_18 rfl rfl ?_
    refine qX_aload_n 0 dX8_demandOfTrain_19 rfl rfl (by decide) ?_
    refine qX_iload_n 1 dX8_demandOfTrain_20 rfl rfl ?_
    refine qX_iload dX8_demandOfTrain_21 rfl ?_
    refine qX_iload_n 2 dX8_demandOfTrain_23 rfl rfl ?_
    obtain ⟨P, hE4, h⟩ := h
    refine qN_callV mX8_demandOf [_, _, _] _ 8 [_] dX8_demandOfTrain_24 cm_X8_263 ⟨(Nat.le_of_ble_eq_true rfl), (Nat.le_of_ble_eq_true rfl)⟩ rfl rfl sh178 (Nat.le_of_ble_eq_true rfl) ⟨rfl, rfl⟩ hE4 (fun z1 ρ2 μ3 hz => ?_)
    replace h := h _ _ _ hz
    refine qR_iadd dX8_demandOfTrain_27 h.1 ?_
    replace h := h.2
    refine qX_istore_n 3 dX8_demandOfTrain_28 rfl (Nat.le_of_ble_eq_true rfl) rfl ?_
    refine qR_iinc dX8_demandOfTrain_29 rfl (Nat.le_of_ble_eq_true rfl) rfl h.1 ?_
    replace h := h.2
    refine qX_goto 5 dX8_demandOfTrain_32 rfl ?_
    exact qX_mask [true, true, true, true, true] h
set_option maxRecDepth 20000 in
theorem e_X8_demand {Post : Int → Rf → Mem → Prop} {ρ : Rf} {μ : Mem} {x1 : Int} {x2 : Int} {x3 : Int}
  (h : ∀ μ1, μ1 = up2 μ 178 0 0 → ∃ P : Int → Rf → Mem → Prop, qE mX8_isCar GG GG [qP 178, qI x1, qI x2] ρ μ1 P ∧ ∀ (z2 : Int) (ρ3 : Rf) (μ4 : Mem), P z2 ρ3 μ4 → ((z2 = 0 → ∃ P : Int → Rf → Mem → Prop, qE mX8_failed GG GG [qP 178, qI 1] ρ3 μ4 P ∧ ∀ (z6 : Int) (ρ7 : Rf) (μ8 : Mem), P z6 ρ7 μ8 → Post z6 ρ7 μ8) ∧ (z2 ≠ 0 → ∃ P : Int → Rf → Mem → Prop, qE mX8_isMeal GG GG [qP 178, qI x3] ρ3 μ4 P ∧ ∀ (z10 : Int) (ρ11 : Rf) (μ12 : Mem), P z10 ρ11 μ12 → ((z10 = 0 → ∃ P : Int → Rf → Mem → Prop, qE mX8_failed GG GG [qP 178, qI 1] ρ11 μ12 P ∧ ∀ (z14 : Int) (ρ15 : Rf) (μ16 : Mem), P z14 ρ15 μ16 → Post z14 ρ15 μ16) ∧ (z10 ≠ 0 → ∃ P : Int → Rf → Mem → Prop, qE mX8_demandOf GG GG [qP 178, qI x1, qI x2, qI x3] ρ11 μ12 P ∧ ∀ (z18 : Int) (ρ19 : Rf) (μ20 : Mem), P z18 ρ19 μ20 → ∃ P : Int → Rf → Mem → Prop, qE mX8_done GG GG [qP 178, qI z18] ρ19 μ20 P ∧ ∀ (z22 : Int) (ρ23 : Rf) (μ24 : Mem), P z22 ρ23 μ24 → Post z22 ρ23 μ24))))) : qE mX8_demand GG GG [qP 178, qI x1, qI x2, qI x3] ρ μ Post := by
  refine qE_intro pl_X8_demand (Nat.le_of_ble_eq_true rfl) (Nat.le_refl _) ?_
  refine qX_aload_n 0 dX8_demand_0 rfl rfl (by decide) ?_
  refine qX_iconst dX8_demand_1 (i32_of rfl) ?_
  refine qX_putI 8 0 _ dX8_demand_2 fs_X8_103 sh178 ?_
  replace h := h _ rfl
  refine qX_aload_n 0 dX8_demand_5 rfl rfl (by decide) ?_
  refine qX_iload_n 1 dX8_demand_6 rfl rfl ?_
  refine qX_iload_n 2 dX8_demand_7 rfl rfl ?_
  obtain ⟨P, hE5, h⟩ := h
  refine qN_callV mX8_isCar [_, _] _ 8 [] dX8_demand_8 cm_X8_267 ⟨(Nat.le_of_ble_eq_true rfl), (Nat.le_of_ble_eq_true rfl)⟩ rfl rfl sh178 (Nat.le_of_ble_eq_true rfl) ⟨rfl, rfl⟩ hE5 (fun z2 ρ3 μ4 hz => ?_)
  replace h := h _ _ _ hz
  refine qX_if_eq 36 dX8_demand_11 rfl (fun hc => ?_) (fun hc => ?_)
  · replace h := h.1 hc
    refine qX_aload_n 0 dX8_demand_36 rfl rfl (by decide) ?_
    refine qX_iconst dX8_demand_37 (i32_of rfl) ?_
    obtain ⟨P, hE9, h⟩ := h
    refine qN_callV mX8_failed [_] _ 8 [] dX8_demand_38 cm_X8_226 ⟨(Nat.le_of_ble_eq_true rfl), (Nat.le_of_ble_eq_true rfl)⟩ rfl rfl sh178 (Nat.le_of_ble_eq_true rfl) ⟨rfl, rfl⟩ hE9 (fun z6 ρ7 μ8 hz => ?_)
    replace h := h _ _ _ hz
    exact qX_ireturn rfl dX8_demand_41 rfl ⟨Nat.le_refl _, Nat.le_refl _⟩ h
  · replace h := h.2 hc
    refine qX_aload_n 0 dX8_demand_14 rfl rfl (by decide) ?_
    refine qX_iload_n 3 dX8_demand_15 rfl rfl ?_
    obtain ⟨P, hE13, h⟩ := h
    refine qN_callV mX8_isMeal [_] _ 8 [] dX8_demand_16 cm_X8_260 ⟨(Nat.le_of_ble_eq_true rfl), (Nat.le_of_ble_eq_true rfl)⟩ rfl rfl sh178 (Nat.le_of_ble_eq_true rfl) ⟨rfl, rfl⟩ hE13 (fun z10 ρ11 μ12 hz => ?_)
    replace h := h _ _ _ hz
    refine qX_if_eq 36 dX8_demand_19 rfl (fun hc => ?_) (fun hc => ?_)
    · replace h := h.1 hc
      refine qX_aload_n 0 dX8_demand_36 rfl rfl (by decide) ?_
      refine qX_iconst dX8_demand_37 (i32_of rfl) ?_
      obtain ⟨P, hE17, h⟩ := h
      refine qN_callV mX8_failed [_] _ 8 [] dX8_demand_38 cm_X8_226 ⟨(Nat.le_of_ble_eq_true rfl), (Nat.le_of_ble_eq_true rfl)⟩ rfl rfl sh178 (Nat.le_of_ble_eq_true rfl) ⟨rfl, rfl⟩ hE17 (fun z14 ρ15 μ16 hz => ?_)
      replace h := h _ _ _ hz
      exact qX_ireturn rfl dX8_demand_41 rfl ⟨Nat.le_refl _, Nat.le_refl _⟩ h
    · replace h := h.2 hc
      refine qX_aload_n 0 dX8_demand_22 rfl rfl (by decide) ?_
      refine qX_aload_n 0 dX8_demand_23 rfl rfl (by decide) ?_
      refine qX_iload_n 1 dX8_demand_24 rfl rfl ?_
      refine qX_iload_n 2 dX8_demand_25 rfl rfl ?_
      refine qX_iload_n 3 dX8_demand_26 rfl rfl ?_
      obtain ⟨P, hE21, h⟩ := h
      refine qN_callV mX8_demandOf [_, _, _] _ 8 [_] dX8_demand_27 cm_X8_263 ⟨(Nat.le_of_ble_eq_true rfl), (Nat.le_of_ble_eq_true rfl)⟩ rfl rfl sh178 (Nat.le_of_ble_eq_true rfl) ⟨rfl, rfl⟩ hE21 (fun z18 ρ19 μ20 hz => ?_)
      replace h := h _ _ _ hz
      obtain ⟨P, hE25, h⟩ := h
      refine qN_callV mX8_done [_] _ 8 [] dX8_demand_30 cm_X8_246 ⟨(Nat.le_of_ble_eq_true rfl), (Nat.le_of_ble_eq_true rfl)⟩ rfl rfl sh178 (Nat.le_of_ble_eq_true rfl) ⟨rfl, rfl⟩ hE25 (fun z22 ρ23 μ24 hz => ?_)
      replace h := h _ _ _ hz
      refine qX_goto 41 dX8_demand_33 rfl ?_
      exact qX_ireturn rfl dX8_demand_41 rfl ⟨Nat.le_refl _, Nat.le_refl _⟩ h
set_option maxRecDepth 20000 in
theorem e_X8_jobTrolley {Post : Int → Rf → Mem → Prop} {ρ : Rf} {μ : Mem} {x1 : Int}
  (h : ∃ P : Int → Rf → Mem → Prop, qE mX8_isJob GG GG [qP 178, qI x1] ρ μ P ∧ ∀ (z1 : Int) (ρ2 : Rf) (μ3 : Mem), P z1 ρ2 μ3 → ∃ P : Int → Rf → Mem → Prop, qE mX8_isJob GG GG [qP 178, qI x1] ρ2 μ3 P ∧ ∀ (z5 : Int) (ρ6 : Rf) (μ7 : Mem), P z5 ρ6 μ7 → ((z5 = 0 → ∃ P : Int → Rf → Mem → Prop, qE mX8_tell GG GG [qP 178, qI z1, qI 0] ρ6 μ7 P ∧ ∀ (z9 : Int) (ρ10 : Rf) (μ11 : Mem), P z9 ρ10 μ11 → Post z9 ρ10 μ11) ∧ (z5 ≠ 0 → i32 (5 * x1) ∧ i32 (88 + (5 * x1)) ∧ i32 ((88 + (5 * x1)) + 0) ∧ ∃ P : Int → Rf → Mem → Prop, qE mX8_tell GG GG [qP 178, qI z1, qI ((88 + (5 * x1)) + 0)] ρ6 μ7 P ∧ ∀ (z13 : Int) (ρ14 : Rf) (μ15 : Mem), P z13 ρ14 μ15 → Post z13 ρ14 μ15))) : qE mX8_jobTrolley GG GG [qP 178, qI x1] ρ μ Post := by
  refine qE_intro pl_X8_jobTrolley (Nat.le_of_ble_eq_true rfl) (Nat.le_refl _) ?_
  refine qX_aload_n 0 dX8_jobTrolley_0 rfl rfl (by decide) ?_
  refine qX_aload_n 0 dX8_jobTrolley_1 rfl rfl (by decide) ?_
  refine qX_iload_n 1 dX8_jobTrolley_2 rfl rfl ?_
  obtain ⟨P, hE4, h⟩ := h
  refine qN_callV mX8_isJob [_] _ 8 [_] dX8_jobTrolley_3 cm_X8_271 ⟨(Nat.le_of_ble_eq_true rfl), (Nat.le_of_ble_eq_true rfl)⟩ rfl rfl sh178 (Nat.le_of_ble_eq_true rfl) ⟨rfl, rfl⟩ hE4 (fun z1 ρ2 μ3 hz => ?_)
  replace h := h _ _ _ hz
  refine qX_aload_n 0 dX8_jobTrolley_6 rfl rfl (by decide) ?_
  refine qX_iload_n 1 dX8_jobTrolley_7 rfl rfl ?_
  obtain ⟨P, hE8, h⟩ := h
  refine qN_callV mX8_isJob [_] _ 8 [_, _] dX8_jobTrolley_8 cm_X8_271 ⟨(Nat.le_of_ble_eq_true rfl), (Nat.le_of_ble_eq_true rfl)⟩ rfl rfl sh178 (Nat.le_of_ble_eq_true rfl) ⟨rfl, rfl⟩ hE8 (fun z5 ρ6 μ7 hz => ?_)
  replace h := h _ _ _ hz
  refine qX_if_eq 25 dX8_jobTrolley_11 rfl (fun hc => ?_) (fun hc => ?_)
  · replace h := h.1 hc
    refine qX_iconst dX8_jobTrolley_25 (i32_of rfl) ?_
    obtain ⟨P, hE12, h⟩ := h
    refine qN_callV mX8_tell [_, _] _ 8 [] dX8_jobTrolley_26 cm_X8_253 ⟨(Nat.le_of_ble_eq_true rfl), (Nat.le_of_ble_eq_true rfl)⟩ rfl rfl sh178 (Nat.le_of_ble_eq_true rfl) ⟨rfl, rfl⟩ hE12 (fun z9 ρ10 μ11 hz => ?_)
    replace h := h _ _ _ hz
    exact qX_ireturn rfl dX8_jobTrolley_29 rfl ⟨Nat.le_refl _, Nat.le_refl _⟩ h
  · replace h := h.2 hc
    refine qX_bip dX8_jobTrolley_14 rfl ?_
    refine qX_iconst dX8_jobTrolley_16 (i32_of rfl) ?_
    refine qX_iload_n 1 dX8_jobTrolley_17 rfl rfl ?_
    refine qR_imul dX8_jobTrolley_18 h.1 ?_
    replace h := h.2
    refine qR_iadd dX8_jobTrolley_19 h.1 ?_
    replace h := h.2
    refine qX_iconst dX8_jobTrolley_20 (i32_of rfl) ?_
    refine qR_iadd dX8_jobTrolley_21 h.1 ?_
    replace h := h.2
    refine qX_goto 26 dX8_jobTrolley_22 rfl ?_
    obtain ⟨P, hE16, h⟩ := h
    refine qN_callV mX8_tell [_, _] _ 8 [] dX8_jobTrolley_26 cm_X8_253 ⟨(Nat.le_of_ble_eq_true rfl), (Nat.le_of_ble_eq_true rfl)⟩ rfl rfl sh178 (Nat.le_of_ble_eq_true rfl) ⟨rfl, rfl⟩ hE16 (fun z13 ρ14 μ15 hz => ?_)
    replace h := h _ _ _ hz
    exact qX_ireturn rfl dX8_jobTrolley_29 rfl ⟨Nat.le_refl _, Nat.le_refl _⟩ h
set_option maxRecDepth 20000 in
theorem e_X8_jobQuantity {Post : Int → Rf → Mem → Prop} {ρ : Rf} {μ : Mem} {x1 : Int}
  (h : ∃ P : Int → Rf → Mem → Prop, qE mX8_isJob GG GG [qP 178, qI x1] ρ μ P ∧ ∀ (z1 : Int) (ρ2 : Rf) (μ3 : Mem), P z1 ρ2 μ3 → ∃ P : Int → Rf → Mem → Prop, qE mX8_isJob GG GG [qP 178, qI x1] ρ2 μ3 P ∧ ∀ (z5 : Int) (ρ6 : Rf) (μ7 : Mem), P z5 ρ6 μ7 → ((z5 = 0 → ∃ P : Int → Rf → Mem → Prop, qE mX8_tell GG GG [qP 178, qI z1, qI 0] ρ6 μ7 P ∧ ∀ (z9 : Int) (ρ10 : Rf) (μ11 : Mem), P z9 ρ10 μ11 → Post z9 ρ10 μ11) ∧ (z5 ≠ 0 → i32 (5 * x1) ∧ i32 (88 + (5 * x1)) ∧ i32 ((88 + (5 * x1)) + 4) ∧ ∃ P : Int → Rf → Mem → Prop, qE mX8_tell GG GG [qP 178, qI z1, qI ((88 + (5 * x1)) + 4)] ρ6 μ7 P ∧ ∀ (z13 : Int) (ρ14 : Rf) (μ15 : Mem), P z13 ρ14 μ15 → Post z13 ρ14 μ15))) : qE mX8_jobQuantity GG GG [qP 178, qI x1] ρ μ Post := by
  refine qE_intro pl_X8_jobQuantity (Nat.le_of_ble_eq_true rfl) (Nat.le_refl _) ?_
  refine qX_aload_n 0 dX8_jobQuantity_0 rfl rfl (by decide) ?_
  refine qX_aload_n 0 dX8_jobQuantity_1 rfl rfl (by decide) ?_
  refine qX_iload_n 1 dX8_jobQuantity_2 rfl rfl ?_
  obtain ⟨P, hE4, h⟩ := h
  refine qN_callV mX8_isJob [_] _ 8 [_] dX8_jobQuantity_3 cm_X8_271 ⟨(Nat.le_of_ble_eq_true rfl), (Nat.le_of_ble_eq_true rfl)⟩ rfl rfl sh178 (Nat.le_of_ble_eq_true rfl) ⟨rfl, rfl⟩ hE4 (fun z1 ρ2 μ3 hz => ?_)
  replace h := h _ _ _ hz
  refine qX_aload_n 0 dX8_jobQuantity_6 rfl rfl (by decide) ?_
  refine qX_iload_n 1 dX8_jobQuantity_7 rfl rfl ?_
  obtain ⟨P, hE8, h⟩ := h
  refine qN_callV mX8_isJob [_] _ 8 [_, _] dX8_jobQuantity_8 cm_X8_271 ⟨(Nat.le_of_ble_eq_true rfl), (Nat.le_of_ble_eq_true rfl)⟩ rfl rfl sh178 (Nat.le_of_ble_eq_true rfl) ⟨rfl, rfl⟩ hE8 (fun z5 ρ6 μ7 hz => ?_)
  replace h := h _ _ _ hz
  refine qX_if_eq 25 dX8_jobQuantity_11 rfl (fun hc => ?_) (fun hc => ?_)
  · replace h := h.1 hc
    refine qX_iconst dX8_jobQuantity_25 (i32_of rfl) ?_
    obtain ⟨P, hE12, h⟩ := h
    refine qN_callV mX8_tell [_, _] _ 8 [] dX8_jobQuantity_26 cm_X8_253 ⟨(Nat.le_of_ble_eq_true rfl), (Nat.le_of_ble_eq_true rfl)⟩ rfl rfl sh178 (Nat.le_of_ble_eq_true rfl) ⟨rfl, rfl⟩ hE12 (fun z9 ρ10 μ11 hz => ?_)
    replace h := h _ _ _ hz
    exact qX_ireturn rfl dX8_jobQuantity_29 rfl ⟨Nat.le_refl _, Nat.le_refl _⟩ h
  · replace h := h.2 hc
    refine qX_bip dX8_jobQuantity_14 rfl ?_
    refine qX_iconst dX8_jobQuantity_16 (i32_of rfl) ?_
    refine qX_iload_n 1 dX8_jobQuantity_17 rfl rfl ?_
    refine qR_imul dX8_jobQuantity_18 h.1 ?_
    replace h := h.2
    refine qR_iadd dX8_jobQuantity_19 h.1 ?_
    replace h := h.2
    refine qX_iconst dX8_jobQuantity_20 (i32_of rfl) ?_
    refine qR_iadd dX8_jobQuantity_21 h.1 ?_
    replace h := h.2
    refine qX_goto 26 dX8_jobQuantity_22 rfl ?_
    obtain ⟨P, hE16, h⟩ := h
    refine qN_callV mX8_tell [_, _] _ 8 [] dX8_jobQuantity_26 cm_X8_253 ⟨(Nat.le_of_ble_eq_true rfl), (Nat.le_of_ble_eq_true rfl)⟩ rfl rfl sh178 (Nat.le_of_ble_eq_true rfl) ⟨rfl, rfl⟩ hE16 (fun z13 ρ14 μ15 hz => ?_)
    replace h := h _ _ _ hz
    exact qX_ireturn rfl dX8_jobQuantity_29 rfl ⟨Nat.le_refl _, Nat.le_refl _⟩ h
set_option maxRecDepth 20000 in
theorem e_X8_job {Post : Int → Rf → Mem → Prop} {ρ : Rf} {μ : Mem} {x1 : Int} {x2 : Int}
  (h : i32 (5 * x1) ∧ i32 (88 + (5 * x1)) ∧ i32 ((88 + (5 * x1)) + x2) ∧ (0 ≤ (88 + (5 * x1)) + x2 ∧ (88 + (5 * x1)) + x2 < 188) ∧ Post (μ 180 ((88 + (5 * x1)) + x2)) ρ μ) : qE mX8_job GG GG [qP 178, qI x1, qI x2] ρ μ Post := by
  refine qE_intro pl_X8_job (Nat.le_of_ble_eq_true rfl) (Nat.le_refl _) ?_
  refine qX_aload_n 0 dX8_job_0 rfl rfl (by decide) ?_
  refine qX_getS 8 12 _ 1 dX8_job_1 fs_X8_17 rfl rfl sh178 (x := 180) rfl ?_
  refine qX_bip dX8_job_4 rfl ?_
  refine qX_iconst dX8_job_6 (i32_of rfl) ?_
  refine qX_iload_n 1 dX8_job_7 rfl rfl ?_
  refine qR_imul dX8_job_8 h.1 ?_
  replace h := h.2
  refine qR_iadd dX8_job_9 h.1 ?_
  replace h := h.2
  refine qX_iload_n 2 dX8_job_10 rfl rfl ?_
  refine qR_iadd dX8_job_11 h.1 ?_
  replace h := h.2
  refine qX_iald dX8_job_12 sh180 h.1 ?_
  replace h := h.2
  exact qX_ireturn rfl dX8_job_13 rfl ⟨Nat.le_refl _, Nat.le_refl _⟩ h
set_option maxRecDepth 20000 in
theorem e_X8_trolley {Post : Int → Rf → Mem → Prop} {ρ : Rf} {μ : Mem} {x1 : Int} {x2 : Int}
  (h : i32 (5 * x1) ∧ i32 (62 + (5 * x1)) ∧ i32 ((62 + (5 * x1)) + x2) ∧ (0 ≤ (62 + (5 * x1)) + x2 ∧ (62 + (5 * x1)) + x2 < 188) ∧ Post (μ 180 ((62 + (5 * x1)) + x2)) ρ μ) : qE mX8_trolley GG GG [qP 178, qI x1, qI x2] ρ μ Post := by
  refine qE_intro pl_X8_trolley (Nat.le_of_ble_eq_true rfl) (Nat.le_refl _) ?_
  refine qX_aload_n 0 dX8_trolley_0 rfl rfl (by decide) ?_
  refine qX_getS 8 12 _ 1 dX8_trolley_1 fs_X8_17 rfl rfl sh178 (x := 180) rfl ?_
  refine qX_bip dX8_trolley_4 rfl ?_
  refine qX_iconst dX8_trolley_6 (i32_of rfl) ?_
  refine qX_iload_n 1 dX8_trolley_7 rfl rfl ?_
  refine qR_imul dX8_trolley_8 h.1 ?_
  replace h := h.2
  refine qR_iadd dX8_trolley_9 h.1 ?_
  replace h := h.2
  refine qX_iload_n 2 dX8_trolley_10 rfl rfl ?_
  refine qR_iadd dX8_trolley_11 h.1 ?_
  replace h := h.2
  refine qX_iald dX8_trolley_12 sh180 h.1 ?_
  replace h := h.2
  exact qX_ireturn rfl dX8_trolley_13 rfl ⟨Nat.le_refl _, Nat.le_refl _⟩ h
set_option maxRecDepth 20000 in
theorem e_X8_ceil {Post : Int → Rf → Mem → Prop} {ρ : Rf} {μ : Mem} {x0 : Int} {x1 : Int}
  (h : i32 (x0 + x1) ∧ i32 ((x0 + x1) - 1) ∧ (0 ≤ (x0 + x1) - 1 ∧ 0 < x1) ∧ Post (((x0 + x1) - 1) / x1) ρ μ) : qE mX8_ceil GG GG [qI x0, qI x1] ρ μ Post := by
  refine qE_intro pl_X8_ceil (Nat.le_of_ble_eq_true rfl) (Nat.le_refl _) ?_
  refine qX_iload_n 0 dX8_ceil_0 rfl rfl ?_
  refine qX_iload_n 1 dX8_ceil_1 rfl rfl ?_
  refine qR_iadd dX8_ceil_2 h.1 ?_
  replace h := h.2
  refine qX_iconst dX8_ceil_3 (i32_of rfl) ?_
  refine qR_isub dX8_ceil_4 h.1 ?_
  replace h := h.2
  refine qX_iload_n 1 dX8_ceil_5 rfl rfl ?_
  refine qR_idiv dX8_ceil_6 h.1 ?_
  replace h := h.2
  exact qX_ireturn rfl dX8_ceil_7 rfl ⟨Nat.le_refl _, Nat.le_refl _⟩ h
set_option maxRecDepth 20000 in
theorem e_X8_walkOf {Post : Int → Rf → Mem → Prop} {ρ : Rf} {μ : Mem} {x1 : Int}
  (h : ∃ P : Int → Rf → Mem → Prop, qE mX8_job GG GG [qP 178, qI x1, qI 0] ρ μ P ∧ ∀ (z1 : Int) (ρ2 : Rf) (μ3 : Mem), P z1 ρ2 μ3 → ∃ P : Int → Rf → Mem → Prop, qE mX8_trolley GG GG [qP 178, qI z1, qI 0] ρ2 μ3 P ∧ ∀ (z5 : Int) (ρ6 : Rf) (μ7 : Mem), P z5 ρ6 μ7 → i32 (46 + z5) ∧ (0 ≤ 46 + z5 ∧ 46 + z5 < 188) ∧ ∃ P : Int → Rf → Mem → Prop, qE mX8_job GG GG [qP 178, qI x1, qI 1] ρ6 μ7 P ∧ ∀ (z9 : Int) (ρ10 : Rf) (μ11 : Mem), P z9 ρ10 μ11 → i32 (5 * z9) ∧ i32 (6 + (5 * z9)) ∧ ∃ P : Int → Rf → Mem → Prop, qE mX8_job GG GG [qP 178, qI x1, qI 2] ρ10 μ11 P ∧ ∀ (z13 : Int) (ρ14 : Rf) (μ15 : Mem), P z13 ρ14 μ15 → i32 ((6 + (5 * z9)) + z13) ∧ (0 ≤ (6 + (5 * z9)) + z13 ∧ (6 + (5 * z9)) + z13 < 188) ∧ i32 ((μ7 180 (46 + z5)) - (μ15 180 ((6 + (5 * z9)) + z13))) ∧ i32 (-((μ7 180 (46 + z5)) - (μ15 180 ((6 + (5 * z9)) + z13)))) ∧ ∃ P : Int → Rf → Mem → Prop, qE mX8_trolley GG GG [qP 178, qI z1, qI 2] ρ14 μ15 P ∧ ∀ (z17 : Int) (ρ18 : Rf) (μ19 : Mem), P z17 ρ18 μ19 → ∃ P : Int → Rf → Mem → Prop, qE mX8_ceil GG GG [qI (max ((μ7 180 (46 + z5)) - (μ15 180 ((6 + (5 * z9)) + z13))) (-((μ7 180 (46 + z5)) - (μ15 180 ((6 + (5 * z9)) + z13))))), qI z17] ρ18 μ19 P ∧ ∀ (z21 : Int) (ρ22 : Rf) (μ23 : Mem), P z21 ρ22 μ23 → Post z21 ρ22 μ23) : qE mX8_walkOf GG GG [qP 178, qI x1] ρ μ Post := by
  refine qE_intro pl_X8_walkOf (Nat.le_of_ble_eq_true rfl) (Nat.le_refl _) ?_
  refine qX_aload_n 0 dX8_walkOf_0 rfl rfl (by decide) ?_
  refine qX_iload_n 1 dX8_walkOf_1 rfl rfl ?_
  refine qX_iconst dX8_walkOf_2 (i32_of rfl) ?_
  obtain ⟨P, hE4, h⟩ := h
  refine qN_callV mX8_job [_, _] _ 8 [] dX8_walkOf_3 cm_X8_274 ⟨(Nat.le_of_ble_eq_true rfl), (Nat.le_of_ble_eq_true rfl)⟩ rfl rfl sh178 (Nat.le_of_ble_eq_true rfl) ⟨rfl, rfl⟩ hE4 (fun z1 ρ2 μ3 hz => ?_)
  replace h := h _ _ _ hz
  refine qX_istore_n 2 dX8_walkOf_6 rfl (Nat.le_of_ble_eq_true rfl) rfl ?_
  refine qX_aload_n 0 dX8_walkOf_7 rfl rfl (by decide) ?_
  refine qX_getS 8 12 _ 1 dX8_walkOf_8 fs_X8_17 rfl rfl sh178 (x := 180) rfl ?_
  refine qX_bip dX8_walkOf_11 rfl ?_
  refine qX_aload_n 0 dX8_walkOf_13 rfl rfl (by decide) ?_
  refine qX_iload_n 2 dX8_walkOf_14 rfl rfl ?_
  refine qX_iconst dX8_walkOf_15 (i32_of rfl) ?_
  obtain ⟨P, hE8, h⟩ := h
  refine qN_callV mX8_trolley [_, _] _ 8 [_, _] dX8_walkOf_16 cm_X8_277 ⟨(Nat.le_of_ble_eq_true rfl), (Nat.le_of_ble_eq_true rfl)⟩ rfl rfl sh178 (Nat.le_of_ble_eq_true rfl) ⟨rfl, rfl⟩ hE8 (fun z5 ρ6 μ7 hz => ?_)
  replace h := h _ _ _ hz
  refine qR_iadd dX8_walkOf_19 h.1 ?_
  replace h := h.2
  refine qX_iald dX8_walkOf_20 sh180 h.1 ?_
  replace h := h.2
  refine qX_aload_n 0 dX8_walkOf_21 rfl rfl (by decide) ?_
  refine qX_getS 8 12 _ 1 dX8_walkOf_22 fs_X8_17 rfl rfl sh178 (x := 180) rfl ?_
  refine qX_bip dX8_walkOf_25 rfl ?_
  refine qX_iconst dX8_walkOf_27 (i32_of rfl) ?_
  refine qX_aload_n 0 dX8_walkOf_28 rfl rfl (by decide) ?_
  refine qX_iload_n 1 dX8_walkOf_29 rfl rfl ?_
  refine qX_iconst dX8_walkOf_30 (i32_of rfl) ?_
  obtain ⟨P, hE12, h⟩ := h
  refine qN_callV mX8_job [_, _] _ 8 [_, _, _, _] dX8_walkOf_31 cm_X8_274 ⟨(Nat.le_of_ble_eq_true rfl), (Nat.le_of_ble_eq_true rfl)⟩ rfl rfl sh178 (Nat.le_of_ble_eq_true rfl) ⟨rfl, rfl⟩ hE12 (fun z9 ρ10 μ11 hz => ?_)
  replace h := h _ _ _ hz
  refine qR_imul dX8_walkOf_34 h.1 ?_
  replace h := h.2
  refine qR_iadd dX8_walkOf_35 h.1 ?_
  replace h := h.2
  refine qX_aload_n 0 dX8_walkOf_36 rfl rfl (by decide) ?_
  refine qX_iload_n 1 dX8_walkOf_37 rfl rfl ?_
  refine qX_iconst dX8_walkOf_38 (i32_of rfl) ?_
  obtain ⟨P, hE16, h⟩ := h
  refine qN_callV mX8_job [_, _] _ 8 [_, _, _] dX8_walkOf_39 cm_X8_274 ⟨(Nat.le_of_ble_eq_true rfl), (Nat.le_of_ble_eq_true rfl)⟩ rfl rfl sh178 (Nat.le_of_ble_eq_true rfl) ⟨rfl, rfl⟩ hE16 (fun z13 ρ14 μ15 hz => ?_)
  replace h := h _ _ _ hz
  refine qR_iadd dX8_walkOf_42 h.1 ?_
  replace h := h.2
  refine qX_iald dX8_walkOf_43 sh180 h.1 ?_
  replace h := h.2
  refine qR_isub dX8_walkOf_44 h.1 ?_
  replace h := h.2
  refine qR_abs dX8_walkOf_45 kM_X8_280 ⟨(Nat.le_of_ble_eq_true rfl), (Nat.le_of_ble_eq_true rfl)⟩ (Nat.le_of_ble_eq_true rfl) ⟨Nat.zero_le _, Nat.zero_le _⟩ h.1 ?_
  replace h := h.2
  refine qX_aload_n 0 dX8_walkOf_48 rfl rfl (by decide) ?_
  refine qX_iload_n 2 dX8_walkOf_49 rfl rfl ?_
  refine qX_iconst dX8_walkOf_50 (i32_of rfl) ?_
  obtain ⟨P, hE20, h⟩ := h
  refine qN_callV mX8_trolley [_, _] _ 8 [_] dX8_walkOf_51 cm_X8_277 ⟨(Nat.le_of_ble_eq_true rfl), (Nat.le_of_ble_eq_true rfl)⟩ rfl rfl sh178 (Nat.le_of_ble_eq_true rfl) ⟨rfl, rfl⟩ hE20 (fun z17 ρ18 μ19 hz => ?_)
  replace h := h _ _ _ hz
  obtain ⟨P, hE24, h⟩ := h
  refine qN_callS mX8_ceil [_, _] [] dX8_walkOf_54 cm_X8_285 ⟨(Nat.le_of_ble_eq_true rfl), (Nat.le_of_ble_eq_true rfl)⟩ rfl rfl (Nat.le_of_ble_eq_true rfl) ⟨rfl, rfl⟩ hE24 (fun z21 ρ22 μ23 hz => ?_)
  replace h := h _ _ _ hz
  exact qX_ireturn rfl dX8_walkOf_57 rfl ⟨Nat.le_refl _, Nat.le_refl _⟩ h
set_option maxRecDepth 20000 in
theorem e_X8_nextJob {Post : Int → Rf → Mem → Prop} {ρ : Rf} {μ : Mem} {x1 : Int} {x2 : Int} {x3 : Int}
  (h : qX mX8_nextJob GG Post GG (0, 0) 3 [some (qP 178), some (qI x1), none, some (qI x3), some (qI x2)] [] ρ μ) : qE mX8_nextJob GG GG [qP 178, qI x1, qI x2, qI x3] ρ μ Post := by
  refine qE_intro pl_X8_nextJob (Nat.le_of_ble_eq_true rfl) (Nat.le_refl _) ?_
  refine qX_iload_n 2 dX8_nextJob_0 rfl rfl ?_
  refine qX_istore dX8_nextJob_1 (Nat.le_of_ble_eq_true rfl) rfl ?_
  exact qX_mask [true, true, false, true, true] h
set_option maxRecDepth 20000 in
theorem w_X8_nextJob_3 {Post : Int → Rf → Mem → Prop} {ρ : Rf} {μ : Mem} {x1 : Int} {x3 : Int} {x4 : Int}
  (h : ((μ 180 87 ≤ x4 → Post x4 ρ μ) ∧ (x4 < μ 180 87 → ∃ P : Int → Rf → Mem → Prop, qE mX8_job GG GG [qP 178, qI x4, qI 0] ρ μ P ∧ ∀ (z1 : Int) (ρ2 : Rf) (μ3 : Mem), P z1 ρ2 μ3 → ((z1 ≠ x1 → i32 (x4 + 1) ∧ qX mX8_nextJob GG Post GG (0, 0) 3 [some (qP 178), some (qI x1), none, some (qI x3), some (qI (x4 + 1))] [] ρ2 μ3) ∧ (z1 = x1 → ((x4 ≠ x3 → Post x4 ρ2 μ3) ∧ (x4 = x3 → i32 (x4 + 1) ∧ qX mX8_nextJob GG Post GG (0, 0) 3 [some (qP 178), some (qI x1), none, some (qI x3), some (qI (x4 + 1))] [] ρ2 μ3))))))) : qX mX8_nextJob GG Post GG (0, 0) 3 [some (qP 178), some (qI x1), none, some (qI x3), some (qI x4)] [] ρ μ := by
  refine qX_iload dX8_nextJob_3 rfl ?_
  refine qX_aload_n 0 dX8_nextJob_5 rfl rfl (by decide) ?_
  refine qX_getS 8 12 _ 1 dX8_nextJob_6 fs_X8_17 rfl rfl sh178 (x := 180) rfl ?_
  refine qX_bip dX8_nextJob_9 rfl ?_
  refine qX_iald dX8_nextJob_11 sh180 ⟨by decide, by decide⟩ ?_
  refine qX_icmp_ge 38 dX8_nextJob_12 rfl (fun hc => ?_) (fun hc => ?_)
  · replace h := h.1 hc
    refine qX_iload dX8_nextJob_38 rfl ?_
    exact qX_ireturn rfl dX8_nextJob_40 rfl ⟨Nat.le_refl _, Nat.le_refl _⟩ h
  · replace h := h.2 hc
    refine qX_aload_n 0 dX8_nextJob_15 rfl rfl (by decide) ?_
    refine qX_iload dX8_nextJob_16 rfl ?_
    refine qX_iconst dX8_nextJob_18 (i32_of rfl) ?_
    obtain ⟨P, hE4, h⟩ := h
    refine qN_callV mX8_job [_, _] _ 8 [] dX8_nextJob_19 cm_X8_274 ⟨(Nat.le_of_ble_eq_true rfl), (Nat.le_of_ble_eq_true rfl)⟩ rfl rfl sh178 (Nat.le_of_ble_eq_true rfl) ⟨rfl, rfl⟩ hE4 (fun z1 ρ2 μ3 hz => ?_)
    replace h := h _ _ _ hz
    refine qX_iload_n 1 dX8_nextJob_22 rfl rfl ?_
    refine qX_icmp_ne 32 dX8_nextJob_23 rfl (fun hc => ?_) (fun hc => ?_)
    · replace h := h.1 hc
      refine qR_iinc dX8_nextJob_32 rfl (Nat.le_of_ble_eq_true rfl) rfl h.1 ?_
      replace h := h.2
      refine qX_goto 3 dX8_nextJob_35 rfl ?_
      exact qX_mask [true, true, false, true, true] h
    · replace h := h.2 hc
      refine qX_iload dX8_nextJob_26 rfl ?_
      refine qX_iload_n 3 dX8_nextJob_28 rfl rfl ?_
      refine qX_icmp_ne 38 dX8_nextJob_29 rfl (fun hc => ?_) (fun hc => ?_)
      · replace h := h.1 hc
        refine qX_iload dX8_nextJob_38 rfl ?_
        exact qX_ireturn rfl dX8_nextJob_40 rfl ⟨Nat.le_refl _, Nat.le_refl _⟩ h
      · replace h := h.2 hc
        refine qR_iinc dX8_nextJob_32 rfl (Nat.le_of_ble_eq_true rfl) rfl h.1 ?_
        replace h := h.2
        refine qX_goto 3 dX8_nextJob_35 rfl ?_
        exact qX_mask [true, true, false, true, true] h
set_option maxRecDepth 20000 in
theorem e_X8_bringsBack {Post : Int → Rf → Mem → Prop} {ρ : Rf} {μ : Mem} {x1 : Int}
  (h : qX mX8_bringsBack GG Post GG (0, 0) 2 [some (qP 178), some (qI x1), some (qI 0)] [] ρ μ) : qE mX8_bringsBack GG GG [qP 178, qI x1] ρ μ Post := by
  refine qE_intro pl_X8_bringsBack (Nat.le_of_ble_eq_true rfl) (Nat.le_refl _) ?_
  refine qX_iconst dX8_bringsBack_0 (i32_of rfl) ?_
  refine qX_istore_n 2 dX8_bringsBack_1 rfl (Nat.le_of_ble_eq_true rfl) rfl ?_
  exact qX_mask [true, true, true] h
set_option maxRecDepth 20000 in
theorem w_X8_bringsBack_2 {Post : Int → Rf → Mem → Prop} {ρ : Rf} {μ : Mem} {x1 : Int} {x2 : Int}
  (h : ((5 ≤ x2 → Post 0 ρ μ) ∧ (x2 < 5 → (0 ≤ x2 ∧ x2 < 5) ∧ ((μ 191 x2 = 0 → i32 (x2 + 1) ∧ qX mX8_bringsBack GG Post GG (0, 0) 2 [some (qP 178), some (qI x1), some (qI (x2 + 1))] [] ρ μ) ∧ (μ 191 x2 ≠ 0 → (0 ≤ x2 ∧ x2 < 5) ∧ ((μ 189 x2 ≤ x1 → (0 ≤ x2 ∧ x2 < 5) ∧ (0 ≤ μ 190 x2 ∧ μ 190 x2 < 12) ∧ (0 ≤ x2 ∧ x2 < 5) ∧ i32 ((μ 193 (μ 190 x2)) + (μ 191 x2)) ∧ (0 ≤ μ 190 x2 ∧ μ 190 x2 < 12) ∧ ∀ μ1, μ1 = up2 μ 193 (μ 190 x2) ((μ 193 (μ 190 x2)) + (μ 191 x2)) → (0 ≤ x2 ∧ x2 < 5) ∧ ∀ μ2, μ2 = up2 μ1 191 x2 0 → i32 (x2 + 1) ∧ qX mX8_bringsBack GG Post GG (0, 0) 2 [some (qP 178), some (qI x1), some (qI (x2 + 1))] [] ρ μ2) ∧ (x1 < μ 189 x2 → i32 (x2 + 1) ∧ qX mX8_bringsBack GG Post GG (0, 0) 2 [some (qP 178), some (qI x1), some (qI (x2 + 1))] [] ρ μ))))))) : qX mX8_bringsBack GG Post GG (0, 0) 2 [some (qP 178), some (qI x1), some (qI x2)] [] ρ μ := by
  refine qX_iload_n 2 dX8_bringsBack_2 rfl rfl ?_
  refine qX_iconst dX8_bringsBack_3 (i32_of rfl) ?_
  refine qX_icmp_ge 62 dX8_bringsBack_4 rfl (fun hc => ?_) (fun hc => ?_)
  · replace h := h.1 hc
    exact qX_return rfl dX8_bringsBack_62 rfl ⟨Nat.le_refl _, Nat.le_refl _⟩ h
  · replace h := h.2 hc
    refine qX_aload_n 0 dX8_bringsBack_7 rfl rfl (by decide) ?_
    refine qX_getS 8 26 _ 12 dX8_bringsBack_8 fs_X8_52 rfl rfl sh178 (x := 191) rfl ?_
    refine qX_iload_n 2 dX8_bringsBack_11 rfl rfl ?_
    refine qX_iald dX8_bringsBack_12 sh191 h.1 ?_
    replace h := h.2
    refine qX_if_eq 56 dX8_bringsBack_13 rfl (fun hc => ?_) (fun hc => ?_)
    · replace h := h.1 hc
      refine qR_iinc dX8_bringsBack_56 rfl (Nat.le_of_ble_eq_true rfl) rfl h.1 ?_
      replace h := h.2
      refine qX_goto 2 dX8_bringsBack_59 rfl ?_
      exact qX_mask [true, true, true] h
    · replace h := h.2 hc
      refine qX_aload_n 0 dX8_bringsBack_16 rfl rfl (by decide) ?_
      refine qX_getS 8 24 _ 10 dX8_bringsBack_17 fs_X8_46 rfl rfl sh178 (x := 189) rfl ?_
      refine qX_iload_n 2 dX8_bringsBack_20 rfl rfl ?_
      refine qX_iald dX8_bringsBack_21 sh189 h.1 ?_
      replace h := h.2
      refine qX_iload_n 1 dX8_bringsBack_22 rfl rfl ?_
      refine qX_icmp_le 29 dX8_bringsBack_23 rfl (fun hc => ?_) (fun hc => ?_)
      · replace h := h.1 hc
        refine qX_aload_n 0 dX8_bringsBack_29 rfl rfl (by decide) ?_
        refine qX_getS 8 28 _ 14 dX8_bringsBack_30 fs_X8_58 rfl rfl sh178 (x := 193) rfl ?_
        refine qX_aload_n 0 dX8_bringsBack_33 rfl rfl (by decide) ?_
        refine qX_getS 8 25 _ 11 dX8_bringsBack_34 fs_X8_49 rfl rfl sh178 (x := 190) rfl ?_
        refine qX_iload_n 2 dX8_bringsBack_37 rfl rfl ?_
        refine qX_iald dX8_bringsBack_38 sh190 h.1 ?_
        replace h := h.2
        refine qX_dup2 dX8_bringsBack_39 rfl rfl ?_
        refine qX_iald dX8_bringsBack_40 sh193 h.1 ?_
        replace h := h.2
        refine qX_aload_n 0 dX8_bringsBack_41 rfl rfl (by decide) ?_
        refine qX_getS 8 26 _ 12 dX8_bringsBack_42 fs_X8_52 rfl rfl sh178 (x := 191) rfl ?_
        refine qX_iload_n 2 dX8_bringsBack_45 rfl rfl ?_
        refine qX_iald dX8_bringsBack_46 sh191 h.1 ?_
        replace h := h.2
        refine qR_iadd dX8_bringsBack_47 h.1 ?_
        replace h := h.2
        refine qX_iast dX8_bringsBack_48 sh193 h.1 ?_
        replace h := h.2
        replace h := h _ rfl
        refine qX_aload_n 0 dX8_bringsBack_49 rfl rfl (by decide) ?_
        refine qX_getS 8 26 _ 12 dX8_bringsBack_50 fs_X8_52 rfl rfl sh178 (x := 191) rfl ?_
        refine qX_iload_n 2 dX8_bringsBack_53 rfl rfl ?_
        refine qX_iconst dX8_bringsBack_54 (i32_of rfl) ?_
        refine qX_iast dX8_bringsBack_55 sh191 h.1 ?_
        replace h := h.2
        replace h := h _ rfl
        refine qR_iinc dX8_bringsBack_56 rfl (Nat.le_of_ble_eq_true rfl) rfl h.1 ?_
        replace h := h.2
        refine qX_goto 2 dX8_bringsBack_59 rfl ?_
        exact qX_mask [true, true, true] h
      · replace h := h.2 hc
        refine qX_goto 56 dX8_bringsBack_26 rfl ?_
        refine qR_iinc dX8_bringsBack_56 rfl (Nat.le_of_ble_eq_true rfl) rfl h.1 ?_
        replace h := h.2
        refine qX_goto 2 dX8_bringsBack_59 rfl ?_
        exact qX_mask [true, true, true] h
set_option maxRecDepth 20000 in
theorem e_X8_starts {Post : Int → Rf → Mem → Prop} {ρ : Rf} {μ : Mem} {x1 : Int} {x2 : Int}
  (h : (0 ≤ x1 ∧ x1 < 5) ∧ ∃ P : Int → Rf → Mem → Prop, qE mX8_trolley GG GG [qP 178, qI x1, qI 0] ρ μ P ∧ ∀ (z1 : Int) (ρ2 : Rf) (μ3 : Mem), P z1 ρ2 μ3 → i32 (4 * z1) ∧ ∃ P : Int → Rf → Mem → Prop, qE mX8_job GG GG [qP 178, qI (μ 187 x1), qI 3] ρ2 μ3 P ∧ ∀ (z5 : Int) (ρ6 : Rf) (μ7 : Mem), P z5 ρ6 μ7 → i32 ((4 * z1) + z5) ∧ (0 ≤ (4 * z1) + z5 ∧ (4 * z1) + z5 < 12) ∧ ∃ P : Int → Rf → Mem → Prop, qE mX8_trolley GG GG [qP 178, qI x1, qI 1] ρ6 μ7 P ∧ ∀ (z9 : Int) (ρ10 : Rf) (μ11 : Mem), P z9 ρ10 μ11 → ∃ P : Int → Rf → Mem → Prop, qE mX8_job GG GG [qP 178, qI (μ 187 x1), qI 4] ρ10 μ11 P ∧ ∀ (z13 : Int) (ρ14 : Rf) (μ15 : Mem), P z13 ρ14 μ15 → (0 ≤ x1 ∧ x1 < 5) ∧ (0 ≤ μ 187 x1 ∧ μ 187 x1 < 20) ∧ ∀ μ17, μ17 = up2 μ15 195 (μ 187 x1) (μ15 188 x1) → (0 ≤ μ 187 x1 ∧ μ 187 x1 < 20) ∧ ∀ μ18, μ18 = up2 μ17 196 (μ 187 x1) (min (μ7 193 ((4 * z1) + z5)) (min z9 z13)) → (0 ≤ μ 187 x1 ∧ μ 187 x1 < 20) ∧ ∀ μ19, μ19 = up2 μ18 199 (μ 187 x1) 0 → ((min (μ7 193 ((4 * z1) + z5)) (min z9 z13) ≠ 0 → (0 ≤ (4 * z1) + z5 ∧ (4 * z1) + z5 < 12) ∧ i32 ((μ19 193 ((4 * z1) + z5)) - (min (μ7 193 ((4 * z1) + z5)) (min z9 z13))) ∧ (0 ≤ (4 * z1) + z5 ∧ (4 * z1) + z5 < 12) ∧ ∀ μ20, μ20 = up2 μ19 193 ((4 * z1) + z5) ((μ19 193 ((4 * z1) + z5)) - (min (μ7 193 ((4 * z1) + z5)) (min z9 z13))) → (0 ≤ x1 ∧ x1 < 5) ∧ ∀ μ21, μ21 = up2 μ20 192 x1 1 → (0 ≤ x1 ∧ x1 < 5) ∧ ∃ P : Int → Rf → Mem → Prop, qE mX8_trolley GG GG [qP 178, qI x1, qI 3] ρ14 μ21 P ∧ ∀ (z22 : Int) (ρ23 : Rf) (μ24 : Mem), P z22 ρ23 μ24 → i32 ((min (μ7 193 ((4 * z1) + z5)) (min z9 z13)) * z22) ∧ ∃ P : Int → Rf → Mem → Prop, qE mX8_walkOf GG GG [qP 178, qI (μ 187 x1)] ρ23 μ24 P ∧ ∀ (z26 : Int) (ρ27 : Rf) (μ28 : Mem), P z26 ρ27 μ28 → i32 (((min (μ7 193 ((4 * z1) + z5)) (min z9 z13)) * z22) + z26) ∧ i32 ((μ21 188 x1) + (((min (μ7 193 ((4 * z1) + z5)) (min z9 z13)) * z22) + z26)) ∧ (0 ≤ x1 ∧ x1 < 5) ∧ ∀ μ30, μ30 = up2 μ28 188 x1 ((μ21 188 x1) + (((min (μ7 193 ((4 * z1) + z5)) (min z9 z13)) * z22) + z26)) → (0 ≤ x1 ∧ x1 < 5) ∧ (0 ≤ μ 187 x1 ∧ μ 187 x1 < 20) ∧ ∀ μ31, μ31 = up2 μ30 197 (μ 187 x1) (μ30 188 x1) → Post 0 ρ27 μ31) ∧ (min (μ7 193 ((4 * z1) + z5)) (min z9 z13) = 0 → (0 ≤ x1 ∧ x1 < 5) ∧ (0 ≤ μ 187 x1 ∧ μ 187 x1 < 20) ∧ ∀ μ32, μ32 = up2 μ19 200 (μ 187 x1) (μ19 188 x1) → i32 ((μ 187 x1) + 1) ∧ ∃ P : Int → Rf → Mem → Prop, qE mX8_nextJob GG GG [qP 178, qI x1, qI ((μ 187 x1) + 1), qI x2] ρ14 μ32 P ∧ ∀ (z33 : Int) (ρ34 : Rf) (μ35 : Mem), P z33 ρ34 μ35 → (0 ≤ x1 ∧ x1 < 5) ∧ ∀ μ37, μ37 = up2 μ35 187 x1 z33 → Post 0 ρ34 μ37))) : qE mX8_starts GG GG [qP 178, qI x1, qI x2] ρ μ Post := by
  refine qE_intro pl_X8_starts (Nat.le_of_ble_eq_true rfl) (Nat.le_refl _) ?_
  refine qX_aload_n 0 dX8_starts_0 rfl rfl (by decide) ?_
  refine qX_getS 8 22 _ 8 dX8_starts_1 fs_X8_40 rfl rfl sh178 (x := 187) rfl ?_
  refine qX_iload_n 1 dX8_starts_4 rfl rfl ?_
  refine qX_iald dX8_starts_5 sh187 h.1 ?_
  replace h := h.2
  refine qX_istore_n 3 dX8_starts_6 rfl (Nat.le_of_ble_eq_true rfl) rfl ?_
  refine qX_iconst dX8_starts_7 (i32_of rfl) ?_
  refine qX_aload_n 0 dX8_starts_8 rfl rfl (by decide) ?_
  refine qX_iload_n 1 dX8_starts_9 rfl rfl ?_
  refine qX_iconst dX8_starts_10 (i32_of rfl) ?_
  obtain ⟨P, hE4, h⟩ := h
  refine qN_callV mX8_trolley [_, _] _ 8 [_] dX8_starts_11 cm_X8_277 ⟨(Nat.le_of_ble_eq_true rfl), (Nat.le_of_ble_eq_true rfl)⟩ rfl rfl sh178 (Nat.le_of_ble_eq_true rfl) ⟨rfl, rfl⟩ hE4 (fun z1 ρ2 μ3 hz => ?_)
  replace h := h _ _ _ hz
  refine qR_imul dX8_starts_14 h.1 ?_
  replace h := h.2
  refine qX_aload_n 0 dX8_starts_15 rfl rfl (by decide) ?_
  refine qX_iload_n 3 dX8_starts_16 rfl rfl ?_
  refine qX_iconst dX8_starts_17 (i32_of rfl) ?_
  obtain ⟨P, hE8, h⟩ := h
  refine qN_callV mX8_job [_, _] _ 8 [_] dX8_starts_18 cm_X8_274 ⟨(Nat.le_of_ble_eq_true rfl), (Nat.le_of_ble_eq_true rfl)⟩ rfl rfl sh178 (Nat.le_of_ble_eq_true rfl) ⟨rfl, rfl⟩ hE8 (fun z5 ρ6 μ7 hz => ?_)
  replace h := h _ _ _ hz
  refine qR_iadd dX8_starts_21 h.1 ?_
  replace h := h.2
  refine qX_istore dX8_starts_22 (Nat.le_of_ble_eq_true rfl) rfl ?_
  refine qX_aload_n 0 dX8_starts_24 rfl rfl (by decide) ?_
  refine qX_getS 8 28 _ 14 dX8_starts_25 fs_X8_58 rfl rfl sh178 (x := 193) rfl ?_
  refine qX_iload dX8_starts_28 rfl ?_
  refine qX_iald dX8_starts_30 sh193 h.1 ?_
  replace h := h.2
  refine qX_aload_n 0 dX8_starts_31 rfl rfl (by decide) ?_
  refine qX_iload_n 1 dX8_starts_32 rfl rfl ?_
  refine qX_iconst dX8_starts_33 (i32_of rfl) ?_
  obtain ⟨P, hE12, h⟩ := h
  refine qN_callV mX8_trolley [_, _] _ 8 [_] dX8_starts_34 cm_X8_277 ⟨(Nat.le_of_ble_eq_true rfl), (Nat.le_of_ble_eq_true rfl)⟩ rfl rfl sh178 (Nat.le_of_ble_eq_true rfl) ⟨rfl, rfl⟩ hE12 (fun z9 ρ10 μ11 hz => ?_)
  replace h := h _ _ _ hz
  refine qX_aload_n 0 dX8_starts_37 rfl rfl (by decide) ?_
  refine qX_iload_n 3 dX8_starts_38 rfl rfl ?_
  refine qX_iconst dX8_starts_39 (i32_of rfl) ?_
  obtain ⟨P, hE16, h⟩ := h
  refine qN_callV mX8_job [_, _] _ 8 [_, _] dX8_starts_40 cm_X8_274 ⟨(Nat.le_of_ble_eq_true rfl), (Nat.le_of_ble_eq_true rfl)⟩ rfl rfl sh178 (Nat.le_of_ble_eq_true rfl) ⟨rfl, rfl⟩ hE16 (fun z13 ρ14 μ15 hz => ?_)
  replace h := h _ _ _ hz
  refine qX_min dX8_starts_43 kM_X8_288 ⟨(Nat.le_of_ble_eq_true rfl), (Nat.le_of_ble_eq_true rfl)⟩ (Nat.le_of_ble_eq_true rfl) ⟨Nat.zero_le _, Nat.zero_le _⟩ ?_
  refine qX_min dX8_starts_46 kM_X8_288 ⟨(Nat.le_of_ble_eq_true rfl), (Nat.le_of_ble_eq_true rfl)⟩ (Nat.le_of_ble_eq_true rfl) ⟨Nat.zero_le _, Nat.zero_le _⟩ ?_
  refine qX_istore dX8_starts_49 (Nat.le_of_ble_eq_true rfl) rfl ?_
  refine qX_aload_n 0 dX8_starts_51 rfl rfl (by decide) ?_
  refine qX_getS 8 30 _ 16 dX8_starts_52 fs_X8_64 rfl rfl sh178 (x := 195) rfl ?_
  refine qX_iload_n 3 dX8_starts_55 rfl rfl ?_
  refine qX_aload_n 0 dX8_starts_56 rfl rfl (by decide) ?_
  refine qX_getS 8 23 _ 9 dX8_starts_57 fs_X8_43 rfl rfl sh178 (x := 188) rfl ?_
  refine qX_iload_n 1 dX8_starts_60 rfl rfl ?_
  refine qX_iald dX8_starts_61 sh188 h.1 ?_
  replace h := h.2
  refine qX_iast dX8_starts_62 sh195 h.1 ?_
  replace h := h.2
  replace h := h _ rfl
  refine qX_aload_n 0 dX8_starts_63 rfl rfl (by decide) ?_
  refine qX_getS 8 31 _ 17 dX8_starts_64 fs_X8_67 rfl rfl sh178 (x := 196) rfl ?_
  refine qX_iload_n 3 dX8_starts_67 rfl rfl ?_
  refine qX_iload dX8_starts_68 rfl ?_
  refine qX_iast dX8_starts_70 sh196 h.1 ?_
  replace h := h.2
  replace h := h _ rfl
  refine qX_aload_n 0 dX8_starts_71 rfl rfl (by decide) ?_
  refine qX_getS 8 34 _ 20 dX8_starts_72 fs_X8_76 rfl rfl sh178 (x := 199) rfl ?_
  refine qX_iload_n 3 dX8_starts_75 rfl rfl ?_
  refine qX_iconst dX8_starts_76 (i32_of rfl) ?_
  refine qX_iast dX8_starts_77 sh199 h.1 ?_
  replace h := h.2
  replace h := h _ rfl
  refine qX_iload dX8_starts_78 rfl ?_
  refine qX_if_ne 111 dX8_starts_80 rfl (fun hc => ?_) (fun hc => ?_)
  · replace h := h.1 hc
    refine qX_aload_n 0 dX8_starts_111 rfl rfl (by decide) ?_
    refine qX_getS 8 28 _ 14 dX8_starts_112 fs_X8_58 rfl rfl sh178 (x := 193) rfl ?_
    refine qX_iload dX8_starts_115 rfl ?_
    refine qX_dup2 dX8_starts_117 rfl rfl ?_
    refine qX_iald dX8_starts_118 sh193 h.1 ?_
    replace h := h.2
    refine qX_iload dX8_starts_119 rfl ?_
    refine qR_isub dX8_starts_121 h.1 ?_
    replace h := h.2
    refine qX_iast dX8_starts_122 sh193 h.1 ?_
    replace h := h.2
    replace h := h _ rfl
    refine qX_aload_n 0 dX8_starts_123 rfl rfl (by decide) ?_
    refine qX_getS 8 27 _ 13 dX8_starts_124 fs_X8_55 rfl rfl sh178 (x := 192) rfl ?_
    refine qX_iload_n 1 dX8_starts_127 rfl rfl ?_
    refine qX_iconst dX8_starts_128 (i32_of rfl) ?_
    refine qX_zast dX8_starts_129 sh192 h.1 (by decide) ?_
    replace h := h.2
    replace h := h _ rfl
    refine qX_aload_n 0 dX8_starts_130 rfl rfl (by decide) ?_
    refine qX_getS 8 23 _ 9 dX8_starts_131 fs_X8_43 rfl rfl sh178 (x := 188) rfl ?_
    refine qX_iload_n 1 dX8_starts_134 rfl rfl ?_
    refine qX_dup2 dX8_starts_135 rfl rfl ?_
    refine qX_iald dX8_starts_136 sh188 h.1 ?_
    replace h := h.2
    refine qX_iload dX8_starts_137 rfl ?_
    refine qX_aload_n 0 dX8_starts_139 rfl rfl (by decide) ?_
    refine qX_iload_n 1 dX8_starts_140 rfl rfl ?_
    refine qX_iconst dX8_starts_141 (i32_of rfl) ?_
    obtain ⟨P, hE25, h⟩ := h
    refine qN_callV mX8_trolley [_, _] _ 8 [_, _, _, _] dX8_starts_142 cm_X8_277 ⟨(Nat.le_of_ble_eq_true rfl), (Nat.le_of_ble_eq_true rfl)⟩ rfl rfl sh178 (Nat.le_of_ble_eq_true rfl) ⟨rfl, rfl⟩ hE25 (fun z22 ρ23 μ24 hz => ?_)
    replace h := h _ _ _ hz
    refine qR_imul dX8_starts_145 h.1 ?_
    replace h := h.2
    refine qX_aload_n 0 dX8_starts_146 rfl rfl (by decide) ?_
    refine qX_iload_n 3 dX8_starts_147 rfl rfl ?_
    obtain ⟨P, hE29, h⟩ := h
    refine qN_callV mX8_walkOf [_] _ 8 [_, _, _, _] dX8_starts_148 cm_X8_294 ⟨(Nat.le_of_ble_eq_true rfl), (Nat.le_of_ble_eq_true rfl)⟩ rfl rfl sh178 (Nat.le_of_ble_eq_true rfl) ⟨rfl, rfl⟩ hE29 (fun z26 ρ27 μ28 hz => ?_)
    replace h := h _ _ _ hz
    refine qR_iadd dX8_starts_151 h.1 ?_
    replace h := h.2
    refine qR_iadd dX8_starts_152 h.1 ?_
    replace h := h.2
    refine qX_iast dX8_starts_153 sh188 h.1 ?_
    replace h := h.2
    replace h := h _ rfl
    refine qX_aload_n 0 dX8_starts_154 rfl rfl (by decide) ?_
    refine qX_getS 8 32 _ 18 dX8_starts_155 fs_X8_70 rfl rfl sh178 (x := 197) rfl ?_
    refine qX_iload_n 3 dX8_starts_158 rfl rfl ?_
    refine qX_aload_n 0 dX8_starts_159 rfl rfl (by decide) ?_
    refine qX_getS 8 23 _ 9 dX8_starts_160 fs_X8_43 rfl rfl sh178 (x := 188) rfl ?_
    refine qX_iload_n 1 dX8_starts_163 rfl rfl ?_
    refine qX_iald dX8_starts_164 sh188 h.1 ?_
    replace h := h.2
    refine qX_iast dX8_starts_165 sh197 h.1 ?_
    replace h := h.2
    replace h := h _ rfl
    exact qX_return rfl dX8_starts_166 rfl ⟨Nat.le_refl _, Nat.le_refl _⟩ h
  · replace h := h.2 hc
    refine qX_aload_n 0 dX8_starts_83 rfl rfl (by decide) ?_
    refine qX_getS 8 35 _ 21 dX8_starts_84 fs_X8_79 rfl rfl sh178 (x := 200) rfl ?_
    refine qX_iload_n 3 dX8_starts_87 rfl rfl ?_
    refine qX_aload_n 0 dX8_starts_88 rfl rfl (by decide) ?_
    refine qX_getS 8 23 _ 9 dX8_starts_89 fs_X8_43 rfl rfl sh178 (x := 188) rfl ?_
    refine qX_iload_n 1 dX8_starts_92 rfl rfl ?_
    refine qX_iald dX8_starts_93 sh188 h.1 ?_
    replace h := h.2
    refine qX_iast dX8_starts_94 sh200 h.1 ?_
    replace h := h.2
    replace h := h _ rfl
    refine qX_aload_n 0 dX8_starts_95 rfl rfl (by decide) ?_
    refine qX_getS 8 22 _ 8 dX8_starts_96 fs_X8_40 rfl rfl sh178 (x := 187) rfl ?_
    refine qX_iload_n 1 dX8_starts_99 rfl rfl ?_
    refine qX_aload_n 0 dX8_starts_100 rfl rfl (by decide) ?_
    refine qX_iload_n 1 dX8_starts_101 rfl rfl ?_
    refine qX_iload_n 3 dX8_starts_102 rfl rfl ?_
    refine qX_iconst dX8_starts_103 (i32_of rfl) ?_
    refine qR_iadd dX8_starts_104 h.1 ?_
    replace h := h.2
    refine qX_iload_n 2 dX8_starts_105 rfl rfl ?_
    obtain ⟨P, hE36, h⟩ := h
    refine qN_callV mX8_nextJob [_, _, _] _ 8 [_, _] dX8_starts_106 cm_X8_291 ⟨(Nat.le_of_ble_eq_true rfl), (Nat.le_of_ble_eq_true rfl)⟩ rfl rfl sh178 (Nat.le_of_ble_eq_true rfl) ⟨rfl, rfl⟩ hE36 (fun z33 ρ34 μ35 hz => ?_)
    replace h := h _ _ _ hz
    refine qX_iast dX8_starts_109 sh187 h.1 ?_
    replace h := h.2
    replace h := h _ rfl
    exact qX_return rfl dX8_starts_110 rfl ⟨Nat.le_refl _, Nat.le_refl _⟩ h
