/-! ===== conditions of the methods, from cut to cut (generated, part 3) ===== -/
set_option maxRecDepth 20000 in
theorem e_X7_setDeparture {Post : Int → Rf → Mem → Prop} {ρ : Rf} {μ : Mem} {x1 : Int} {x2 : Int}
  (h : ∃ P : Int → Rf → Mem → Prop, qE mX7_isTrain GG GG [qP 0, qI x1] ρ μ P ∧ ∀ (z1 : Int) (ρ2 : Rf) (μ3 : Mem), P z1 ρ2 μ3 → ((z1 ≠ 0 → isO 0 (ρ2 0 8) ∧ (0 ≤ x1 ∧ x1 < 2) ∧ ((x2 < μ3 (ρ2 0 8 + 2) x1 → ∃ P : Int → Rf → Mem → Prop, qE mX7_fail GG GG [qP 0, qI 2] ρ2 μ3 P ∧ ∀ (z6 : Int) (ρ7 : Rf) (μ8 : Mem), P z6 ρ7 μ8 → Post z6 ρ7 μ8) ∧ (μ3 (ρ2 0 8 + 2) x1 ≤ x2 → ((x2 ≤ 999 → isO 6 (ρ2 0 9) ∧ ∃ P : Int → Rf → Mem → Prop, qE mX1_push GG GG [qP 69, qP (ρ2 0 9)] ρ2 μ3 P ∧ ∀ (z11 : Int) (ρ12 : Rf) (μ13 : Mem), P z11 ρ12 μ13 → isO 6 (ρ12 0 9) ∧ (0 ≤ x1 ∧ x1 < 2) ∧ (0 ≤ x1 ∧ x1 < 2) ∧ ∀ μ16, μ16 = up2 μ13 (ρ12 0 9 + 5) x1 x2 → ∃ P : Int → Rf → Mem → Prop, qE mX7_changed GG GG [qP 0, qI (μ13 (ρ12 0 9 + 5) x1)] ρ12 μ16 P ∧ ∀ (z17 : Int) (ρ18 : Rf) (μ19 : Mem), P z17 ρ18 μ19 → Post z17 ρ18 μ19) ∧ (999 < x2 → ∃ P : Int → Rf → Mem → Prop, qE mX7_fail GG GG [qP 0, qI 2] ρ2 μ3 P ∧ ∀ (z21 : Int) (ρ22 : Rf) (μ23 : Mem), P z21 ρ22 μ23 → Post z21 ρ22 μ23))))) ∧ (z1 = 0 → ∃ P : Int → Rf → Mem → Prop, qE mX7_fail GG GG [qP 0, qI 1] ρ2 μ3 P ∧ ∀ (z25 : Int) (ρ26 : Rf) (μ27 : Mem), P z25 ρ26 μ27 → Post z25 ρ26 μ27))) : qE mX7_setDeparture GG GG [qP 0, qI x1, qI x2] ρ μ Post := by
  refine qE_intro pl_X7_setDeparture (Nat.le_of_ble_eq_true rfl) (Nat.le_refl _) ?_
  refine qX_aload_n 0 dX7_setDeparture_0 rfl rfl (by decide) ?_
  refine qX_iload_n 1 dX7_setDeparture_1 rfl rfl ?_
  obtain ⟨P, hE4, h⟩ := h
  refine qN_callV mX7_isTrain [_] _ 7 [] dX7_setDeparture_2 cm_X7_98 ⟨(Nat.le_of_ble_eq_true rfl), (Nat.le_of_ble_eq_true rfl)⟩ rfl rfl sh0 (Nat.le_of_ble_eq_true rfl) ⟨rfl, rfl⟩ hE4 (fun z1 ρ2 μ3 hz => ?_)
  replace h := h _ _ _ hz
  refine qX_if_ne 14 dX7_setDeparture_5 rfl (fun hc => ?_) (fun hc => ?_)
  · replace h := h.1 hc
    refine qX_iload_n 2 dX7_setDeparture_14 rfl rfl ?_
    refine qX_aload_n 0 dX7_setDeparture_15 rfl rfl (by decide) ?_
    refine qX_getR 7 8 _ dX7_setDeparture_16 fs_X7_60 sh0 ?_
    have hO5 := h.1
    replace h := h.2
    refine qX_getS 0 1 _ 1 dX7_setDeparture_19 fs_X7_304 rfl rfl hO5 rfl ?_
    refine qX_iload_n 1 dX7_setDeparture_22 rfl rfl ?_
    refine qX_iald dX7_setDeparture_23 (ar0_1 hO5) h.1 ?_
    replace h := h.2
    refine qX_icmp_lt 34 dX7_setDeparture_24 rfl (fun hc => ?_) (fun hc => ?_)
    · replace h := h.1 hc
      refine qX_aload_n 0 dX7_setDeparture_34 rfl rfl (by decide) ?_
      refine qX_iconst dX7_setDeparture_35 (i32_of rfl) ?_
      obtain ⟨P, hE9, h⟩ := h
      refine qN_callV mX7_fail [_] _ 7 [] dX7_setDeparture_36 cm_X7_76 ⟨(Nat.le_of_ble_eq_true rfl), (Nat.le_of_ble_eq_true rfl)⟩ rfl rfl sh0 (Nat.le_of_ble_eq_true rfl) ⟨rfl, rfl⟩ hE9 (fun z6 ρ7 μ8 hz => ?_)
      replace h := h _ _ _ hz
      exact qX_ireturn rfl dX7_setDeparture_39 rfl ⟨Nat.le_refl _, Nat.le_refl _⟩ h
    · replace h := h.2 hc
      refine qX_iload_n 2 dX7_setDeparture_27 rfl rfl ?_
      refine qX_sip dX7_setDeparture_28 rfl ?_
      refine qX_icmp_le 40 dX7_setDeparture_31 rfl (fun hc => ?_) (fun hc => ?_)
      · replace h := h.1 hc
        refine qX_aload_n 0 dX7_setDeparture_40 rfl rfl (by decide) ?_
        refine qX_getS 7 5 _ 68 dX7_setDeparture_41 fs_X7_39 rfl rfl sh0 (x := 69) rfl ?_
        refine qX_aload_n 0 dX7_setDeparture_44 rfl rfl (by decide) ?_
        refine qX_getR 7 9 _ dX7_setDeparture_45 fs_X7_64 sh0 ?_
        have hO10 := h.1
        replace h := h.2
        obtain ⟨P, hE14, h⟩ := h
        refine qN_callV mX1_push [_] _ 1 [] dX7_setDeparture_48 cm_X7_294 ⟨(Nat.le_of_ble_eq_true rfl), (Nat.le_of_ble_eq_true rfl)⟩ rfl rfl sh69 (Nat.le_of_ble_eq_true rfl) ⟨rfl, rfl⟩ hE14 (fun z11 ρ12 μ13 hz => ?_)
        replace h := h _ _ _ hz
        refine qX_aload_n 0 dX7_setDeparture_51 rfl rfl (by decide) ?_
        refine qX_getR 7 9 _ dX7_setDeparture_52 fs_X7_64 sh0 ?_
        have hO15 := h.1
        replace h := h.2
        refine qX_getS 6 4 _ 4 dX7_setDeparture_55 fs_X7_116 rfl rfl hO15 rfl ?_
        refine qX_iload_n 1 dX7_setDeparture_58 rfl rfl ?_
        refine qX_iald dX7_setDeparture_59 (ar6_4 hO15) h.1 ?_
        replace h := h.2
        refine qX_istore_n 3 dX7_setDeparture_60 rfl (Nat.le_of_ble_eq_true rfl) rfl ?_
        refine qX_aload_n 0 dX7_setDeparture_61 rfl rfl (by decide) ?_
        refine qX_getR 7 9 _ dX7_setDeparture_62 fs_X7_64 sh0 ?_
        refine qX_getS 6 4 _ 4 dX7_setDeparture_65 fs_X7_116 rfl rfl hO15 rfl ?_
        refine qX_iload_n 1 dX7_setDeparture_68 rfl rfl ?_
        refine qX_iload_n 2 dX7_setDeparture_69 rfl rfl ?_
        refine qX_iast dX7_setDeparture_70 (ar6_4 hO15) h.1 ?_
        replace h := h.2
        replace h := h _ rfl
        refine qX_aload_n 0 dX7_setDeparture_71 rfl rfl (by decide) ?_
        refine qX_iload_n 3 dX7_setDeparture_72 rfl rfl ?_
        obtain ⟨P, hE20, h⟩ := h
        refine qN_callV mX7_changed [_] _ 7 [] dX7_setDeparture_73 cm_X7_301 ⟨(Nat.le_of_ble_eq_true rfl), (Nat.le_of_ble_eq_true rfl)⟩ rfl rfl sh0 (Nat.le_of_ble_eq_true rfl) ⟨rfl, rfl⟩ hE20 (fun z17 ρ18 μ19 hz => ?_)
        replace h := h _ _ _ hz
        exact qX_ireturn rfl dX7_setDeparture_76 rfl ⟨Nat.le_refl _, Nat.le_refl _⟩ h
      · replace h := h.2 hc
        refine qX_aload_n 0 dX7_setDeparture_34 rfl rfl (by decide) ?_
        refine qX_iconst dX7_setDeparture_35 (i32_of rfl) ?_
        obtain ⟨P, hE24, h⟩ := h
        refine qN_callV mX7_fail [_] _ 7 [] dX7_setDeparture_36 cm_X7_76 ⟨(Nat.le_of_ble_eq_true rfl), (Nat.le_of_ble_eq_true rfl)⟩ rfl rfl sh0 (Nat.le_of_ble_eq_true rfl) ⟨rfl, rfl⟩ hE24 (fun z21 ρ22 μ23 hz => ?_)
        replace h := h _ _ _ hz
        exact qX_ireturn rfl dX7_setDeparture_39 rfl ⟨Nat.le_refl _, Nat.le_refl _⟩ h
  · replace h := h.2 hc
    refine qX_aload_n 0 dX7_setDeparture_8 rfl rfl (by decide) ?_
    refine qX_iconst dX7_setDeparture_9 (i32_of rfl) ?_
    obtain ⟨P, hE28, h⟩ := h
    refine qN_callV mX7_fail [_] _ 7 [] dX7_setDeparture_10 cm_X7_76 ⟨(Nat.le_of_ble_eq_true rfl), (Nat.le_of_ble_eq_true rfl)⟩ rfl rfl sh0 (Nat.le_of_ble_eq_true rfl) ⟨rfl, rfl⟩ hE28 (fun z25 ρ26 μ27 hz => ?_)
    replace h := h _ _ _ hz
    exact qX_ireturn rfl dX7_setDeparture_13 rfl ⟨Nat.le_refl _, Nat.le_refl _⟩ h
set_option maxRecDepth 20000 in
theorem e_X7_setStock {Post : Int → Rf → Mem → Prop} {ρ : Rf} {μ : Mem} {x1 : Int} {x2 : Int} {x3 : Int}
  (h : ∃ P : Int → Rf → Mem → Prop, qE mX7_isStock GG GG [qP 0, qI x1, qI x2] ρ μ P ∧ ∀ (z1 : Int) (ρ2 : Rf) (μ3 : Mem), P z1 ρ2 μ3 → ((z1 ≠ 0 → ((x3 < 0 → ∃ P : Int → Rf → Mem → Prop, qE mX7_fail GG GG [qP 0, qI 2] ρ2 μ3 P ∧ ∀ (z5 : Int) (ρ6 : Rf) (μ7 : Mem), P z5 ρ6 μ7 → Post z5 ρ6 μ7) ∧ (0 ≤ x3 → ((x3 ≤ 999 → isO 6 (ρ2 0 9) ∧ ∃ P : Int → Rf → Mem → Prop, qE mX1_push GG GG [qP 69, qP (ρ2 0 9)] ρ2 μ3 P ∧ ∀ (z10 : Int) (ρ11 : Rf) (μ12 : Mem), P z10 ρ11 μ12 → ∃ P : Int → Rf → Mem → Prop, qE mX7_stockIndex GG GG [qI x1, qI x2] ρ11 μ12 P ∧ ∀ (z14 : Int) (ρ15 : Rf) (μ16 : Mem), P z14 ρ15 μ16 → isO 6 (ρ15 0 9) ∧ (0 ≤ z14 ∧ z14 < 12) ∧ (0 ≤ z14 ∧ z14 < 12) ∧ ∀ μ19, μ19 = up2 μ16 (ρ15 0 9 + 6) z14 x3 → ∃ P : Int → Rf → Mem → Prop, qE mX7_changed GG GG [qP 0, qI (μ16 (ρ15 0 9 + 6) z14)] ρ15 μ19 P ∧ ∀ (z20 : Int) (ρ21 : Rf) (μ22 : Mem), P z20 ρ21 μ22 → Post z20 ρ21 μ22) ∧ (999 < x3 → ∃ P : Int → Rf → Mem → Prop, qE mX7_fail GG GG [qP 0, qI 2] ρ2 μ3 P ∧ ∀ (z24 : Int) (ρ25 : Rf) (μ26 : Mem), P z24 ρ25 μ26 → Post z24 ρ25 μ26))))) ∧ (z1 = 0 → ∃ P : Int → Rf → Mem → Prop, qE mX7_fail GG GG [qP 0, qI 1] ρ2 μ3 P ∧ ∀ (z28 : Int) (ρ29 : Rf) (μ30 : Mem), P z28 ρ29 μ30 → Post z28 ρ29 μ30))) : qE mX7_setStock GG GG [qP 0, qI x1, qI x2, qI x3] ρ μ Post := by
  refine qE_intro pl_X7_setStock (Nat.le_of_ble_eq_true rfl) (Nat.le_refl _) ?_
  refine qX_aload_n 0 dX7_setStock_0 rfl rfl (by decide) ?_
  refine qX_iload_n 1 dX7_setStock_1 rfl rfl ?_
  refine qX_iload_n 2 dX7_setStock_2 rfl rfl ?_
  obtain ⟨P, hE4, h⟩ := h
  refine qN_callV mX7_isStock [_, _] _ 7 [] dX7_setStock_3 cm_X7_119 ⟨(Nat.le_of_ble_eq_true rfl), (Nat.le_of_ble_eq_true rfl)⟩ rfl rfl sh0 (Nat.le_of_ble_eq_true rfl) ⟨rfl, rfl⟩ hE4 (fun z1 ρ2 μ3 hz => ?_)
  replace h := h _ _ _ hz
  refine qX_if_ne 15 dX7_setStock_6 rfl (fun hc => ?_) (fun hc => ?_)
  · replace h := h.1 hc
    refine qX_iload_n 3 dX7_setStock_15 rfl rfl ?_
    refine qX_if_lt 26 dX7_setStock_16 rfl (fun hc => ?_) (fun hc => ?_)
    · replace h := h.1 hc
      refine qX_aload_n 0 dX7_setStock_26 rfl rfl (by decide) ?_
      refine qX_iconst dX7_setStock_27 (i32_of rfl) ?_
      obtain ⟨P, hE8, h⟩ := h
      refine qN_callV mX7_fail [_] _ 7 [] dX7_setStock_28 cm_X7_76 ⟨(Nat.le_of_ble_eq_true rfl), (Nat.le_of_ble_eq_true rfl)⟩ rfl rfl sh0 (Nat.le_of_ble_eq_true rfl) ⟨rfl, rfl⟩ hE8 (fun z5 ρ6 μ7 hz => ?_)
      replace h := h _ _ _ hz
      exact qX_ireturn rfl dX7_setStock_31 rfl ⟨Nat.le_refl _, Nat.le_refl _⟩ h
    · replace h := h.2 hc
      refine qX_iload_n 3 dX7_setStock_19 rfl rfl ?_
      refine qX_sip dX7_setStock_20 rfl ?_
      refine qX_icmp_le 32 dX7_setStock_23 rfl (fun hc => ?_) (fun hc => ?_)
      · replace h := h.1 hc
        refine qX_aload_n 0 dX7_setStock_32 rfl rfl (by decide) ?_
        refine qX_getS 7 5 _ 68 dX7_setStock_33 fs_X7_39 rfl rfl sh0 (x := 69) rfl ?_
        refine qX_aload_n 0 dX7_setStock_36 rfl rfl (by decide) ?_
        refine qX_getR 7 9 _ dX7_setStock_37 fs_X7_64 sh0 ?_
        have hO9 := h.1
        replace h := h.2
        obtain ⟨P, hE13, h⟩ := h
        refine qN_callV mX1_push [_] _ 1 [] dX7_setStock_40 cm_X7_294 ⟨(Nat.le_of_ble_eq_true rfl), (Nat.le_of_ble_eq_true rfl)⟩ rfl rfl sh69 (Nat.le_of_ble_eq_true rfl) ⟨rfl, rfl⟩ hE13 (fun z10 ρ11 μ12 hz => ?_)
        replace h := h _ _ _ hz
        refine qX_iload_n 1 dX7_setStock_43 rfl rfl ?_
        refine qX_iload_n 2 dX7_setStock_44 rfl rfl ?_
        obtain ⟨P, hE17, h⟩ := h
        refine qN_callS mX7_stockIndex [_, _] [] dX7_setStock_45 cm_X7_126 ⟨(Nat.le_of_ble_eq_true rfl), (Nat.le_of_ble_eq_true rfl)⟩ rfl rfl (Nat.le_of_ble_eq_true rfl) ⟨rfl, rfl⟩ hE17 (fun z14 ρ15 μ16 hz => ?_)
        replace h := h _ _ _ hz
        refine qX_istore dX7_setStock_48 (Nat.le_of_ble_eq_true rfl) rfl ?_
        refine qX_aload_n 0 dX7_setStock_50 rfl rfl (by decide) ?_
        refine qX_getR 7 9 _ dX7_setStock_51 fs_X7_64 sh0 ?_
        have hO18 := h.1
        replace h := h.2
        refine qX_getS 6 5 _ 5 dX7_setStock_54 fs_X7_123 rfl rfl hO18 rfl ?_
        refine qX_iload dX7_setStock_57 rfl ?_
        refine qX_iald dX7_setStock_59 (ar6_5 hO18) h.1 ?_
        replace h := h.2
        refine qX_istore dX7_setStock_60 (Nat.le_of_ble_eq_true rfl) rfl ?_
        refine qX_aload_n 0 dX7_setStock_62 rfl rfl (by decide) ?_
        refine qX_getR 7 9 _ dX7_setStock_63 fs_X7_64 sh0 ?_
        refine qX_getS 6 5 _ 5 dX7_setStock_66 fs_X7_123 rfl rfl hO18 rfl ?_
        refine qX_iload dX7_setStock_69 rfl ?_
        refine qX_iload_n 3 dX7_setStock_71 rfl rfl ?_
        refine qX_iast dX7_setStock_72 (ar6_5 hO18) h.1 ?_
        replace h := h.2
        replace h := h _ rfl
        refine qX_aload_n 0 dX7_setStock_73 rfl rfl (by decide) ?_
        refine qX_iload dX7_setStock_74 rfl ?_
        obtain ⟨P, hE23, h⟩ := h
        refine qN_callV mX7_changed [_] _ 7 [] dX7_setStock_76 cm_X7_301 ⟨(Nat.le_of_ble_eq_true rfl), (Nat.le_of_ble_eq_true rfl)⟩ rfl rfl sh0 (Nat.le_of_ble_eq_true rfl) ⟨rfl, rfl⟩ hE23 (fun z20 ρ21 μ22 hz => ?_)
        replace h := h _ _ _ hz
        exact qX_ireturn rfl dX7_setStock_79 rfl ⟨Nat.le_refl _, Nat.le_refl _⟩ h
      · replace h := h.2 hc
        refine qX_aload_n 0 dX7_setStock_26 rfl rfl (by decide) ?_
        refine qX_iconst dX7_setStock_27 (i32_of rfl) ?_
        obtain ⟨P, hE27, h⟩ := h
        refine qN_callV mX7_fail [_] _ 7 [] dX7_setStock_28 cm_X7_76 ⟨(Nat.le_of_ble_eq_true rfl), (Nat.le_of_ble_eq_true rfl)⟩ rfl rfl sh0 (Nat.le_of_ble_eq_true rfl) ⟨rfl, rfl⟩ hE27 (fun z24 ρ25 μ26 hz => ?_)
        replace h := h _ _ _ hz
        exact qX_ireturn rfl dX7_setStock_31 rfl ⟨Nat.le_refl _, Nat.le_refl _⟩ h
  · replace h := h.2 hc
    refine qX_aload_n 0 dX7_setStock_9 rfl rfl (by decide) ?_
    refine qX_iconst dX7_setStock_10 (i32_of rfl) ?_
    obtain ⟨P, hE31, h⟩ := h
    refine qN_callV mX7_fail [_] _ 7 [] dX7_setStock_11 cm_X7_76 ⟨(Nat.le_of_ble_eq_true rfl), (Nat.le_of_ble_eq_true rfl)⟩ rfl rfl sh0 (Nat.le_of_ble_eq_true rfl) ⟨rfl, rfl⟩ hE31 (fun z28 ρ29 μ30 hz => ?_)
    replace h := h _ _ _ hz
    exact qX_ireturn rfl dX7_setStock_14 rfl ⟨Nat.le_refl _, Nat.le_refl _⟩ h
set_option maxRecDepth 20000 in
theorem e_X7_setQuantity {Post : Int → Rf → Mem → Prop} {ρ : Rf} {μ : Mem} {x1 : Int} {x2 : Int}
  (h : ∃ P : Int → Rf → Mem → Prop, qE mX7_isJob GG GG [qP 0, qI x1] ρ μ P ∧ ∀ (z1 : Int) (ρ2 : Rf) (μ3 : Mem), P z1 ρ2 μ3 → ((z1 ≠ 0 → ∃ P : Int → Rf → Mem → Prop, qE mX7_isJobQuantity GG GG [qI x2] ρ2 μ3 P ∧ ∀ (z5 : Int) (ρ6 : Rf) (μ7 : Mem), P z5 ρ6 μ7 → ((z5 ≠ 0 → isO 6 (ρ6 0 9) ∧ ∃ P : Int → Rf → Mem → Prop, qE mX1_push GG GG [qP 69, qP (ρ6 0 9)] ρ6 μ7 P ∧ ∀ (z10 : Int) (ρ11 : Rf) (μ12 : Mem), P z10 ρ11 μ12 → isO 6 (ρ11 0 9) ∧ (0 ≤ x1 ∧ x1 < 20) ∧ (0 ≤ x1 ∧ x1 < 20) ∧ ∀ μ15, μ15 = up2 μ12 (ρ11 0 9 + 4) x1 x2 → ∃ P : Int → Rf → Mem → Prop, qE mX7_changed GG GG [qP 0, qI (μ12 (ρ11 0 9 + 4) x1)] ρ11 μ15 P ∧ ∀ (z16 : Int) (ρ17 : Rf) (μ18 : Mem), P z16 ρ17 μ18 → Post z16 ρ17 μ18) ∧ (z5 = 0 → ∃ P : Int → Rf → Mem → Prop, qE mX7_fail GG GG [qP 0, qI 2] ρ6 μ7 P ∧ ∀ (z20 : Int) (ρ21 : Rf) (μ22 : Mem), P z20 ρ21 μ22 → Post z20 ρ21 μ22))) ∧ (z1 = 0 → ∃ P : Int → Rf → Mem → Prop, qE mX7_fail GG GG [qP 0, qI 1] ρ2 μ3 P ∧ ∀ (z24 : Int) (ρ25 : Rf) (μ26 : Mem), P z24 ρ25 μ26 → Post z24 ρ25 μ26))) : qE mX7_setQuantity GG GG [qP 0, qI x1, qI x2] ρ μ Post := by
  refine qE_intro pl_X7_setQuantity (Nat.le_of_ble_eq_true rfl) (Nat.le_refl _) ?_
  refine qX_aload_n 0 dX7_setQuantity_0 rfl rfl (by decide) ?_
  refine qX_iload_n 1 dX7_setQuantity_1 rfl rfl ?_
  obtain ⟨P, hE4, h⟩ := h
  refine qN_callV mX7_isJob [_] _ 7 [] dX7_setQuantity_2 cm_X7_140 ⟨(Nat.le_of_ble_eq_true rfl), (Nat.le_of_ble_eq_true rfl)⟩ rfl rfl sh0 (Nat.le_of_ble_eq_true rfl) ⟨rfl, rfl⟩ hE4 (fun z1 ρ2 μ3 hz => ?_)
  replace h := h _ _ _ hz
  refine qX_if_ne 14 dX7_setQuantity_5 rfl (fun hc => ?_) (fun hc => ?_)
  · replace h := h.1 hc
    refine qX_iload_n 2 dX7_setQuantity_14 rfl rfl ?_
    obtain ⟨P, hE8, h⟩ := h
    refine qN_callS mX7_isJobQuantity [_] [] dX7_setQuantity_15 cm_X7_291 ⟨(Nat.le_of_ble_eq_true rfl), (Nat.le_of_ble_eq_true rfl)⟩ rfl rfl (Nat.le_of_ble_eq_true rfl) ⟨rfl, rfl⟩ hE8 (fun z5 ρ6 μ7 hz => ?_)
    replace h := h _ _ _ hz
    refine qX_if_ne 27 dX7_setQuantity_18 rfl (fun hc => ?_) (fun hc => ?_)
    · replace h := h.1 hc
      refine qX_aload_n 0 dX7_setQuantity_27 rfl rfl (by decide) ?_
      refine qX_getS 7 5 _ 68 dX7_setQuantity_28 fs_X7_39 rfl rfl sh0 (x := 69) rfl ?_
      refine qX_aload_n 0 dX7_setQuantity_31 rfl rfl (by decide) ?_
      refine qX_getR 7 9 _ dX7_setQuantity_32 fs_X7_64 sh0 ?_
      have hO9 := h.1
      replace h := h.2
      obtain ⟨P, hE13, h⟩ := h
      refine qN_callV mX1_push [_] _ 1 [] dX7_setQuantity_35 cm_X7_294 ⟨(Nat.le_of_ble_eq_true rfl), (Nat.le_of_ble_eq_true rfl)⟩ rfl rfl sh69 (Nat.le_of_ble_eq_true rfl) ⟨rfl, rfl⟩ hE13 (fun z10 ρ11 μ12 hz => ?_)
      replace h := h _ _ _ hz
      refine qX_aload_n 0 dX7_setQuantity_38 rfl rfl (by decide) ?_
      refine qX_getR 7 9 _ dX7_setQuantity_39 fs_X7_64 sh0 ?_
      have hO14 := h.1
      replace h := h.2
      refine qX_getS 6 3 _ 3 dX7_setQuantity_42 fs_X7_146 rfl rfl hO14 rfl ?_
      refine qX_iload_n 1 dX7_setQuantity_45 rfl rfl ?_
      refine qX_iald dX7_setQuantity_46 (ar6_3 hO14) h.1 ?_
      replace h := h.2
      refine qX_istore_n 3 dX7_setQuantity_47 rfl (Nat.le_of_ble_eq_true rfl) rfl ?_
      refine qX_aload_n 0 dX7_setQuantity_48 rfl rfl (by decide) ?_
      refine qX_getR 7 9 _ dX7_setQuantity_49 fs_X7_64 sh0 ?_
      refine qX_getS 6 3 _ 3 dX7_setQuantity_52 fs_X7_146 rfl rfl hO14 rfl ?_
      refine qX_iload_n 1 dX7_setQuantity_55 rfl rfl ?_
      refine qX_iload_n 2 dX7_setQuantity_56 rfl rfl ?_
      refine qX_iast dX7_setQuantity_57 (ar6_3 hO14) h.1 ?_
      replace h := h.2
      replace h := h _ rfl
      refine qX_aload_n 0 dX7_setQuantity_58 rfl rfl (by decide) ?_
      refine qX_iload_n 3 dX7_setQuantity_59 rfl rfl ?_
      obtain ⟨P, hE19, h⟩ := h
      refine qN_callV mX7_changed [_] _ 7 [] dX7_setQuantity_60 cm_X7_301 ⟨(Nat.le_of_ble_eq_true rfl), (Nat.le_of_ble_eq_true rfl)⟩ rfl rfl sh0 (Nat.le_of_ble_eq_true rfl) ⟨rfl, rfl⟩ hE19 (fun z16 ρ17 μ18 hz => ?_)
      replace h := h _ _ _ hz
      exact qX_ireturn rfl dX7_setQuantity_63 rfl ⟨Nat.le_refl _, Nat.le_refl _⟩ h
    · replace h := h.2 hc
      refine qX_aload_n 0 dX7_setQuantity_21 rfl rfl (by decide) ?_
      refine qX_iconst dX7_setQuantity_22 (i32_of rfl) ?_
      obtain ⟨P, hE23, h⟩ := h
      refine qN_callV mX7_fail [_] _ 7 [] dX7_setQuantity_23 cm_X7_76 ⟨(Nat.le_of_ble_eq_true rfl), (Nat.le_of_ble_eq_true rfl)⟩ rfl rfl sh0 (Nat.le_of_ble_eq_true rfl) ⟨rfl, rfl⟩ hE23 (fun z20 ρ21 μ22 hz => ?_)
      replace h := h _ _ _ hz
      exact qX_ireturn rfl dX7_setQuantity_26 rfl ⟨Nat.le_refl _, Nat.le_refl _⟩ h
  · replace h := h.2 hc
    refine qX_aload_n 0 dX7_setQuantity_8 rfl rfl (by decide) ?_
    refine qX_iconst dX7_setQuantity_9 (i32_of rfl) ?_
    obtain ⟨P, hE27, h⟩ := h
    refine qN_callV mX7_fail [_] _ 7 [] dX7_setQuantity_10 cm_X7_76 ⟨(Nat.le_of_ble_eq_true rfl), (Nat.le_of_ble_eq_true rfl)⟩ rfl rfl sh0 (Nat.le_of_ble_eq_true rfl) ⟨rfl, rfl⟩ hE27 (fun z24 ρ25 μ26 hz => ?_)
    replace h := h _ _ _ hz
    exact qX_ireturn rfl dX7_setQuantity_13 rfl ⟨Nat.le_refl _, Nat.le_refl _⟩ h
set_option maxRecDepth 20000 in
theorem e_X7_applyBest {Post : Int → Rf → Mem → Prop} {ρ : Rf} {μ : Mem} {x1 : Int}
  (h : ∃ P : Int → Rf → Mem → Prop, qE mX7_isTrolley GG GG [qP 0, qI x1] ρ μ P ∧ ∀ (z1 : Int) (ρ2 : Rf) (μ3 : Mem), P z1 ρ2 μ3 → ((z1 ≠ 0 → isO 0 (ρ2 0 8) ∧ isO 6 (ρ2 0 9) ∧ ∃ P : Int → Rf → Mem → Prop, qE mX5_chooseBest GG GG [qP 141, qP (ρ2 0 8), qP (ρ2 0 9), qI x1] ρ2 μ3 P ∧ ∀ (z7 : Int) (ρ8 : Rf) (μ9 : Mem), P z7 ρ8 μ9 → isO 6 (ρ8 0 9) ∧ ∃ P : Int → Rf → Mem → Prop, qE mX1_push GG GG [qP 69, qP (ρ8 0 9)] ρ8 μ9 P ∧ ∀ (z12 : Int) (ρ13 : Rf) (μ14 : Mem), P z12 ρ13 μ14 → isO 6 (ρ13 0 9) ∧ ∃ P : Int → Rf → Mem → Prop, qE mX6_copyFrom GG GG [qP 55, qP (ρ13 0 9)] ρ13 μ14 P ∧ ∀ (z17 : Int) (ρ18 : Rf) (μ19 : Mem), P z17 ρ18 μ19 → qX mX7_applyBest GG Post GG (0, 0) 54 [some (qP 0), none, some (qI 0)] [] ρ18 μ19) ∧ (z1 = 0 → ∃ P : Int → Rf → Mem → Prop, qE mX7_fail GG GG [qP 0, qI 1] ρ2 μ3 P ∧ ∀ (z21 : Int) (ρ22 : Rf) (μ23 : Mem), P z21 ρ22 μ23 → Post z21 ρ22 μ23))) : qE mX7_applyBest GG GG [qP 0, qI x1] ρ μ Post := by
  refine qE_intro pl_X7_applyBest (Nat.le_of_ble_eq_true rfl) (Nat.le_refl _) ?_
  refine qX_aload_n 0 dX7_applyBest_0 rfl rfl (by decide) ?_
  refine qX_iload_n 1 dX7_applyBest_1 rfl rfl ?_
  obtain ⟨P, hE4, h⟩ := h
  refine qN_callV mX7_isTrolley [_] _ 7 [] dX7_applyBest_2 cm_X7_170 ⟨(Nat.le_of_ble_eq_true rfl), (Nat.le_of_ble_eq_true rfl)⟩ rfl rfl sh0 (Nat.le_of_ble_eq_true rfl) ⟨rfl, rfl⟩ hE4 (fun z1 ρ2 μ3 hz => ?_)
  replace h := h _ _ _ hz
  refine qX_if_ne 14 dX7_applyBest_5 rfl (fun hc => ?_) (fun hc => ?_)
  · replace h := h.1 hc
    refine qX_aload_n 0 dX7_applyBest_14 rfl rfl (by decide) ?_
    refine qX_getS 7 6 _ 140 dX7_applyBest_15 fs_X7_46 rfl rfl sh0 (x := 141) rfl ?_
    refine qX_aload_n 0 dX7_applyBest_18 rfl rfl (by decide) ?_
    refine qX_getR 7 8 _ dX7_applyBest_19 fs_X7_60 sh0 ?_
    refine qX_aload_n 0 dX7_applyBest_22 rfl rfl (by decide) ?_
    refine qX_getR 7 9 _ dX7_applyBest_23 fs_X7_64 sh0 ?_
    refine qX_iload_n 1 dX7_applyBest_26 rfl rfl ?_
    have hO5 := h.1
    replace h := h.2
    have hO6 := h.1
    replace h := h.2
    obtain ⟨P, hE10, h⟩ := h
    refine qN_callV mX5_chooseBest [_, _, _] _ 5 [] dX7_applyBest_27 cm_X7_240 ⟨(Nat.le_of_ble_eq_true rfl), (Nat.le_of_ble_eq_true rfl)⟩ rfl rfl sh141 (Nat.le_of_ble_eq_true rfl) ⟨rfl, rfl⟩ hE10 (fun z7 ρ8 μ9 hz => ?_)
    replace h := h _ _ _ hz
    refine qX_aload_n 0 dX7_applyBest_30 rfl rfl (by decide) ?_
    refine qX_getS 7 5 _ 68 dX7_applyBest_31 fs_X7_39 rfl rfl sh0 (x := 69) rfl ?_
    refine qX_aload_n 0 dX7_applyBest_34 rfl rfl (by decide) ?_
    refine qX_getR 7 9 _ dX7_applyBest_35 fs_X7_64 sh0 ?_
    have hO11 := h.1
    replace h := h.2
    obtain ⟨P, hE15, h⟩ := h
    refine qN_callV mX1_push [_] _ 1 [] dX7_applyBest_38 cm_X7_294 ⟨(Nat.le_of_ble_eq_true rfl), (Nat.le_of_ble_eq_true rfl)⟩ rfl rfl sh69 (Nat.le_of_ble_eq_true rfl) ⟨rfl, rfl⟩ hE15 (fun z12 ρ13 μ14 hz => ?_)
    replace h := h _ _ _ hz
    refine qX_aload_n 0 dX7_applyBest_41 rfl rfl (by decide) ?_
    refine qX_getS 7 3 _ 54 dX7_applyBest_42 fs_X7_29 rfl rfl sh0 (x := 55) rfl ?_
    refine qX_aload_n 0 dX7_applyBest_45 rfl rfl (by decide) ?_
    refine qX_getR 7 9 _ dX7_applyBest_46 fs_X7_64 sh0 ?_
    have hO16 := h.1
    replace h := h.2
    obtain ⟨P, hE20, h⟩ := h
    refine qN_callV mX6_copyFrom [_] _ 6 [] dX7_applyBest_49 cm_X7_267 ⟨(Nat.le_of_ble_eq_true rfl), (Nat.le_of_ble_eq_true rfl)⟩ rfl rfl sh55 (Nat.le_of_ble_eq_true rfl) ⟨rfl, rfl⟩ hE20 (fun z17 ρ18 μ19 hz => ?_)
    replace h := h _ _ _ hz
    refine qX_iconst dX7_applyBest_52 (i32_of rfl) ?_
    refine qX_istore_n 2 dX7_applyBest_53 rfl (Nat.le_of_ble_eq_true rfl) rfl ?_
    exact qX_mask [true, false, true] h
  · replace h := h.2 hc
    refine qX_aload_n 0 dX7_applyBest_8 rfl rfl (by decide) ?_
    refine qX_iconst dX7_applyBest_9 (i32_of rfl) ?_
    obtain ⟨P, hE24, h⟩ := h
    refine qN_callV mX7_fail [_] _ 7 [] dX7_applyBest_10 cm_X7_76 ⟨(Nat.le_of_ble_eq_true rfl), (Nat.le_of_ble_eq_true rfl)⟩ rfl rfl sh0 (Nat.le_of_ble_eq_true rfl) ⟨rfl, rfl⟩ hE24 (fun z21 ρ22 μ23 hz => ?_)
    replace h := h _ _ _ hz
    exact qX_ireturn rfl dX7_applyBest_13 rfl ⟨Nat.le_refl _, Nat.le_refl _⟩ h
set_option maxRecDepth 20000 in
theorem w_X7_applyBest_54 {Post : Int → Rf → Mem → Prop} {ρ : Rf} {μ : Mem} {x2 : Int}
  (h : ((μ 141 4 ≤ x2 → i32 ((μ 141 2) - 1) ∧ qX mX7_applyBest GG Post GG (0, 0) 110 [some (qP 0), none, some (qI ((μ 141 2) - 1))] [] ρ μ) ∧ (x2 < μ 141 4 → (0 ≤ x2 ∧ x2 < 8) ∧ (0 ≤ x2 ∧ x2 < 8) ∧ isO 6 (ρ 0 9) ∧ ∃ P : Int → Rf → Mem → Prop, qE mX6_takeJob GG GG [qP (ρ 0 9), qP 55, qI (μ 143 x2), qI (μ 142 x2)] ρ μ P ∧ ∀ (z2 : Int) (ρ3 : Rf) (μ4 : Mem), P z2 ρ3 μ4 → i32 (x2 + 1) ∧ qX mX7_applyBest GG Post GG (0, 0) 54 [some (qP 0), none, some (qI (x2 + 1))] [] ρ3 μ4))) : qX mX7_applyBest GG Post GG (0, 0) 54 [some (qP 0), none, some (qI x2)] [] ρ μ := by
  refine qX_iload_n 2 dX7_applyBest_54 rfl rfl ?_
  refine qX_aload_n 0 dX7_applyBest_55 rfl rfl (by decide) ?_
  refine qX_getS 7 6 _ 140 dX7_applyBest_56 fs_X7_46 rfl rfl sh0 (x := 141) rfl ?_
  refine qX_getI 5 4 _ dX7_applyBest_59 fs_X7_250 sh141 ?_
  refine qX_icmp_ge 100 dX7_applyBest_62 rfl (fun hc => ?_) (fun hc => ?_)
  · replace h := h.1 hc
    refine qX_aload_n 0 dX7_applyBest_100 rfl rfl (by decide) ?_
    refine qX_getS 7 6 _ 140 dX7_applyBest_101 fs_X7_46 rfl rfl sh0 (x := 141) rfl ?_
    refine qX_getI 5 2 _ dX7_applyBest_104 fs_X7_314 sh141 ?_
    refine qX_iconst dX7_applyBest_107 (i32_of rfl) ?_
    refine qR_isub dX7_applyBest_108 h.1 ?_
    replace h := h.2
    refine qX_istore_n 2 dX7_applyBest_109 rfl (Nat.le_of_ble_eq_true rfl) rfl ?_
    exact qX_mask [true, false, true] h
  · replace h := h.2 hc
    refine qX_aload_n 0 dX7_applyBest_65 rfl rfl (by decide) ?_
    refine qX_getR 7 9 _ dX7_applyBest_66 fs_X7_64 sh0 ?_
    refine qX_aload_n 0 dX7_applyBest_69 rfl rfl (by decide) ?_
    refine qX_getS 7 3 _ 54 dX7_applyBest_70 fs_X7_29 rfl rfl sh0 (x := 55) rfl ?_
    refine qX_aload_n 0 dX7_applyBest_73 rfl rfl (by decide) ?_
    refine qX_getS 7 6 _ 140 dX7_applyBest_74 fs_X7_46 rfl rfl sh0 (x := 141) rfl ?_
    refine qX_getS 5 1 _ 1 dX7_applyBest_77 fs_X7_253 rfl rfl sh141 (x := 143) rfl ?_
    refine qX_iload_n 2 dX7_applyBest_80 rfl rfl ?_
    refine qX_iald dX7_applyBest_81 sh143 h.1 ?_
    replace h := h.2
    refine qX_aload_n 0 dX7_applyBest_82 rfl rfl (by decide) ?_
    refine qX_getS 7 6 _ 140 dX7_applyBest_83 fs_X7_46 rfl rfl sh0 (x := 141) rfl ?_
    refine qX_getS 5 0 _ 0 dX7_applyBest_86 fs_X7_307 rfl rfl sh141 (x := 142) rfl ?_
    refine qX_iload_n 2 dX7_applyBest_89 rfl rfl ?_
    refine qX_iald dX7_applyBest_90 sh142 h.1 ?_
    replace h := h.2
    have hO1 := h.1
    replace h := h.2
    obtain ⟨P, hE5, h⟩ := h
    refine qN_callV mX6_takeJob [_, _, _] _ 6 [] dX7_applyBest_91 cm_X7_310 ⟨(Nat.le_of_ble_eq_true rfl), (Nat.le_of_ble_eq_true rfl)⟩ rfl rfl hO1 (Nat.le_of_ble_eq_true rfl) ⟨rfl, rfl⟩ hE5 (fun z2 ρ3 μ4 hz => ?_)
    replace h := h _ _ _ hz
    refine qR_iinc dX7_applyBest_94 rfl (Nat.le_of_ble_eq_true rfl) rfl h.1 ?_
    replace h := h.2
    refine qX_goto 54 dX7_applyBest_97 rfl ?_
    exact qX_mask [true, false, true] h
set_option maxRecDepth 20000 in
theorem w_X7_applyBest_110 {Post : Int → Rf → Mem → Prop} {ρ : Rf} {μ : Mem} {x2 : Int}
  (h : ((x2 < μ 141 4 → i32 ((μ 141 2) - (μ 141 4)) ∧ ∃ P : Int → Rf → Mem → Prop, qE mX7_changed GG GG [qP 0, qI ((μ 141 2) - (μ 141 4))] ρ μ P ∧ ∀ (z1 : Int) (ρ2 : Rf) (μ3 : Mem), P z1 ρ2 μ3 → Post z1 ρ2 μ3) ∧ (μ 141 4 ≤ x2 → (0 ≤ x2 ∧ x2 < 8) ∧ isO 6 (ρ 0 9) ∧ ∃ P : Int → Rf → Mem → Prop, qE mX6_removeAt GG GG [qP (ρ 0 9), qI (μ 142 x2)] ρ μ P ∧ ∀ (z6 : Int) (ρ7 : Rf) (μ8 : Mem), P z6 ρ7 μ8 → i32 (x2 + (-1)) ∧ qX mX7_applyBest GG Post GG (0, 0) 110 [some (qP 0), none, some (qI (x2 + (-1)))] [] ρ7 μ8))) : qX mX7_applyBest GG Post GG (0, 0) 110 [some (qP 0), none, some (qI x2)] [] ρ μ := by
  refine qX_iload_n 2 dX7_applyBest_110 rfl rfl ?_
  refine qX_aload_n 0 dX7_applyBest_111 rfl rfl (by decide) ?_
  refine qX_getS 7 6 _ 140 dX7_applyBest_112 fs_X7_46 rfl rfl sh0 (x := 141) rfl ?_
  refine qX_getI 5 4 _ dX7_applyBest_115 fs_X7_250 sh141 ?_
  refine qX_icmp_lt 143 dX7_applyBest_118 rfl (fun hc => ?_) (fun hc => ?_)
  · replace h := h.1 hc
    refine qX_aload_n 0 dX7_applyBest_143 rfl rfl (by decide) ?_
    refine qX_aload_n 0 dX7_applyBest_144 rfl rfl (by decide) ?_
    refine qX_getS 7 6 _ 140 dX7_applyBest_145 fs_X7_46 rfl rfl sh0 (x := 141) rfl ?_
    refine qX_getI 5 2 _ dX7_applyBest_148 fs_X7_314 sh141 ?_
    refine qX_aload_n 0 dX7_applyBest_151 rfl rfl (by decide) ?_
    refine qX_getS 7 6 _ 140 dX7_applyBest_152 fs_X7_46 rfl rfl sh0 (x := 141) rfl ?_
    refine qX_getI 5 4 _ dX7_applyBest_155 fs_X7_250 sh141 ?_
    refine qR_isub dX7_applyBest_158 h.1 ?_
    replace h := h.2
    obtain ⟨P, hE4, h⟩ := h
    refine qN_callV mX7_changed [_] _ 7 [] dX7_applyBest_159 cm_X7_301 ⟨(Nat.le_of_ble_eq_true rfl), (Nat.le_of_ble_eq_true rfl)⟩ rfl rfl sh0 (Nat.le_of_ble_eq_true rfl) ⟨rfl, rfl⟩ hE4 (fun z1 ρ2 μ3 hz => ?_)
    replace h := h _ _ _ hz
    exact qX_ireturn rfl dX7_applyBest_162 rfl ⟨Nat.le_refl _, Nat.le_refl _⟩ h
  · replace h := h.2 hc
    refine qX_aload_n 0 dX7_applyBest_121 rfl rfl (by decide) ?_
    refine qX_getR 7 9 _ dX7_applyBest_122 fs_X7_64 sh0 ?_
    refine qX_aload_n 0 dX7_applyBest_125 rfl rfl (by decide) ?_
    refine qX_getS 7 6 _ 140 dX7_applyBest_126 fs_X7_46 rfl rfl sh0 (x := 141) rfl ?_
    refine qX_getS 5 0 _ 0 dX7_applyBest_129 fs_X7_307 rfl rfl sh141 (x := 142) rfl ?_
    refine qX_iload_n 2 dX7_applyBest_132 rfl rfl ?_
    refine qX_iald dX7_applyBest_133 sh142 h.1 ?_
    replace h := h.2
    have hO5 := h.1
    replace h := h.2
    obtain ⟨P, hE9, h⟩ := h
    refine qN_callV mX6_removeAt [_] _ 6 [] dX7_applyBest_134 cm_X7_279 ⟨(Nat.le_of_ble_eq_true rfl), (Nat.le_of_ble_eq_true rfl)⟩ rfl rfl hO5 (Nat.le_of_ble_eq_true rfl) ⟨rfl, rfl⟩ hE9 (fun z6 ρ7 μ8 hz => ?_)
    replace h := h _ _ _ hz
    refine qR_iinc dX7_applyBest_137 rfl (Nat.le_of_ble_eq_true rfl) rfl h.1 ?_
    replace h := h.2
    refine qX_goto 110 dX7_applyBest_140 rfl ?_
    exact qX_mask [true, false, true] h
set_option maxRecDepth 20000 in
theorem e_X7_undo {Post : Int → Rf → Mem → Prop} {ρ : Rf} {μ : Mem} 
  (h : ((μ 0 10 ≠ 0 → ((μ 69 1 ≠ 0 → isO 6 (ρ 0 9) ∧ ∃ P : Int → Rf → Mem → Prop, qE mX1_popInto GG GG [qP 69, qP (ρ 0 9)] ρ μ P ∧ ∀ (z2 : Int) (ρ3 : Rf) (μ4 : Mem), P z2 ρ3 μ4 → ∃ P : Int → Rf → Mem → Prop, qE mX7_changed GG GG [qP 0, qI (μ4 69 1)] ρ3 μ4 P ∧ ∀ (z6 : Int) (ρ7 : Rf) (μ8 : Mem), P z6 ρ7 μ8 → Post z6 ρ7 μ8) ∧ (μ 69 1 = 0 → ∃ P : Int → Rf → Mem → Prop, qE mX7_fail GG GG [qP 0, qI 6] ρ μ P ∧ ∀ (z10 : Int) (ρ11 : Rf) (μ12 : Mem), P z10 ρ11 μ12 → Post z10 ρ11 μ12))) ∧ (μ 0 10 = 0 → ∃ P : Int → Rf → Mem → Prop, qE mX7_fail GG GG [qP 0, qI 1] ρ μ P ∧ ∀ (z14 : Int) (ρ15 : Rf) (μ16 : Mem), P z14 ρ15 μ16 → Post z14 ρ15 μ16))) : qE mX7_undo GG GG [qP 0] ρ μ Post := by
  refine qE_intro pl_X7_undo (Nat.le_of_ble_eq_true rfl) (Nat.le_refl _) ?_
  refine qX_aload_n 0 dX7_undo_0 rfl rfl (by decide) ?_
  refine qX_getI 7 10 _ dX7_undo_1 fs_X7_106 sh0 ?_
  refine qX_if_ne 13 dX7_undo_4 rfl (fun hc => ?_) (fun hc => ?_)
  · replace h := h.1 hc
    refine qX_aload_n 0 dX7_undo_13 rfl rfl (by decide) ?_
    refine qX_getS 7 5 _ 68 dX7_undo_14 fs_X7_39 rfl rfl sh0 (x := 69) rfl ?_
    refine qX_getI 1 1 _ dX7_undo_17 fs_X7_317 sh69 ?_
    refine qX_if_ne 30 dX7_undo_20 rfl (fun hc => ?_) (fun hc => ?_)
    · replace h := h.1 hc
      refine qX_aload_n 0 dX7_undo_30 rfl rfl (by decide) ?_
      refine qX_getS 7 5 _ 68 dX7_undo_31 fs_X7_39 rfl rfl sh0 (x := 69) rfl ?_
      refine qX_aload_n 0 dX7_undo_34 rfl rfl (by decide) ?_
      refine qX_getR 7 9 _ dX7_undo_35 fs_X7_64 sh0 ?_
      have hO1 := h.1
      replace h := h.2
      obtain ⟨P, hE5, h⟩ := h
      refine qN_callV mX1_popInto [_] _ 1 [] dX7_undo_38 cm_X7_318 ⟨(Nat.le_of_ble_eq_true rfl), (Nat.le_of_ble_eq_true rfl)⟩ rfl rfl sh69 (Nat.le_of_ble_eq_true rfl) ⟨rfl, rfl⟩ hE5 (fun z2 ρ3 μ4 hz => ?_)
      replace h := h _ _ _ hz
      refine qX_aload_n 0 dX7_undo_41 rfl rfl (by decide) ?_
      refine qX_aload_n 0 dX7_undo_42 rfl rfl (by decide) ?_
      refine qX_getS 7 5 _ 68 dX7_undo_43 fs_X7_39 rfl rfl sh0 (x := 69) rfl ?_
      refine qX_getI 1 1 _ dX7_undo_46 fs_X7_317 sh69 ?_
      obtain ⟨P, hE9, h⟩ := h
      refine qN_callV mX7_changed [_] _ 7 [] dX7_undo_49 cm_X7_301 ⟨(Nat.le_of_ble_eq_true rfl), (Nat.le_of_ble_eq_true rfl)⟩ rfl rfl sh0 (Nat.le_of_ble_eq_true rfl) ⟨rfl, rfl⟩ hE9 (fun z6 ρ7 μ8 hz => ?_)
      replace h := h _ _ _ hz
      exact qX_ireturn rfl dX7_undo_52 rfl ⟨Nat.le_refl _, Nat.le_refl _⟩ h
    · replace h := h.2 hc
      refine qX_aload_n 0 dX7_undo_23 rfl rfl (by decide) ?_
      refine qX_bip dX7_undo_24 rfl ?_
      obtain ⟨P, hE13, h⟩ := h
      refine qN_callV mX7_fail [_] _ 7 [] dX7_undo_26 cm_X7_76 ⟨(Nat.le_of_ble_eq_true rfl), (Nat.le_of_ble_eq_true rfl)⟩ rfl rfl sh0 (Nat.le_of_ble_eq_true rfl) ⟨rfl, rfl⟩ hE13 (fun z10 ρ11 μ12 hz => ?_)
      replace h := h _ _ _ hz
      exact qX_ireturn rfl dX7_undo_29 rfl ⟨Nat.le_refl _, Nat.le_refl _⟩ h
  · replace h := h.2 hc
    refine qX_aload_n 0 dX7_undo_7 rfl rfl (by decide) ?_
    refine qX_iconst dX7_undo_8 (i32_of rfl) ?_
    obtain ⟨P, hE17, h⟩ := h
    refine qN_callV mX7_fail [_] _ 7 [] dX7_undo_9 cm_X7_76 ⟨(Nat.le_of_ble_eq_true rfl), (Nat.le_of_ble_eq_true rfl)⟩ rfl rfl sh0 (Nat.le_of_ble_eq_true rfl) ⟨rfl, rfl⟩ hE17 (fun z14 ρ15 μ16 hz => ?_)
    replace h := h _ _ _ hz
    exact qX_ireturn rfl dX7_undo_12 rfl ⟨Nat.le_refl _, Nat.le_refl _⟩ h
set_option maxRecDepth 20000 in
theorem e_X7_save {Post : Int → Rf → Mem → Prop} {ρ : Rf} {μ : Mem} 
  (h : ((μ 0 10 ≠ 0 → isO 6 (ρ 0 9) ∧ ∃ P : Int → Rf → Mem → Prop, qE mX6_copyFrom GG GG [qP 62, qP (ρ 0 9)] ρ μ P ∧ ∀ (z2 : Int) (ρ3 : Rf) (μ4 : Mem), P z2 ρ3 μ4 → ∀ μ6, μ6 = up2 μ4 0 11 1 → ∃ P : Int → Rf → Mem → Prop, qE mX7_answer GG GG [qP 0, qI 0] ρ3 μ6 P ∧ ∀ (z7 : Int) (ρ8 : Rf) (μ9 : Mem), P z7 ρ8 μ9 → Post z7 ρ8 μ9) ∧ (μ 0 10 = 0 → ∃ P : Int → Rf → Mem → Prop, qE mX7_fail GG GG [qP 0, qI 1] ρ μ P ∧ ∀ (z11 : Int) (ρ12 : Rf) (μ13 : Mem), P z11 ρ12 μ13 → Post z11 ρ12 μ13))) : qE mX7_save GG GG [qP 0] ρ μ Post := by
  refine qE_intro pl_X7_save (Nat.le_of_ble_eq_true rfl) (Nat.le_refl _) ?_
  refine qX_aload_n 0 dX7_save_0 rfl rfl (by decide) ?_
  refine qX_getI 7 10 _ dX7_save_1 fs_X7_106 sh0 ?_
  refine qX_if_ne 13 dX7_save_4 rfl (fun hc => ?_) (fun hc => ?_)
  · replace h := h.1 hc
    refine qX_aload_n 0 dX7_save_13 rfl rfl (by decide) ?_
    refine qX_getS 7 4 _ 61 dX7_save_14 fs_X7_33 rfl rfl sh0 (x := 62) rfl ?_
    refine qX_aload_n 0 dX7_save_17 rfl rfl (by decide) ?_
    refine qX_getR 7 9 _ dX7_save_18 fs_X7_64 sh0 ?_
    have hO1 := h.1
    replace h := h.2
    obtain ⟨P, hE5, h⟩ := h
    refine qN_callV mX6_copyFrom [_] _ 6 [] dX7_save_21 cm_X7_267 ⟨(Nat.le_of_ble_eq_true rfl), (Nat.le_of_ble_eq_true rfl)⟩ rfl rfl sh62 (Nat.le_of_ble_eq_true rfl) ⟨rfl, rfl⟩ hE5 (fun z2 ρ3 μ4 hz => ?_)
    replace h := h _ _ _ hz
    refine qX_aload_n 0 dX7_save_24 rfl rfl (by decide) ?_
    refine qX_iconst dX7_save_25 (i32_of rfl) ?_
    refine qX_putZ 7 11 _ dX7_save_26 fs_X7_321 sh0 (by decide) ?_
    replace h := h _ rfl
    refine qX_aload_n 0 dX7_save_29 rfl rfl (by decide) ?_
    refine qX_iconst dX7_save_30 (i32_of rfl) ?_
    obtain ⟨P, hE10, h⟩ := h
    refine qN_callV mX7_answer [_] _ 7 [] dX7_save_31 cm_X7_92 ⟨(Nat.le_of_ble_eq_true rfl), (Nat.le_of_ble_eq_true rfl)⟩ rfl rfl sh0 (Nat.le_of_ble_eq_true rfl) ⟨rfl, rfl⟩ hE10 (fun z7 ρ8 μ9 hz => ?_)
    replace h := h _ _ _ hz
    exact qX_ireturn rfl dX7_save_34 rfl ⟨Nat.le_refl _, Nat.le_refl _⟩ h
  · replace h := h.2 hc
    refine qX_aload_n 0 dX7_save_7 rfl rfl (by decide) ?_
    refine qX_iconst dX7_save_8 (i32_of rfl) ?_
    obtain ⟨P, hE14, h⟩ := h
    refine qN_callV mX7_fail [_] _ 7 [] dX7_save_9 cm_X7_76 ⟨(Nat.le_of_ble_eq_true rfl), (Nat.le_of_ble_eq_true rfl)⟩ rfl rfl sh0 (Nat.le_of_ble_eq_true rfl) ⟨rfl, rfl⟩ hE14 (fun z11 ρ12 μ13 hz => ?_)
    replace h := h _ _ _ hz
    exact qX_ireturn rfl dX7_save_12 rfl ⟨Nat.le_refl _, Nat.le_refl _⟩ h
set_option maxRecDepth 20000 in
theorem e_X7_restore {Post : Int → Rf → Mem → Prop} {ρ : Rf} {μ : Mem} 
  (h : ((μ 0 10 ≠ 0 → ((μ 0 11 ≠ 0 → isO 6 (ρ 0 9) ∧ ∃ P : Int → Rf → Mem → Prop, qE mX6_copyFrom GG GG [qP (ρ 0 9), qP 62] ρ μ P ∧ ∀ (z2 : Int) (ρ3 : Rf) (μ4 : Mem), P z2 ρ3 μ4 → ∀ μ6, μ6 = up2 μ4 69 1 0 → isO 6 (ρ3 0 9) ∧ ∃ P : Int → Rf → Mem → Prop, qE mX7_changed GG GG [qP 0, qI (μ6 (ρ3 0 9) 6)] ρ3 μ6 P ∧ ∀ (z8 : Int) (ρ9 : Rf) (μ10 : Mem), P z8 ρ9 μ10 → Post z8 ρ9 μ10) ∧ (μ 0 11 = 0 → ∃ P : Int → Rf → Mem → Prop, qE mX7_fail GG GG [qP 0, qI 6] ρ μ P ∧ ∀ (z12 : Int) (ρ13 : Rf) (μ14 : Mem), P z12 ρ13 μ14 → Post z12 ρ13 μ14))) ∧ (μ 0 10 = 0 → ∃ P : Int → Rf → Mem → Prop, qE mX7_fail GG GG [qP 0, qI 1] ρ μ P ∧ ∀ (z16 : Int) (ρ17 : Rf) (μ18 : Mem), P z16 ρ17 μ18 → Post z16 ρ17 μ18))) : qE mX7_restore GG GG [qP 0] ρ μ Post := by
  refine qE_intro pl_X7_restore (Nat.le_of_ble_eq_true rfl) (Nat.le_refl _) ?_
  refine qX_aload_n 0 dX7_restore_0 rfl rfl (by decide) ?_
  refine qX_getI 7 10 _ dX7_restore_1 fs_X7_106 sh0 ?_
  refine qX_if_ne 13 dX7_restore_4 rfl (fun hc => ?_) (fun hc => ?_)
  · replace h := h.1 hc
    refine qX_aload_n 0 dX7_restore_13 rfl rfl (by decide) ?_
    refine qX_getI 7 11 _ dX7_restore_14 fs_X7_321 sh0 ?_
    refine qX_if_ne 27 dX7_restore_17 rfl (fun hc => ?_) (fun hc => ?_)
    · replace h := h.1 hc
      refine qX_aload_n 0 dX7_restore_27 rfl rfl (by decide) ?_
      refine qX_getR 7 9 _ dX7_restore_28 fs_X7_64 sh0 ?_
      refine qX_aload_n 0 dX7_restore_31 rfl rfl (by decide) ?_
      refine qX_getS 7 4 _ 61 dX7_restore_32 fs_X7_33 rfl rfl sh0 (x := 62) rfl ?_
      have hO1 := h.1
      replace h := h.2
      obtain ⟨P, hE5, h⟩ := h
      refine qN_callV mX6_copyFrom [_] _ 6 [] dX7_restore_35 cm_X7_267 ⟨(Nat.le_of_ble_eq_true rfl), (Nat.le_of_ble_eq_true rfl)⟩ rfl rfl hO1 (Nat.le_of_ble_eq_true rfl) ⟨rfl, rfl⟩ hE5 (fun z2 ρ3 μ4 hz => ?_)
      replace h := h _ _ _ hz
      refine qX_aload_n 0 dX7_restore_38 rfl rfl (by decide) ?_
      refine qX_getS 7 5 _ 68 dX7_restore_39 fs_X7_39 rfl rfl sh0 (x := 69) rfl ?_
      refine qX_iconst dX7_restore_42 (i32_of rfl) ?_
      refine qX_putI 1 1 _ dX7_restore_43 fs_X7_317 sh69 ?_
      replace h := h _ rfl
      refine qX_aload_n 0 dX7_restore_46 rfl rfl (by decide) ?_
      refine qX_aload_n 0 dX7_restore_47 rfl rfl (by decide) ?_
      refine qX_getR 7 9 _ dX7_restore_48 fs_X7_64 sh0 ?_
      have hO7 := h.1
      replace h := h.2
      refine qX_getI 6 6 _ dX7_restore_51 fs_X7_89 hO7 ?_
      obtain ⟨P, hE11, h⟩ := h
      refine qN_callV mX7_changed [_] _ 7 [] dX7_restore_54 cm_X7_301 ⟨(Nat.le_of_ble_eq_true rfl), (Nat.le_of_ble_eq_true rfl)⟩ rfl rfl sh0 (Nat.le_of_ble_eq_true rfl) ⟨rfl, rfl⟩ hE11 (fun z8 ρ9 μ10 hz => ?_)
      replace h := h _ _ _ hz
      exact qX_ireturn rfl dX7_restore_57 rfl ⟨Nat.le_refl _, Nat.le_refl _⟩ h
    · replace h := h.2 hc
      refine qX_aload_n 0 dX7_restore_20 rfl rfl (by decide) ?_
      refine qX_bip dX7_restore_21 rfl ?_
      obtain ⟨P, hE15, h⟩ := h
      refine qN_callV mX7_fail [_] _ 7 [] dX7_restore_23 cm_X7_76 ⟨(Nat.le_of_ble_eq_true rfl), (Nat.le_of_ble_eq_true rfl)⟩ rfl rfl sh0 (Nat.le_of_ble_eq_true rfl) ⟨rfl, rfl⟩ hE15 (fun z12 ρ13 μ14 hz => ?_)
      replace h := h _ _ _ hz
      exact qX_ireturn rfl dX7_restore_26 rfl ⟨Nat.le_refl _, Nat.le_refl _⟩ h
  · replace h := h.2 hc
    refine qX_aload_n 0 dX7_restore_7 rfl rfl (by decide) ?_
    refine qX_iconst dX7_restore_8 (i32_of rfl) ?_
    obtain ⟨P, hE19, h⟩ := h
    refine qN_callV mX7_fail [_] _ 7 [] dX7_restore_9 cm_X7_76 ⟨(Nat.le_of_ble_eq_true rfl), (Nat.le_of_ble_eq_true rfl)⟩ rfl rfl sh0 (Nat.le_of_ble_eq_true rfl) ⟨rfl, rfl⟩ hE19 (fun z16 ρ17 μ18 hz => ?_)
    replace h := h _ _ _ hz
    exact qX_ireturn rfl dX7_restore_12 rfl ⟨Nat.le_refl _, Nat.le_refl _⟩ h
set_option maxRecDepth 20000 in
theorem e_X7_error {Post : Int → Rf → Mem → Prop} {ρ : Rf} {μ : Mem} 
  (h : Post (μ 0 12) ρ μ) : qE mX7_error GG GG [qP 0] ρ μ Post := by
  refine qE_intro pl_X7_error (Nat.le_of_ble_eq_true rfl) (Nat.le_refl _) ?_
  refine qX_aload_n 0 dX7_error_0 rfl rfl (by decide) ?_
  refine qX_getI 7 12 _ dX7_error_1 fs_X7_331 sh0 ?_
  exact qX_ireturn rfl dX7_error_4 rfl ⟨Nat.le_refl _, Nat.le_refl _⟩ h
set_option maxRecDepth 20000 in
theorem e_X7_answer {Post : Int → Rf → Mem → Prop} {ρ : Rf} {μ : Mem} {x1 : Int}
  (h : ∀ μ1, μ1 = up2 μ 0 12 0 → Post x1 ρ μ1) : qE mX7_answer GG GG [qP 0, qI x1] ρ μ Post := by
  refine qE_intro pl_X7_answer (Nat.le_of_ble_eq_true rfl) (Nat.le_refl _) ?_
  refine qX_aload_n 0 dX7_answer_0 rfl rfl (by decide) ?_
  refine qX_iconst dX7_answer_1 (i32_of rfl) ?_
  refine qX_putI 7 12 _ dX7_answer_2 fs_X7_331 sh0 ?_
  replace h := h _ rfl
  refine qX_iload_n 1 dX7_answer_5 rfl rfl ?_
  exact qX_ireturn rfl dX7_answer_6 rfl ⟨Nat.le_refl _, Nat.le_refl _⟩ h
set_option maxRecDepth 20000 in
theorem e_X7_answerLong {Post : Int → Rf → Mem → Prop} {ρ : Rf} {μ : Mem} {x1 : Int}
  (h : ∀ μ1, μ1 = up2 μ 0 12 0 → Post x1 ρ μ1) : qE mX7_answerLong GG GG [qP 0, qJ x1] ρ μ Post := by
  refine qE_intro pl_X7_answerLong (Nat.le_of_ble_eq_true rfl) (Nat.le_refl _) ?_
  refine qX_aload_n 0 dX7_answerLong_0 rfl rfl (by decide) ?_
  refine qX_iconst dX7_answerLong_1 (i32_of rfl) ?_
  refine qX_putI 7 12 _ dX7_answerLong_2 fs_X7_331 sh0 ?_
  replace h := h _ rfl
  refine qX_lload_n 1 dX7_answerLong_5 rfl rfl ?_
  exact qX_lreturn rfl dX7_answerLong_6 rfl ⟨Nat.le_refl _, Nat.le_refl _⟩ h
set_option maxRecDepth 20000 in
theorem e_X7_fail {Post : Int → Rf → Mem → Prop} {ρ : Rf} {μ : Mem} {x1 : Int}
  (h : ∀ μ1, μ1 = up2 μ 0 12 x1 → Post (-2147483648) ρ μ1) : qE mX7_fail GG GG [qP 0, qI x1] ρ μ Post := by
  refine qE_intro pl_X7_fail (Nat.le_of_ble_eq_true rfl) (Nat.le_refl _) ?_
  refine qX_aload_n 0 dX7_fail_0 rfl rfl (by decide) ?_
  refine qX_iload_n 1 dX7_fail_1 rfl rfl ?_
  refine qX_putI 7 12 _ dX7_fail_2 fs_X7_331 sh0 ?_
  replace h := h _ rfl
  refine qX_ldc (n := (-2147483648)) dX7_fail_5 kK_X7_71 (i32_of rfl) ?_
  exact qX_ireturn rfl dX7_fail_7 rfl ⟨Nat.le_refl _, Nat.le_refl _⟩ h
set_option maxRecDepth 20000 in
theorem e_X7_failLong {Post : Int → Rf → Mem → Prop} {ρ : Rf} {μ : Mem} {x1 : Int}
  (h : ∀ μ1, μ1 = up2 μ 0 12 x1 → Post (-9223372036854775808) ρ μ1) : qE mX7_failLong GG GG [qP 0, qI x1] ρ μ Post := by
  refine qE_intro pl_X7_failLong (Nat.le_of_ble_eq_true rfl) (Nat.le_refl _) ?_
  refine qX_aload_n 0 dX7_failLong_0 rfl rfl (by decide) ?_
  refine qX_iload_n 1 dX7_failLong_1 rfl rfl ?_
  refine qX_putI 7 12 _ dX7_failLong_2 fs_X7_331 sh0 ?_
  replace h := h _ rfl
  refine qX_ldc2 (n := (-9223372036854775808)) dX7_failLong_5 kK_X7_334 (i64_of rfl) ?_
  exact qX_lreturn rfl dX7_failLong_8 rfl ⟨Nat.le_refl _, Nat.le_refl _⟩ h
set_option maxRecDepth 20000 in
theorem e_X7_changed {Post : Int → Rf → Mem → Prop} {ρ : Rf} {μ : Mem} {x1 : Int}
  (h : isO 0 (ρ 0 8) ∧ isO 6 (ρ 0 9) ∧ ∃ P : Int → Rf → Mem → Prop, qE mX3_play GG GG [qP 27, qP (ρ 0 8), qP (ρ 0 9)] ρ μ P ∧ ∀ (z3 : Int) (ρ4 : Rf) (μ5 : Mem), P z3 ρ4 μ5 → ∃ P : Int → Rf → Mem → Prop, qE mX7_answer GG GG [qP 0, qI x1] ρ4 μ5 P ∧ ∀ (z7 : Int) (ρ8 : Rf) (μ9 : Mem), P z7 ρ8 μ9 → Post z7 ρ8 μ9) : qE mX7_changed GG GG [qP 0, qI x1] ρ μ Post := by
  refine qE_intro pl_X7_changed (Nat.le_of_ble_eq_true rfl) (Nat.le_refl _) ?_
  refine qX_aload_n 0 dX7_changed_0 rfl rfl (by decide) ?_
  refine qX_getS 7 1 _ 26 dX7_changed_1 fs_X7_19 rfl rfl sh0 (x := 27) rfl ?_
  refine qX_aload_n 0 dX7_changed_4 rfl rfl (by decide) ?_
  refine qX_getR 7 8 _ dX7_changed_5 fs_X7_60 sh0 ?_
  refine qX_aload_n 0 dX7_changed_8 rfl rfl (by decide) ?_
  refine qX_getR 7 9 _ dX7_changed_9 fs_X7_64 sh0 ?_
  have hO1 := h.1
  replace h := h.2
  have hO2 := h.1
  replace h := h.2
  obtain ⟨P, hE6, h⟩ := h
  refine qN_callV mX3_play [_, _] _ 3 [] dX7_changed_12 cm_X7_271 ⟨(Nat.le_of_ble_eq_true rfl), (Nat.le_of_ble_eq_true rfl)⟩ rfl rfl sh27 (Nat.le_of_ble_eq_true rfl) ⟨rfl, rfl⟩ hE6 (fun z3 ρ4 μ5 hz => ?_)
  replace h := h _ _ _ hz
  refine qX_aload_n 0 dX7_changed_15 rfl rfl (by decide) ?_
  refine qX_iload_n 1 dX7_changed_16 rfl rfl ?_
  obtain ⟨P, hE10, h⟩ := h
  refine qN_callV mX7_answer [_] _ 7 [] dX7_changed_17 cm_X7_92 ⟨(Nat.le_of_ble_eq_true rfl), (Nat.le_of_ble_eq_true rfl)⟩ rfl rfl sh0 (Nat.le_of_ble_eq_true rfl) ⟨rfl, rfl⟩ hE10 (fun z7 ρ8 μ9 hz => ?_)
  replace h := h _ _ _ hz
  exact qX_ireturn rfl dX7_changed_20 rfl ⟨Nat.le_refl _, Nat.le_refl _⟩ h
set_option maxRecDepth 20000 in
theorem e_X7_rehearse {Post : Int → Rf → Mem → Prop} {ρ : Rf} {μ : Mem} 
  (h : isO 0 (ρ 0 8) ∧ ∃ P : Int → Rf → Mem → Prop, qE mX3_play GG GG [qP 41, qP (ρ 0 8), qP 55] ρ μ P ∧ ∀ (z2 : Int) (ρ3 : Rf) (μ4 : Mem), P z2 ρ3 μ4 → Post (μ4 41 9) ρ3 μ4) : qE mX7_rehearse GG GG [qP 0] ρ μ Post := by
  refine qE_intro pl_X7_rehearse (Nat.le_of_ble_eq_true rfl) (Nat.le_refl _) ?_
  refine qX_aload_n 0 dX7_rehearse_0 rfl rfl (by decide) ?_
  refine qX_getS 7 2 _ 40 dX7_rehearse_1 fs_X7_23 rfl rfl sh0 (x := 41) rfl ?_
  refine qX_aload_n 0 dX7_rehearse_4 rfl rfl (by decide) ?_
  refine qX_getR 7 8 _ dX7_rehearse_5 fs_X7_60 sh0 ?_
  refine qX_aload_n 0 dX7_rehearse_8 rfl rfl (by decide) ?_
  refine qX_getS 7 3 _ 54 dX7_rehearse_9 fs_X7_29 rfl rfl sh0 (x := 55) rfl ?_
  have hO1 := h.1
  replace h := h.2
  obtain ⟨P, hE5, h⟩ := h
  refine qN_callV mX3_play [_, _] _ 3 [] dX7_rehearse_12 cm_X7_271 ⟨(Nat.le_of_ble_eq_true rfl), (Nat.le_of_ble_eq_true rfl)⟩ rfl rfl sh41 (Nat.le_of_ble_eq_true rfl) ⟨rfl, rfl⟩ hE5 (fun z2 ρ3 μ4 hz => ?_)
  replace h := h _ _ _ hz
  refine qX_aload_n 0 dX7_rehearse_15 rfl rfl (by decide) ?_
  refine qX_getS 7 2 _ 40 dX7_rehearse_16 fs_X7_23 rfl rfl sh0 (x := 41) rfl ?_
  refine qX_getI 3 9 _ dX7_rehearse_19 fs_X7_167 sh41 ?_
  exact qX_ireturn rfl dX7_rehearse_22 rfl ⟨Nat.le_refl _, Nat.le_refl _⟩ h
set_option maxRecDepth 20000 in
theorem e_X7_takeParsedPlan {Post : Int → Rf → Mem → Prop} {ρ : Rf} {μ : Mem} 
  (h : isO 0 (ρ 0 8) ∧ isO 6 (ρ 0 9) ∧ isO 0 (ρ 1 5) ∧ ∀ ρ4, ρ4 = up2 ρ 0 8 (ρ 1 5) → isO 6 (ρ4 1 6) ∧ ∀ ρ6, ρ6 = up2 ρ4 0 9 (ρ4 1 6) → isO 0 (ρ 0 8) ∧ ∀ ρ8, ρ8 = up2 ρ6 1 5 (ρ 0 8) → isO 6 (ρ 0 9) ∧ ∀ ρ10, ρ10 = up2 ρ8 1 6 (ρ 0 9) → ∀ μ11, μ11 = up2 μ 0 10 1 → ∀ μ12, μ12 = up2 μ11 0 11 0 → ∀ μ13, μ13 = up2 μ12 69 1 0 → isO 0 (ρ10 0 8) ∧ isO 6 (ρ10 0 9) ∧ ∃ P : Int → Rf → Mem → Prop, qE mX3_play GG GG [qP 27, qP (ρ10 0 8), qP (ρ10 0 9)] ρ10 μ13 P ∧ ∀ (z16 : Int) (ρ17 : Rf) (μ18 : Mem), P z16 ρ17 μ18 → Post 0 ρ17 μ18) : qE mX7_takeParsedPlan GG GG [qP 0] ρ μ Post := by
  refine qE_intro pl_X7_takeParsedPlan (Nat.le_of_ble_eq_true rfl) (Nat.le_refl _) ?_
  refine qX_aload_n 0 dX7_takeParsedPlan_0 rfl rfl (by decide) ?_
  refine qX_getR 7 8 _ dX7_takeParsedPlan_1 fs_X7_60 sh0 ?_
  have hO1 := h.1
  replace h := h.2
  refine qX_astore_n 1 dX7_takeParsedPlan_4 rfl (Nat.le_of_ble_eq_true rfl) rfl (shN hO1) ?_
  refine qX_aload_n 0 dX7_takeParsedPlan_5 rfl rfl (by decide) ?_
  refine qX_getR 7 9 _ dX7_takeParsedPlan_6 fs_X7_64 sh0 ?_
  have hO2 := h.1
  replace h := h.2
  refine qX_astore_n 2 dX7_takeParsedPlan_9 rfl (Nat.le_of_ble_eq_true rfl) rfl (shN hO2) ?_
  refine qX_aload_n 0 dX7_takeParsedPlan_10 rfl rfl (by decide) ?_
  refine qX_aload_n 0 dX7_takeParsedPlan_11 rfl rfl (by decide) ?_
  refine qX_getS 7 0 _ 0 dX7_takeParsedPlan_12 fs_X7_12 rfl rfl sh0 (x := 1) rfl ?_
  refine qX_getR 2 5 _ dX7_takeParsedPlan_15 fs_X7_336 sh1 ?_
  have hO3 := h.1
  replace h := h.2
  refine qX_putR 7 8 _ dX7_takeParsedPlan_18 fs_X7_60 sh0 (fun _ => ⟨rfl, rfl⟩) (shL hO3) rfl ?_
  replace h := h _ rfl
  refine qX_aload_n 0 dX7_takeParsedPlan_21 rfl rfl (by decide) ?_
  refine qX_aload_n 0 dX7_takeParsedPlan_22 rfl rfl (by decide) ?_
  refine qX_getS 7 0 _ 0 dX7_takeParsedPlan_23 fs_X7_12 rfl rfl sh0 (x := 1) rfl ?_
  refine qX_getR 2 6 _ dX7_takeParsedPlan_26 fs_X7_337 sh1 ?_
  have hO5 := h.1
  replace h := h.2
  refine qX_putR 7 9 _ dX7_takeParsedPlan_29 fs_X7_64 sh0 (fun _ => ⟨rfl, rfl⟩) (shL hO5) rfl ?_
  replace h := h _ rfl
  refine qX_aload_n 0 dX7_takeParsedPlan_32 rfl rfl (by decide) ?_
  refine qX_getS 7 0 _ 0 dX7_takeParsedPlan_33 fs_X7_12 rfl rfl sh0 (x := 1) rfl ?_
  have hO7 := h.1
  replace h := h.2
  refine qX_aload_n 1 dX7_takeParsedPlan_36 rfl rfl (shN hO7) ?_
  refine qX_putR 2 5 _ dX7_takeParsedPlan_37 fs_X7_336 sh1 (fun _ => ⟨rfl, rfl⟩) (shL hO7) rfl ?_
  replace h := h _ rfl
  refine qX_aload_n 0 dX7_takeParsedPlan_40 rfl rfl (by decide) ?_
  refine qX_getS 7 0 _ 0 dX7_takeParsedPlan_41 fs_X7_12 rfl rfl sh0 (x := 1) rfl ?_
  have hO9 := h.1
  replace h := h.2
  refine qX_aload_n 2 dX7_takeParsedPlan_44 rfl rfl (shN hO9) ?_
  refine qX_putR 2 6 _ dX7_takeParsedPlan_45 fs_X7_337 sh1 (fun _ => ⟨rfl, rfl⟩) (shL hO9) rfl ?_
  replace h := h _ rfl
  refine qX_aload_n 0 dX7_takeParsedPlan_48 rfl rfl (by decide) ?_
  refine qX_iconst dX7_takeParsedPlan_49 (i32_of rfl) ?_
  refine qX_putZ 7 10 _ dX7_takeParsedPlan_50 fs_X7_106 sh0 (by decide) ?_
  replace h := h _ rfl
  refine qX_aload_n 0 dX7_takeParsedPlan_53 rfl rfl (by decide) ?_
  refine qX_iconst dX7_takeParsedPlan_54 (i32_of rfl) ?_
  refine qX_putZ 7 11 _ dX7_takeParsedPlan_55 fs_X7_321 sh0 (by decide) ?_
  replace h := h _ rfl
  refine qX_aload_n 0 dX7_takeParsedPlan_58 rfl rfl (by decide) ?_
  refine qX_getS 7 5 _ 68 dX7_takeParsedPlan_59 fs_X7_39 rfl rfl sh0 (x := 69) rfl ?_
  refine qX_iconst dX7_takeParsedPlan_62 (i32_of rfl) ?_
  refine qX_putI 1 1 _ dX7_takeParsedPlan_63 fs_X7_317 sh69 ?_
  replace h := h _ rfl
  refine qX_aload_n 0 dX7_takeParsedPlan_66 rfl rfl (by decide) ?_
  refine qX_getS 7 1 _ 26 dX7_takeParsedPlan_67 fs_X7_19 rfl rfl sh0 (x := 27) rfl ?_
  refine qX_aload_n 0 dX7_takeParsedPlan_70 rfl rfl (by decide) ?_
  refine qX_getR 7 8 _ dX7_takeParsedPlan_71 fs_X7_60 sh0 ?_
  refine qX_aload_n 0 dX7_takeParsedPlan_74 rfl rfl (by decide) ?_
  refine qX_getR 7 9 _ dX7_takeParsedPlan_75 fs_X7_64 sh0 ?_
  have hO14 := h.1
  replace h := h.2
  have hO15 := h.1
  replace h := h.2
  obtain ⟨P, hE19, h⟩ := h
  refine qN_callV mX3_play [_, _] _ 3 [] dX7_takeParsedPlan_78 cm_X7_271 ⟨(Nat.le_of_ble_eq_true rfl), (Nat.le_of_ble_eq_true rfl)⟩ rfl rfl sh27 (Nat.le_of_ble_eq_true rfl) ⟨rfl, rfl⟩ hE19 (fun z16 ρ17 μ18 hz => ?_)
  replace h := h _ _ _ hz
  exact qX_return rfl dX7_takeParsedPlan_81 rfl ⟨Nat.le_refl _, Nat.le_refl _⟩ h
set_option maxRecDepth 20000 in
theorem e_X7_isTrain {Post : Int → Rf → Mem → Prop} {ρ : Rf} {μ : Mem} {x1 : Int}
  (h : ((μ 0 10 = 0 → Post 0 ρ μ) ∧ (μ 0 10 ≠ 0 → ((x1 < 0 → Post 0 ρ μ) ∧ (0 ≤ x1 → ((2 ≤ x1 → Post 0 ρ μ) ∧ (x1 < 2 → Post 1 ρ μ))))))) : qE mX7_isTrain GG GG [qP 0, qI x1] ρ μ Post := by
  refine qE_intro pl_X7_isTrain (Nat.le_of_ble_eq_true rfl) (Nat.le_refl _) ?_
  refine qX_aload_n 0 dX7_isTrain_0 rfl rfl (by decide) ?_
  refine qX_getI 7 10 _ dX7_isTrain_1 fs_X7_106 sh0 ?_
  refine qX_if_eq 20 dX7_isTrain_4 rfl (fun hc => ?_) (fun hc => ?_)
  · replace h := h.1 hc
    refine qX_iconst dX7_isTrain_20 (i32_of rfl) ?_
    exact qX_zreturn rfl dX7_isTrain_21 rfl ⟨Nat.le_refl _, Nat.le_refl _⟩ (by decide) h
  · replace h := h.2 hc
    refine qX_iload_n 1 dX7_isTrain_7 rfl rfl ?_
    refine qX_if_lt 20 dX7_isTrain_8 rfl (fun hc => ?_) (fun hc => ?_)
    · replace h := h.1 hc
      refine qX_iconst dX7_isTrain_20 (i32_of rfl) ?_
      exact qX_zreturn rfl dX7_isTrain_21 rfl ⟨Nat.le_refl _, Nat.le_refl _⟩ (by decide) h
    · replace h := h.2 hc
      refine qX_iload_n 1 dX7_isTrain_11 rfl rfl ?_
      refine qX_iconst dX7_isTrain_12 (i32_of rfl) ?_
      refine qX_icmp_ge 20 dX7_isTrain_13 rfl (fun hc => ?_) (fun hc => ?_)
      · replace h := h.1 hc
        refine qX_iconst dX7_isTrain_20 (i32_of rfl) ?_
        exact qX_zreturn rfl dX7_isTrain_21 rfl ⟨Nat.le_refl _, Nat.le_refl _⟩ (by decide) h
      · replace h := h.2 hc
        refine qX_iconst dX7_isTrain_16 (i32_of rfl) ?_
        refine qX_goto 21 dX7_isTrain_17 rfl ?_
        exact qX_zreturn rfl dX7_isTrain_21 rfl ⟨Nat.le_refl _, Nat.le_refl _⟩ (by decide) h
set_option maxRecDepth 20000 in
theorem e_X7_isCar {Post : Int → Rf → Mem → Prop} {ρ : Rf} {μ : Mem} {x1 : Int} {x2 : Int}
  (h : ∃ P : Int → Rf → Mem → Prop, qE mX7_isTrain GG GG [qP 0, qI x1] ρ μ P ∧ ∀ (z1 : Int) (ρ2 : Rf) (μ3 : Mem), P z1 ρ2 μ3 → ((z1 = 0 → Post 0 ρ2 μ3) ∧ (z1 ≠ 0 → ((x2 < 0 → Post 0 ρ2 μ3) ∧ (0 ≤ x2 → isO 0 (ρ2 0 8) ∧ (0 ≤ x1 ∧ x1 < 2) ∧ ((μ3 (ρ2 0 8 + 3) x1 ≤ x2 → Post 0 ρ2 μ3) ∧ (x2 < μ3 (ρ2 0 8 + 3) x1 → Post 1 ρ2 μ3))))))) : qE mX7_isCar GG GG [qP 0, qI x1, qI x2] ρ μ Post := by
  refine qE_intro pl_X7_isCar (Nat.le_of_ble_eq_true rfl) (Nat.le_refl _) ?_
  refine qX_aload_n 0 dX7_isCar_0 rfl rfl (by decide) ?_
  refine qX_iload_n 1 dX7_isCar_1 rfl rfl ?_
  obtain ⟨P, hE4, h⟩ := h
  refine qN_callV mX7_isTrain [_] _ 7 [] dX7_isCar_2 cm_X7_98 ⟨(Nat.le_of_ble_eq_true rfl), (Nat.le_of_ble_eq_true rfl)⟩ rfl rfl sh0 (Nat.le_of_ble_eq_true rfl) ⟨rfl, rfl⟩ hE4 (fun z1 ρ2 μ3 hz => ?_)
  replace h := h _ _ _ hz
  refine qX_if_eq 29 dX7_isCar_5 rfl (fun hc => ?_) (fun hc => ?_)
  · replace h := h.1 hc
    refine qX_iconst dX7_isCar_29 (i32_of rfl) ?_
    exact qX_zreturn rfl dX7_isCar_30 rfl ⟨Nat.le_refl _, Nat.le_refl _⟩ (by decide) h
  · replace h := h.2 hc
    refine qX_iload_n 2 dX7_isCar_8 rfl rfl ?_
    refine qX_if_lt 29 dX7_isCar_9 rfl (fun hc => ?_) (fun hc => ?_)
    · replace h := h.1 hc
      refine qX_iconst dX7_isCar_29 (i32_of rfl) ?_
      exact qX_zreturn rfl dX7_isCar_30 rfl ⟨Nat.le_refl _, Nat.le_refl _⟩ (by decide) h
    · replace h := h.2 hc
      refine qX_iload_n 2 dX7_isCar_12 rfl rfl ?_
      refine qX_aload_n 0 dX7_isCar_13 rfl rfl (by decide) ?_
      refine qX_getR 7 8 _ dX7_isCar_14 fs_X7_60 sh0 ?_
      have hO5 := h.1
      replace h := h.2
      refine qX_getS 0 2 _ 2 dX7_isCar_17 fs_X7_102 rfl rfl hO5 rfl ?_
      refine qX_iload_n 1 dX7_isCar_20 rfl rfl ?_
      refine qX_iald dX7_isCar_21 (ar0_2 hO5) h.1 ?_
      replace h := h.2
      refine qX_icmp_ge 29 dX7_isCar_22 rfl (fun hc => ?_) (fun hc => ?_)
      · replace h := h.1 hc
        refine qX_iconst dX7_isCar_29 (i32_of rfl) ?_
        exact qX_zreturn rfl dX7_isCar_30 rfl ⟨Nat.le_refl _, Nat.le_refl _⟩ (by decide) h
      · replace h := h.2 hc
        refine qX_iconst dX7_isCar_25 (i32_of rfl) ?_
        refine qX_goto 30 dX7_isCar_26 rfl ?_
        exact qX_zreturn rfl dX7_isCar_30 rfl ⟨Nat.le_refl _, Nat.le_refl _⟩ (by decide) h
set_option maxRecDepth 20000 in
theorem e_X7_isMeal {Post : Int → Rf → Mem → Prop} {ρ : Rf} {μ : Mem} {x1 : Int}
  (h : ((μ 0 10 = 0 → Post 0 ρ μ) ∧ (μ 0 10 ≠ 0 → ((x1 < 0 → Post 0 ρ μ) ∧ (0 ≤ x1 → isO 0 (ρ 0 8) ∧ ((μ (ρ 0 8) 15 ≤ x1 → Post 0 ρ μ) ∧ (x1 < μ (ρ 0 8) 15 → Post 1 ρ μ))))))) : qE mX7_isMeal GG GG [qP 0, qI x1] ρ μ Post := by
  refine qE_intro pl_X7_isMeal (Nat.le_of_ble_eq_true rfl) (Nat.le_refl _) ?_
  refine qX_aload_n 0 dX7_isMeal_0 rfl rfl (by decide) ?_
  refine qX_getI 7 10 _ dX7_isMeal_1 fs_X7_106 sh0 ?_
  refine qX_if_eq 26 dX7_isMeal_4 rfl (fun hc => ?_) (fun hc => ?_)
  · replace h := h.1 hc
    refine qX_iconst dX7_isMeal_26 (i32_of rfl) ?_
    exact qX_zreturn rfl dX7_isMeal_27 rfl ⟨Nat.le_refl _, Nat.le_refl _⟩ (by decide) h
  · replace h := h.2 hc
    refine qX_iload_n 1 dX7_isMeal_7 rfl rfl ?_
    refine qX_if_lt 26 dX7_isMeal_8 rfl (fun hc => ?_) (fun hc => ?_)
    · replace h := h.1 hc
      refine qX_iconst dX7_isMeal_26 (i32_of rfl) ?_
      exact qX_zreturn rfl dX7_isMeal_27 rfl ⟨Nat.le_refl _, Nat.le_refl _⟩ (by decide) h
    · replace h := h.2 hc
      refine qX_iload_n 1 dX7_isMeal_11 rfl rfl ?_
      refine qX_aload_n 0 dX7_isMeal_12 rfl rfl (by decide) ?_
      refine qX_getR 7 8 _ dX7_isMeal_13 fs_X7_60 sh0 ?_
      have hO1 := h.1
      replace h := h.2
      refine qX_getI 0 15 _ dX7_isMeal_16 fs_X7_110 hO1 ?_
      refine qX_icmp_ge 26 dX7_isMeal_19 rfl (fun hc => ?_) (fun hc => ?_)
      · replace h := h.1 hc
        refine qX_iconst dX7_isMeal_26 (i32_of rfl) ?_
        exact qX_zreturn rfl dX7_isMeal_27 rfl ⟨Nat.le_refl _, Nat.le_refl _⟩ (by decide) h
      · replace h := h.2 hc
        refine qX_iconst dX7_isMeal_22 (i32_of rfl) ?_
        refine qX_goto 27 dX7_isMeal_23 rfl ?_
        exact qX_zreturn rfl dX7_isMeal_27 rfl ⟨Nat.le_refl _, Nat.le_refl _⟩ (by decide) h
set_option maxRecDepth 20000 in
theorem e_X7_isCarMeal {Post : Int → Rf → Mem → Prop} {ρ : Rf} {μ : Mem} {x1 : Int} {x2 : Int} {x3 : Int}
  (h : ∃ P : Int → Rf → Mem → Prop, qE mX7_isCar GG GG [qP 0, qI x1, qI x2] ρ μ P ∧ ∀ (z1 : Int) (ρ2 : Rf) (μ3 : Mem), P z1 ρ2 μ3 → ((z1 = 0 → Post 0 ρ2 μ3) ∧ (z1 ≠ 0 → ∃ P : Int → Rf → Mem → Prop, qE mX7_isMeal GG GG [qP 0, qI x3] ρ2 μ3 P ∧ ∀ (z5 : Int) (ρ6 : Rf) (μ7 : Mem), P z5 ρ6 μ7 → ((z5 = 0 → Post 0 ρ6 μ7) ∧ (z5 ≠ 0 → Post 1 ρ6 μ7))))) : qE mX7_isCarMeal GG GG [qP 0, qI x1, qI x2, qI x3] ρ μ Post := by
  refine qE_intro pl_X7_isCarMeal (Nat.le_of_ble_eq_true rfl) (Nat.le_refl _) ?_
  refine qX_aload_n 0 dX7_isCarMeal_0 rfl rfl (by decide) ?_
  refine qX_iload_n 1 dX7_isCarMeal_1 rfl rfl ?_
  refine qX_iload_n 2 dX7_isCarMeal_2 rfl rfl ?_
  obtain ⟨P, hE4, h⟩ := h
  refine qN_callV mX7_isCar [_, _] _ 7 [] dX7_isCarMeal_3 cm_X7_182 ⟨(Nat.le_of_ble_eq_true rfl), (Nat.le_of_ble_eq_true rfl)⟩ rfl rfl sh0 (Nat.le_of_ble_eq_true rfl) ⟨rfl, rfl⟩ hE4 (fun z1 ρ2 μ3 hz => ?_)
  replace h := h _ _ _ hz
  refine qX_if_eq 21 dX7_isCarMeal_6 rfl (fun hc => ?_) (fun hc => ?_)
  · replace h := h.1 hc
    refine qX_iconst dX7_isCarMeal_21 (i32_of rfl) ?_
    exact qX_zreturn rfl dX7_isCarMeal_22 rfl ⟨Nat.le_refl _, Nat.le_refl _⟩ (by decide) h
  · replace h := h.2 hc
    refine qX_aload_n 0 dX7_isCarMeal_9 rfl rfl (by decide) ?_
    refine qX_iload_n 3 dX7_isCarMeal_10 rfl rfl ?_
    obtain ⟨P, hE8, h⟩ := h
    refine qN_callV mX7_isMeal [_] _ 7 [] dX7_isCarMeal_11 cm_X7_209 ⟨(Nat.le_of_ble_eq_true rfl), (Nat.le_of_ble_eq_true rfl)⟩ rfl rfl sh0 (Nat.le_of_ble_eq_true rfl) ⟨rfl, rfl⟩ hE8 (fun z5 ρ6 μ7 hz => ?_)
    replace h := h _ _ _ hz
    refine qX_if_eq 21 dX7_isCarMeal_14 rfl (fun hc => ?_) (fun hc => ?_)
    · replace h := h.1 hc
      refine qX_iconst dX7_isCarMeal_21 (i32_of rfl) ?_
      exact qX_zreturn rfl dX7_isCarMeal_22 rfl ⟨Nat.le_refl _, Nat.le_refl _⟩ (by decide) h
    · replace h := h.2 hc
      refine qX_iconst dX7_isCarMeal_17 (i32_of rfl) ?_
      refine qX_goto 22 dX7_isCarMeal_18 rfl ?_
      exact qX_zreturn rfl dX7_isCarMeal_22 rfl ⟨Nat.le_refl _, Nat.le_refl _⟩ (by decide) h
set_option maxRecDepth 20000 in
theorem e_X7_isStock {Post : Int → Rf → Mem → Prop} {ρ : Rf} {μ : Mem} {x1 : Int} {x2 : Int}
  (h : ∃ P : Int → Rf → Mem → Prop, qE mX7_isMeal GG GG [qP 0, qI x2] ρ μ P ∧ ∀ (z1 : Int) (ρ2 : Rf) (μ3 : Mem), P z1 ρ2 μ3 → ((z1 = 0 → Post 0 ρ2 μ3) ∧ (z1 ≠ 0 → ((x1 < 0 → Post 0 ρ2 μ3) ∧ (0 ≤ x1 → isO 0 (ρ2 0 8) ∧ ((μ3 (ρ2 0 8) 16 ≤ x1 → Post 0 ρ2 μ3) ∧ (x1 < μ3 (ρ2 0 8) 16 → Post 1 ρ2 μ3))))))) : qE mX7_isStock GG GG [qP 0, qI x1, qI x2] ρ μ Post := by
  refine qE_intro pl_X7_isStock (Nat.le_of_ble_eq_true rfl) (Nat.le_refl _) ?_
  refine qX_aload_n 0 dX7_isStock_0 rfl rfl (by decide) ?_
  refine qX_iload_n 2 dX7_isStock_1 rfl rfl ?_
  obtain ⟨P, hE4, h⟩ := h
  refine qN_callV mX7_isMeal [_] _ 7 [] dX7_isStock_2 cm_X7_209 ⟨(Nat.le_of_ble_eq_true rfl), (Nat.le_of_ble_eq_true rfl)⟩ rfl rfl sh0 (Nat.le_of_ble_eq_true rfl) ⟨rfl, rfl⟩ hE4 (fun z1 ρ2 μ3 hz => ?_)
  replace h := h _ _ _ hz
  refine qX_if_eq 27 dX7_isStock_5 rfl (fun hc => ?_) (fun hc => ?_)
  · replace h := h.1 hc
    refine qX_iconst dX7_isStock_27 (i32_of rfl) ?_
    exact qX_zreturn rfl dX7_isStock_28 rfl ⟨Nat.le_refl _, Nat.le_refl _⟩ (by decide) h
  · replace h := h.2 hc
    refine qX_iload_n 1 dX7_isStock_8 rfl rfl ?_
    refine qX_if_lt 27 dX7_isStock_9 rfl (fun hc => ?_) (fun hc => ?_)
    · replace h := h.1 hc
      refine qX_iconst dX7_isStock_27 (i32_of rfl) ?_
      exact qX_zreturn rfl dX7_isStock_28 rfl ⟨Nat.le_refl _, Nat.le_refl _⟩ (by decide) h
    · replace h := h.2 hc
      refine qX_iload_n 1 dX7_isStock_12 rfl rfl ?_
      refine qX_aload_n 0 dX7_isStock_13 rfl rfl (by decide) ?_
      refine qX_getR 7 8 _ dX7_isStock_14 fs_X7_60 sh0 ?_
      have hO5 := h.1
      replace h := h.2
      refine qX_getI 0 16 _ dX7_isStock_17 fs_X7_338 hO5 ?_
      refine qX_icmp_ge 27 dX7_isStock_20 rfl (fun hc => ?_) (fun hc => ?_)
      · replace h := h.1 hc
        refine qX_iconst dX7_isStock_27 (i32_of rfl) ?_
        exact qX_zreturn rfl dX7_isStock_28 rfl ⟨Nat.le_refl _, Nat.le_refl _⟩ (by decide) h
      · replace h := h.2 hc
        refine qX_iconst dX7_isStock_23 (i32_of rfl) ?_
        refine qX_goto 28 dX7_isStock_24 rfl ?_
        exact qX_zreturn rfl dX7_isStock_28 rfl ⟨Nat.le_refl _, Nat.le_refl _⟩ (by decide) h
set_option maxRecDepth 20000 in
theorem e_X7_isTrolley {Post : Int → Rf → Mem → Prop} {ρ : Rf} {μ : Mem} {x1 : Int}
  (h : ((μ 0 10 = 0 → Post 0 ρ μ) ∧ (μ 0 10 ≠ 0 → ((x1 < 0 → Post 0 ρ μ) ∧ (0 ≤ x1 → isO 0 (ρ 0 8) ∧ ((μ (ρ 0 8) 17 ≤ x1 → Post 0 ρ μ) ∧ (x1 < μ (ρ 0 8) 17 → Post 1 ρ μ))))))) : qE mX7_isTrolley GG GG [qP 0, qI x1] ρ μ Post := by
  refine qE_intro pl_X7_isTrolley (Nat.le_of_ble_eq_true rfl) (Nat.le_refl _) ?_
  refine qX_aload_n 0 dX7_isTrolley_0 rfl rfl (by decide) ?_
  refine qX_getI 7 10 _ dX7_isTrolley_1 fs_X7_106 sh0 ?_
  refine qX_if_eq 26 dX7_isTrolley_4 rfl (fun hc => ?_) (fun hc => ?_)
  · replace h := h.1 hc
    refine qX_iconst dX7_isTrolley_26 (i32_of rfl) ?_
    exact qX_zreturn rfl dX7_isTrolley_27 rfl ⟨Nat.le_refl _, Nat.le_refl _⟩ (by decide) h
  · replace h := h.2 hc
    refine qX_iload_n 1 dX7_isTrolley_7 rfl rfl ?_
    refine qX_if_lt 26 dX7_isTrolley_8 rfl (fun hc => ?_) (fun hc => ?_)
    · replace h := h.1 hc
      refine qX_iconst dX7_isTrolley_26 (i32_of rfl) ?_
      exact qX_zreturn rfl dX7_isTrolley_27 rfl ⟨Nat.le_refl _, Nat.le_refl _⟩ (by decide) h
    · replace h := h.2 hc
      refine qX_iload_n 1 dX7_isTrolley_11 rfl rfl ?_
      refine qX_aload_n 0 dX7_isTrolley_12 rfl rfl (by decide) ?_
      refine qX_getR 7 8 _ dX7_isTrolley_13 fs_X7_60 sh0 ?_
      have hO1 := h.1
      replace h := h.2
      refine qX_getI 0 17 _ dX7_isTrolley_16 fs_X7_113 hO1 ?_
      refine qX_icmp_ge 26 dX7_isTrolley_19 rfl (fun hc => ?_) (fun hc => ?_)
      · replace h := h.1 hc
        refine qX_iconst dX7_isTrolley_26 (i32_of rfl) ?_
        exact qX_zreturn rfl dX7_isTrolley_27 rfl ⟨Nat.le_refl _, Nat.le_refl _⟩ (by decide) h
      · replace h := h.2 hc
        refine qX_iconst dX7_isTrolley_22 (i32_of rfl) ?_
        refine qX_goto 27 dX7_isTrolley_23 rfl ?_
        exact qX_zreturn rfl dX7_isTrolley_27 rfl ⟨Nat.le_refl _, Nat.le_refl _⟩ (by decide) h
set_option maxRecDepth 20000 in
theorem e_X7_isJob {Post : Int → Rf → Mem → Prop} {ρ : Rf} {μ : Mem} {x1 : Int}
  (h : ((μ 0 10 = 0 → Post 0 ρ μ) ∧ (μ 0 10 ≠ 0 → ((x1 < 0 → Post 0 ρ μ) ∧ (0 ≤ x1 → isO 6 (ρ 0 9) ∧ ((μ (ρ 0 9) 6 ≤ x1 → Post 0 ρ μ) ∧ (x1 < μ (ρ 0 9) 6 → Post 1 ρ μ))))))) : qE mX7_isJob GG GG [qP 0, qI x1] ρ μ Post := by
  refine qE_intro pl_X7_isJob (Nat.le_of_ble_eq_true rfl) (Nat.le_refl _) ?_
  refine qX_aload_n 0 dX7_isJob_0 rfl rfl (by decide) ?_
  refine qX_getI 7 10 _ dX7_isJob_1 fs_X7_106 sh0 ?_
  refine qX_if_eq 26 dX7_isJob_4 rfl (fun hc => ?_) (fun hc => ?_)
  · replace h := h.1 hc
    refine qX_iconst dX7_isJob_26 (i32_of rfl) ?_
    exact qX_zreturn rfl dX7_isJob_27 rfl ⟨Nat.le_refl _, Nat.le_refl _⟩ (by decide) h
  · replace h := h.2 hc
    refine qX_iload_n 1 dX7_isJob_7 rfl rfl ?_
    refine qX_if_lt 26 dX7_isJob_8 rfl (fun hc => ?_) (fun hc => ?_)
    · replace h := h.1 hc
      refine qX_iconst dX7_isJob_26 (i32_of rfl) ?_
      exact qX_zreturn rfl dX7_isJob_27 rfl ⟨Nat.le_refl _, Nat.le_refl _⟩ (by decide) h
    · replace h := h.2 hc
      refine qX_iload_n 1 dX7_isJob_11 rfl rfl ?_
      refine qX_aload_n 0 dX7_isJob_12 rfl rfl (by decide) ?_
      refine qX_getR 7 9 _ dX7_isJob_13 fs_X7_64 sh0 ?_
      have hO1 := h.1
      replace h := h.2
      refine qX_getI 6 6 _ dX7_isJob_16 fs_X7_89 hO1 ?_
      refine qX_icmp_ge 26 dX7_isJob_19 rfl (fun hc => ?_) (fun hc => ?_)
      · replace h := h.1 hc
        refine qX_iconst dX7_isJob_26 (i32_of rfl) ?_
        exact qX_zreturn rfl dX7_isJob_27 rfl ⟨Nat.le_refl _, Nat.le_refl _⟩ (by decide) h
      · replace h := h.2 hc
        refine qX_iconst dX7_isJob_22 (i32_of rfl) ?_
        refine qX_goto 27 dX7_isJob_23 rfl ?_
        exact qX_zreturn rfl dX7_isJob_27 rfl ⟨Nat.le_refl _, Nat.le_refl _⟩ (by decide) h
set_option maxRecDepth 20000 in
theorem e_X7_isJobQuantity {Post : Int → Rf → Mem → Prop} {ρ : Rf} {μ : Mem} {x0 : Int}
  (h : ((x0 < 1 → Post 0 ρ μ) ∧ (1 ≤ x0 → ((99 < x0 → Post 0 ρ μ) ∧ (x0 ≤ 99 → Post 1 ρ μ))))) : qE mX7_isJobQuantity GG GG [qI x0] ρ μ Post := by
  refine qE_intro pl_X7_isJobQuantity (Nat.le_of_ble_eq_true rfl) (Nat.le_refl _) ?_
  refine qX_iload_n 0 dX7_isJobQuantity_0 rfl rfl ?_
  refine qX_iconst dX7_isJobQuantity_1 (i32_of rfl) ?_
  refine qX_icmp_lt 15 dX7_isJobQuantity_2 rfl (fun hc => ?_) (fun hc => ?_)
  · replace h := h.1 hc
    refine qX_iconst dX7_isJobQuantity_15 (i32_of rfl) ?_
    exact qX_zreturn rfl dX7_isJobQuantity_16 rfl ⟨Nat.le_refl _, Nat.le_refl _⟩ (by decide) h
  · replace h := h.2 hc
    refine qX_iload_n 0 dX7_isJobQuantity_5 rfl rfl ?_
    refine qX_bip dX7_isJobQuantity_6 rfl ?_
    refine qX_icmp_gt 15 dX7_isJobQuantity_8 rfl (fun hc => ?_) (fun hc => ?_)
    · replace h := h.1 hc
      refine qX_iconst dX7_isJobQuantity_15 (i32_of rfl) ?_
      exact qX_zreturn rfl dX7_isJobQuantity_16 rfl ⟨Nat.le_refl _, Nat.le_refl _⟩ (by decide) h
    · replace h := h.2 hc
      refine qX_iconst dX7_isJobQuantity_11 (i32_of rfl) ?_
      refine qX_goto 16 dX7_isJobQuantity_12 rfl ?_
      exact qX_zreturn rfl dX7_isJobQuantity_16 rfl ⟨Nat.le_refl _, Nat.le_refl _⟩ (by decide) h
set_option maxRecDepth 20000 in
theorem e_X7_doorIndex {Post : Int → Rf → Mem → Prop} {ρ : Rf} {μ : Mem} {x0 : Int} {x1 : Int}
  (h : i32 (x0 * 5) ∧ i32 ((x0 * 5) + x1) ∧ Post ((x0 * 5) + x1) ρ μ) : qE mX7_doorIndex GG GG [qI x0, qI x1] ρ μ Post := by
  refine qE_intro pl_X7_doorIndex (Nat.le_of_ble_eq_true rfl) (Nat.le_refl _) ?_
  refine qX_iload_n 0 dX7_doorIndex_0 rfl rfl ?_
  refine qX_iconst dX7_doorIndex_1 (i32_of rfl) ?_
  refine qR_imul dX7_doorIndex_2 h.1 ?_
  replace h := h.2
  refine qX_iload_n 1 dX7_doorIndex_3 rfl rfl ?_
  refine qR_iadd dX7_doorIndex_4 h.1 ?_
  replace h := h.2
  exact qX_ireturn rfl dX7_doorIndex_5 rfl ⟨Nat.le_refl _, Nat.le_refl _⟩ h
set_option maxRecDepth 20000 in
theorem e_X7_stockIndex {Post : Int → Rf → Mem → Prop} {ρ : Rf} {μ : Mem} {x0 : Int} {x1 : Int}
  (h : i32 (x0 * 4) ∧ i32 ((x0 * 4) + x1) ∧ Post ((x0 * 4) + x1) ρ μ) : qE mX7_stockIndex GG GG [qI x0, qI x1] ρ μ Post := by
  refine qE_intro pl_X7_stockIndex (Nat.le_of_ble_eq_true rfl) (Nat.le_refl _) ?_
  refine qX_iload_n 0 dX7_stockIndex_0 rfl rfl ?_
  refine qX_iconst dX7_stockIndex_1 (i32_of rfl) ?_
  refine qR_imul dX7_stockIndex_2 h.1 ?_
  replace h := h.2
  refine qX_iload_n 1 dX7_stockIndex_3 rfl rfl ?_
  refine qR_iadd dX7_stockIndex_4 h.1 ?_
  replace h := h.2
  exact qX_ireturn rfl dX7_stockIndex_5 rfl ⟨Nat.le_refl _, Nat.le_refl _⟩ h
set_option maxRecDepth 20000 in
theorem e_X7_handedAt {Post : Int → Rf → Mem → Prop} {ρ : Rf} {μ : Mem} {x1 : Int} {x2 : Int}
  (h : qX mX7_handedAt GG Post GG (0, 0) 5 [some (qP 0), some (qI x1), some (qI x2), some (qI 0), some (qI 0)] [] ρ μ) : qE mX7_handedAt GG GG [qP 0, qI x1, qI x2] ρ μ Post := by
  refine qE_intro pl_X7_handedAt (Nat.le_of_ble_eq_true rfl) (Nat.le_refl _) ?_
  refine qX_iconst dX7_handedAt_0 (i32_of rfl) ?_
  refine qX_istore_n 3 dX7_handedAt_1 rfl (Nat.le_of_ble_eq_true rfl) rfl ?_
  refine qX_iconst dX7_handedAt_2 (i32_of rfl) ?_
  refine qX_istore dX7_handedAt_3 (Nat.le_of_ble_eq_true rfl) rfl ?_
  exact qX_mask [true, true, true, true, true] h
set_option maxRecDepth 20000 in
theorem w_X7_handedAt_5 {Post : Int → Rf → Mem → Prop} {ρ : Rf} {μ : Mem} {x1 : Int} {x2 : Int} {x3 : Int} {x4 : Int}
  (h : isO 6 (ρ 0 9) ∧ ((μ (ρ 0 9) 6 ≤ x4 → Post x3 ρ μ) ∧ (x4 < μ (ρ 0 9) 6 → (0 ≤ x4 ∧ x4 < 20) ∧ ((μ (ρ 0 9 + 2) x4 ≠ x1 → i32 (x4 + 1) ∧ qX mX7_handedAt GG Post GG (0, 0) 5 [some (qP 0), some (qI x1), some (qI x2), some (qI x3), some (qI (x4 + 1))] [] ρ μ) ∧ (μ (ρ 0 9 + 2) x4 = x1 → (0 ≤ x4 ∧ x4 < 20) ∧ ((μ (ρ 0 9 + 3) x4 ≠ x2 → i32 (x4 + 1) ∧ qX mX7_handedAt GG Post GG (0, 0) 5 [some (qP 0), some (qI x1), some (qI x2), some (qI x3), some (qI (x4 + 1))] [] ρ μ) ∧ (μ (ρ 0 9 + 3) x4 = x2 → (0 ≤ x4 ∧ x4 < 20) ∧ i32 (x3 + (μ 34 x4)) ∧ i32 (x4 + 1) ∧ qX mX7_handedAt GG Post GG (0, 0) 5 [some (qP 0), some (qI x1), some (qI x2), some (qI (x3 + (μ 34 x4))), some (qI (x4 + 1))] [] ρ μ))))))) : qX mX7_handedAt GG Post GG (0, 0) 5 [some (qP 0), some (qI x1), some (qI x2), some (qI x3), some (qI x4)] [] ρ μ := by
  refine qX_iload dX7_handedAt_5 rfl ?_
  refine qX_aload_n 0 dX7_handedAt_7 rfl rfl (by decide) ?_
  refine qX_getR 7 9 _ dX7_handedAt_8 fs_X7_64 sh0 ?_
  have hO1 := h.1
  replace h := h.2
  refine qX_getI 6 6 _ dX7_handedAt_11 fs_X7_89 hO1 ?_
  refine qX_icmp_ge 64 dX7_handedAt_14 rfl (fun hc => ?_) (fun hc => ?_)
  · replace h := h.1 hc
    refine qX_iload_n 3 dX7_handedAt_64 rfl rfl ?_
    exact qX_ireturn rfl dX7_handedAt_65 rfl ⟨Nat.le_refl _, Nat.le_refl _⟩ h
  · replace h := h.2 hc
    refine qX_aload_n 0 dX7_handedAt_17 rfl rfl (by decide) ?_
    refine qX_getR 7 9 _ dX7_handedAt_18 fs_X7_64 sh0 ?_
    refine qX_getS 6 1 _ 1 dX7_handedAt_21 fs_X7_185 rfl rfl hO1 rfl ?_
    refine qX_iload dX7_handedAt_24 rfl ?_
    refine qX_iald dX7_handedAt_26 (ar6_1 hO1) h.1 ?_
    replace h := h.2
    refine qX_iload_n 1 dX7_handedAt_27 rfl rfl ?_
    refine qX_icmp_ne 58 dX7_handedAt_28 rfl (fun hc => ?_) (fun hc => ?_)
    · replace h := h.1 hc
      refine qR_iinc dX7_handedAt_58 rfl (Nat.le_of_ble_eq_true rfl) rfl h.1 ?_
      replace h := h.2
      refine qX_goto 5 dX7_handedAt_61 rfl ?_
      exact qX_mask [true, true, true, true, true] h
    · replace h := h.2 hc
      refine qX_aload_n 0 dX7_handedAt_31 rfl rfl (by decide) ?_
      refine qX_getR 7 9 _ dX7_handedAt_32 fs_X7_64 sh0 ?_
      refine qX_getS 6 2 _ 2 dX7_handedAt_35 fs_X7_341 rfl rfl hO1 rfl ?_
      refine qX_iload dX7_handedAt_38 rfl ?_
      refine qX_iald dX7_handedAt_40 (ar6_2 hO1) h.1 ?_
      replace h := h.2
      refine qX_iload_n 2 dX7_handedAt_41 rfl rfl ?_
      refine qX_icmp_ne 58 dX7_handedAt_42 rfl (fun hc => ?_) (fun hc => ?_)
      · replace h := h.1 hc
        refine qR_iinc dX7_handedAt_58 rfl (Nat.le_of_ble_eq_true rfl) rfl h.1 ?_
        replace h := h.2
        refine qX_goto 5 dX7_handedAt_61 rfl ?_
        exact qX_mask [true, true, true, true, true] h
      · replace h := h.2 hc
        refine qX_iload_n 3 dX7_handedAt_45 rfl rfl ?_
        refine qX_aload_n 0 dX7_handedAt_46 rfl rfl (by decide) ?_
        refine qX_getS 7 1 _ 26 dX7_handedAt_47 fs_X7_19 rfl rfl sh0 (x := 27) rfl ?_
        refine qX_getS 3 6 _ 6 dX7_handedAt_50 fs_X7_155 rfl rfl sh27 (x := 34) rfl ?_
        refine qX_iload dX7_handedAt_53 rfl ?_
        refine qX_iald dX7_handedAt_55 sh34 h.1 ?_
        replace h := h.2
        refine qR_iadd dX7_handedAt_56 h.1 ?_
        replace h := h.2
        refine qX_istore_n 3 dX7_handedAt_57 rfl (Nat.le_of_ble_eq_true rfl) rfl ?_
        refine qR_iinc dX7_handedAt_58 rfl (Nat.le_of_ble_eq_true rfl) rfl h.1 ?_
        replace h := h.2
        refine qX_goto 5 dX7_handedAt_61 rfl ?_
        exact qX_mask [true, true, true, true, true] h
set_option maxRecDepth 20000 in
theorem e_X7_handedToTrain {Post : Int → Rf → Mem → Prop} {ρ : Rf} {μ : Mem} {x1 : Int} {x2 : Int}
  (h : qX mX7_handedToTrain GG Post GG (0, 0) 5 [some (qP 0), some (qI x1), some (qI x2), some (qI 0), some (qI 0)] [] ρ μ) : qE mX7_handedToTrain GG GG [qP 0, qI x1, qI x2] ρ μ Post := by
  refine qE_intro pl_X7_handedToTrain (Nat.le_of_ble_eq_true rfl) (Nat.le_refl _) ?_
  refine qX_iconst dX7_handedToTrain_0 (i32_of rfl) ?_
  refine qX_istore_n 3 dX7_handedToTrain_1 rfl (Nat.le_of_ble_eq_true rfl) rfl ?_
  refine qX_iconst dX7_handedToTrain_2 (i32_of rfl) ?_
  refine qX_istore dX7_handedToTrain_3 (Nat.le_of_ble_eq_true rfl) rfl ?_
  exact qX_mask [true, true, true, true, true] h
set_option maxRecDepth 20000 in
theorem w_X7_handedToTrain_5 {Post : Int → Rf → Mem → Prop} {ρ : Rf} {μ : Mem} {x1 : Int} {x2 : Int} {x3 : Int} {x4 : Int}
  (h : isO 0 (ρ 0 8) ∧ (0 ≤ x1 ∧ x1 < 2) ∧ ((μ (ρ 0 8 + 3) x1 ≤ x4 → Post x3 ρ μ) ∧ (x4 < μ (ρ 0 8 + 3) x1 → ∃ P : Int → Rf → Mem → Prop, qE mX7_doorIndex GG GG [qI x1, qI x4] ρ μ P ∧ ∀ (z2 : Int) (ρ3 : Rf) (μ4 : Mem), P z2 ρ3 μ4 → ∃ P : Int → Rf → Mem → Prop, qE mX7_handedAt GG GG [qP 0, qI z2, qI x2] ρ3 μ4 P ∧ ∀ (z6 : Int) (ρ7 : Rf) (μ8 : Mem), P z6 ρ7 μ8 → i32 (x3 + z6) ∧ i32 (x4 + 1) ∧ qX mX7_handedToTrain GG Post GG (0, 0) 5 [some (qP 0), some (qI x1), some (qI x2), some (qI (x3 + z6)), some (qI (x4 + 1))] [] ρ7 μ8))) : qX mX7_handedToTrain GG Post GG (0, 0) 5 [some (qP 0), some (qI x1), some (qI x2), some (qI x3), some (qI x4)] [] ρ μ := by
  refine qX_iload dX7_handedToTrain_5 rfl ?_
  refine qX_aload_n 0 dX7_handedToTrain_7 rfl rfl (by decide) ?_
  refine qX_getR 7 8 _ dX7_handedToTrain_8 fs_X7_60 sh0 ?_
  have hO1 := h.1
  replace h := h.2
  refine qX_getS 0 2 _ 2 dX7_handedToTrain_11 fs_X7_102 rfl rfl hO1 rfl ?_
  refine qX_iload_n 1 dX7_handedToTrain_14 rfl rfl ?_
  refine qX_iald dX7_handedToTrain_15 (ar0_2 hO1) h.1 ?_
  replace h := h.2
  refine qX_icmp_ge 39 dX7_handedToTrain_16 rfl (fun hc => ?_) (fun hc => ?_)
  · replace h := h.1 hc
    refine qX_iload_n 3 dX7_handedToTrain_39 rfl rfl ?_
    exact qX_ireturn rfl dX7_handedToTrain_40 rfl ⟨Nat.le_refl _, Nat.le_refl _⟩ h
  · replace h := h.2 hc
    refine qX_iload_n 3 dX7_handedToTrain_19 rfl rfl ?_
    refine qX_aload_n 0 dX7_handedToTrain_20 rfl rfl (by decide) ?_
    refine qX_iload_n 1 dX7_handedToTrain_21 rfl rfl ?_
    refine qX_iload dX7_handedToTrain_22 rfl ?_
    obtain ⟨P, hE5, h⟩ := h
    refine qN_callS mX7_doorIndex [_, _] [_, _] dX7_handedToTrain_24 cm_X7_134 ⟨(Nat.le_of_ble_eq_true rfl), (Nat.le_of_ble_eq_true rfl)⟩ rfl rfl (Nat.le_of_ble_eq_true rfl) ⟨rfl, rfl⟩ hE5 (fun z2 ρ3 μ4 hz => ?_)
    replace h := h _ _ _ hz
    refine qX_iload_n 2 dX7_handedToTrain_27 rfl rfl ?_
    obtain ⟨P, hE9, h⟩ := h
    refine qN_callV mX7_handedAt [_, _] _ 7 [_] dX7_handedToTrain_28 cm_X7_164 ⟨(Nat.le_of_ble_eq_true rfl), (Nat.le_of_ble_eq_true rfl)⟩ rfl rfl sh0 (Nat.le_of_ble_eq_true rfl) ⟨rfl, rfl⟩ hE9 (fun z6 ρ7 μ8 hz => ?_)
    replace h := h _ _ _ hz
    refine qR_iadd dX7_handedToTrain_31 h.1 ?_
    replace h := h.2
    refine qX_istore_n 3 dX7_handedToTrain_32 rfl (Nat.le_of_ble_eq_true rfl) rfl ?_
    refine qR_iinc dX7_handedToTrain_33 rfl (Nat.le_of_ble_eq_true rfl) rfl h.1 ?_
    replace h := h.2
    refine qX_goto 5 dX7_handedToTrain_36 rfl ?_
    exact qX_mask [true, true, true, true, true] h
set_option maxRecDepth 20000 in
theorem e_X7_wantedByTrain {Post : Int → Rf → Mem → Prop} {ρ : Rf} {μ : Mem} {x1 : Int} {x2 : Int}
  (h : qX mX7_wantedByTrain GG Post GG (0, 0) 5 [some (qP 0), some (qI x1), some (qI x2), some (qI 0), some (qI 0)] [] ρ μ) : qE mX7_wantedByTrain GG GG [qP 0, qI x1, qI x2] ρ μ Post := by
  refine qE_intro pl_X7_wantedByTrain (Nat.le_of_ble_eq_true rfl) (Nat.le_refl _) ?_
  refine qX_iconst dX7_wantedByTrain_0 (i32_of rfl) ?_
  refine qX_istore_n 3 dX7_wantedByTrain_1 rfl (Nat.le_of_ble_eq_true rfl) rfl ?_
  refine qX_iconst dX7_wantedByTrain_2 (i32_of rfl) ?_
  refine qX_istore dX7_wantedByTrain_3 (Nat.le_of_ble_eq_true rfl) rfl ?_
  exact qX_mask [true, true, true, true, true] h
set_option maxRecDepth 20000 in
theorem w_X7_wantedByTrain_5 {Post : Int → Rf → Mem → Prop} {ρ : Rf} {μ : Mem} {x1 : Int} {x2 : Int} {x3 : Int} {x4 : Int}
  (h : isO 0 (ρ 0 8) ∧ (0 ≤ x1 ∧ x1 < 2) ∧ ((μ (ρ 0 8 + 3) x1 ≤ x4 → Post x3 ρ μ) ∧ (x4 < μ (ρ 0 8 + 3) x1 → ∃ P : Int → Rf → Mem → Prop, qE mX7_doorIndex GG GG [qI x1, qI x4] ρ μ P ∧ ∀ (z2 : Int) (ρ3 : Rf) (μ4 : Mem), P z2 ρ3 μ4 → isO 0 (ρ 0 8) ∧ ∃ P : Int → Rf → Mem → Prop, qE mX0_wanted GG GG [qP (ρ 0 8), qI z2, qI x2] ρ3 μ4 P ∧ ∀ (z7 : Int) (ρ8 : Rf) (μ9 : Mem), P z7 ρ8 μ9 → i32 (x3 + z7) ∧ i32 (x4 + 1) ∧ qX mX7_wantedByTrain GG Post GG (0, 0) 5 [some (qP 0), some (qI x1), some (qI x2), some (qI (x3 + z7)), some (qI (x4 + 1))] [] ρ8 μ9))) : qX mX7_wantedByTrain GG Post GG (0, 0) 5 [some (qP 0), some (qI x1), some (qI x2), some (qI x3), some (qI x4)] [] ρ μ := by
  refine qX_iload dX7_wantedByTrain_5 rfl ?_
  refine qX_aload_n 0 dX7_wantedByTrain_7 rfl rfl (by decide) ?_
  refine qX_getR 7 8 _ dX7_wantedByTrain_8 fs_X7_60 sh0 ?_
  have hO1 := h.1
  replace h := h.2
  refine qX_getS 0 2 _ 2 dX7_wantedByTrain_11 fs_X7_102 rfl rfl hO1 rfl ?_
  refine qX_iload_n 1 dX7_wantedByTrain_14 rfl rfl ?_
  refine qX_iald dX7_wantedByTrain_15 (ar0_2 hO1) h.1 ?_
  replace h := h.2
  refine qX_icmp_ge 42 dX7_wantedByTrain_16 rfl (fun hc => ?_) (fun hc => ?_)
  · replace h := h.1 hc
    refine qX_iload_n 3 dX7_wantedByTrain_42 rfl rfl ?_
    exact qX_ireturn rfl dX7_wantedByTrain_43 rfl ⟨Nat.le_refl _, Nat.le_refl _⟩ h
  · replace h := h.2 hc
    refine qX_iload_n 3 dX7_wantedByTrain_19 rfl rfl ?_
    refine qX_aload_n 0 dX7_wantedByTrain_20 rfl rfl (by decide) ?_
    refine qX_getR 7 8 _ dX7_wantedByTrain_21 fs_X7_60 sh0 ?_
    refine qX_iload_n 1 dX7_wantedByTrain_24 rfl rfl ?_
    refine qX_iload dX7_wantedByTrain_25 rfl ?_
    obtain ⟨P, hE5, h⟩ := h
    refine qN_callS mX7_doorIndex [_, _] [_, _] dX7_wantedByTrain_27 cm_X7_134 ⟨(Nat.le_of_ble_eq_true rfl), (Nat.le_of_ble_eq_true rfl)⟩ rfl rfl (Nat.le_of_ble_eq_true rfl) ⟨rfl, rfl⟩ hE5 (fun z2 ρ3 μ4 hz => ?_)
    replace h := h _ _ _ hz
    refine qX_iload_n 2 dX7_wantedByTrain_30 rfl rfl ?_
    have hO6 := h.1
    replace h := h.2
    obtain ⟨P, hE10, h⟩ := h
    refine qN_callV mX0_wanted [_, _] _ 0 [_] dX7_wantedByTrain_31 cm_X7_137 ⟨(Nat.le_of_ble_eq_true rfl), (Nat.le_of_ble_eq_true rfl)⟩ rfl rfl hO6 (Nat.le_of_ble_eq_true rfl) ⟨rfl, rfl⟩ hE10 (fun z7 ρ8 μ9 hz => ?_)
    replace h := h _ _ _ hz
    refine qR_iadd dX7_wantedByTrain_34 h.1 ?_
    replace h := h.2
    refine qX_istore_n 3 dX7_wantedByTrain_35 rfl (Nat.le_of_ble_eq_true rfl) rfl ?_
    refine qR_iinc dX7_wantedByTrain_36 rfl (Nat.le_of_ble_eq_true rfl) rfl h.1 ?_
    replace h := h.2
    refine qX_goto 5 dX7_wantedByTrain_39 rfl ?_
    exact qX_mask [true, true, true, true, true] h
set_option maxRecDepth 20000 in
theorem e_X7_addClaims {Post : Int → Rf → Mem → Prop} {ρ : Rf} {μ : Mem} {x1 : Int} {x2 : Int}
  (h : qX mX7_addClaims GG Post GG (0, 0) 2 [some (qP 0), some (qI x1), some (qI x2), some (qI 0)] [] ρ μ) : qE mX7_addClaims GG GG [qP 0, qI x1, qI x2] ρ μ Post := by
  refine qE_intro pl_X7_addClaims (Nat.le_of_ble_eq_true rfl) (Nat.le_refl _) ?_
  refine qX_iconst dX7_addClaims_0 (i32_of rfl) ?_
  refine qX_istore_n 3 dX7_addClaims_1 rfl (Nat.le_of_ble_eq_true rfl) rfl ?_
  exact qX_mask [true, true, true, true] h
set_option maxRecDepth 20000 in
theorem w_X7_addClaims_2 {Post : Int → Rf → Mem → Prop} {ρ : Rf} {μ : Mem} {x1 : Int} {x2 : Int} {x3 : Int}
  (h : isO 0 (ρ 0 8) ∧ (0 ≤ x1 ∧ x1 < 2) ∧ ((μ (ρ 0 8 + 3) x1 ≤ x3 → Post 0 ρ μ) ∧ (x3 < μ (ρ 0 8 + 3) x1 → ∃ P : Int → Rf → Mem → Prop, qE mX7_doorIndex GG GG [qI x1, qI x3] ρ μ P ∧ ∀ (z2 : Int) (ρ3 : Rf) (μ4 : Mem), P z2 ρ3 μ4 → isO 0 (ρ 0 8) ∧ ∃ P : Int → Rf → Mem → Prop, qE mX0_wanted GG GG [qP (ρ 0 8), qI z2, qI x2] ρ3 μ4 P ∧ ∀ (z7 : Int) (ρ8 : Rf) (μ9 : Mem), P z7 ρ8 μ9 → ∃ P : Int → Rf → Mem → Prop, qE mX4_addClaim GG GG [qP 151, qI z7] ρ8 μ9 P ∧ ∀ (z11 : Int) (ρ12 : Rf) (μ13 : Mem), P z11 ρ12 μ13 → i32 (x3 + 1) ∧ qX mX7_addClaims GG Post GG (0, 0) 2 [some (qP 0), some (qI x1), some (qI x2), some (qI (x3 + 1))] [] ρ12 μ13))) : qX mX7_addClaims GG Post GG (0, 0) 2 [some (qP 0), some (qI x1), some (qI x2), some (qI x3)] [] ρ μ := by
  refine qX_iload_n 3 dX7_addClaims_2 rfl rfl ?_
  refine qX_aload_n 0 dX7_addClaims_3 rfl rfl (by decide) ?_
  refine qX_getR 7 8 _ dX7_addClaims_4 fs_X7_60 sh0 ?_
  have hO1 := h.1
  replace h := h.2
  refine qX_getS 0 2 _ 2 dX7_addClaims_7 fs_X7_102 rfl rfl hO1 rfl ?_
  refine qX_iload_n 1 dX7_addClaims_10 rfl rfl ?_
  refine qX_iald dX7_addClaims_11 (ar0_2 hO1) h.1 ?_
  replace h := h.2
  refine qX_icmp_ge 41 dX7_addClaims_12 rfl (fun hc => ?_) (fun hc => ?_)
  · replace h := h.1 hc
    exact qX_return rfl dX7_addClaims_41 rfl ⟨Nat.le_refl _, Nat.le_refl _⟩ h
  · replace h := h.2 hc
    refine qX_aload_n 0 dX7_addClaims_15 rfl rfl (by decide) ?_
    refine qX_getS 7 7 _ 150 dX7_addClaims_16 fs_X7_53 rfl rfl sh0 (x := 151) rfl ?_
    refine qX_aload_n 0 dX7_addClaims_19 rfl rfl (by decide) ?_
    refine qX_getR 7 8 _ dX7_addClaims_20 fs_X7_60 sh0 ?_
    refine qX_iload_n 1 dX7_addClaims_23 rfl rfl ?_
    refine qX_iload_n 3 dX7_addClaims_24 rfl rfl ?_
    obtain ⟨P, hE5, h⟩ := h
    refine qN_callS mX7_doorIndex [_, _] [_, _] dX7_addClaims_25 cm_X7_134 ⟨(Nat.le_of_ble_eq_true rfl), (Nat.le_of_ble_eq_true rfl)⟩ rfl rfl (Nat.le_of_ble_eq_true rfl) ⟨rfl, rfl⟩ hE5 (fun z2 ρ3 μ4 hz => ?_)
    replace h := h _ _ _ hz
    refine qX_iload_n 2 dX7_addClaims_28 rfl rfl ?_
    have hO6 := h.1
    replace h := h.2
    obtain ⟨P, hE10, h⟩ := h
    refine qN_callV mX0_wanted [_, _] _ 0 [_] dX7_addClaims_29 cm_X7_137 ⟨(Nat.le_of_ble_eq_true rfl), (Nat.le_of_ble_eq_true rfl)⟩ rfl rfl hO6 (Nat.le_of_ble_eq_true rfl) ⟨rfl, rfl⟩ hE10 (fun z7 ρ8 μ9 hz => ?_)
    replace h := h _ _ _ hz
    obtain ⟨P, hE14, h⟩ := h
    refine qN_callV mX4_addClaim [_] _ 4 [] dX7_addClaims_32 cm_X7_344 ⟨(Nat.le_of_ble_eq_true rfl), (Nat.le_of_ble_eq_true rfl)⟩ rfl rfl sh151 (Nat.le_of_ble_eq_true rfl) ⟨rfl, rfl⟩ hE14 (fun z11 ρ12 μ13 hz => ?_)
    replace h := h _ _ _ hz
    refine qR_iinc dX7_addClaims_35 rfl (Nat.le_of_ble_eq_true rfl) rfl h.1 ?_
    replace h := h.2
    refine qX_goto 2 dX7_addClaims_38 rfl ?_
    exact qX_mask [true, true, true, true] h
set_option maxRecDepth 20000 in
theorem e_X7_shareInTrain {Post : Int → Rf → Mem → Prop} {ρ : Rf} {μ : Mem} {x1 : Int} {x2 : Int}
  (h : ∃ P : Int → Rf → Mem → Prop, qE mX4_clear GG GG [qP 151] ρ μ P ∧ ∀ (z1 : Int) (ρ2 : Rf) (μ3 : Mem), P z1 ρ2 μ3 → ∃ P : Int → Rf → Mem → Prop, qE mX7_addClaims GG GG [qP 0, qI x1, qI x2] ρ2 μ3 P ∧ ∀ (z5 : Int) (ρ6 : Rf) (μ7 : Mem), P z5 ρ6 μ7 → ∃ P : Int → Rf → Mem → Prop, qE mX7_handedToTrain GG GG [qP 0, qI x1, qI x2] ρ6 μ7 P ∧ ∀ (z9 : Int) (ρ10 : Rf) (μ11 : Mem), P z9 ρ10 μ11 → ∃ P : Int → Rf → Mem → Prop, qE mX4_shareOut GG GG [qP 151, qI z9] ρ10 μ11 P ∧ ∀ (z13 : Int) (ρ14 : Rf) (μ15 : Mem), P z13 ρ14 μ15 → Post 0 ρ14 μ15) : qE mX7_shareInTrain GG GG [qP 0, qI x1, qI x2] ρ μ Post := by
  refine qE_intro pl_X7_shareInTrain (Nat.le_of_ble_eq_true rfl) (Nat.le_refl _) ?_
  refine qX_aload_n 0 dX7_shareInTrain_0 rfl rfl (by decide) ?_
  refine qX_getS 7 7 _ 150 dX7_shareInTrain_1 fs_X7_53 rfl rfl sh0 (x := 151) rfl ?_
  obtain ⟨P, hE4, h⟩ := h
  refine qN_callV mX4_clear [] _ 4 [] dX7_shareInTrain_4 cm_X7_212 ⟨(Nat.le_of_ble_eq_true rfl), (Nat.le_of_ble_eq_true rfl)⟩ rfl rfl sh151 (Nat.le_of_ble_eq_true rfl) ⟨rfl, rfl⟩ hE4 (fun z1 ρ2 μ3 hz => ?_)
  replace h := h _ _ _ hz
  refine qX_aload_n 0 dX7_shareInTrain_7 rfl rfl (by decide) ?_
  refine qX_iload_n 1 dX7_shareInTrain_8 rfl rfl ?_
  refine qX_iload_n 2 dX7_shareInTrain_9 rfl rfl ?_
  obtain ⟨P, hE8, h⟩ := h
  refine qN_callV mX7_addClaims [_, _] _ 7 [] dX7_shareInTrain_10 cm_X7_215 ⟨(Nat.le_of_ble_eq_true rfl), (Nat.le_of_ble_eq_true rfl)⟩ rfl rfl sh0 (Nat.le_of_ble_eq_true rfl) ⟨rfl, rfl⟩ hE8 (fun z5 ρ6 μ7 hz => ?_)
  replace h := h _ _ _ hz
  refine qX_aload_n 0 dX7_shareInTrain_13 rfl rfl (by decide) ?_
  refine qX_getS 7 7 _ 150 dX7_shareInTrain_14 fs_X7_53 rfl rfl sh0 (x := 151) rfl ?_
  refine qX_aload_n 0 dX7_shareInTrain_17 rfl rfl (by decide) ?_
  refine qX_iload_n 1 dX7_shareInTrain_18 rfl rfl ?_
  refine qX_iload_n 2 dX7_shareInTrain_19 rfl rfl ?_
  obtain ⟨P, hE12, h⟩ := h
  refine qN_callV mX7_handedToTrain [_, _] _ 7 [_] dX7_shareInTrain_20 cm_X7_218 ⟨(Nat.le_of_ble_eq_true rfl), (Nat.le_of_ble_eq_true rfl)⟩ rfl rfl sh0 (Nat.le_of_ble_eq_true rfl) ⟨rfl, rfl⟩ hE12 (fun z9 ρ10 μ11 hz => ?_)
  replace h := h _ _ _ hz
  obtain ⟨P, hE16, h⟩ := h
  refine qN_callV mX4_shareOut [_] _ 4 [] dX7_shareInTrain_23 cm_X7_221 ⟨(Nat.le_of_ble_eq_true rfl), (Nat.le_of_ble_eq_true rfl)⟩ rfl rfl sh151 (Nat.le_of_ble_eq_true rfl) ⟨rfl, rfl⟩ hE16 (fun z13 ρ14 μ15 hz => ?_)
  replace h := h _ _ _ hz
  exact qX_return rfl dX7_shareInTrain_26 rfl ⟨Nat.le_refl _, Nat.le_refl _⟩ h
set_option maxRecDepth 20000 in
theorem e_X7_coverageAbove {Post : Int → Rf → Mem → Prop} {ρ : Rf} {μ : Mem} {x1 : Int} {x2 : Int}
  (h : ∃ P : Int → Rf → Mem → Prop, qE mX7_wantedByTrain GG GG [qP 0, qI x1, qI x2] ρ μ P ∧ ∀ (z1 : Int) (ρ2 : Rf) (μ3 : Mem), P z1 ρ2 μ3 → ((z1 ≠ 0 → ∃ P : Int → Rf → Mem → Prop, qE mX7_handedToTrain GG GG [qP 0, qI x1, qI x2] ρ2 μ3 P ∧ ∀ (z5 : Int) (ρ6 : Rf) (μ7 : Mem), P z5 ρ6 μ7 → Post (min z1 z5) ρ6 μ7) ∧ (z1 = 0 → Post 1 ρ2 μ3))) : qE mX7_coverageAbove GG GG [qP 0, qI x1, qI x2] ρ μ Post := by
  refine qE_intro pl_X7_coverageAbove (Nat.le_of_ble_eq_true rfl) (Nat.le_refl _) ?_
  refine qX_aload_n 0 dX7_coverageAbove_0 rfl rfl (by decide) ?_
  refine qX_iload_n 1 dX7_coverageAbove_1 rfl rfl ?_
  refine qX_iload_n 2 dX7_coverageAbove_2 rfl rfl ?_
  obtain ⟨P, hE4, h⟩ := h
  refine qN_callV mX7_wantedByTrain [_, _] _ 7 [] dX7_coverageAbove_3 cm_X7_347 ⟨(Nat.le_of_ble_eq_true rfl), (Nat.le_of_ble_eq_true rfl)⟩ rfl rfl sh0 (Nat.le_of_ble_eq_true rfl) ⟨rfl, rfl⟩ hE4 (fun z1 ρ2 μ3 hz => ?_)
  replace h := h _ _ _ hz
  refine qX_istore_n 3 dX7_coverageAbove_6 rfl (Nat.le_of_ble_eq_true rfl) rfl ?_
  refine qX_iload_n 3 dX7_coverageAbove_7 rfl rfl ?_
  refine qX_if_ne 15 dX7_coverageAbove_8 rfl (fun hc => ?_) (fun hc => ?_)
  · replace h := h.1 hc
    refine qX_iload_n 3 dX7_coverageAbove_15 rfl rfl ?_
    refine qX_aload_n 0 dX7_coverageAbove_16 rfl rfl (by decide) ?_
    refine qX_iload_n 1 dX7_coverageAbove_17 rfl rfl ?_
    refine qX_iload_n 2 dX7_coverageAbove_18 rfl rfl ?_
    obtain ⟨P, hE8, h⟩ := h
    refine qN_callV mX7_handedToTrain [_, _] _ 7 [_] dX7_coverageAbove_19 cm_X7_218 ⟨(Nat.le_of_ble_eq_true rfl), (Nat.le_of_ble_eq_true rfl)⟩ rfl rfl sh0 (Nat.le_of_ble_eq_true rfl) ⟨rfl, rfl⟩ hE8 (fun z5 ρ6 μ7 hz => ?_)
    replace h := h _ _ _ hz
    refine qX_min dX7_coverageAbove_22 kM_X7_350 ⟨(Nat.le_of_ble_eq_true rfl), (Nat.le_of_ble_eq_true rfl)⟩ (Nat.le_of_ble_eq_true rfl) ⟨Nat.zero_le _, Nat.zero_le _⟩ ?_
    exact qX_ireturn rfl dX7_coverageAbove_25 rfl ⟨Nat.le_refl _, Nat.le_refl _⟩ h
  · replace h := h.2 hc
    refine qX_iconst dX7_coverageAbove_11 (i32_of rfl) ?_
    refine qX_goto 25 dX7_coverageAbove_12 rfl ?_
    exact qX_ireturn rfl dX7_coverageAbove_25 rfl ⟨Nat.le_refl _, Nat.le_refl _⟩ h
set_option maxRecDepth 20000 in
theorem e_X7_coverageBelow {Post : Int → Rf → Mem → Prop} {ρ : Rf} {μ : Mem} {x1 : Int} {x2 : Int}
  (h : ∃ P : Int → Rf → Mem → Prop, qE mX7_wantedByTrain GG GG [qP 0, qI x1, qI x2] ρ μ P ∧ ∀ (z1 : Int) (ρ2 : Rf) (μ3 : Mem), P z1 ρ2 μ3 → Post (max 1 z1) ρ2 μ3) : qE mX7_coverageBelow GG GG [qP 0, qI x1, qI x2] ρ μ Post := by
  refine qE_intro pl_X7_coverageBelow (Nat.le_of_ble_eq_true rfl) (Nat.le_refl _) ?_
  refine qX_iconst dX7_coverageBelow_0 (i32_of rfl) ?_
  refine qX_aload_n 0 dX7_coverageBelow_1 rfl rfl (by decide) ?_
  refine qX_iload_n 1 dX7_coverageBelow_2 rfl rfl ?_
  refine qX_iload_n 2 dX7_coverageBelow_3 rfl rfl ?_
  obtain ⟨P, hE4, h⟩ := h
  refine qN_callV mX7_wantedByTrain [_, _] _ 7 [_] dX7_coverageBelow_4 cm_X7_347 ⟨(Nat.le_of_ble_eq_true rfl), (Nat.le_of_ble_eq_true rfl)⟩ rfl rfl sh0 (Nat.le_of_ble_eq_true rfl) ⟨rfl, rfl⟩ hE4 (fun z1 ρ2 μ3 hz => ?_)
  replace h := h _ _ _ hz
  refine qX_max dX7_coverageBelow_7 kM_X7_174 ⟨(Nat.le_of_ble_eq_true rfl), (Nat.le_of_ble_eq_true rfl)⟩ (Nat.le_of_ble_eq_true rfl) ⟨Nat.zero_le _, Nat.zero_le _⟩ ?_
  exact qX_ireturn rfl dX7_coverageBelow_10 rfl ⟨Nat.le_refl _, Nat.le_refl _⟩ h
set_option maxRecDepth 20000 in
theorem e_X7_lowestTerm {Post : Int → Rf → Mem → Prop} {ρ : Rf} {μ : Mem} {x1 : Int} {x2 : Int} {x3 : Int}
  (h : ∃ P : Int → Rf → Mem → Prop, qE mX7_coverageAbove GG GG [qP 0, qI x1, qI x2] ρ μ P ∧ ∀ (z1 : Int) (ρ2 : Rf) (μ3 : Mem), P z1 ρ2 μ3 → ∃ P : Int → Rf → Mem → Prop, qE mX7_coverageBelow GG GG [qP 0, qI x1, qI x2] ρ2 μ3 P ∧ ∀ (z5 : Int) (ρ6 : Rf) (μ7 : Mem), P z5 ρ6 μ7 → ((x3 = 0 → ∃ P : Int → Rf → Mem → Prop, qE mX7_commonDivisor GG GG [qI z1, qI z5] ρ6 μ7 P ∧ ∀ (z9 : Int) (ρ10 : Rf) (μ11 : Mem), P z9 ρ10 μ11 → ∃ P : Int → Rf → Mem → Prop, qE mX7_wholeParts GG GG [qI z1, qI z9] ρ10 μ11 P ∧ ∀ (z13 : Int) (ρ14 : Rf) (μ15 : Mem), P z13 ρ14 μ15 → Post z13 ρ14 μ15) ∧ (x3 ≠ 0 → ∃ P : Int → Rf → Mem → Prop, qE mX7_commonDivisor GG GG [qI z1, qI z5] ρ6 μ7 P ∧ ∀ (z17 : Int) (ρ18 : Rf) (μ19 : Mem), P z17 ρ18 μ19 → ∃ P : Int → Rf → Mem → Prop, qE mX7_wholeParts GG GG [qI z5, qI z17] ρ18 μ19 P ∧ ∀ (z21 : Int) (ρ22 : Rf) (μ23 : Mem), P z21 ρ22 μ23 → Post z21 ρ22 μ23))) : qE mX7_lowestTerm GG GG [qP 0, qI x1, qI x2, qI x3] ρ μ Post := by
  refine qE_intro pl_X7_lowestTerm (Nat.le_of_ble_eq_true rfl) (Nat.le_refl _) ?_
  refine qX_aload_n 0 dX7_lowestTerm_0 rfl rfl (by decide) ?_
  refine qX_iload_n 1 dX7_lowestTerm_1 rfl rfl ?_
  refine qX_iload_n 2 dX7_lowestTerm_2 rfl rfl ?_
  obtain ⟨P, hE4, h⟩ := h
  refine qN_callV mX7_coverageAbove [_, _] _ 7 [] dX7_lowestTerm_3 cm_X7_353 ⟨(Nat.le_of_ble_eq_true rfl), (Nat.le_of_ble_eq_true rfl)⟩ rfl rfl sh0 (Nat.le_of_ble_eq_true rfl) ⟨rfl, rfl⟩ hE4 (fun z1 ρ2 μ3 hz => ?_)
  replace h := h _ _ _ hz
  refine qX_istore dX7_lowestTerm_6 (Nat.le_of_ble_eq_true rfl) rfl ?_
  refine qX_aload_n 0 dX7_lowestTerm_8 rfl rfl (by decide) ?_
  refine qX_iload_n 1 dX7_lowestTerm_9 rfl rfl ?_
  refine qX_iload_n 2 dX7_lowestTerm_10 rfl rfl ?_
  obtain ⟨P, hE8, h⟩ := h
  refine qN_callV mX7_coverageBelow [_, _] _ 7 [] dX7_lowestTerm_11 cm_X7_356 ⟨(Nat.le_of_ble_eq_true rfl), (Nat.le_of_ble_eq_true rfl)⟩ rfl rfl sh0 (Nat.le_of_ble_eq_true rfl) ⟨rfl, rfl⟩ hE8 (fun z5 ρ6 μ7 hz => ?_)
  replace h := h _ _ _ hz
  refine qX_istore dX7_lowestTerm_14 (Nat.le_of_ble_eq_true rfl) rfl ?_
  refine qX_iload_n 3 dX7_lowestTerm_16 rfl rfl ?_
  refine qX_if_eq 25 dX7_lowestTerm_17 rfl (fun hc => ?_) (fun hc => ?_)
  · replace h := h.1 hc
    refine qX_iload dX7_lowestTerm_25 rfl ?_
    refine qX_iload dX7_lowestTerm_27 rfl ?_
    refine qX_iload dX7_lowestTerm_29 rfl ?_
    obtain ⟨P, hE12, h⟩ := h
    refine qN_callS mX7_commonDivisor [_, _] [_] dX7_lowestTerm_31 cm_X7_359 ⟨(Nat.le_of_ble_eq_true rfl), (Nat.le_of_ble_eq_true rfl)⟩ rfl rfl (Nat.le_of_ble_eq_true rfl) ⟨rfl, rfl⟩ hE12 (fun z9 ρ10 μ11 hz => ?_)
    replace h := h _ _ _ hz
    obtain ⟨P, hE16, h⟩ := h
    refine qN_callS mX7_wholeParts [_, _] [] dX7_lowestTerm_34 cm_X7_362 ⟨(Nat.le_of_ble_eq_true rfl), (Nat.le_of_ble_eq_true rfl)⟩ rfl rfl (Nat.le_of_ble_eq_true rfl) ⟨rfl, rfl⟩ hE16 (fun z13 ρ14 μ15 hz => ?_)
    replace h := h _ _ _ hz
    exact qX_ireturn rfl dX7_lowestTerm_37 rfl ⟨Nat.le_refl _, Nat.le_refl _⟩ h
  · replace h := h.2 hc
    refine qX_iload dX7_lowestTerm_20 rfl ?_
    refine qX_goto 27 dX7_lowestTerm_22 rfl ?_
    refine qX_iload dX7_lowestTerm_27 rfl ?_
    refine qX_iload dX7_lowestTerm_29 rfl ?_
    obtain ⟨P, hE20, h⟩ := h
    refine qN_callS mX7_commonDivisor [_, _] [_] dX7_lowestTerm_31 cm_X7_359 ⟨(Nat.le_of_ble_eq_true rfl), (Nat.le_of_ble_eq_true rfl)⟩ rfl rfl (Nat.le_of_ble_eq_true rfl) ⟨rfl, rfl⟩ hE20 (fun z17 ρ18 μ19 hz => ?_)
    replace h := h _ _ _ hz
    obtain ⟨P, hE24, h⟩ := h
    refine qN_callS mX7_wholeParts [_, _] [] dX7_lowestTerm_34 cm_X7_362 ⟨(Nat.le_of_ble_eq_true rfl), (Nat.le_of_ble_eq_true rfl)⟩ rfl rfl (Nat.le_of_ble_eq_true rfl) ⟨rfl, rfl⟩ hE24 (fun z21 ρ22 μ23 hz => ?_)
    replace h := h _ _ _ hz
    exact qX_ireturn rfl dX7_lowestTerm_37 rfl ⟨Nat.le_refl _, Nat.le_refl _⟩ h
set_option maxRecDepth 20000 in
theorem e_X7_compareCoverage {Post : Int → Rf → Mem → Prop} {ρ : Rf} {μ : Mem} {x1 : Int} {x2 : Int} {x3 : Int} {x4 : Int}
  (h : ∃ P : Int → Rf → Mem → Prop, qE mX7_coverageAbove GG GG [qP 0, qI x1, qI x2] ρ μ P ∧ ∀ (z1 : Int) (ρ2 : Rf) (μ3 : Mem), P z1 ρ2 μ3 → ∃ P : Int → Rf → Mem → Prop, qE mX7_coverageBelow GG GG [qP 0, qI x3, qI x4] ρ2 μ3 P ∧ ∀ (z5 : Int) (ρ6 : Rf) (μ7 : Mem), P z5 ρ6 μ7 → i32 (z1 * z5) ∧ ∃ P : Int → Rf → Mem → Prop, qE mX7_coverageAbove GG GG [qP 0, qI x3, qI x4] ρ6 μ7 P ∧ ∀ (z9 : Int) (ρ10 : Rf) (μ11 : Mem), P z9 ρ10 μ11 → ∃ P : Int → Rf → Mem → Prop, qE mX7_coverageBelow GG GG [qP 0, qI x1, qI x2] ρ10 μ11 P ∧ ∀ (z13 : Int) (ρ14 : Rf) (μ15 : Mem), P z13 ρ14 μ15 → i32 (z9 * z13) ∧ ∃ P : Int → Rf → Mem → Prop, qE mJ6_compare_7cf53 GG GG [qI (z1 * z5), qI (z9 * z13)] ρ14 μ15 P ∧ ∀ (z17 : Int) (ρ18 : Rf) (μ19 : Mem), P z17 ρ18 μ19 → Post z17 ρ18 μ19) : qE mX7_compareCoverage GG GG [qP 0, qI x1, qI x2, qI x3, qI x4] ρ μ Post := by
  refine qE_intro pl_X7_compareCoverage (Nat.le_of_ble_eq_true rfl) (Nat.le_refl _) ?_
  refine qX_aload_n 0 dX7_compareCoverage_0 rfl rfl (by decide) ?_
  refine qX_iload_n 1 dX7_compareCoverage_1 rfl rfl ?_
  refine qX_iload_n 2 dX7_compareCoverage_2 rfl rfl ?_
  obtain ⟨P, hE4, h⟩ := h
  refine qN_callV mX7_coverageAbove [_, _] _ 7 [] dX7_compareCoverage_3 cm_X7_353 ⟨(Nat.le_of_ble_eq_true rfl), (Nat.le_of_ble_eq_true rfl)⟩ rfl rfl sh0 (Nat.le_of_ble_eq_true rfl) ⟨rfl, rfl⟩ hE4 (fun z1 ρ2 μ3 hz => ?_)
  replace h := h _ _ _ hz
  refine qX_aload_n 0 dX7_compareCoverage_6 rfl rfl (by decide) ?_
  refine qX_iload_n 3 dX7_compareCoverage_7 rfl rfl ?_
  refine qX_iload dX7_compareCoverage_8 rfl ?_
  obtain ⟨P, hE8, h⟩ := h
  refine qN_callV mX7_coverageBelow [_, _] _ 7 [_] dX7_compareCoverage_10 cm_X7_356 ⟨(Nat.le_of_ble_eq_true rfl), (Nat.le_of_ble_eq_true rfl)⟩ rfl rfl sh0 (Nat.le_of_ble_eq_true rfl) ⟨rfl, rfl⟩ hE8 (fun z5 ρ6 μ7 hz => ?_)
  replace h := h _ _ _ hz
  refine qR_imul dX7_compareCoverage_13 h.1 ?_
  replace h := h.2
  refine qX_istore dX7_compareCoverage_14 (Nat.le_of_ble_eq_true rfl) rfl ?_
  refine qX_aload_n 0 dX7_compareCoverage_16 rfl rfl (by decide) ?_
  refine qX_iload_n 3 dX7_compareCoverage_17 rfl rfl ?_
  refine qX_iload dX7_compareCoverage_18 rfl ?_
  obtain ⟨P, hE12, h⟩ := h
  refine qN_callV mX7_coverageAbove [_, _] _ 7 [] dX7_compareCoverage_20 cm_X7_353 ⟨(Nat.le_of_ble_eq_true rfl), (Nat.le_of_ble_eq_true rfl)⟩ rfl rfl sh0 (Nat.le_of_ble_eq_true rfl) ⟨rfl, rfl⟩ hE12 (fun z9 ρ10 μ11 hz => ?_)
  replace h := h _ _ _ hz
  refine qX_aload_n 0 dX7_compareCoverage_23 rfl rfl (by decide) ?_
  refine qX_iload_n 1 dX7_compareCoverage_24 rfl rfl ?_
  refine qX_iload_n 2 dX7_compareCoverage_25 rfl rfl ?_
  obtain ⟨P, hE16, h⟩ := h
  refine qN_callV mX7_coverageBelow [_, _] _ 7 [_] dX7_compareCoverage_26 cm_X7_356 ⟨(Nat.le_of_ble_eq_true rfl), (Nat.le_of_ble_eq_true rfl)⟩ rfl rfl sh0 (Nat.le_of_ble_eq_true rfl) ⟨rfl, rfl⟩ hE16 (fun z13 ρ14 μ15 hz => ?_)
  replace h := h _ _ _ hz
  refine qR_imul dX7_compareCoverage_29 h.1 ?_
  replace h := h.2
  refine qX_istore dX7_compareCoverage_30 (Nat.le_of_ble_eq_true rfl) rfl ?_
  refine qX_iload dX7_compareCoverage_32 rfl ?_
  refine qX_iload dX7_compareCoverage_34 rfl ?_
  obtain ⟨P, hE20, h⟩ := h
  refine qN_callS mJ6_compare_7cf53 [_, _] [] dX7_compareCoverage_36 cm_X7_365 ⟨(Nat.le_of_ble_eq_true rfl), (Nat.le_of_ble_eq_true rfl)⟩ rfl rfl (Nat.le_of_ble_eq_true rfl) ⟨rfl, rfl⟩ hE20 (fun z17 ρ18 μ19 hz => ?_)
  replace h := h _ _ _ hz
  exact qX_ireturn rfl dX7_compareCoverage_39 rfl ⟨Nat.le_refl _, Nat.le_refl _⟩ h
set_option maxRecDepth 20000 in
theorem e_X7_commonDivisor {Post : Int → Rf → Mem → Prop} {ρ : Rf} {μ : Mem} {x0 : Int} {x1 : Int}
  (h : qX mX7_commonDivisor GG Post GG (0, 0) 7 [none, none, some (qI x0), some (qI x1), some (qI 0), none] [] ρ μ) : qE mX7_commonDivisor GG GG [qI x0, qI x1] ρ μ Post := by
  refine qE_intro pl_X7_commonDivisor (Nat.le_of_ble_eq_true rfl) (Nat.le_refl _) ?_
  refine qX_iload_n 0 dX7_commonDivisor_0 rfl rfl ?_
  refine qX_istore_n 2 dX7_commonDivisor_1 rfl (Nat.le_of_ble_eq_true rfl) rfl ?_
  refine qX_iload_n 1 dX7_commonDivisor_2 rfl rfl ?_
  refine qX_istore_n 3 dX7_commonDivisor_3 rfl (Nat.le_of_ble_eq_true rfl) rfl ?_
  refine qX_iconst dX7_commonDivisor_4 (i32_of rfl) ?_
  refine qX_istore dX7_commonDivisor_5 (Nat.le_of_ble_eq_true rfl) rfl ?_
  exact qX_mask [false, false, true, true, true, false] h
set_option maxRecDepth 20000 in
theorem w_X7_commonDivisor_7 {Post : Int → Rf → Mem → Prop} {ρ : Rf} {μ : Mem} {x2 : Int} {x3 : Int} {x4 : Int}
  (h : ((64 ≤ x4 → Post x2 ρ μ) ∧ (x4 < 64 → ((x3 = 0 → Post x2 ρ μ) ∧ (x3 ≠ 0 → (0 ≤ x2 ∧ 0 < x3) ∧ i32 (x4 + 1) ∧ qX mX7_commonDivisor GG Post GG (0, 0) 7 [none, none, some (qI x3), some (qI (x2 % x3)), some (qI (x4 + 1)), none] [] ρ μ))))) : qX mX7_commonDivisor GG Post GG (0, 0) 7 [none, none, some (qI x2), some (qI x3), some (qI x4), none] [] ρ μ := by
  refine qX_iload dX7_commonDivisor_7 rfl ?_
  refine qX_bip dX7_commonDivisor_9 rfl ?_
  refine qX_icmp_ge 34 dX7_commonDivisor_11 rfl (fun hc => ?_) (fun hc => ?_)
  · replace h := h.1 hc
    refine qX_iload_n 2 dX7_commonDivisor_34 rfl rfl ?_
    exact qX_ireturn rfl dX7_commonDivisor_35 rfl ⟨Nat.le_refl _, Nat.le_refl _⟩ h
  · replace h := h.2 hc
    refine qX_iload_n 3 dX7_commonDivisor_14 rfl rfl ?_
    refine qX_if_eq 34 dX7_commonDivisor_15 rfl (fun hc => ?_) (fun hc => ?_)
    · replace h := h.1 hc
      refine qX_iload_n 2 dX7_commonDivisor_34 rfl rfl ?_
      exact qX_ireturn rfl dX7_commonDivisor_35 rfl ⟨Nat.le_refl _, Nat.le_refl _⟩ h
    · replace h := h.2 hc
      refine qX_iload_n 2 dX7_commonDivisor_18 rfl rfl ?_
      refine qX_iload_n 3 dX7_commonDivisor_19 rfl rfl ?_
      refine qR_irem dX7_commonDivisor_20 h.1 ?_
      replace h := h.2
      refine qX_istore dX7_commonDivisor_21 (Nat.le_of_ble_eq_true rfl) rfl ?_
      refine qX_iload_n 3 dX7_commonDivisor_23 rfl rfl ?_
      refine qX_istore_n 2 dX7_commonDivisor_24 rfl (Nat.le_of_ble_eq_true rfl) rfl ?_
      refine qX_iload dX7_commonDivisor_25 rfl ?_
      refine qX_istore_n 3 dX7_commonDivisor_27 rfl (Nat.le_of_ble_eq_true rfl) rfl ?_
      refine qR_iinc dX7_commonDivisor_28 rfl (Nat.le_of_ble_eq_true rfl) rfl h.1 ?_
      replace h := h.2
      refine qX_goto 7 dX7_commonDivisor_31 rfl ?_
      exact qX_mask [false, false, true, true, true, false] h
set_option maxRecDepth 20000 in
theorem e_X7_wholeParts {Post : Int → Rf → Mem → Prop} {ρ : Rf} {μ : Mem} {x0 : Int} {x1 : Int}
  (h : ((1 ≤ x1 → (0 ≤ x0 ∧ 0 < x1) ∧ Post (x0 / x1) ρ μ) ∧ (x1 < 1 → Post 0 ρ μ))) : qE mX7_wholeParts GG GG [qI x0, qI x1] ρ μ Post := by
  refine qE_intro pl_X7_wholeParts (Nat.le_of_ble_eq_true rfl) (Nat.le_refl _) ?_
  refine qX_iload_n 1 dX7_wholeParts_0 rfl rfl ?_
  refine qX_iconst dX7_wholeParts_1 (i32_of rfl) ?_
  refine qX_icmp_ge 9 dX7_wholeParts_2 rfl (fun hc => ?_) (fun hc => ?_)
  · replace h := h.1 hc
    refine qX_iload_n 0 dX7_wholeParts_9 rfl rfl ?_
    refine qX_iload_n 1 dX7_wholeParts_10 rfl rfl ?_
    refine qR_idiv dX7_wholeParts_11 h.1 ?_
    replace h := h.2
    exact qX_ireturn rfl dX7_wholeParts_12 rfl ⟨Nat.le_refl _, Nat.le_refl _⟩ h
  · replace h := h.2 hc
    refine qX_iconst dX7_wholeParts_5 (i32_of rfl) ?_
    refine qX_goto 12 dX7_wholeParts_6 rfl ?_
    exact qX_ireturn rfl dX7_wholeParts_12 rfl ⟨Nat.le_refl _, Nat.le_refl _⟩ h
set_option maxRecDepth 20000 in
theorem e_X7_partsRoundedUp {Post : Int → Rf → Mem → Prop} {ρ : Rf} {μ : Mem} {x0 : Int} {x1 : Int}
  (h : i32 (x0 + x1) ∧ i32 ((x0 + x1) - 1) ∧ ∃ P : Int → Rf → Mem → Prop, qE mX7_wholeParts GG GG [qI ((x0 + x1) - 1), qI x1] ρ μ P ∧ ∀ (z1 : Int) (ρ2 : Rf) (μ3 : Mem), P z1 ρ2 μ3 → Post z1 ρ2 μ3) : qE mX7_partsRoundedUp GG GG [qI x0, qI x1] ρ μ Post := by
  refine qE_intro pl_X7_partsRoundedUp (Nat.le_of_ble_eq_true rfl) (Nat.le_refl _) ?_
  refine qX_iload_n 0 dX7_partsRoundedUp_0 rfl rfl ?_
  refine qX_iload_n 1 dX7_partsRoundedUp_1 rfl rfl ?_
  refine qR_iadd dX7_partsRoundedUp_2 h.1 ?_
  replace h := h.2
  refine qX_iconst dX7_partsRoundedUp_3 (i32_of rfl) ?_
  refine qR_isub dX7_partsRoundedUp_4 h.1 ?_
  replace h := h.2
  refine qX_iload_n 1 dX7_partsRoundedUp_5 rfl rfl ?_
  obtain ⟨P, hE4, h⟩ := h
  refine qN_callS mX7_wholeParts [_, _] [] dX7_partsRoundedUp_6 cm_X7_362 ⟨(Nat.le_of_ble_eq_true rfl), (Nat.le_of_ble_eq_true rfl)⟩ rfl rfl (Nat.le_of_ble_eq_true rfl) ⟨rfl, rfl⟩ hE4 (fun z1 ρ2 μ3 hz => ?_)
  replace h := h _ _ _ hz
  exact qX_ireturn rfl dX7_partsRoundedUp_9 rfl ⟨Nat.le_refl _, Nat.le_refl _⟩ h
set_option maxRecDepth 20000 in
theorem e_J7_fill_53178 {Post : Int → Rf → Mem → Prop} {ρ : Rf} {μ : Mem} {x0 nx0 : Nat} (hx0 : GG.2[x0]? = some (10, nx0)) {x1 : Int}
  (h : ((nx0 : Nat) : Int) ≤ 2147483647 ∧ qX mJ7_fill_53178 GG Post GG (0, 0) 5 [some (qP x0), some (qI x1), some (qI 0), some (qI ((nx0 : Nat) : Int))] [] ρ μ) : qE mJ7_fill_53178 GG GG [qP x0, qI x1] ρ μ Post := by
  refine qE_intro pl_J7_fill_53178 (Nat.le_of_ble_eq_true rfl) (Nat.le_refl _) ?_
  refine qX_iconst dJ7_fill_53178_0 (i32_of rfl) ?_
  refine qX_istore_n 2 dJ7_fill_53178_1 rfl (Nat.le_of_ble_eq_true rfl) rfl ?_
  refine qX_aload_n 0 dJ7_fill_53178_2 rfl rfl (shN hx0) ?_
  refine qX_alen dJ7_fill_53178_3 hx0 h.1 ?_
  replace h := h.2
  refine qX_istore_n 3 dJ7_fill_53178_4 rfl (Nat.le_of_ble_eq_true rfl) rfl ?_
  exact qX_mask [true, true, true, true] h
set_option maxRecDepth 20000 in
theorem w_J7_fill_53178_5 {Post : Int → Rf → Mem → Prop} {ρ : Rf} {μ : Mem} {x0 nx0 : Nat} (hx0 : GG.2[x0]? = some (10, nx0)) {x1 : Int} {x2 : Int} {x3 : Int}
  (h : ((x3 ≤ x2 → Post 0 ρ μ) ∧ (x2 < x3 → (0 ≤ x2 ∧ x2 < nx0) ∧ ∀ μ1, μ1 = up2 μ x0 x2 x1 → i32 (x2 + 1) ∧ qX mJ7_fill_53178 GG Post GG (0, 0) 5 [some (qP x0), some (qI x1), some (qI (x2 + 1)), some (qI x3)] [] ρ μ1))) : qX mJ7_fill_53178 GG Post GG (0, 0) 5 [some (qP x0), some (qI x1), some (qI x2), some (qI x3)] [] ρ μ := by
  refine qX_iload_n 2 dJ7_fill_53178_5 rfl rfl ?_
  refine qX_iload_n 3 dJ7_fill_53178_6 rfl rfl ?_
  refine qX_icmp_ge 20 dJ7_fill_53178_7 rfl (fun hc => ?_) (fun hc => ?_)
  · replace h := h.1 hc
    exact qX_return rfl dJ7_fill_53178_20 rfl ⟨Nat.le_refl _, Nat.le_refl _⟩ h
  · replace h := h.2 hc
    refine qX_aload_n 0 dJ7_fill_53178_10 rfl rfl (shN hx0) ?_
    refine qX_iload_n 2 dJ7_fill_53178_11 rfl rfl ?_
    refine qX_iload_n 1 dJ7_fill_53178_12 rfl rfl ?_
    refine qX_iast dJ7_fill_53178_13 hx0 h.1 ?_
    replace h := h.2
    replace h := h _ rfl
    refine qR_iinc dJ7_fill_53178_14 rfl (Nat.le_of_ble_eq_true rfl) rfl h.1 ?_
    replace h := h.2
    refine qX_goto 5 dJ7_fill_53178_17 rfl ?_
    exact qX_mask [true, true, true, true] h
set_option maxRecDepth 20000 in
theorem e_J6_compare_7cf53 {Post : Int → Rf → Mem → Prop} {ρ : Rf} {μ : Mem} {x0 : Int} {x1 : Int}
  (h : ((x1 ≤ x0 → ((x0 ≠ x1 → Post 1 ρ μ) ∧ (x0 = x1 → Post 0 ρ μ))) ∧ (x0 < x1 → Post (-1) ρ μ))) : qE mJ6_compare_7cf53 GG GG [qI x0, qI x1] ρ μ Post := by
  refine qE_intro pl_J6_compare_7cf53 (Nat.le_of_ble_eq_true rfl) (Nat.le_refl _) ?_
  refine qX_iload_n 0 dJ6_compare_7cf53_0 rfl rfl ?_
  refine qX_iload_n 1 dJ6_compare_7cf53_1 rfl rfl ?_
  refine qX_icmp_ge 9 dJ6_compare_7cf53_2 rfl (fun hc => ?_) (fun hc => ?_)
  · replace h := h.1 hc
    refine qX_iload_n 0 dJ6_compare_7cf53_9 rfl rfl ?_
    refine qX_iload_n 1 dJ6_compare_7cf53_10 rfl rfl ?_
    refine qX_icmp_ne 18 dJ6_compare_7cf53_11 rfl (fun hc => ?_) (fun hc => ?_)
    · replace h := h.1 hc
      refine qX_iconst dJ6_compare_7cf53_18 (i32_of rfl) ?_
      exact qX_ireturn rfl dJ6_compare_7cf53_19 rfl ⟨Nat.le_refl _, Nat.le_refl _⟩ h
    · replace h := h.2 hc
      refine qX_iconst dJ6_compare_7cf53_14 (i32_of rfl) ?_
      refine qX_goto 19 dJ6_compare_7cf53_15 rfl ?_
      exact qX_ireturn rfl dJ6_compare_7cf53_19 rfl ⟨Nat.le_refl _, Nat.le_refl _⟩ h
  · replace h := h.2 hc
    refine qX_iconst dJ6_compare_7cf53_5 (i32_of rfl) ?_
    refine qX_goto 19 dJ6_compare_7cf53_6 rfl ?_
    exact qX_ireturn rfl dJ6_compare_7cf53_19 rfl ⟨Nat.le_refl _, Nat.le_refl _⟩ h
set_option maxRecDepth 20000 in
theorem e_X8_thrown {Post : Int → Rf → Mem → Prop} {ρ : Rf} {μ : Mem} 
  (h : Post (μ 178 0) ρ μ) : qE mX8_thrown GG GG [qP 178] ρ μ Post := by
  refine qE_intro pl_X8_thrown (Nat.le_of_ble_eq_true rfl) (Nat.le_refl _) ?_
  refine qX_aload_n 0 dX8_thrown_0 rfl rfl (by decide) ?_
  refine qX_getI 8 0 _ dX8_thrown_1 fs_X8_103 sh178 ?_
  exact qX_ireturn rfl dX8_thrown_4 rfl ⟨Nat.le_refl _, Nat.le_refl _⟩ h
set_option maxRecDepth 20000 in
theorem e_X8_in {Post : Int → Rf → Mem → Prop} {ρ : Rf} {μ : Mem} {x0 : Int} {x1 : Int} {x2 : Int}
  (h : ((x0 < x1 → Post 0 ρ μ) ∧ (x1 ≤ x0 → ((x2 < x0 → Post 0 ρ μ) ∧ (x0 ≤ x2 → Post 1 ρ μ))))) : qE mX8_in GG GG [qI x0, qI x1, qI x2] ρ μ Post := by
  refine qE_intro pl_X8_in (Nat.le_of_ble_eq_true rfl) (Nat.le_refl _) ?_
  refine qX_iload_n 0 dX8_in_0 rfl rfl ?_
  refine qX_iload_n 1 dX8_in_1 rfl rfl ?_
  refine qX_icmp_lt 14 dX8_in_2 rfl (fun hc => ?_) (fun hc => ?_)
  · replace h := h.1 hc
    refine qX_iconst dX8_in_14 (i32_of rfl) ?_
    exact qX_zreturn rfl dX8_in_15 rfl ⟨Nat.le_refl _, Nat.le_refl _⟩ (by decide) h
  · replace h := h.2 hc
    refine qX_iload_n 0 dX8_in_5 rfl rfl ?_
    refine qX_iload_n 2 dX8_in_6 rfl rfl ?_
    refine qX_icmp_gt 14 dX8_in_7 rfl (fun hc => ?_) (fun hc => ?_)
    · replace h := h.1 hc
      refine qX_iconst dX8_in_14 (i32_of rfl) ?_
      exact qX_zreturn rfl dX8_in_15 rfl ⟨Nat.le_refl _, Nat.le_refl _⟩ (by decide) h
    · replace h := h.2 hc
      refine qX_iconst dX8_in_10 (i32_of rfl) ?_
      refine qX_goto 15 dX8_in_11 rfl ?_
      exact qX_zreturn rfl dX8_in_15 rfl ⟨Nat.le_refl _, Nat.le_refl _⟩ (by decide) h
set_option maxRecDepth 20000 in
theorem e_X8_failed {Post : Int → Rf → Mem → Prop} {ρ : Rf} {μ : Mem} {x1 : Int}
  (h : ∀ μ1, μ1 = up2 μ 178 1 x1 → Post (-2147483648) ρ μ1) : qE mX8_failed GG GG [qP 178, qI x1] ρ μ Post := by
  refine qE_intro pl_X8_failed (Nat.le_of_ble_eq_true rfl) (Nat.le_refl _) ?_
  refine qX_aload_n 0 dX8_failed_0 rfl rfl (by decide) ?_
  refine qX_iload_n 1 dX8_failed_1 rfl rfl ?_
  refine qX_putI 8 1 _ dX8_failed_2 fs_X8_106 sh178 ?_
  replace h := h _ rfl
  refine qX_ldc (n := (-2147483648)) dX8_failed_5 kK_X8_109 (i32_of rfl) ?_
  exact qX_ireturn rfl dX8_failed_7 rfl ⟨Nat.le_refl _, Nat.le_refl _⟩ h
set_option maxRecDepth 20000 in
theorem e_X8_failedLong {Post : Int → Rf → Mem → Prop} {ρ : Rf} {μ : Mem} {x1 : Int}
  (h : ∀ μ1, μ1 = up2 μ 178 1 x1 → Post (-9223372036854775808) ρ μ1) : qE mX8_failedLong GG GG [qP 178, qI x1] ρ μ Post := by
  refine qE_intro pl_X8_failedLong (Nat.le_of_ble_eq_true rfl) (Nat.le_refl _) ?_
  refine qX_aload_n 0 dX8_failedLong_0 rfl rfl (by decide) ?_
  refine qX_iload_n 1 dX8_failedLong_1 rfl rfl ?_
  refine qX_putI 8 1 _ dX8_failedLong_2 fs_X8_106 sh178 ?_
  replace h := h _ rfl
  refine qX_ldc2 (n := (-9223372036854775808)) dX8_failedLong_5 kK_X8_110 (i64_of rfl) ?_
  exact qX_lreturn rfl dX8_failedLong_8 rfl ⟨Nat.le_refl _, Nat.le_refl _⟩ h
set_option maxRecDepth 20000 in
theorem e_X8_done {Post : Int → Rf → Mem → Prop} {ρ : Rf} {μ : Mem} {x1 : Int}
  (h : ∀ μ1, μ1 = up2 μ 178 1 0 → Post x1 ρ μ1) : qE mX8_done GG GG [qP 178, qI x1] ρ μ Post := by
  refine qE_intro pl_X8_done (Nat.le_of_ble_eq_true rfl) (Nat.le_refl _) ?_
  refine qX_aload_n 0 dX8_done_0 rfl rfl (by decide) ?_
  refine qX_iconst dX8_done_1 (i32_of rfl) ?_
  refine qX_putI 8 1 _ dX8_done_2 fs_X8_106 sh178 ?_
  replace h := h _ rfl
  refine qX_iload_n 1 dX8_done_5 rfl rfl ?_
  exact qX_ireturn rfl dX8_done_6 rfl ⟨Nat.le_refl _, Nat.le_refl _⟩ h
set_option maxRecDepth 20000 in
theorem e_X8_error {Post : Int → Rf → Mem → Prop} {ρ : Rf} {μ : Mem} 
  (h : ∀ μ1, μ1 = up2 μ 178 0 0 → Post (μ1 178 1) ρ μ1) : qE mX8_error GG GG [qP 178] ρ μ Post := by
  refine qE_intro pl_X8_error (Nat.le_of_ble_eq_true rfl) (Nat.le_refl _) ?_
  refine qX_aload_n 0 dX8_error_0 rfl rfl (by decide) ?_
  refine qX_iconst dX8_error_1 (i32_of rfl) ?_
  refine qX_putI 8 0 _ dX8_error_2 fs_X8_103 sh178 ?_
  replace h := h _ rfl
  refine qX_aload_n 0 dX8_error_5 rfl rfl (by decide) ?_
  refine qX_getI 8 1 _ dX8_error_6 fs_X8_106 sh178 ?_
  exact qX_ireturn rfl dX8_error_9 rfl ⟨Nat.le_refl _, Nat.le_refl _⟩ h
set_option maxRecDepth 20000 in
theorem e_X8_four {Post : Int → Rf → Mem → Prop} {ρ : Rf} {μ : Mem} {x1 : Int}
  (h : qX mX8_four GG Post GG (0, 0) 3 [some (qP 178), some (qI x1), some (qI 24)] [] ρ μ) : qE mX8_four GG GG [qP 178, qI x1] ρ μ Post := by
  refine qE_intro pl_X8_four (Nat.le_of_ble_eq_true rfl) (Nat.le_refl _) ?_
  refine qX_bip dX8_four_0 rfl ?_
  refine qX_istore_n 2 dX8_four_2 rfl (Nat.le_of_ble_eq_true rfl) rfl ?_
  exact qX_mask [true, true, true] h
set_option maxRecDepth 20000 in
theorem w_X8_four_3 {Post : Int → Rf → Mem → Prop} {ρ : Rf} {μ : Mem} {x1 : Int} {x2 : Int}
  (h : ((x2 < 0 → Post 0 ρ μ) ∧ (0 ≤ x2 → (0 ≤ μ 178 3 ∧ μ 178 3 < 900) ∧ ∀ μ1, μ1 = up2 μ 179 (μ 178 3) (and32 (shr32 x1 x2) 255) → i32 ((μ1 178 3) + 1) ∧ ∀ μ2, μ2 = up2 μ1 178 3 ((μ1 178 3) + 1) → i32 (x2 + (-8)) ∧ qX mX8_four GG Post GG (0, 0) 3 [some (qP 178), some (qI x1), some (qI (x2 + (-8)))] [] ρ μ2))) : qX mX8_four GG Post GG (0, 0) 3 [some (qP 178), some (qI x1), some (qI x2)] [] ρ μ := by
  refine qX_iload_n 2 dX8_four_3 rfl rfl ?_
  refine qX_if_lt 39 dX8_four_4 rfl (fun hc => ?_) (fun hc => ?_)
  · replace h := h.1 hc
    exact qX_return rfl dX8_four_39 rfl ⟨Nat.le_refl _, Nat.le_refl _⟩ h
  · replace h := h.2 hc
    refine qX_aload_n 0 dX8_four_7 rfl rfl (by decide) ?_
    refine qX_getS 8 2 _ 0 dX8_four_8 fs_X8_9 rfl rfl sh178 (x := 179) rfl ?_
    refine qX_aload_n 0 dX8_four_11 rfl rfl (by decide) ?_
    refine qX_getI 8 3 _ dX8_four_12 fs_X8_112 sh178 ?_
    refine qX_iload_n 1 dX8_four_15 rfl rfl ?_
    refine qX_iload_n 2 dX8_four_16 rfl rfl ?_
    refine qX_ishr dX8_four_17 ?_
    refine qX_sip dX8_four_18 rfl ?_
    refine qX_iand dX8_four_21 ?_
    refine qX_iast dX8_four_22 sh179 h.1 ?_
    replace h := h.2
    replace h := h _ rfl
    refine qX_aload_n 0 dX8_four_23 rfl rfl (by decide) ?_
    refine qX_dup dX8_four_24 rfl ?_
    refine qX_getI 8 3 _ dX8_four_25 fs_X8_112 sh178 ?_
    refine qX_iconst dX8_four_28 (i32_of rfl) ?_
    refine qR_iadd dX8_four_29 h.1 ?_
    replace h := h.2
    refine qX_putI 8 3 _ dX8_four_30 fs_X8_112 sh178 ?_
    replace h := h _ rfl
    refine qR_iinc dX8_four_33 rfl (Nat.le_of_ble_eq_true rfl) rfl h.1 ?_
    replace h := h.2
    refine qX_goto 3 dX8_four_36 rfl ?_
    exact qX_mask [true, true, true] h
set_option maxRecDepth 20000 in
theorem e_X8_append {Post : Int → Rf → Mem → Prop} {ρ : Rf} {μ : Mem} {x1 : Int} {x2 : Int} {x3 : Int} {x4 : Int} {x5 : Int}
  (h : ∀ μ1, μ1 = up2 μ 178 0 0 → i32 ((μ1 178 3) + 20) ∧ (((μ1 178 3) + 20 ≤ 900 → ∃ P : Int → Rf → Mem → Prop, qE mX8_four GG GG [qP 178, qI x1] ρ μ1 P ∧ ∀ (z2 : Int) (ρ3 : Rf) (μ4 : Mem), P z2 ρ3 μ4 → ∃ P : Int → Rf → Mem → Prop, qE mX8_four GG GG [qP 178, qI x2] ρ3 μ4 P ∧ ∀ (z6 : Int) (ρ7 : Rf) (μ8 : Mem), P z6 ρ7 μ8 → ∃ P : Int → Rf → Mem → Prop, qE mX8_four GG GG [qP 178, qI x3] ρ7 μ8 P ∧ ∀ (z10 : Int) (ρ11 : Rf) (μ12 : Mem), P z10 ρ11 μ12 → ∃ P : Int → Rf → Mem → Prop, qE mX8_four GG GG [qP 178, qI x4] ρ11 μ12 P ∧ ∀ (z14 : Int) (ρ15 : Rf) (μ16 : Mem), P z14 ρ15 μ16 → ∃ P : Int → Rf → Mem → Prop, qE mX8_four GG GG [qP 178, qI x5] ρ15 μ16 P ∧ ∀ (z18 : Int) (ρ19 : Rf) (μ20 : Mem), P z18 ρ19 μ20 → Post (μ20 178 3) ρ19 μ20) ∧ (900 < (μ1 178 3) + 20 → Post (-2147483648) ρ μ1))) : qE mX8_append GG GG [qP 178, qI x1, qI x2, qI x3, qI x4, qI x5] ρ μ Post := by
  refine qE_intro pl_X8_append (Nat.le_of_ble_eq_true rfl) (Nat.le_refl _) ?_
  refine qX_aload_n 0 dX8_append_0 rfl rfl (by decide) ?_
  refine qX_iconst dX8_append_1 (i32_of rfl) ?_
  refine qX_putI 8 0 _ dX8_append_2 fs_X8_103 sh178 ?_
  replace h := h _ rfl
  refine qX_aload_n 0 dX8_append_5 rfl rfl (by decide) ?_
  refine qX_getI 8 3 _ dX8_append_6 fs_X8_112 sh178 ?_
  refine qX_bip dX8_append_9 rfl ?_
  refine qR_iadd dX8_append_11 h.1 ?_
  replace h := h.2
  refine qX_sip dX8_append_12 rfl ?_
  refine qX_icmp_le 21 dX8_append_15 rfl (fun hc => ?_) (fun hc => ?_)
  · replace h := h.1 hc
    refine qX_aload_n 0 dX8_append_21 rfl rfl (by decide) ?_
    refine qX_iload_n 1 dX8_append_22 rfl rfl ?_
    obtain ⟨P, hE5, h⟩ := h
    refine qN_callV mX8_four [_] _ 8 [] dX8_append_23 cm_X8_115 ⟨(Nat.le_of_ble_eq_true rfl), (Nat.le_of_ble_eq_true rfl)⟩ rfl rfl sh178 (Nat.le_of_ble_eq_true rfl) ⟨rfl, rfl⟩ hE5 (fun z2 ρ3 μ4 hz => ?_)
    replace h := h _ _ _ hz
    refine qX_aload_n 0 dX8_append_26 rfl rfl (by decide) ?_
    refine qX_iload_n 2 dX8_append_27 rfl rfl ?_
    obtain ⟨P, hE9, h⟩ := h
    refine qN_callV mX8_four [_] _ 8 [] dX8_append_28 cm_X8_115 ⟨(Nat.le_of_ble_eq_true rfl), (Nat.le_of_ble_eq_true rfl)⟩ rfl rfl sh178 (Nat.le_of_ble_eq_true rfl) ⟨rfl, rfl⟩ hE9 (fun z6 ρ7 μ8 hz => ?_)
    replace h := h _ _ _ hz
    refine qX_aload_n 0 dX8_append_31 rfl rfl (by decide) ?_
    refine qX_iload_n 3 dX8_append_32 rfl rfl ?_
    obtain ⟨P, hE13, h⟩ := h
    refine qN_callV mX8_four [_] _ 8 [] dX8_append_33 cm_X8_115 ⟨(Nat.le_of_ble_eq_true rfl), (Nat.le_of_ble_eq_true rfl)⟩ rfl rfl sh178 (Nat.le_of_ble_eq_true rfl) ⟨rfl, rfl⟩ hE13 (fun z10 ρ11 μ12 hz => ?_)
    replace h := h _ _ _ hz
    refine qX_aload_n 0 dX8_append_36 rfl rfl (by decide) ?_
    refine qX_iload dX8_append_37 rfl ?_
    obtain ⟨P, hE17, h⟩ := h
    refine qN_callV mX8_four [_] _ 8 [] dX8_append_39 cm_X8_115 ⟨(Nat.le_of_ble_eq_true rfl), (Nat.le_of_ble_eq_true rfl)⟩ rfl rfl sh178 (Nat.le_of_ble_eq_true rfl) ⟨rfl, rfl⟩ hE17 (fun z14 ρ15 μ16 hz => ?_)
    replace h := h _ _ _ hz
    refine qX_aload_n 0 dX8_append_42 rfl rfl (by decide) ?_
    refine qX_iload dX8_append_43 rfl ?_
    obtain ⟨P, hE21, h⟩ := h
    refine qN_callV mX8_four [_] _ 8 [] dX8_append_45 cm_X8_115 ⟨(Nat.le_of_ble_eq_true rfl), (Nat.le_of_ble_eq_true rfl)⟩ rfl rfl sh178 (Nat.le_of_ble_eq_true rfl) ⟨rfl, rfl⟩ hE21 (fun z18 ρ19 μ20 hz => ?_)
    replace h := h _ _ _ hz
    refine qX_aload_n 0 dX8_append_48 rfl rfl (by decide) ?_
    refine qX_getI 8 3 _ dX8_append_49 fs_X8_112 sh178 ?_
    exact qX_ireturn rfl dX8_append_52 rfl ⟨Nat.le_refl _, Nat.le_refl _⟩ h
  · replace h := h.2 hc
    refine qX_ldc (n := (-2147483648)) dX8_append_18 kK_X8_109 (i32_of rfl) ?_
    exact qX_ireturn rfl dX8_append_20 rfl ⟨Nat.le_refl _, Nat.le_refl _⟩ h
set_option maxRecDepth 20000 in
theorem e_X8_buffered {Post : Int → Rf → Mem → Prop} {ρ : Rf} {μ : Mem} 
  (h : ∀ μ1, μ1 = up2 μ 178 0 0 → Post (μ1 178 3) ρ μ1) : qE mX8_buffered GG GG [qP 178] ρ μ Post := by
  refine qE_intro pl_X8_buffered (Nat.le_of_ble_eq_true rfl) (Nat.le_refl _) ?_
  refine qX_aload_n 0 dX8_buffered_0 rfl rfl (by decide) ?_
  refine qX_iconst dX8_buffered_1 (i32_of rfl) ?_
  refine qX_putI 8 0 _ dX8_buffered_2 fs_X8_103 sh178 ?_
  replace h := h _ rfl
  refine qX_aload_n 0 dX8_buffered_5 rfl rfl (by decide) ?_
  refine qX_getI 8 3 _ dX8_buffered_6 fs_X8_112 sh178 ?_
  exact qX_ireturn rfl dX8_buffered_9 rfl ⟨Nat.le_refl _, Nat.le_refl _⟩ h
set_option maxRecDepth 20000 in
theorem e_X8_parseError {Post : Int → Rf → Mem → Prop} {ρ : Rf} {μ : Mem} 
  (h : ∀ μ1, μ1 = up2 μ 178 0 0 → Post (μ1 178 6) ρ μ1) : qE mX8_parseError GG GG [qP 178] ρ μ Post := by
  refine qE_intro pl_X8_parseError (Nat.le_of_ble_eq_true rfl) (Nat.le_refl _) ?_
  refine qX_aload_n 0 dX8_parseError_0 rfl rfl (by decide) ?_
  refine qX_iconst dX8_parseError_1 (i32_of rfl) ?_
  refine qX_putI 8 0 _ dX8_parseError_2 fs_X8_103 sh178 ?_
  replace h := h _ rfl
  refine qX_aload_n 0 dX8_parseError_5 rfl rfl (by decide) ?_
  refine qX_getI 8 6 _ dX8_parseError_6 fs_X8_119 sh178 ?_
  exact qX_ireturn rfl dX8_parseError_9 rfl ⟨Nat.le_refl _, Nat.le_refl _⟩ h
set_option maxRecDepth 20000 in
theorem e_X8_errorPosition {Post : Int → Rf → Mem → Prop} {ρ : Rf} {μ : Mem} 
  (h : ∀ μ1, μ1 = up2 μ 178 0 0 → Post (μ1 178 7) ρ μ1) : qE mX8_errorPosition GG GG [qP 178] ρ μ Post := by
  refine qE_intro pl_X8_errorPosition (Nat.le_of_ble_eq_true rfl) (Nat.le_refl _) ?_
  refine qX_aload_n 0 dX8_errorPosition_0 rfl rfl (by decide) ?_
  refine qX_iconst dX8_errorPosition_1 (i32_of rfl) ?_
  refine qX_putI 8 0 _ dX8_errorPosition_2 fs_X8_103 sh178 ?_
  replace h := h _ rfl
  refine qX_aload_n 0 dX8_errorPosition_5 rfl rfl (by decide) ?_
  refine qX_getI 8 7 _ dX8_errorPosition_6 fs_X8_13 sh178 ?_
  exact qX_ireturn rfl dX8_errorPosition_9 rfl ⟨Nat.le_refl _, Nat.le_refl _⟩ h
set_option maxRecDepth 20000 in
theorem e_X8_byteAt {Post : Int → Rf → Mem → Prop} {ρ : Rf} {μ : Mem} {x1 : Int}
  (h : ((μ 178 4 ≤ x1 → Post (-1) ρ μ) ∧ (x1 < μ 178 4 → (0 ≤ x1 ∧ x1 < 900) ∧ Post (μ 179 x1) ρ μ))) : qE mX8_byteAt GG GG [qP 178, qI x1] ρ μ Post := by
  refine qE_intro pl_X8_byteAt (Nat.le_of_ble_eq_true rfl) (Nat.le_refl _) ?_
  refine qX_iload_n 1 dX8_byteAt_0 rfl rfl ?_
  refine qX_aload_n 0 dX8_byteAt_1 rfl rfl (by decide) ?_
  refine qX_getI 8 4 _ dX8_byteAt_2 fs_X8_122 sh178 ?_
  refine qX_icmp_ge 17 dX8_byteAt_5 rfl (fun hc => ?_) (fun hc => ?_)
  · replace h := h.1 hc
    refine qX_iconst dX8_byteAt_17 (i32_of rfl) ?_
    exact qX_ireturn rfl dX8_byteAt_18 rfl ⟨Nat.le_refl _, Nat.le_refl _⟩ h
  · replace h := h.2 hc
    refine qX_aload_n 0 dX8_byteAt_8 rfl rfl (by decide) ?_
    refine qX_getS 8 2 _ 0 dX8_byteAt_9 fs_X8_9 rfl rfl sh178 (x := 179) rfl ?_
    refine qX_iload_n 1 dX8_byteAt_12 rfl rfl ?_
    refine qX_iald dX8_byteAt_13 sh179 h.1 ?_
    replace h := h.2
    refine qX_goto 18 dX8_byteAt_14 rfl ?_
    exact qX_ireturn rfl dX8_byteAt_18 rfl ⟨Nat.le_refl _, Nat.le_refl _⟩ h
set_option maxRecDepth 20000 in
theorem e_X8_report {Post : Int → Rf → Mem → Prop} {ρ : Rf} {μ : Mem} {x1 : Int}
  (h : ((μ 178 6 ≤ 0 → ∀ μ1, μ1 = up2 μ 178 6 x1 → ∀ μ2, μ2 = up2 μ1 178 7 (μ1 178 9) → Post 0 ρ μ2) ∧ (0 < μ 178 6 → Post 0 ρ μ))) : qE mX8_report GG GG [qP 178, qI x1] ρ μ Post := by
  refine qE_intro pl_X8_report (Nat.le_of_ble_eq_true rfl) (Nat.le_refl _) ?_
  refine qX_aload_n 0 dX8_report_0 rfl rfl (by decide) ?_
  refine qX_getI 8 6 _ dX8_report_1 fs_X8_119 sh178 ?_
  refine qX_if_le 8 dX8_report_4 rfl (fun hc => ?_) (fun hc => ?_)
  · replace h := h.1 hc
    refine qX_aload_n 0 dX8_report_8 rfl rfl (by decide) ?_
    refine qX_iload_n 1 dX8_report_9 rfl rfl ?_
    refine qX_putI 8 6 _ dX8_report_10 fs_X8_119 sh178 ?_
    replace h := h _ rfl
    refine qX_aload_n 0 dX8_report_13 rfl rfl (by decide) ?_
    refine qX_aload_n 0 dX8_report_14 rfl rfl (by decide) ?_
    refine qX_getI 8 9 _ dX8_report_15 fs_X8_125 sh178 ?_
    refine qX_putI 8 7 _ dX8_report_18 fs_X8_13 sh178 ?_
    replace h := h _ rfl
    exact qX_return rfl dX8_report_21 rfl ⟨Nat.le_refl _, Nat.le_refl _⟩ h
  · replace h := h.2 hc
    exact qX_return rfl dX8_report_7 rfl ⟨Nat.le_refl _, Nat.le_refl _⟩ h
set_option maxRecDepth 20000 in
theorem e_X8_advance {Post : Int → Rf → Mem → Prop} {ρ : Rf} {μ : Mem} 
  (h : ((μ 178 6 ≤ 0 → qX mX8_advance GG Post GG (0, 0) 8 [some (qP 178)] [] ρ μ) ∧ (0 < μ 178 6 → Post 0 ρ μ))) : qE mX8_advance GG GG [qP 178] ρ μ Post := by
  refine qE_intro pl_X8_advance (Nat.le_of_ble_eq_true rfl) (Nat.le_refl _) ?_
  refine qX_aload_n 0 dX8_advance_0 rfl rfl (by decide) ?_
  refine qX_getI 8 6 _ dX8_advance_1 fs_X8_119 sh178 ?_
  refine qX_if_le 8 dX8_advance_4 rfl (fun hc => ?_) (fun hc => ?_)
  · replace h := h.1 hc
    exact qX_mask [true] h
  · replace h := h.2 hc
    exact qX_return rfl dX8_advance_7 rfl ⟨Nat.le_refl _, Nat.le_refl _⟩ h
set_option maxRecDepth 20000 in
theorem w_X8_advance_8 {Post : Int → Rf → Mem → Prop} {ρ : Rf} {μ : Mem} 
  (h : ∃ P : Int → Rf → Mem → Prop, qE mX8_byteAt GG GG [qP 178, qI (μ 178 5)] ρ μ P ∧ ∀ (z1 : Int) (ρ2 : Rf) (μ3 : Mem), P z1 ρ2 μ3 → ((z1 ≠ 32 → ∀ μ5, μ5 = up2 μ3 178 9 (μ3 178 5) → ∀ μ6, μ6 = up2 μ5 178 11 0 → ((μ6 178 5 ≠ μ6 178 4 → ∃ P : Int → Rf → Mem → Prop, qE mX8_byteAt GG GG [qP 178, qI (μ6 178 5)] ρ2 μ6 P ∧ ∀ (z7 : Int) (ρ8 : Rf) (μ9 : Mem), P z7 ρ8 μ9 → ∃ P : Int → Rf → Mem → Prop, qE mX8_in GG GG [qI z7, qI 97, qI 122] ρ8 μ9 P ∧ ∀ (z11 : Int) (ρ12 : Rf) (μ13 : Mem), P z11 ρ12 μ13 → ((z11 = 0 → ∃ P : Int → Rf → Mem → Prop, qE mX8_byteAt GG GG [qP 178, qI (μ13 178 5)] ρ12 μ13 P ∧ ∀ (z15 : Int) (ρ16 : Rf) (μ17 : Mem), P z15 ρ16 μ17 → ∃ P : Int → Rf → Mem → Prop, qE mX8_in GG GG [qI z15, qI 48, qI 57] ρ16 μ17 P ∧ ∀ (z19 : Int) (ρ20 : Rf) (μ21 : Mem), P z19 ρ20 μ21 → ((z19 = 0 → ∃ P : Int → Rf → Mem → Prop, qE mX8_byteAt GG GG [qP 178, qI (μ21 178 5)] ρ20 μ21 P ∧ ∀ (z23 : Int) (ρ24 : Rf) (μ25 : Mem), P z23 ρ24 μ25 → ((z23 ≠ 59 → qX mX8_advance GG Post GG (0, 0) 315 [some (qP 178)] [qI 0, qP 178] ρ24 μ25) ∧ (z23 = 59 → qX mX8_advance GG Post GG (0, 0) 315 [some (qP 178)] [qI 4, qP 178] ρ24 μ25))) ∧ (z19 ≠ 0 → ∀ μ27, μ27 = up2 μ21 178 10 0 → qX mX8_advance GG Post GG (0, 0) 204 [some (qP 178)] [] ρ20 μ27))) ∧ (z11 ≠ 0 → qX mX8_advance GG Post GG (0, 0) 84 [some (qP 178)] [] ρ12 μ13))) ∧ (μ6 178 5 = μ6 178 4 → ∀ μ28, μ28 = up2 μ6 178 8 1 → Post 0 ρ2 μ28))) ∧ (z1 = 32 → i32 ((μ3 178 5) + 1) ∧ ∀ μ29, μ29 = up2 μ3 178 5 ((μ3 178 5) + 1) → qX mX8_advance GG Post GG (0, 0) 8 [some (qP 178)] [] ρ2 μ29))) : qX mX8_advance GG Post GG (0, 0) 8 [some (qP 178)] [] ρ μ := by
  refine qX_aload_n 0 dX8_advance_8 rfl rfl (by decide) ?_
  refine qX_aload_n 0 dX8_advance_9 rfl rfl (by decide) ?_
  refine qX_getI 8 5 _ dX8_advance_10 fs_X8_128 sh178 ?_
  obtain ⟨P, hE4, h⟩ := h
  refine qN_callV mX8_byteAt [_] _ 8 [] dX8_advance_13 cm_X8_131 ⟨(Nat.le_of_ble_eq_true rfl), (Nat.le_of_ble_eq_true rfl)⟩ rfl rfl sh178 (Nat.le_of_ble_eq_true rfl) ⟨rfl, rfl⟩ hE4 (fun z1 ρ2 μ3 hz => ?_)
  replace h := h _ _ _ hz
  refine qX_bip dX8_advance_16 rfl ?_
  refine qX_icmp_ne 34 dX8_advance_18 rfl (fun hc => ?_) (fun hc => ?_)
  · replace h := h.1 hc
    refine qX_aload_n 0 dX8_advance_34 rfl rfl (by decide) ?_
    refine qX_aload_n 0 dX8_advance_35 rfl rfl (by decide) ?_
    refine qX_getI 8 5 _ dX8_advance_36 fs_X8_128 sh178 ?_
    refine qX_putI 8 9 _ dX8_advance_39 fs_X8_125 sh178 ?_
    replace h := h _ rfl
    refine qX_aload_n 0 dX8_advance_42 rfl rfl (by decide) ?_
    refine qX_lconst 0 dX8_advance_43 rfl (i64_of rfl) ?_
    refine qX_putJ 8 11 _ dX8_advance_44 fs_X8_135 sh178 ?_
    replace h := h _ rfl
    refine qX_aload_n 0 dX8_advance_47 rfl rfl (by decide) ?_
    refine qX_getI 8 5 _ dX8_advance_48 fs_X8_128 sh178 ?_
    refine qX_aload_n 0 dX8_advance_51 rfl rfl (by decide) ?_
    refine qX_getI 8 4 _ dX8_advance_52 fs_X8_122 sh178 ?_
    refine qX_icmp_ne 66 dX8_advance_55 rfl (fun hc => ?_) (fun hc => ?_)
    · replace h := h.1 hc
      refine qX_aload_n 0 dX8_advance_66 rfl rfl (by decide) ?_
      refine qX_aload_n 0 dX8_advance_67 rfl rfl (by decide) ?_
      refine qX_getI 8 5 _ dX8_advance_68 fs_X8_128 sh178 ?_
      obtain ⟨P, hE10, h⟩ := h
      refine qN_callV mX8_byteAt [_] _ 8 [] dX8_advance_71 cm_X8_131 ⟨(Nat.le_of_ble_eq_true rfl), (Nat.le_of_ble_eq_true rfl)⟩ rfl rfl sh178 (Nat.le_of_ble_eq_true rfl) ⟨rfl, rfl⟩ hE10 (fun z7 ρ8 μ9 hz => ?_)
      replace h := h _ _ _ hz
      refine qX_bip dX8_advance_74 rfl ?_
      refine qX_bip dX8_advance_76 rfl ?_
      obtain ⟨P, hE14, h⟩ := h
      refine qN_callS mX8_in [_, _, _] [] dX8_advance_78 cm_X8_142 ⟨(Nat.le_of_ble_eq_true rfl), (Nat.le_of_ble_eq_true rfl)⟩ rfl rfl (Nat.le_of_ble_eq_true rfl) ⟨rfl, rfl⟩ hE14 (fun z11 ρ12 μ13 hz => ?_)
      replace h := h _ _ _ hz
      refine qX_if_eq 181 dX8_advance_81 rfl (fun hc => ?_) (fun hc => ?_)
      · replace h := h.1 hc
        refine qX_aload_n 0 dX8_advance_181 rfl rfl (by decide) ?_
        refine qX_aload_n 0 dX8_advance_182 rfl rfl (by decide) ?_
        refine qX_getI 8 5 _ dX8_advance_183 fs_X8_128 sh178 ?_
        obtain ⟨P, hE18, h⟩ := h
        refine qN_callV mX8_byteAt [_] _ 8 [] dX8_advance_186 cm_X8_131 ⟨(Nat.le_of_ble_eq_true rfl), (Nat.le_of_ble_eq_true rfl)⟩ rfl rfl sh178 (Nat.le_of_ble_eq_true rfl) ⟨rfl, rfl⟩ hE18 (fun z15 ρ16 μ17 hz => ?_)
        replace h := h _ _ _ hz
        refine qX_bip dX8_advance_189 rfl ?_
        refine qX_bip dX8_advance_191 rfl ?_
        obtain ⟨P, hE22, h⟩ := h
        refine qN_callS mX8_in [_, _, _] [] dX8_advance_193 cm_X8_142 ⟨(Nat.le_of_ble_eq_true rfl), (Nat.le_of_ble_eq_true rfl)⟩ rfl rfl (Nat.le_of_ble_eq_true rfl) ⟨rfl, rfl⟩ hE22 (fun z19 ρ20 μ21 hz => ?_)
        replace h := h _ _ _ hz
        refine qX_if_eq 296 dX8_advance_196 rfl (fun hc => ?_) (fun hc => ?_)
        · replace h := h.1 hc
          refine qX_aload_n 0 dX8_advance_296 rfl rfl (by decide) ?_
          refine qX_aload_n 0 dX8_advance_297 rfl rfl (by decide) ?_
          refine qX_aload_n 0 dX8_advance_298 rfl rfl (by decide) ?_
          refine qX_getI 8 5 _ dX8_advance_299 fs_X8_128 sh178 ?_
          obtain ⟨P, hE26, h⟩ := h
          refine qN_callV mX8_byteAt [_] _ 8 [_] dX8_advance_302 cm_X8_131 ⟨(Nat.le_of_ble_eq_true rfl), (Nat.le_of_ble_eq_true rfl)⟩ rfl rfl sh178 (Nat.le_of_ble_eq_true rfl) ⟨rfl, rfl⟩ hE26 (fun z23 ρ24 μ25 hz => ?_)
          replace h := h _ _ _ hz
          refine qX_bip dX8_advance_305 rfl ?_
          refine qX_icmp_ne 314 dX8_advance_307 rfl (fun hc => ?_) (fun hc => ?_)
          · replace h := h.1 hc
            refine qX_iconst dX8_advance_314 (i32_of rfl) ?_
            exact qX_mask [true] h
          · replace h := h.2 hc
            refine qX_iconst dX8_advance_310 (i32_of rfl) ?_
            refine qX_goto 315 dX8_advance_311 rfl ?_
            exact qX_mask [true] h
        · replace h := h.2 hc
          refine qX_aload_n 0 dX8_advance_199 rfl rfl (by decide) ?_
          refine qX_iconst dX8_advance_200 (i32_of rfl) ?_
          refine qX_putI 8 10 _ dX8_advance_201 fs_X8_150 sh178 ?_
          replace h := h _ rfl
          exact qX_mask [true] h
      · replace h := h.2 hc
        exact qX_mask [true] h
    · replace h := h.2 hc
      refine qX_aload_n 0 dX8_advance_58 rfl rfl (by decide) ?_
      refine qX_iconst dX8_advance_59 (i32_of rfl) ?_
      refine qX_putI 8 8 _ dX8_advance_60 fs_X8_139 sh178 ?_
      replace h := h _ rfl
      refine qX_goto 328 dX8_advance_63 rfl ?_
      exact qX_return rfl dX8_advance_328 rfl ⟨Nat.le_refl _, Nat.le_refl _⟩ h
  · replace h := h.2 hc
    refine qX_aload_n 0 dX8_advance_21 rfl rfl (by decide) ?_
    refine qX_dup dX8_advance_22 rfl ?_
    refine qX_getI 8 5 _ dX8_advance_23 fs_X8_128 sh178 ?_
    refine qX_iconst dX8_advance_26 (i32_of rfl) ?_
    refine qR_iadd dX8_advance_27 h.1 ?_
    replace h := h.2
    refine qX_putI 8 5 _ dX8_advance_28 fs_X8_128 sh178 ?_
    replace h := h _ rfl
    refine qX_goto 8 dX8_advance_31 rfl ?_
    exact qX_mask [true] h
set_option maxRecDepth 20000 in
theorem w_X8_advance_315 {Post : Int → Rf → Mem → Prop} {ρ : Rf} {μ : Mem} {s1 : Int}
  (h : ∀ μ1, μ1 = up2 μ 178 8 s1 → i32 ((μ1 178 5) + 1) ∧ ∀ μ2, μ2 = up2 μ1 178 5 ((μ1 178 5) + 1) → Post 0 ρ μ2) : qX mX8_advance GG Post GG (0, 0) 315 [some (qP 178)] [qI s1, qP 178] ρ μ := by
  refine qX_putI 8 8 _ dX8_advance_315 fs_X8_139 sh178 ?_
  replace h := h _ rfl
  refine qX_aload_n 0 dX8_advance_318 rfl rfl (by decide) ?_
  refine qX_dup dX8_advance_319 rfl ?_
  refine qX_getI 8 5 _ dX8_advance_320 fs_X8_128 sh178 ?_
  refine qX_iconst dX8_advance_323 (i32_of rfl) ?_
  refine qR_iadd dX8_advance_324 h.1 ?_
  replace h := h.2
  refine qX_putI 8 5 _ dX8_advance_325 fs_X8_128 sh178 ?_
  replace h := h _ rfl
  exact qX_return rfl dX8_advance_328 rfl ⟨Nat.le_refl _, Nat.le_refl _⟩ h
set_option maxRecDepth 20000 in
theorem w_X8_advance_204 {Post : Int → Rf → Mem → Prop} {ρ : Rf} {μ : Mem} 
  (h : ∃ P : Int → Rf → Mem → Prop, qE mX8_byteAt GG GG [qP 178, qI (μ 178 5)] ρ μ P ∧ ∀ (z1 : Int) (ρ2 : Rf) (μ3 : Mem), P z1 ρ2 μ3 → ∃ P : Int → Rf → Mem → Prop, qE mX8_in GG GG [qI z1, qI 48, qI 57] ρ2 μ3 P ∧ ∀ (z5 : Int) (ρ6 : Rf) (μ7 : Mem), P z5 ρ6 μ7 → ((z5 = 0 → i32 ((μ7 178 5) - (μ7 178 9)) ∧ (((μ7 178 5) - (μ7 178 9) ≤ 3 → ∀ μ9, μ9 = up2 μ7 178 8 3 → Post 0 ρ6 μ9) ∧ (3 < (μ7 178 5) - (μ7 178 9) → ∀ μ10, μ10 = up2 μ7 178 8 0 → Post 0 ρ6 μ10))) ∧ (z5 ≠ 0 → i32 ((μ7 178 5) - (μ7 178 9)) ∧ ((3 ≤ (μ7 178 5) - (μ7 178 9) → qX mX8_advance GG Post GG (0, 0) 258 [some (qP 178)] [] ρ6 μ7) ∧ ((μ7 178 5) - (μ7 178 9) < 3 → i32 (10 * (μ7 178 10)) ∧ ∃ P : Int → Rf → Mem → Prop, qE mX8_byteAt GG GG [qP 178, qI (μ7 178 5)] ρ6 μ7 P ∧ ∀ (z11 : Int) (ρ12 : Rf) (μ13 : Mem), P z11 ρ12 μ13 → i32 ((10 * (μ7 178 10)) + z11) ∧ i32 (((10 * (μ7 178 10)) + z11) - 48) ∧ ∀ μ15, μ15 = up2 μ13 178 10 (((10 * (μ7 178 10)) + z11) - 48) → qX mX8_advance GG Post GG (0, 0) 258 [some (qP 178)] [] ρ12 μ15))))) : qX mX8_advance GG Post GG (0, 0) 204 [some (qP 178)] [] ρ μ := by
  refine qX_aload_n 0 dX8_advance_204 rfl rfl (by decide) ?_
  refine qX_aload_n 0 dX8_advance_205 rfl rfl (by decide) ?_
  refine qX_getI 8 5 _ dX8_advance_206 fs_X8_128 sh178 ?_
  obtain ⟨P, hE4, h⟩ := h
  refine qN_callV mX8_byteAt [_] _ 8 [] dX8_advance_209 cm_X8_131 ⟨(Nat.le_of_ble_eq_true rfl), (Nat.le_of_ble_eq_true rfl)⟩ rfl rfl sh178 (Nat.le_of_ble_eq_true rfl) ⟨rfl, rfl⟩ hE4 (fun z1 ρ2 μ3 hz => ?_)
  replace h := h _ _ _ hz
  refine qX_bip dX8_advance_212 rfl ?_
  refine qX_bip dX8_advance_214 rfl ?_
  obtain ⟨P, hE8, h⟩ := h
  refine qN_callS mX8_in [_, _, _] [] dX8_advance_216 cm_X8_142 ⟨(Nat.le_of_ble_eq_true rfl), (Nat.le_of_ble_eq_true rfl)⟩ rfl rfl (Nat.le_of_ble_eq_true rfl) ⟨rfl, rfl⟩ hE8 (fun z5 ρ6 μ7 hz => ?_)
  replace h := h _ _ _ hz
  refine qX_if_eq 271 dX8_advance_219 rfl (fun hc => ?_) (fun hc => ?_)
  · replace h := h.1 hc
    refine qX_aload_n 0 dX8_advance_271 rfl rfl (by decide) ?_
    refine qX_aload_n 0 dX8_advance_272 rfl rfl (by decide) ?_
    refine qX_getI 8 5 _ dX8_advance_273 fs_X8_128 sh178 ?_
    refine qX_aload_n 0 dX8_advance_276 rfl rfl (by decide) ?_
    refine qX_getI 8 9 _ dX8_advance_277 fs_X8_125 sh178 ?_
    refine qR_isub dX8_advance_280 h.1 ?_
    replace h := h.2
    refine qX_iconst dX8_advance_281 (i32_of rfl) ?_
    refine qX_icmp_le 289 dX8_advance_282 rfl (fun hc => ?_) (fun hc => ?_)
    · replace h := h.1 hc
      refine qX_iconst dX8_advance_289 (i32_of rfl) ?_
      refine qX_putI 8 8 _ dX8_advance_290 fs_X8_139 sh178 ?_
      replace h := h _ rfl
      refine qX_goto 328 dX8_advance_293 rfl ?_
      exact qX_return rfl dX8_advance_328 rfl ⟨Nat.le_refl _, Nat.le_refl _⟩ h
    · replace h := h.2 hc
      refine qX_iconst dX8_advance_285 (i32_of rfl) ?_
      refine qX_goto 290 dX8_advance_286 rfl ?_
      refine qX_putI 8 8 _ dX8_advance_290 fs_X8_139 sh178 ?_
      replace h := h _ rfl
      refine qX_goto 328 dX8_advance_293 rfl ?_
      exact qX_return rfl dX8_advance_328 rfl ⟨Nat.le_refl _, Nat.le_refl _⟩ h
  · replace h := h.2 hc
    refine qX_aload_n 0 dX8_advance_222 rfl rfl (by decide) ?_
    refine qX_getI 8 5 _ dX8_advance_223 fs_X8_128 sh178 ?_
    refine qX_aload_n 0 dX8_advance_226 rfl rfl (by decide) ?_
    refine qX_getI 8 9 _ dX8_advance_227 fs_X8_125 sh178 ?_
    refine qR_isub dX8_advance_230 h.1 ?_
    replace h := h.2
    refine qX_iconst dX8_advance_231 (i32_of rfl) ?_
    refine qX_icmp_ge 258 dX8_advance_232 rfl (fun hc => ?_) (fun hc => ?_)
    · replace h := h.1 hc
      exact qX_mask [true] h
    · replace h := h.2 hc
      refine qX_aload_n 0 dX8_advance_235 rfl rfl (by decide) ?_
      refine qX_bip dX8_advance_236 rfl ?_
      refine qX_aload_n 0 dX8_advance_238 rfl rfl (by decide) ?_
      refine qX_getI 8 10 _ dX8_advance_239 fs_X8_150 sh178 ?_
      refine qR_imul dX8_advance_242 h.1 ?_
      replace h := h.2
      refine qX_aload_n 0 dX8_advance_243 rfl rfl (by decide) ?_
      refine qX_aload_n 0 dX8_advance_244 rfl rfl (by decide) ?_
      refine qX_getI 8 5 _ dX8_advance_245 fs_X8_128 sh178 ?_
      obtain ⟨P, hE14, h⟩ := h
      refine qN_callV mX8_byteAt [_] _ 8 [_, _] dX8_advance_248 cm_X8_131 ⟨(Nat.le_of_ble_eq_true rfl), (Nat.le_of_ble_eq_true rfl)⟩ rfl rfl sh178 (Nat.le_of_ble_eq_true rfl) ⟨rfl, rfl⟩ hE14 (fun z11 ρ12 μ13 hz => ?_)
      replace h := h _ _ _ hz
      refine qR_iadd dX8_advance_251 h.1 ?_
      replace h := h.2
      refine qX_bip dX8_advance_252 rfl ?_
      refine qR_isub dX8_advance_254 h.1 ?_
      replace h := h.2
      refine qX_putI 8 10 _ dX8_advance_255 fs_X8_150 sh178 ?_
      replace h := h _ rfl
      exact qX_mask [true] h
set_option maxRecDepth 20000 in
theorem w_X8_advance_84 {Post : Int → Rf → Mem → Prop} {ρ : Rf} {μ : Mem} 
  (h : ∃ P : Int → Rf → Mem → Prop, qE mX8_byteAt GG GG [qP 178, qI (μ 178 5)] ρ μ P ∧ ∀ (z1 : Int) (ρ2 : Rf) (μ3 : Mem), P z1 ρ2 μ3 → ∃ P : Int → Rf → Mem → Prop, qE mX8_in GG GG [qI z1, qI 97, qI 122] ρ2 μ3 P ∧ ∀ (z5 : Int) (ρ6 : Rf) (μ7 : Mem), P z5 ρ6 μ7 → ((z5 = 0 → i32 ((μ7 178 5) - (μ7 178 9)) ∧ (((μ7 178 5) - (μ7 178 9) ≤ 8 → ∀ μ9, μ9 = up2 μ7 178 8 2 → Post 0 ρ6 μ9) ∧ (8 < (μ7 178 5) - (μ7 178 9) → ∀ μ10, μ10 = up2 μ7 178 8 0 → Post 0 ρ6 μ10))) ∧ (z5 ≠ 0 → i32 ((μ7 178 5) - (μ7 178 9)) ∧ ((8 ≤ (μ7 178 5) - (μ7 178 9) → qX mX8_advance GG Post GG (0, 0) 142 [some (qP 178)] [] ρ6 μ7) ∧ ((μ7 178 5) - (μ7 178 9) < 8 → i64 (32 * (μ7 178 11)) ∧ ∃ P : Int → Rf → Mem → Prop, qE mX8_byteAt GG GG [qP 178, qI (μ7 178 5)] ρ6 μ7 P ∧ ∀ (z11 : Int) (ρ12 : Rf) (μ13 : Mem), P z11 ρ12 μ13 → i64 ((32 * (μ7 178 11)) + z11) ∧ i64 (((32 * (μ7 178 11)) + z11) - 96) ∧ ∀ μ15, μ15 = up2 μ13 178 11 (((32 * (μ7 178 11)) + z11) - 96) → qX mX8_advance GG Post GG (0, 0) 142 [some (qP 178)] [] ρ12 μ15))))) : qX mX8_advance GG Post GG (0, 0) 84 [some (qP 178)] [] ρ μ := by
  refine qX_aload_n 0 dX8_advance_84 rfl rfl (by decide) ?_
  refine qX_aload_n 0 dX8_advance_85 rfl rfl (by decide) ?_
  refine qX_getI 8 5 _ dX8_advance_86 fs_X8_128 sh178 ?_
  obtain ⟨P, hE4, h⟩ := h
  refine qN_callV mX8_byteAt [_] _ 8 [] dX8_advance_89 cm_X8_131 ⟨(Nat.le_of_ble_eq_true rfl), (Nat.le_of_ble_eq_true rfl)⟩ rfl rfl sh178 (Nat.le_of_ble_eq_true rfl) ⟨rfl, rfl⟩ hE4 (fun z1 ρ2 μ3 hz => ?_)
  replace h := h _ _ _ hz
  refine qX_bip dX8_advance_92 rfl ?_
  refine qX_bip dX8_advance_94 rfl ?_
  obtain ⟨P, hE8, h⟩ := h
  refine qN_callS mX8_in [_, _, _] [] dX8_advance_96 cm_X8_142 ⟨(Nat.le_of_ble_eq_true rfl), (Nat.le_of_ble_eq_true rfl)⟩ rfl rfl (Nat.le_of_ble_eq_true rfl) ⟨rfl, rfl⟩ hE8 (fun z5 ρ6 μ7 hz => ?_)
  replace h := h _ _ _ hz
  refine qX_if_eq 155 dX8_advance_99 rfl (fun hc => ?_) (fun hc => ?_)
  · replace h := h.1 hc
    refine qX_aload_n 0 dX8_advance_155 rfl rfl (by decide) ?_
    refine qX_aload_n 0 dX8_advance_156 rfl rfl (by decide) ?_
    refine qX_getI 8 5 _ dX8_advance_157 fs_X8_128 sh178 ?_
    refine qX_aload_n 0 dX8_advance_160 rfl rfl (by decide) ?_
    refine qX_getI 8 9 _ dX8_advance_161 fs_X8_125 sh178 ?_
    refine qR_isub dX8_advance_164 h.1 ?_
    replace h := h.2
    refine qX_bip dX8_advance_165 rfl ?_
    refine qX_icmp_le 174 dX8_advance_167 rfl (fun hc => ?_) (fun hc => ?_)
    · replace h := h.1 hc
      refine qX_iconst dX8_advance_174 (i32_of rfl) ?_
      refine qX_putI 8 8 _ dX8_advance_175 fs_X8_139 sh178 ?_
      replace h := h _ rfl
      refine qX_goto 328 dX8_advance_178 rfl ?_
      exact qX_return rfl dX8_advance_328 rfl ⟨Nat.le_refl _, Nat.le_refl _⟩ h
    · replace h := h.2 hc
      refine qX_iconst dX8_advance_170 (i32_of rfl) ?_
      refine qX_goto 175 dX8_advance_171 rfl ?_
      refine qX_putI 8 8 _ dX8_advance_175 fs_X8_139 sh178 ?_
      replace h := h _ rfl
      refine qX_goto 328 dX8_advance_178 rfl ?_
      exact qX_return rfl dX8_advance_328 rfl ⟨Nat.le_refl _, Nat.le_refl _⟩ h
  · replace h := h.2 hc
    refine qX_aload_n 0 dX8_advance_102 rfl rfl (by decide) ?_
    refine qX_getI 8 5 _ dX8_advance_103 fs_X8_128 sh178 ?_
    refine qX_aload_n 0 dX8_advance_106 rfl rfl (by decide) ?_
    refine qX_getI 8 9 _ dX8_advance_107 fs_X8_125 sh178 ?_
    refine qR_isub dX8_advance_110 h.1 ?_
    replace h := h.2
    refine qX_bip dX8_advance_111 rfl ?_
    refine qX_icmp_ge 142 dX8_advance_113 rfl (fun hc => ?_) (fun hc => ?_)
    · replace h := h.1 hc
      exact qX_mask [true] h
    · replace h := h.2 hc
      refine qX_aload_n 0 dX8_advance_116 rfl rfl (by decide) ?_
      refine qX_ldc2 (n := 32) dX8_advance_117 kK_X8_146 (i64_of rfl) ?_
      refine qX_aload_n 0 dX8_advance_120 rfl rfl (by decide) ?_
      refine qX_getJ 8 11 _ dX8_advance_121 fs_X8_135 sh178 ?_
      refine qR_lmul dX8_advance_124 h.1 ?_
      replace h := h.2
      refine qX_aload_n 0 dX8_advance_125 rfl rfl (by decide) ?_
      refine qX_aload_n 0 dX8_advance_126 rfl rfl (by decide) ?_
      refine qX_getI 8 5 _ dX8_advance_127 fs_X8_128 sh178 ?_
      obtain ⟨P, hE14, h⟩ := h
      refine qN_callV mX8_byteAt [_] _ 8 [_, _] dX8_advance_130 cm_X8_131 ⟨(Nat.le_of_ble_eq_true rfl), (Nat.le_of_ble_eq_true rfl)⟩ rfl rfl sh178 (Nat.le_of_ble_eq_true rfl) ⟨rfl, rfl⟩ hE14 (fun z11 ρ12 μ13 hz => ?_)
      replace h := h _ _ _ hz
      refine qX_i2l dX8_advance_133 ?_
      refine qR_ladd dX8_advance_134 h.1 ?_
      replace h := h.2
      refine qX_ldc2 (n := 96) dX8_advance_135 kK_X8_148 (i64_of rfl) ?_
      refine qR_lsub dX8_advance_138 h.1 ?_
      replace h := h.2
      refine qX_putJ 8 11 _ dX8_advance_139 fs_X8_135 sh178 ?_
      replace h := h _ rfl
      exact qX_mask [true] h
set_option maxRecDepth 20000 in
theorem w_X8_advance_258 {Post : Int → Rf → Mem → Prop} {ρ : Rf} {μ : Mem} 
  (h : i32 ((μ 178 5) + 1) ∧ ∀ μ1, μ1 = up2 μ 178 5 ((μ 178 5) + 1) → qX mX8_advance GG Post GG (0, 0) 204 [some (qP 178)] [] ρ μ1) : qX mX8_advance GG Post GG (0, 0) 258 [some (qP 178)] [] ρ μ := by
  refine qX_aload_n 0 dX8_advance_258 rfl rfl (by decide) ?_
  refine qX_dup dX8_advance_259 rfl ?_
  refine qX_getI 8 5 _ dX8_advance_260 fs_X8_128 sh178 ?_
  refine qX_iconst dX8_advance_263 (i32_of rfl) ?_
  refine qR_iadd dX8_advance_264 h.1 ?_
  replace h := h.2
  refine qX_putI 8 5 _ dX8_advance_265 fs_X8_128 sh178 ?_
  replace h := h _ rfl
  refine qX_goto 204 dX8_advance_268 rfl ?_
  exact qX_mask [true] h
set_option maxRecDepth 20000 in
theorem w_X8_advance_142 {Post : Int → Rf → Mem → Prop} {ρ : Rf} {μ : Mem} 
  (h : i32 ((μ 178 5) + 1) ∧ ∀ μ1, μ1 = up2 μ 178 5 ((μ 178 5) + 1) → qX mX8_advance GG Post GG (0, 0) 84 [some (qP 178)] [] ρ μ1) : qX mX8_advance GG Post GG (0, 0) 142 [some (qP 178)] [] ρ μ := by
  refine qX_aload_n 0 dX8_advance_142 rfl rfl (by decide) ?_
  refine qX_dup dX8_advance_143 rfl ?_
  refine qX_getI 8 5 _ dX8_advance_144 fs_X8_128 sh178 ?_
  refine qX_iconst dX8_advance_147 (i32_of rfl) ?_
  refine qR_iadd dX8_advance_148 h.1 ?_
  replace h := h.2
  refine qX_putI 8 5 _ dX8_advance_149 fs_X8_128 sh178 ?_
  replace h := h _ rfl
  refine qX_goto 84 dX8_advance_152 rfl ?_
  exact qX_mask [true] h
set_option maxRecDepth 20000 in
theorem e_X8_keyword {Post : Int → Rf → Mem → Prop} {ρ : Rf} {μ : Mem} {x1 : Int}
  (h : ∃ P : Int → Rf → Mem → Prop, qE mX8_reserved GG GG [qP 178] ρ μ P ∧ ∀ (z1 : Int) (ρ2 : Rf) (μ3 : Mem), P z1 ρ2 μ3 → ((z1 = x1 → ∃ P : Int → Rf → Mem → Prop, qE mX8_advance GG GG [qP 178] ρ2 μ3 P ∧ ∀ (z5 : Int) (ρ6 : Rf) (μ7 : Mem), P z5 ρ6 μ7 → Post 0 ρ6 μ7) ∧ (z1 ≠ x1 → ∃ P : Int → Rf → Mem → Prop, qE mX8_report GG GG [qP 178, qI 1] ρ2 μ3 P ∧ ∀ (z9 : Int) (ρ10 : Rf) (μ11 : Mem), P z9 ρ10 μ11 → ∃ P : Int → Rf → Mem → Prop, qE mX8_advance GG GG [qP 178] ρ10 μ11 P ∧ ∀ (z13 : Int) (ρ14 : Rf) (μ15 : Mem), P z13 ρ14 μ15 → Post 0 ρ14 μ15))) : qE mX8_keyword GG GG [qP 178, qI x1] ρ μ Post := by
  refine qE_intro pl_X8_keyword (Nat.le_of_ble_eq_true rfl) (Nat.le_refl _) ?_
  refine qX_aload_n 0 dX8_keyword_0 rfl rfl (by decide) ?_
  obtain ⟨P, hE4, h⟩ := h
  refine qN_callV mX8_reserved [] _ 8 [] dX8_keyword_1 cm_X8_165 ⟨(Nat.le_of_ble_eq_true rfl), (Nat.le_of_ble_eq_true rfl)⟩ rfl rfl sh178 (Nat.le_of_ble_eq_true rfl) ⟨rfl, rfl⟩ hE4 (fun z1 ρ2 μ3 hz => ?_)
  replace h := h _ _ _ hz
  refine qX_iload_n 1 dX8_keyword_4 rfl rfl ?_
  refine qX_icmp_eq 13 dX8_keyword_5 rfl (fun hc => ?_) (fun hc => ?_)
  · replace h := h.1 hc
    refine qX_aload_n 0 dX8_keyword_13 rfl rfl (by decide) ?_
    obtain ⟨P, hE8, h⟩ := h
    refine qN_callV mX8_advance [] _ 8 [] dX8_keyword_14 cm_X8_171 ⟨(Nat.le_of_ble_eq_true rfl), (Nat.le_of_ble_eq_true rfl)⟩ rfl rfl sh178 (Nat.le_of_ble_eq_true rfl) ⟨rfl, rfl⟩ hE8 (fun z5 ρ6 μ7 hz => ?_)
    replace h := h _ _ _ hz
    exact qX_return rfl dX8_keyword_17 rfl ⟨Nat.le_refl _, Nat.le_refl _⟩ h
  · replace h := h.2 hc
    refine qX_aload_n 0 dX8_keyword_8 rfl rfl (by decide) ?_
    refine qX_iconst dX8_keyword_9 (i32_of rfl) ?_
    obtain ⟨P, hE12, h⟩ := h
    refine qN_callV mX8_report [_] _ 8 [] dX8_keyword_10 cm_X8_168 ⟨(Nat.le_of_ble_eq_true rfl), (Nat.le_of_ble_eq_true rfl)⟩ rfl rfl sh178 (Nat.le_of_ble_eq_true rfl) ⟨rfl, rfl⟩ hE12 (fun z9 ρ10 μ11 hz => ?_)
    replace h := h _ _ _ hz
    refine qX_aload_n 0 dX8_keyword_13 rfl rfl (by decide) ?_
    obtain ⟨P, hE16, h⟩ := h
    refine qN_callV mX8_advance [] _ 8 [] dX8_keyword_14 cm_X8_171 ⟨(Nat.le_of_ble_eq_true rfl), (Nat.le_of_ble_eq_true rfl)⟩ rfl rfl sh178 (Nat.le_of_ble_eq_true rfl) ⟨rfl, rfl⟩ hE16 (fun z13 ρ14 μ15 hz => ?_)
    replace h := h _ _ _ hz
    exact qX_return rfl dX8_keyword_17 rfl ⟨Nat.le_refl _, Nat.le_refl _⟩ h
set_option maxRecDepth 20000 in
theorem e_X8_peek {Post : Int → Rf → Mem → Prop} {ρ : Rf} {μ : Mem} {x1 : Int} {x2 : Int}
  (h : ((μ 178 6 ≤ 0 → ((μ 178 8 = 3 → ∃ P : Int → Rf → Mem → Prop, qE mX8_in GG GG [qI (μ 178 10), qI x1, qI x2] ρ μ P ∧ ∀ (z1 : Int) (ρ2 : Rf) (μ3 : Mem), P z1 ρ2 μ3 → ((z1 ≠ 0 → ((μ3 178 6 ≤ 0 → Post (μ3 178 10) ρ2 μ3) ∧ (0 < μ3 178 6 → Post x1 ρ2 μ3))) ∧ (z1 = 0 → ∃ P : Int → Rf → Mem → Prop, qE mX8_report GG GG [qP 178, qI 2] ρ2 μ3 P ∧ ∀ (z5 : Int) (ρ6 : Rf) (μ7 : Mem), P z5 ρ6 μ7 → ((μ7 178 6 ≤ 0 → Post (μ7 178 10) ρ6 μ7) ∧ (0 < μ7 178 6 → Post x1 ρ6 μ7))))) ∧ (μ 178 8 ≠ 3 → ∃ P : Int → Rf → Mem → Prop, qE mX8_report GG GG [qP 178, qI 1] ρ μ P ∧ ∀ (z9 : Int) (ρ10 : Rf) (μ11 : Mem), P z9 ρ10 μ11 → ((μ11 178 6 ≤ 0 → Post (μ11 178 10) ρ10 μ11) ∧ (0 < μ11 178 6 → Post x1 ρ10 μ11))))) ∧ (0 < μ 178 6 → Post x1 ρ μ))) : qE mX8_peek GG GG [qP 178, qI x1, qI x2] ρ μ Post := by
  refine qE_intro pl_X8_peek (Nat.le_of_ble_eq_true rfl) (Nat.le_refl _) ?_
  refine qX_aload_n 0 dX8_peek_0 rfl rfl (by decide) ?_
  refine qX_getI 8 6 _ dX8_peek_1 fs_X8_119 sh178 ?_
  refine qX_if_le 9 dX8_peek_4 rfl (fun hc => ?_) (fun hc => ?_)
  · replace h := h.1 hc
    refine qX_aload_n 0 dX8_peek_9 rfl rfl (by decide) ?_
    refine qX_getI 8 8 _ dX8_peek_10 fs_X8_139 sh178 ?_
    refine qX_iconst dX8_peek_13 (i32_of rfl) ?_
    refine qX_icmp_eq 25 dX8_peek_14 rfl (fun hc => ?_) (fun hc => ?_)
    · replace h := h.1 hc
      refine qX_aload_n 0 dX8_peek_25 rfl rfl (by decide) ?_
      refine qX_getI 8 10 _ dX8_peek_26 fs_X8_150 sh178 ?_
      refine qX_iload_n 1 dX8_peek_29 rfl rfl ?_
      refine qX_iload_n 2 dX8_peek_30 rfl rfl ?_
      obtain ⟨P, hE4, h⟩ := h
      refine qN_callS mX8_in [_, _, _] [] dX8_peek_31 cm_X8_142 ⟨(Nat.le_of_ble_eq_true rfl), (Nat.le_of_ble_eq_true rfl)⟩ rfl rfl (Nat.le_of_ble_eq_true rfl) ⟨rfl, rfl⟩ hE4 (fun z1 ρ2 μ3 hz => ?_)
      replace h := h _ _ _ hz
      refine qX_if_ne 42 dX8_peek_34 rfl (fun hc => ?_) (fun hc => ?_)
      · replace h := h.1 hc
        refine qX_aload_n 0 dX8_peek_42 rfl rfl (by decide) ?_
        refine qX_getI 8 6 _ dX8_peek_43 fs_X8_119 sh178 ?_
        refine qX_if_le 53 dX8_peek_46 rfl (fun hc => ?_) (fun hc => ?_)
        · replace h := h.1 hc
          refine qX_aload_n 0 dX8_peek_53 rfl rfl (by decide) ?_
          refine qX_getI 8 10 _ dX8_peek_54 fs_X8_150 sh178 ?_
          exact qX_ireturn rfl dX8_peek_57 rfl ⟨Nat.le_refl _, Nat.le_refl _⟩ h
        · replace h := h.2 hc
          refine qX_iload_n 1 dX8_peek_49 rfl rfl ?_
          refine qX_goto 57 dX8_peek_50 rfl ?_
          exact qX_ireturn rfl dX8_peek_57 rfl ⟨Nat.le_refl _, Nat.le_refl _⟩ h
      · replace h := h.2 hc
        refine qX_aload_n 0 dX8_peek_37 rfl rfl (by decide) ?_
        refine qX_iconst dX8_peek_38 (i32_of rfl) ?_
        obtain ⟨P, hE8, h⟩ := h
        refine qN_callV mX8_report [_] _ 8 [] dX8_peek_39 cm_X8_168 ⟨(Nat.le_of_ble_eq_true rfl), (Nat.le_of_ble_eq_true rfl)⟩ rfl rfl sh178 (Nat.le_of_ble_eq_true rfl) ⟨rfl, rfl⟩ hE8 (fun z5 ρ6 μ7 hz => ?_)
        replace h := h _ _ _ hz
        refine qX_aload_n 0 dX8_peek_42 rfl rfl (by decide) ?_
        refine qX_getI 8 6 _ dX8_peek_43 fs_X8_119 sh178 ?_
        refine qX_if_le 53 dX8_peek_46 rfl (fun hc => ?_) (fun hc => ?_)
        · replace h := h.1 hc
          refine qX_aload_n 0 dX8_peek_53 rfl rfl (by decide) ?_
          refine qX_getI 8 10 _ dX8_peek_54 fs_X8_150 sh178 ?_
          exact qX_ireturn rfl dX8_peek_57 rfl ⟨Nat.le_refl _, Nat.le_refl _⟩ h
        · replace h := h.2 hc
          refine qX_iload_n 1 dX8_peek_49 rfl rfl ?_
          refine qX_goto 57 dX8_peek_50 rfl ?_
          exact qX_ireturn rfl dX8_peek_57 rfl ⟨Nat.le_refl _, Nat.le_refl _⟩ h
    · replace h := h.2 hc
      refine qX_aload_n 0 dX8_peek_17 rfl rfl (by decide) ?_
      refine qX_iconst dX8_peek_18 (i32_of rfl) ?_
      obtain ⟨P, hE12, h⟩ := h
      refine qN_callV mX8_report [_] _ 8 [] dX8_peek_19 cm_X8_168 ⟨(Nat.le_of_ble_eq_true rfl), (Nat.le_of_ble_eq_true rfl)⟩ rfl rfl sh178 (Nat.le_of_ble_eq_true rfl) ⟨rfl, rfl⟩ hE12 (fun z9 ρ10 μ11 hz => ?_)
      replace h := h _ _ _ hz
      refine qX_goto 42 dX8_peek_22 rfl ?_
      refine qX_aload_n 0 dX8_peek_42 rfl rfl (by decide) ?_
      refine qX_getI 8 6 _ dX8_peek_43 fs_X8_119 sh178 ?_
      refine qX_if_le 53 dX8_peek_46 rfl (fun hc => ?_) (fun hc => ?_)
      · replace h := h.1 hc
        refine qX_aload_n 0 dX8_peek_53 rfl rfl (by decide) ?_
        refine qX_getI 8 10 _ dX8_peek_54 fs_X8_150 sh178 ?_
        exact qX_ireturn rfl dX8_peek_57 rfl ⟨Nat.le_refl _, Nat.le_refl _⟩ h
      · replace h := h.2 hc
        refine qX_iload_n 1 dX8_peek_49 rfl rfl ?_
        refine qX_goto 57 dX8_peek_50 rfl ?_
        exact qX_ireturn rfl dX8_peek_57 rfl ⟨Nat.le_refl _, Nat.le_refl _⟩ h
  · replace h := h.2 hc
    refine qX_iload_n 1 dX8_peek_7 rfl rfl ?_
    exact qX_ireturn rfl dX8_peek_8 rfl ⟨Nat.le_refl _, Nat.le_refl _⟩ h
set_option maxRecDepth 20000 in
theorem e_X8_number {Post : Int → Rf → Mem → Prop} {ρ : Rf} {μ : Mem} {x1 : Int} {x2 : Int}
  (h : ∃ P : Int → Rf → Mem → Prop, qE mX8_peek GG GG [qP 178, qI x1, qI x2] ρ μ P ∧ ∀ (z1 : Int) (ρ2 : Rf) (μ3 : Mem), P z1 ρ2 μ3 → ∃ P : Int → Rf → Mem → Prop, qE mX8_advance GG GG [qP 178] ρ2 μ3 P ∧ ∀ (z5 : Int) (ρ6 : Rf) (μ7 : Mem), P z5 ρ6 μ7 → Post z1 ρ6 μ7) : qE mX8_number GG GG [qP 178, qI x1, qI x2] ρ μ Post := by
  refine qE_intro pl_X8_number (Nat.le_of_ble_eq_true rfl) (Nat.le_refl _) ?_
  refine qX_aload_n 0 dX8_number_0 rfl rfl (by decide) ?_
  refine qX_iload_n 1 dX8_number_1 rfl rfl ?_
  refine qX_iload_n 2 dX8_number_2 rfl rfl ?_
  obtain ⟨P, hE4, h⟩ := h
  refine qN_callV mX8_peek [_, _] _ 8 [] dX8_number_3 cm_X8_174 ⟨(Nat.le_of_ble_eq_true rfl), (Nat.le_of_ble_eq_true rfl)⟩ rfl rfl sh178 (Nat.le_of_ble_eq_true rfl) ⟨rfl, rfl⟩ hE4 (fun z1 ρ2 μ3 hz => ?_)
  replace h := h _ _ _ hz
  refine qX_istore_n 3 dX8_number_6 rfl (Nat.le_of_ble_eq_true rfl) rfl ?_
  refine qX_aload_n 0 dX8_number_7 rfl rfl (by decide) ?_
  obtain ⟨P, hE8, h⟩ := h
  refine qN_callV mX8_advance [] _ 8 [] dX8_number_8 cm_X8_171 ⟨(Nat.le_of_ble_eq_true rfl), (Nat.le_of_ble_eq_true rfl)⟩ rfl rfl sh178 (Nat.le_of_ble_eq_true rfl) ⟨rfl, rfl⟩ hE8 (fun z5 ρ6 μ7 hz => ?_)
  replace h := h _ _ _ hz
  refine qX_iload_n 3 dX8_number_11 rfl rfl ?_
  exact qX_ireturn rfl dX8_number_12 rfl ⟨Nat.le_refl _, Nat.le_refl _⟩ h
set_option maxRecDepth 20000 in
theorem e_X8_peekTrain {Post : Int → Rf → Mem → Prop} {ρ : Rf} {μ : Mem} 
  (h : ∃ P : Int → Rf → Mem → Prop, qE mX8_peek GG GG [qP 178, qI 0, qI 1] ρ μ P ∧ ∀ (z1 : Int) (ρ2 : Rf) (μ3 : Mem), P z1 ρ2 μ3 → ((μ3 178 6 ≠ 0 → Post z1 ρ2 μ3) ∧ (μ3 178 6 = 0 → (0 ≤ z1 ∧ z1 < 2) ∧ ((μ3 185 z1 ≠ 0 → Post z1 ρ2 μ3) ∧ (μ3 185 z1 = 0 → ∃ P : Int → Rf → Mem → Prop, qE mX8_report GG GG [qP 178, qI 2] ρ2 μ3 P ∧ ∀ (z5 : Int) (ρ6 : Rf) (μ7 : Mem), P z5 ρ6 μ7 → Post z1 ρ6 μ7))))) : qE mX8_peekTrain GG GG [qP 178] ρ μ Post := by
  refine qE_intro pl_X8_peekTrain (Nat.le_of_ble_eq_true rfl) (Nat.le_refl _) ?_
  refine qX_aload_n 0 dX8_peekTrain_0 rfl rfl (by decide) ?_
  refine qX_iconst dX8_peekTrain_1 (i32_of rfl) ?_
  refine qX_iconst dX8_peekTrain_2 (i32_of rfl) ?_
  obtain ⟨P, hE4, h⟩ := h
  refine qN_callV mX8_peek [_, _] _ 8 [] dX8_peekTrain_3 cm_X8_174 ⟨(Nat.le_of_ble_eq_true rfl), (Nat.le_of_ble_eq_true rfl)⟩ rfl rfl sh178 (Nat.le_of_ble_eq_true rfl) ⟨rfl, rfl⟩ hE4 (fun z1 ρ2 μ3 hz => ?_)
  replace h := h _ _ _ hz
  refine qX_istore_n 1 dX8_peekTrain_6 rfl (Nat.le_of_ble_eq_true rfl) rfl ?_
  refine qX_aload_n 0 dX8_peekTrain_7 rfl rfl (by decide) ?_
  refine qX_getI 8 6 _ dX8_peekTrain_8 fs_X8_119 sh178 ?_
  refine qX_if_ne 28 dX8_peekTrain_11 rfl (fun hc => ?_) (fun hc => ?_)
  · replace h := h.1 hc
    refine qX_iload_n 1 dX8_peekTrain_28 rfl rfl ?_
    exact qX_ireturn rfl dX8_peekTrain_29 rfl ⟨Nat.le_refl _, Nat.le_refl _⟩ h
  · replace h := h.2 hc
    refine qX_aload_n 0 dX8_peekTrain_14 rfl rfl (by decide) ?_
    refine qX_getS 8 17 _ 6 dX8_peekTrain_15 fs_X8_33 rfl rfl sh178 (x := 185) rfl ?_
    refine qX_iload_n 1 dX8_peekTrain_18 rfl rfl ?_
    refine qX_zald dX8_peekTrain_19 sh185 h.1 ?_
    replace h := h.2
    refine qX_if_ne 28 dX8_peekTrain_20 rfl (fun hc => ?_) (fun hc => ?_)
    · replace h := h.1 hc
      refine qX_iload_n 1 dX8_peekTrain_28 rfl rfl ?_
      exact qX_ireturn rfl dX8_peekTrain_29 rfl ⟨Nat.le_refl _, Nat.le_refl _⟩ h
    · replace h := h.2 hc
      refine qX_aload_n 0 dX8_peekTrain_23 rfl rfl (by decide) ?_
      refine qX_iconst dX8_peekTrain_24 (i32_of rfl) ?_
      obtain ⟨P, hE8, h⟩ := h
      refine qN_callV mX8_report [_] _ 8 [] dX8_peekTrain_25 cm_X8_168 ⟨(Nat.le_of_ble_eq_true rfl), (Nat.le_of_ble_eq_true rfl)⟩ rfl rfl sh178 (Nat.le_of_ble_eq_true rfl) ⟨rfl, rfl⟩ hE8 (fun z5 ρ6 μ7 hz => ?_)
      replace h := h _ _ _ hz
      refine qX_iload_n 1 dX8_peekTrain_28 rfl rfl ?_
      exact qX_ireturn rfl dX8_peekTrain_29 rfl ⟨Nat.le_refl _, Nat.le_refl _⟩ h
set_option maxRecDepth 20000 in
theorem e_X8_mealBy {Post : Int → Rf → Mem → Prop} {ρ : Rf} {μ : Mem} {x1 : Int}
  (h : qX mX8_mealBy GG Post GG (0, 0) 2 [some (qP 178), some (qJ x1), none, some (qI 0)] [] ρ μ) : qE mX8_mealBy GG GG [qP 178, qJ x1] ρ μ Post := by
  refine qE_intro pl_X8_mealBy (Nat.le_of_ble_eq_true rfl) (Nat.le_refl _) ?_
  refine qX_iconst dX8_mealBy_0 (i32_of rfl) ?_
  refine qX_istore_n 3 dX8_mealBy_1 rfl (Nat.le_of_ble_eq_true rfl) rfl ?_
  exact qX_mask [true, true, false, true] h
set_option maxRecDepth 20000 in
theorem w_X8_mealBy_2 {Post : Int → Rf → Mem → Prop} {ρ : Rf} {μ : Mem} {x1 : Int} {x3 : Int}
  (h : ((μ 181 36 ≤ x3 → Post (-1) ρ μ) ∧ (x3 < μ 181 36 → (0 ≤ x3 ∧ x3 < 4) ∧ ((μ 184 x3 ≠ x1 → i32 (x3 + 1) ∧ qX mX8_mealBy GG Post GG (0, 0) 2 [some (qP 178), some (qJ x1), none, some (qI (x3 + 1))] [] ρ μ) ∧ (μ 184 x3 = x1 → Post x3 ρ μ))))) : qX mX8_mealBy GG Post GG (0, 0) 2 [some (qP 178), some (qJ x1), none, some (qI x3)] [] ρ μ := by
  refine qX_iload_n 3 dX8_mealBy_2 rfl rfl ?_
  refine qX_aload_n 0 dX8_mealBy_3 rfl rfl (by decide) ?_
  refine qX_getS 8 13 _ 2 dX8_mealBy_4 fs_X8_20 rfl rfl sh178 (x := 181) rfl ?_
  refine qX_bip dX8_mealBy_7 rfl ?_
  refine qX_iald dX8_mealBy_9 sh181 ⟨by decide, by decide⟩ ?_
  refine qX_icmp_ge 32 dX8_mealBy_10 rfl (fun hc => ?_) (fun hc => ?_)
  · replace h := h.1 hc
    refine qX_iconst dX8_mealBy_32 (i32_of rfl) ?_
    exact qX_ireturn rfl dX8_mealBy_33 rfl ⟨Nat.le_refl _, Nat.le_refl _⟩ h
  · replace h := h.2 hc
    refine qX_aload_n 0 dX8_mealBy_13 rfl rfl (by decide) ?_
    refine qX_getS 8 16 _ 5 dX8_mealBy_14 fs_X8_29 rfl rfl sh178 (x := 184) rfl ?_
    refine qX_iload_n 3 dX8_mealBy_17 rfl rfl ?_
    refine qX_lald dX8_mealBy_18 sh184 h.1 ?_
    replace h := h.2
    refine qX_lload_n 1 dX8_mealBy_19 rfl rfl ?_
    refine qX_lcmp dX8_mealBy_20 ?_
    refine qX_if_ne 26 dX8_mealBy_21 rfl (fun hc => ?_) (fun hc => ?_)
    · replace h := h.1 (fun e => hc (cmpL_eq0.mpr e))
      refine qR_iinc dX8_mealBy_26 rfl (Nat.le_of_ble_eq_true rfl) rfl h.1 ?_
      replace h := h.2
      refine qX_goto 2 dX8_mealBy_29 rfl ?_
      exact qX_mask [true, true, false, true] h
    · replace h := h.2 (cmpL_eq0.mp hc)
      refine qX_iload_n 3 dX8_mealBy_24 rfl rfl ?_
      exact qX_ireturn rfl dX8_mealBy_25 rfl ⟨Nat.le_refl _, Nat.le_refl _⟩ h
set_option maxRecDepth 20000 in
theorem e_X8_peekMeal {Post : Int → Rf → Mem → Prop} {ρ : Rf} {μ : Mem} 
  (h : ((μ 178 6 ≤ 0 → ((μ 178 8 ≠ 2 → qX mX8_peekMeal GG Post GG (0, 0) 24 [some (qP 178), none] [] ρ μ) ∧ (μ 178 8 = 2 → ∃ P : Int → Rf → Mem → Prop, qE mX8_reserved GG GG [qP 178] ρ μ P ∧ ∀ (z1 : Int) (ρ2 : Rf) (μ3 : Mem), P z1 ρ2 μ3 → ((z1 < 0 → qX mX8_peekMeal GG Post GG (0, 0) 29 [some (qP 178), none] [] ρ2 μ3) ∧ (0 ≤ z1 → qX mX8_peekMeal GG Post GG (0, 0) 24 [some (qP 178), none] [] ρ2 μ3))))) ∧ (0 < μ 178 6 → Post 0 ρ μ))) : qE mX8_peekMeal GG GG [qP 178] ρ μ Post := by
  refine qE_intro pl_X8_peekMeal (Nat.le_of_ble_eq_true rfl) (Nat.le_refl _) ?_
  refine qX_aload_n 0 dX8_peekMeal_0 rfl rfl (by decide) ?_
  refine qX_getI 8 6 _ dX8_peekMeal_1 fs_X8_119 sh178 ?_
  refine qX_if_le 9 dX8_peekMeal_4 rfl (fun hc => ?_) (fun hc => ?_)
  · replace h := h.1 hc
    refine qX_aload_n 0 dX8_peekMeal_9 rfl rfl (by decide) ?_
    refine qX_getI 8 8 _ dX8_peekMeal_10 fs_X8_139 sh178 ?_
    refine qX_iconst dX8_peekMeal_13 (i32_of rfl) ?_
    refine qX_icmp_ne 24 dX8_peekMeal_14 rfl (fun hc => ?_) (fun hc => ?_)
    · replace h := h.1 hc
      exact qX_mask [true, false] h
    · replace h := h.2 hc
      refine qX_aload_n 0 dX8_peekMeal_17 rfl rfl (by decide) ?_
      obtain ⟨P, hE4, h⟩ := h
      refine qN_callV mX8_reserved [] _ 8 [] dX8_peekMeal_18 cm_X8_165 ⟨(Nat.le_of_ble_eq_true rfl), (Nat.le_of_ble_eq_true rfl)⟩ rfl rfl sh178 (Nat.le_of_ble_eq_true rfl) ⟨rfl, rfl⟩ hE4 (fun z1 ρ2 μ3 hz => ?_)
      replace h := h _ _ _ hz
      refine qX_if_lt 29 dX8_peekMeal_21 rfl (fun hc => ?_) (fun hc => ?_)
      · replace h := h.1 hc
        exact qX_mask [true, false] h
      · replace h := h.2 hc
        exact qX_mask [true, false] h
  · replace h := h.2 hc
    refine qX_iconst dX8_peekMeal_7 (i32_of rfl) ?_
    exact qX_ireturn rfl dX8_peekMeal_8 rfl ⟨Nat.le_refl _, Nat.le_refl _⟩ h
set_option maxRecDepth 20000 in
theorem w_X8_peekMeal_24 {Post : Int → Rf → Mem → Prop} {ρ : Rf} {μ : Mem} 
  (h : ∃ P : Int → Rf → Mem → Prop, qE mX8_report GG GG [qP 178, qI 1] ρ μ P ∧ ∀ (z1 : Int) (ρ2 : Rf) (μ3 : Mem), P z1 ρ2 μ3 → qX mX8_peekMeal GG Post GG (0, 0) 29 [some (qP 178), none] [] ρ2 μ3) : qX mX8_peekMeal GG Post GG (0, 0) 24 [some (qP 178), none] [] ρ μ := by
  refine qX_aload_n 0 dX8_peekMeal_24 rfl rfl (by decide) ?_
  refine qX_iconst dX8_peekMeal_25 (i32_of rfl) ?_
  obtain ⟨P, hE4, h⟩ := h
  refine qN_callV mX8_report [_] _ 8 [] dX8_peekMeal_26 cm_X8_168 ⟨(Nat.le_of_ble_eq_true rfl), (Nat.le_of_ble_eq_true rfl)⟩ rfl rfl sh178 (Nat.le_of_ble_eq_true rfl) ⟨rfl, rfl⟩ hE4 (fun z1 ρ2 μ3 hz => ?_)
  replace h := h _ _ _ hz
  exact qX_mask [true, false] h
set_option maxRecDepth 20000 in
theorem w_X8_peekMeal_29 {Post : Int → Rf → Mem → Prop} {ρ : Rf} {μ : Mem} 
  (h : ∃ P : Int → Rf → Mem → Prop, qE mX8_mealBy GG GG [qP 178, qJ (μ 178 11)] ρ μ P ∧ ∀ (z1 : Int) (ρ2 : Rf) (μ3 : Mem), P z1 ρ2 μ3 → ((0 ≤ z1 → qX mX8_peekMeal GG Post GG (0, 0) 47 [some (qP 178), some (qI z1)] [] ρ2 μ3) ∧ (z1 < 0 → ∃ P : Int → Rf → Mem → Prop, qE mX8_report GG GG [qP 178, qI 2] ρ2 μ3 P ∧ ∀ (z5 : Int) (ρ6 : Rf) (μ7 : Mem), P z5 ρ6 μ7 → qX mX8_peekMeal GG Post GG (0, 0) 47 [some (qP 178), some (qI z1)] [] ρ6 μ7))) : qX mX8_peekMeal GG Post GG (0, 0) 29 [some (qP 178), none] [] ρ μ := by
  refine qX_aload_n 0 dX8_peekMeal_29 rfl rfl (by decide) ?_
  refine qX_aload_n 0 dX8_peekMeal_30 rfl rfl (by decide) ?_
  refine qX_getJ 8 11 _ dX8_peekMeal_31 fs_X8_135 sh178 ?_
  obtain ⟨P, hE4, h⟩ := h
  refine qN_callV mX8_mealBy [_] _ 8 [] dX8_peekMeal_34 cm_X8_178 ⟨(Nat.le_of_ble_eq_true rfl), (Nat.le_of_ble_eq_true rfl)⟩ rfl rfl sh178 (Nat.le_of_ble_eq_true rfl) ⟨rfl, rfl⟩ hE4 (fun z1 ρ2 μ3 hz => ?_)
  replace h := h _ _ _ hz
  refine qX_istore_n 1 dX8_peekMeal_37 rfl (Nat.le_of_ble_eq_true rfl) rfl ?_
  refine qX_iload_n 1 dX8_peekMeal_38 rfl rfl ?_
  refine qX_if_ge 47 dX8_peekMeal_39 rfl (fun hc => ?_) (fun hc => ?_)
  · replace h := h.1 hc
    exact qX_mask [true, true] h
  · replace h := h.2 hc
    refine qX_aload_n 0 dX8_peekMeal_42 rfl rfl (by decide) ?_
    refine qX_iconst dX8_peekMeal_43 (i32_of rfl) ?_
    obtain ⟨P, hE8, h⟩ := h
    refine qN_callV mX8_report [_] _ 8 [] dX8_peekMeal_44 cm_X8_168 ⟨(Nat.le_of_ble_eq_true rfl), (Nat.le_of_ble_eq_true rfl)⟩ rfl rfl sh178 (Nat.le_of_ble_eq_true rfl) ⟨rfl, rfl⟩ hE8 (fun z5 ρ6 μ7 hz => ?_)
    replace h := h _ _ _ hz
    exact qX_mask [true, true] h
set_option maxRecDepth 20000 in
theorem w_X8_peekMeal_47 {Post : Int → Rf → Mem → Prop} {ρ : Rf} {μ : Mem} {x1 : Int}
  (h : ((μ 178 6 ≤ 0 → Post x1 ρ μ) ∧ (0 < μ 178 6 → Post 0 ρ μ))) : qX mX8_peekMeal GG Post GG (0, 0) 47 [some (qP 178), some (qI x1)] [] ρ μ := by
  refine qX_aload_n 0 dX8_peekMeal_47 rfl rfl (by decide) ?_
  refine qX_getI 8 6 _ dX8_peekMeal_48 fs_X8_119 sh178 ?_
  refine qX_if_le 58 dX8_peekMeal_51 rfl (fun hc => ?_) (fun hc => ?_)
  · replace h := h.1 hc
    refine qX_iload_n 1 dX8_peekMeal_58 rfl rfl ?_
    exact qX_ireturn rfl dX8_peekMeal_59 rfl ⟨Nat.le_refl _, Nat.le_refl _⟩ h
  · replace h := h.2 hc
    refine qX_iconst dX8_peekMeal_54 (i32_of rfl) ?_
    refine qX_goto 59 dX8_peekMeal_55 rfl ?_
    exact qX_ireturn rfl dX8_peekMeal_59 rfl ⟨Nat.le_refl _, Nat.le_refl _⟩ h
set_option maxRecDepth 20000 in
theorem e_X8_readTrain {Post : Int → Rf → Mem → Prop} {ρ : Rf} {μ : Mem} 
  (h : ∃ P : Int → Rf → Mem → Prop, qE mX8_advance GG GG [qP 178] ρ μ P ∧ ∀ (z1 : Int) (ρ2 : Rf) (μ3 : Mem), P z1 ρ2 μ3 → ∃ P : Int → Rf → Mem → Prop, qE mX8_peek GG GG [qP 178, qI 0, qI 1] ρ2 μ3 P ∧ ∀ (z5 : Int) (ρ6 : Rf) (μ7 : Mem), P z5 ρ6 μ7 → (0 ≤ z5 ∧ z5 < 2) ∧ ((μ7 185 z5 = 0 → qX mX8_readTrain GG Post GG (0, 0) 25 [some (qP 178), some (qI z5), none, none] [] ρ6 μ7) ∧ (μ7 185 z5 ≠ 0 → ∃ P : Int → Rf → Mem → Prop, qE mX8_report GG GG [qP 178, qI 3] ρ6 μ7 P ∧ ∀ (z9 : Int) (ρ10 : Rf) (μ11 : Mem), P z9 ρ10 μ11 → qX mX8_readTrain GG Post GG (0, 0) 25 [some (qP 178), some (qI z5), none, none] [] ρ10 μ11))) : qE mX8_readTrain GG GG [qP 178] ρ μ Post := by
  refine qE_intro pl_X8_readTrain (Nat.le_of_ble_eq_true rfl) (Nat.le_refl _) ?_
  refine qX_aload_n 0 dX8_readTrain_0 rfl rfl (by decide) ?_
  obtain ⟨P, hE4, h⟩ := h
  refine qN_callV mX8_advance [] _ 8 [] dX8_readTrain_1 cm_X8_171 ⟨(Nat.le_of_ble_eq_true rfl), (Nat.le_of_ble_eq_true rfl)⟩ rfl rfl sh178 (Nat.le_of_ble_eq_true rfl) ⟨rfl, rfl⟩ hE4 (fun z1 ρ2 μ3 hz => ?_)
  replace h := h _ _ _ hz
  refine qX_aload_n 0 dX8_readTrain_4 rfl rfl (by decide) ?_
  refine qX_iconst dX8_readTrain_5 (i32_of rfl) ?_
  refine qX_iconst dX8_readTrain_6 (i32_of rfl) ?_
  obtain ⟨P, hE8, h⟩ := h
  refine qN_callV mX8_peek [_, _] _ 8 [] dX8_readTrain_7 cm_X8_174 ⟨(Nat.le_of_ble_eq_true rfl), (Nat.le_of_ble_eq_true rfl)⟩ rfl rfl sh178 (Nat.le_of_ble_eq_true rfl) ⟨rfl, rfl⟩ hE8 (fun z5 ρ6 μ7 hz => ?_)
  replace h := h _ _ _ hz
  refine qX_istore_n 1 dX8_readTrain_10 rfl (Nat.le_of_ble_eq_true rfl) rfl ?_
  refine qX_aload_n 0 dX8_readTrain_11 rfl rfl (by decide) ?_
  refine qX_getS 8 17 _ 6 dX8_readTrain_12 fs_X8_33 rfl rfl sh178 (x := 185) rfl ?_
  refine qX_iload_n 1 dX8_readTrain_15 rfl rfl ?_
  refine qX_zald dX8_readTrain_16 sh185 h.1 ?_
  replace h := h.2
  refine qX_if_eq 25 dX8_readTrain_17 rfl (fun hc => ?_) (fun hc => ?_)
  · replace h := h.1 hc
    exact qX_mask [true, true, false, false] h
  · replace h := h.2 hc
    refine qX_aload_n 0 dX8_readTrain_20 rfl rfl (by decide) ?_
    refine qX_iconst dX8_readTrain_21 (i32_of rfl) ?_
    obtain ⟨P, hE12, h⟩ := h
    refine qN_callV mX8_report [_] _ 8 [] dX8_readTrain_22 cm_X8_168 ⟨(Nat.le_of_ble_eq_true rfl), (Nat.le_of_ble_eq_true rfl)⟩ rfl rfl sh178 (Nat.le_of_ble_eq_true rfl) ⟨rfl, rfl⟩ hE12 (fun z9 ρ10 μ11 hz => ?_)
    replace h := h _ _ _ hz
    exact qX_mask [true, true, false, false] h
set_option maxRecDepth 20000 in
theorem w_X8_readTrain_25 {Post : Int → Rf → Mem → Prop} {ρ : Rf} {μ : Mem} {x1 : Int}
  (h : ∃ P : Int → Rf → Mem → Prop, qE mX8_advance GG GG [qP 178] ρ μ P ∧ ∀ (z1 : Int) (ρ2 : Rf) (μ3 : Mem), P z1 ρ2 μ3 → ∃ P : Int → Rf → Mem → Prop, qE mX8_keyword GG GG [qP 178, qI 7] ρ2 μ3 P ∧ ∀ (z5 : Int) (ρ6 : Rf) (μ7 : Mem), P z5 ρ6 μ7 → ∃ P : Int → Rf → Mem → Prop, qE mX8_number GG GG [qP 178, qI 0, qI 900] ρ6 μ7 P ∧ ∀ (z9 : Int) (ρ10 : Rf) (μ11 : Mem), P z9 ρ10 μ11 → ∃ P : Int → Rf → Mem → Prop, qE mX8_keyword GG GG [qP 178, qI 8] ρ10 μ11 P ∧ ∀ (z13 : Int) (ρ14 : Rf) (μ15 : Mem), P z13 ρ14 μ15 → ∃ P : Int → Rf → Mem → Prop, qE mX8_number GG GG [qP 178, qI z9, qI 999] ρ14 μ15 P ∧ ∀ (z17 : Int) (ρ18 : Rf) (μ19 : Mem), P z17 ρ18 μ19 → ((μ19 178 6 ≤ 0 → (0 ≤ x1 ∧ x1 < 2) ∧ ∀ μ21, μ21 = up2 μ19 185 x1 1 → i32 (0 + x1) ∧ (0 ≤ 0 + x1 ∧ 0 + x1 < 188) ∧ ∀ μ22, μ22 = up2 μ21 181 (0 + x1) z9 → i32 (2 + x1) ∧ (0 ≤ 2 + x1 ∧ 2 + x1 < 188) ∧ ∀ μ23, μ23 = up2 μ22 181 (2 + x1) z17 → Post 0 ρ18 μ23) ∧ (0 < μ19 178 6 → Post 0 ρ18 μ19))) : qX mX8_readTrain GG Post GG (0, 0) 25 [some (qP 178), some (qI x1), none, none] [] ρ μ := by
  refine qX_aload_n 0 dX8_readTrain_25 rfl rfl (by decide) ?_
  obtain ⟨P, hE4, h⟩ := h
  refine qN_callV mX8_advance [] _ 8 [] dX8_readTrain_26 cm_X8_171 ⟨(Nat.le_of_ble_eq_true rfl), (Nat.le_of_ble_eq_true rfl)⟩ rfl rfl sh178 (Nat.le_of_ble_eq_true rfl) ⟨rfl, rfl⟩ hE4 (fun z1 ρ2 μ3 hz => ?_)
  replace h := h _ _ _ hz
  refine qX_aload_n 0 dX8_readTrain_29 rfl rfl (by decide) ?_
  refine qX_bip dX8_readTrain_30 rfl ?_
  obtain ⟨P, hE8, h⟩ := h
  refine qN_callV mX8_keyword [_] _ 8 [] dX8_readTrain_32 cm_X8_182 ⟨(Nat.le_of_ble_eq_true rfl), (Nat.le_of_ble_eq_true rfl)⟩ rfl rfl sh178 (Nat.le_of_ble_eq_true rfl) ⟨rfl, rfl⟩ hE8 (fun z5 ρ6 μ7 hz => ?_)
  replace h := h _ _ _ hz
  refine qX_aload_n 0 dX8_readTrain_35 rfl rfl (by decide) ?_
  refine qX_iconst dX8_readTrain_36 (i32_of rfl) ?_
  refine qX_sip dX8_readTrain_37 rfl ?_
  obtain ⟨P, hE12, h⟩ := h
  refine qN_callV mX8_number [_, _] _ 8 [] dX8_readTrain_40 cm_X8_185 ⟨(Nat.le_of_ble_eq_true rfl), (Nat.le_of_ble_eq_true rfl)⟩ rfl rfl sh178 (Nat.le_of_ble_eq_true rfl) ⟨rfl, rfl⟩ hE12 (fun z9 ρ10 μ11 hz => ?_)
  replace h := h _ _ _ hz
  refine qX_istore_n 2 dX8_readTrain_43 rfl (Nat.le_of_ble_eq_true rfl) rfl ?_
  refine qX_aload_n 0 dX8_readTrain_44 rfl rfl (by decide) ?_
  refine qX_bip dX8_readTrain_45 rfl ?_
  obtain ⟨P, hE16, h⟩ := h
  refine qN_callV mX8_keyword [_] _ 8 [] dX8_readTrain_47 cm_X8_182 ⟨(Nat.le_of_ble_eq_true rfl), (Nat.le_of_ble_eq_true rfl)⟩ rfl rfl sh178 (Nat.le_of_ble_eq_true rfl) ⟨rfl, rfl⟩ hE16 (fun z13 ρ14 μ15 hz => ?_)
  replace h := h _ _ _ hz
  refine qX_aload_n 0 dX8_readTrain_50 rfl rfl (by decide) ?_
  refine qX_iload_n 2 dX8_readTrain_51 rfl rfl ?_
  refine qX_sip dX8_readTrain_52 rfl ?_
  obtain ⟨P, hE20, h⟩ := h
  refine qN_callV mX8_number [_, _] _ 8 [] dX8_readTrain_55 cm_X8_185 ⟨(Nat.le_of_ble_eq_true rfl), (Nat.le_of_ble_eq_true rfl)⟩ rfl rfl sh178 (Nat.le_of_ble_eq_true rfl) ⟨rfl, rfl⟩ hE20 (fun z17 ρ18 μ19 hz => ?_)
  replace h := h _ _ _ hz
  refine qX_istore_n 3 dX8_readTrain_58 rfl (Nat.le_of_ble_eq_true rfl) rfl ?_
  refine qX_aload_n 0 dX8_readTrain_59 rfl rfl (by decide) ?_
  refine qX_getI 8 6 _ dX8_readTrain_60 fs_X8_119 sh178 ?_
  refine qX_if_le 67 dX8_readTrain_63 rfl (fun hc => ?_) (fun hc => ?_)
  · replace h := h.1 hc
    refine qX_aload_n 0 dX8_readTrain_67 rfl rfl (by decide) ?_
    refine qX_getS 8 17 _ 6 dX8_readTrain_68 fs_X8_33 rfl rfl sh178 (x := 185) rfl ?_
    refine qX_iload_n 1 dX8_readTrain_71 rfl rfl ?_
    refine qX_iconst dX8_readTrain_72 (i32_of rfl) ?_
    refine qX_zast dX8_readTrain_73 sh185 h.1 (by decide) ?_
    replace h := h.2
    replace h := h _ rfl
    refine qX_aload_n 0 dX8_readTrain_74 rfl rfl (by decide) ?_
    refine qX_getS 8 13 _ 2 dX8_readTrain_75 fs_X8_20 rfl rfl sh178 (x := 181) rfl ?_
    refine qX_iconst dX8_readTrain_78 (i32_of rfl) ?_
    refine qX_iload_n 1 dX8_readTrain_79 rfl rfl ?_
    refine qR_iadd dX8_readTrain_80 h.1 ?_
    replace h := h.2
    refine qX_iload_n 2 dX8_readTrain_81 rfl rfl ?_
    refine qX_iast dX8_readTrain_82 sh181 h.1 ?_
    replace h := h.2
    replace h := h _ rfl
    refine qX_aload_n 0 dX8_readTrain_83 rfl rfl (by decide) ?_
    refine qX_getS 8 13 _ 2 dX8_readTrain_84 fs_X8_20 rfl rfl sh178 (x := 181) rfl ?_
    refine qX_iconst dX8_readTrain_87 (i32_of rfl) ?_
    refine qX_iload_n 1 dX8_readTrain_88 rfl rfl ?_
    refine qR_iadd dX8_readTrain_89 h.1 ?_
    replace h := h.2
    refine qX_iload_n 3 dX8_readTrain_90 rfl rfl ?_
    refine qX_iast dX8_readTrain_91 sh181 h.1 ?_
    replace h := h.2
    replace h := h _ rfl
    exact qX_return rfl dX8_readTrain_92 rfl ⟨Nat.le_refl _, Nat.le_refl _⟩ h
  · replace h := h.2 hc
    exact qX_return rfl dX8_readTrain_66 rfl ⟨Nat.le_refl _, Nat.le_refl _⟩ h
