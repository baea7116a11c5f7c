/-! ===== conditions of the methods, from cut to cut (generated, part 3) ===== -/
set_option maxRecDepth 20000 in
theorem e_X7_save {Post : Int → Rf → Mem → Prop} {ρ : Rf} {μ : Mem} 
  (h : ((μ 0 10 ≠ 0 → isO 6 (ρ 0 9) ∧ ∃ P : Int → Rf → Mem → Prop, qE mX6_copyFrom GG GG [qP 62, qP (ρ 0 9)] ρ μ P ∧ ∀ (z2 : Int) (ρ3 : Rf) (μ4 : Mem), P z2 ρ3 μ4 → ∀ μ6, μ6 = up2 μ4 0 11 1 → ∃ P : Int → Rf → Mem → Prop, qE mX7_answer GG GG [qP 0, qI 0] ρ3 μ6 P ∧ ∀ (z7 : Int) (ρ8 : Rf) (μ9 : Mem), P z7 ρ8 μ9 → Post z7 ρ8 μ9) ∧ (μ 0 10 = 0 → ∃ P : Int → Rf → Mem → Prop, qE mX7_fail GG GG [qP 0, qI 1] ρ μ P ∧ ∀ (z11 : Int) (ρ12 : Rf) (μ13 : Mem), P z11 ρ12 μ13 → Post z11 ρ12 μ13))) : qE mX7_save GG GG [qP 0] ρ μ Post := by
  refine qE_intro pl_X7_save (Nat.le_of_ble_eq_true rfl) (Nat.le_refl _) ?_
  refine qX_aload_n 0 dX7_save_0 rfl rfl (by decide) ?_
  refine qX_getI 7 10 _ dX7_save_1 fs_X7_106 sh0 ?_
  refine qX_if_ne 13 dX7_save_4 rfl (fun hc => ?_) (fun hc => ?_)
  · replace h := h.1 hc
    refine qX_aload_n 0 dX7_save_13 rfl rfl (by decide) ?_
    refine qX_getS 7 4 _ 61 dX7_save_14 fs_X7_33 rfl rfl sh0 (x := 62) rfl ?_
    refine qX_aload_n 0 dX7_save_17 rfl rfl (by decide) ?_
    refine qX_getR 7 9 _ dX7_save_18 fs_X7_64 sh0 ?_
    have hO1 := h.1
    replace h := h.2
    obtain ⟨P, hE5, h⟩ := h
    refine qN_callV mX6_copyFrom [_] _ 6 [] dX7_save_21 cm_X7_267 ⟨(Nat.le_of_ble_eq_true rfl), (Nat.le_of_ble_eq_true rfl)⟩ rfl rfl sh62 (Nat.le_of_ble_eq_true rfl) ⟨rfl, rfl⟩ hE5 (fun z2 ρ3 μ4 hz => ?_)
    replace h := h _ _ _ hz
    refine qX_aload_n 0 dX7_save_24 rfl rfl (by decide) ?_
    refine qX_iconst dX7_save_25 (i32_of rfl) ?_
    refine qX_putZ 7 11 _ dX7_save_26 fs_X7_321 sh0 (by decide) ?_
    replace h := h _ rfl
    refine qX_aload_n 0 dX7_save_29 rfl rfl (by decide) ?_
    refine qX_iconst dX7_save_30 (i32_of rfl) ?_
    obtain ⟨P, hE10, h⟩ := h
    refine qN_callV mX7_answer [_] _ 7 [] dX7_save_31 cm_X7_92 ⟨(Nat.le_of_ble_eq_true rfl), (Nat.le_of_ble_eq_true rfl)⟩ rfl rfl sh0 (Nat.le_of_ble_eq_true rfl) ⟨rfl, rfl⟩ hE10 (fun z7 ρ8 μ9 hz => ?_)
    replace h := h _ _ _ hz
    exact qX_ireturn rfl dX7_save_34 rfl ⟨(Nat.le_of_ble_eq_true rfl), (Nat.le_of_ble_eq_true rfl)⟩ h
  · replace h := h.2 hc
    refine qX_aload_n 0 dX7_save_7 rfl rfl (by decide) ?_
    refine qX_iconst dX7_save_8 (i32_of rfl) ?_
    obtain ⟨P, hE14, h⟩ := h
    refine qN_callV mX7_fail [_] _ 7 [] dX7_save_9 cm_X7_76 ⟨(Nat.le_of_ble_eq_true rfl), (Nat.le_of_ble_eq_true rfl)⟩ rfl rfl sh0 (Nat.le_of_ble_eq_true rfl) ⟨rfl, rfl⟩ hE14 (fun z11 ρ12 μ13 hz => ?_)
    replace h := h _ _ _ hz
    exact qX_ireturn rfl dX7_save_12 rfl ⟨(Nat.le_of_ble_eq_true rfl), (Nat.le_of_ble_eq_true rfl)⟩ h
set_option maxRecDepth 20000 in
theorem e_X7_restore {Post : Int → Rf → Mem → Prop} {ρ : Rf} {μ : Mem} 
  (h : ((μ 0 10 ≠ 0 → ((μ 0 11 ≠ 0 → isO 6 (ρ 0 9) ∧ ∃ P : Int → Rf → Mem → Prop, qE mX6_copyFrom GG GG [qP (ρ 0 9), qP 62] ρ μ P ∧ ∀ (z2 : Int) (ρ3 : Rf) (μ4 : Mem), P z2 ρ3 μ4 → ∀ μ6, μ6 = up2 μ4 69 1 0 → isO 6 (ρ3 0 9) ∧ ∃ P : Int → Rf → Mem → Prop, qE mX7_changed GG GG [qP 0, qI (μ6 (ρ3 0 9) 6)] ρ3 μ6 P ∧ ∀ (z8 : Int) (ρ9 : Rf) (μ10 : Mem), P z8 ρ9 μ10 → Post z8 ρ9 μ10) ∧ (μ 0 11 = 0 → ∃ P : Int → Rf → Mem → Prop, qE mX7_fail GG GG [qP 0, qI 6] ρ μ P ∧ ∀ (z12 : Int) (ρ13 : Rf) (μ14 : Mem), P z12 ρ13 μ14 → Post z12 ρ13 μ14))) ∧ (μ 0 10 = 0 → ∃ P : Int → Rf → Mem → Prop, qE mX7_fail GG GG [qP 0, qI 1] ρ μ P ∧ ∀ (z16 : Int) (ρ17 : Rf) (μ18 : Mem), P z16 ρ17 μ18 → Post z16 ρ17 μ18))) : qE mX7_restore GG GG [qP 0] ρ μ Post := by
  refine qE_intro pl_X7_restore (Nat.le_of_ble_eq_true rfl) (Nat.le_refl _) ?_
  refine qX_aload_n 0 dX7_restore_0 rfl rfl (by decide) ?_
  refine qX_getI 7 10 _ dX7_restore_1 fs_X7_106 sh0 ?_
  refine qX_if_ne 13 dX7_restore_4 rfl (fun hc => ?_) (fun hc => ?_)
  · replace h := h.1 hc
    refine qX_aload_n 0 dX7_restore_13 rfl rfl (by decide) ?_
    refine qX_getI 7 11 _ dX7_restore_14 fs_X7_321 sh0 ?_
    refine qX_if_ne 27 dX7_restore_17 rfl (fun hc => ?_) (fun hc => ?_)
    · replace h := h.1 hc
      refine qX_aload_n 0 dX7_restore_27 rfl rfl (by decide) ?_
      refine qX_getR 7 9 _ dX7_restore_28 fs_X7_64 sh0 ?_
      refine qX_aload_n 0 dX7_restore_31 rfl rfl (by decide) ?_
      refine qX_getS 7 4 _ 61 dX7_restore_32 fs_X7_33 rfl rfl sh0 (x := 62) rfl ?_
      have hO1 := h.1
      replace h := h.2
      obtain ⟨P, hE5, h⟩ := h
      refine qN_callV mX6_copyFrom [_] _ 6 [] dX7_restore_35 cm_X7_267 ⟨(Nat.le_of_ble_eq_true rfl), (Nat.le_of_ble_eq_true rfl)⟩ rfl rfl hO1 (Nat.le_of_ble_eq_true rfl) ⟨rfl, rfl⟩ hE5 (fun z2 ρ3 μ4 hz => ?_)
      replace h := h _ _ _ hz
      refine qX_aload_n 0 dX7_restore_38 rfl rfl (by decide) ?_
      refine qX_getS 7 5 _ 68 dX7_restore_39 fs_X7_39 rfl rfl sh0 (x := 69) rfl ?_
      refine qX_iconst dX7_restore_42 (i32_of rfl) ?_
      refine qX_putI 1 1 _ dX7_restore_43 fs_X7_317 sh69 ?_
      replace h := h _ rfl
      refine qX_aload_n 0 dX7_restore_46 rfl rfl (by decide) ?_
      refine qX_aload_n 0 dX7_restore_47 rfl rfl (by decide) ?_
      refine qX_getR 7 9 _ dX7_restore_48 fs_X7_64 sh0 ?_
      have hO7 := h.1
      replace h := h.2
      refine qX_getI 6 6 _ dX7_restore_51 fs_X7_89 hO7 ?_
      obtain ⟨P, hE11, h⟩ := h
      refine qN_callV mX7_changed [_] _ 7 [] dX7_restore_54 cm_X7_301 ⟨(Nat.le_of_ble_eq_true rfl), (Nat.le_of_ble_eq_true rfl)⟩ rfl rfl sh0 (Nat.le_of_ble_eq_true rfl) ⟨rfl, rfl⟩ hE11 (fun z8 ρ9 μ10 hz => ?_)
      replace h := h _ _ _ hz
      exact qX_ireturn rfl dX7_restore_57 rfl ⟨(Nat.le_of_ble_eq_true rfl), (Nat.le_of_ble_eq_true rfl)⟩ h
    · replace h := h.2 hc
      refine qX_aload_n 0 dX7_restore_20 rfl rfl (by decide) ?_
      refine qX_bip dX7_restore_21 rfl ?_
      obtain ⟨P, hE15, h⟩ := h
      refine qN_callV mX7_fail [_] _ 7 [] dX7_restore_23 cm_X7_76 ⟨(Nat.le_of_ble_eq_true rfl), (Nat.le_of_ble_eq_true rfl)⟩ rfl rfl sh0 (Nat.le_of_ble_eq_true rfl) ⟨rfl, rfl⟩ hE15 (fun z12 ρ13 μ14 hz => ?_)
      replace h := h _ _ _ hz
      exact qX_ireturn rfl dX7_restore_26 rfl ⟨(Nat.le_of_ble_eq_true rfl), (Nat.le_of_ble_eq_true rfl)⟩ h
  · replace h := h.2 hc
    refine qX_aload_n 0 dX7_restore_7 rfl rfl (by decide) ?_
    refine qX_iconst dX7_restore_8 (i32_of rfl) ?_
    obtain ⟨P, hE19, h⟩ := h
    refine qN_callV mX7_fail [_] _ 7 [] dX7_restore_9 cm_X7_76 ⟨(Nat.le_of_ble_eq_true rfl), (Nat.le_of_ble_eq_true rfl)⟩ rfl rfl sh0 (Nat.le_of_ble_eq_true rfl) ⟨rfl, rfl⟩ hE19 (fun z16 ρ17 μ18 hz => ?_)
    replace h := h _ _ _ hz
    exact qX_ireturn rfl dX7_restore_12 rfl ⟨(Nat.le_of_ble_eq_true rfl), (Nat.le_of_ble_eq_true rfl)⟩ h
set_option maxRecDepth 20000 in
theorem e_X7_error {Post : Int → Rf → Mem → Prop} {ρ : Rf} {μ : Mem} 
  (h : Post (μ 0 12) ρ μ) : qE mX7_error GG GG [qP 0] ρ μ Post := by
  refine qE_intro pl_X7_error (Nat.le_of_ble_eq_true rfl) (Nat.le_refl _) ?_
  refine qX_aload_n 0 dX7_error_0 rfl rfl (by decide) ?_
  refine qX_getI 7 12 _ dX7_error_1 fs_X7_331 sh0 ?_
  exact qX_ireturn rfl dX7_error_4 rfl ⟨(Nat.le_of_ble_eq_true rfl), (Nat.le_of_ble_eq_true rfl)⟩ h
set_option maxRecDepth 20000 in
theorem e_X7_answer {Post : Int → Rf → Mem → Prop} {ρ : Rf} {μ : Mem} {x1 : Int}
  (h : ∀ μ1, μ1 = up2 μ 0 12 0 → Post x1 ρ μ1) : qE mX7_answer GG GG [qP 0, qI x1] ρ μ Post := by
  refine qE_intro pl_X7_answer (Nat.le_of_ble_eq_true rfl) (Nat.le_refl _) ?_
  refine qX_aload_n 0 dX7_answer_0 rfl rfl (by decide) ?_
  refine qX_iconst dX7_answer_1 (i32_of rfl) ?_
  refine qX_putI 7 12 _ dX7_answer_2 fs_X7_331 sh0 ?_
  replace h := h _ rfl
  refine qX_iload_n 1 dX7_answer_5 rfl rfl ?_
  exact qX_ireturn rfl dX7_answer_6 rfl ⟨(Nat.le_of_ble_eq_true rfl), (Nat.le_of_ble_eq_true rfl)⟩ h
set_option maxRecDepth 20000 in
theorem e_X7_answerLong {Post : Int → Rf → Mem → Prop} {ρ : Rf} {μ : Mem} {x1 : Int}
  (h : ∀ μ1, μ1 = up2 μ 0 12 0 → Post x1 ρ μ1) : qE mX7_answerLong GG GG [qP 0, qJ x1] ρ μ Post := by
  refine qE_intro pl_X7_answerLong (Nat.le_of_ble_eq_true rfl) (Nat.le_refl _) ?_
  refine qX_aload_n 0 dX7_answerLong_0 rfl rfl (by decide) ?_
  refine qX_iconst dX7_answerLong_1 (i32_of rfl) ?_
  refine qX_putI 7 12 _ dX7_answerLong_2 fs_X7_331 sh0 ?_
  replace h := h _ rfl
  refine qX_lload_n 1 dX7_answerLong_5 rfl rfl ?_
  exact qX_lreturn rfl dX7_answerLong_6 rfl ⟨(Nat.le_of_ble_eq_true rfl), (Nat.le_of_ble_eq_true rfl)⟩ h
set_option maxRecDepth 20000 in
theorem e_X7_fail {Post : Int → Rf → Mem → Prop} {ρ : Rf} {μ : Mem} {x1 : Int}
  (h : ∀ μ1, μ1 = up2 μ 0 12 x1 → Post (-2147483648) ρ μ1) : qE mX7_fail GG GG [qP 0, qI x1] ρ μ Post := by
  refine qE_intro pl_X7_fail (Nat.le_of_ble_eq_true rfl) (Nat.le_refl _) ?_
  refine qX_aload_n 0 dX7_fail_0 rfl rfl (by decide) ?_
  refine qX_iload_n 1 dX7_fail_1 rfl rfl ?_
  refine qX_putI 7 12 _ dX7_fail_2 fs_X7_331 sh0 ?_
  replace h := h _ rfl
  refine qX_ldc (n := (-2147483648)) dX7_fail_5 kK_X7_71 (i32_of rfl) ?_
  exact qX_ireturn rfl dX7_fail_7 rfl ⟨(Nat.le_of_ble_eq_true rfl), (Nat.le_of_ble_eq_true rfl)⟩ h
set_option maxRecDepth 20000 in
theorem e_X7_failLong {Post : Int → Rf → Mem → Prop} {ρ : Rf} {μ : Mem} {x1 : Int}
  (h : ∀ μ1, μ1 = up2 μ 0 12 x1 → Post (-9223372036854775808) ρ μ1) : qE mX7_failLong GG GG [qP 0, qI x1] ρ μ Post := by
  refine qE_intro pl_X7_failLong (Nat.le_of_ble_eq_true rfl) (Nat.le_refl _) ?_
  refine qX_aload_n 0 dX7_failLong_0 rfl rfl (by decide) ?_
  refine qX_iload_n 1 dX7_failLong_1 rfl rfl ?_
  refine qX_putI 7 12 _ dX7_failLong_2 fs_X7_331 sh0 ?_
  replace h := h _ rfl
  refine qX_ldc2 (n := (-9223372036854775808)) dX7_failLong_5 kK_X7_334 (i64_of rfl) ?_
  exact qX_lreturn rfl dX7_failLong_8 rfl ⟨(Nat.le_of_ble_eq_true rfl), (Nat.le_of_ble_eq_true rfl)⟩ h
set_option maxRecDepth 20000 in
theorem e_X7_changed {Post : Int → Rf → Mem → Prop} {ρ : Rf} {μ : Mem} {x1 : Int}
  (h : isO 0 (ρ 0 8) ∧ isO 6 (ρ 0 9) ∧ ∃ P : Int → Rf → Mem → Prop, qE mX3_play GG GG [qP 27, qP (ρ 0 8), qP (ρ 0 9)] ρ μ P ∧ ∀ (z3 : Int) (ρ4 : Rf) (μ5 : Mem), P z3 ρ4 μ5 → ∃ P : Int → Rf → Mem → Prop, qE mX7_answer GG GG [qP 0, qI x1] ρ4 μ5 P ∧ ∀ (z7 : Int) (ρ8 : Rf) (μ9 : Mem), P z7 ρ8 μ9 → Post z7 ρ8 μ9) : qE mX7_changed GG GG [qP 0, qI x1] ρ μ Post := by
  refine qE_intro pl_X7_changed (Nat.le_of_ble_eq_true rfl) (Nat.le_refl _) ?_
  refine qX_aload_n 0 dX7_changed_0 rfl rfl (by decide) ?_
  refine qX_getS 7 1 _ 26 dX7_changed_1 fs_X7_19 rfl rfl sh0 (x := 27) rfl ?_
  refine qX_aload_n 0 dX7_changed_4 rfl rfl (by decide) ?_
  refine qX_getR 7 8 _ dX7_changed_5 fs_X7_60 sh0 ?_
  refine qX_aload_n 0 dX7_changed_8 rfl rfl (by decide) ?_
  refine qX_getR 7 9 _ dX7_changed_9 fs_X7_64 sh0 ?_
  have hO1 := h.1
  replace h := h.2
  have hO2 := h.1
  replace h := h.2
  obtain ⟨P, hE6, h⟩ := h
  refine qN_callV mX3_play [_, _] _ 3 [] dX7_changed_12 cm_X7_271 ⟨(Nat.le_of_ble_eq_true rfl), (Nat.le_of_ble_eq_true rfl)⟩ rfl rfl sh27 (Nat.le_of_ble_eq_true rfl) ⟨rfl, rfl⟩ hE6 (fun z3 ρ4 μ5 hz => ?_)
  replace h := h _ _ _ hz
  refine qX_aload_n 0 dX7_changed_15 rfl rfl (by decide) ?_
  refine qX_iload_n 1 dX7_changed_16 rfl rfl ?_
  obtain ⟨P, hE10, h⟩ := h
  refine qN_callV mX7_answer [_] _ 7 [] dX7_changed_17 cm_X7_92 ⟨(Nat.le_of_ble_eq_true rfl), (Nat.le_of_ble_eq_true rfl)⟩ rfl rfl sh0 (Nat.le_of_ble_eq_true rfl) ⟨rfl, rfl⟩ hE10 (fun z7 ρ8 μ9 hz => ?_)
  replace h := h _ _ _ hz
  exact qX_ireturn rfl dX7_changed_20 rfl ⟨(Nat.le_of_ble_eq_true rfl), (Nat.le_of_ble_eq_true rfl)⟩ h
set_option maxRecDepth 20000 in
theorem e_X7_rehearse {Post : Int → Rf → Mem → Prop} {ρ : Rf} {μ : Mem} 
  (h : isO 0 (ρ 0 8) ∧ ∃ P : Int → Rf → Mem → Prop, qE mX3_play GG GG [qP 41, qP (ρ 0 8), qP 55] ρ μ P ∧ ∀ (z2 : Int) (ρ3 : Rf) (μ4 : Mem), P z2 ρ3 μ4 → Post (μ4 41 9) ρ3 μ4) : qE mX7_rehearse GG GG [qP 0] ρ μ Post := by
  refine qE_intro pl_X7_rehearse (Nat.le_of_ble_eq_true rfl) (Nat.le_refl _) ?_
  refine qX_aload_n 0 dX7_rehearse_0 rfl rfl (by decide) ?_
  refine qX_getS 7 2 _ 40 dX7_rehearse_1 fs_X7_23 rfl rfl sh0 (x := 41) rfl ?_
  refine qX_aload_n 0 dX7_rehearse_4 rfl rfl (by decide) ?_
  refine qX_getR 7 8 _ dX7_rehearse_5 fs_X7_60 sh0 ?_
  refine qX_aload_n 0 dX7_rehearse_8 rfl rfl (by decide) ?_
  refine qX_getS 7 3 _ 54 dX7_rehearse_9 fs_X7_29 rfl rfl sh0 (x := 55) rfl ?_
  have hO1 := h.1
  replace h := h.2
  obtain ⟨P, hE5, h⟩ := h
  refine qN_callV mX3_play [_, _] _ 3 [] dX7_rehearse_12 cm_X7_271 ⟨(Nat.le_of_ble_eq_true rfl), (Nat.le_of_ble_eq_true rfl)⟩ rfl rfl sh41 (Nat.le_of_ble_eq_true rfl) ⟨rfl, rfl⟩ hE5 (fun z2 ρ3 μ4 hz => ?_)
  replace h := h _ _ _ hz
  refine qX_aload_n 0 dX7_rehearse_15 rfl rfl (by decide) ?_
  refine qX_getS 7 2 _ 40 dX7_rehearse_16 fs_X7_23 rfl rfl sh0 (x := 41) rfl ?_
  refine qX_getI 3 9 _ dX7_rehearse_19 fs_X7_167 sh41 ?_
  exact qX_ireturn rfl dX7_rehearse_22 rfl ⟨(Nat.le_of_ble_eq_true rfl), (Nat.le_of_ble_eq_true rfl)⟩ h
set_option maxRecDepth 20000 in
theorem e_X7_takeParsedPlan {Post : Int → Rf → Mem → Prop} {ρ : Rf} {μ : Mem} 
  (h : isO 0 (ρ 0 8) ∧ isO 6 (ρ 0 9) ∧ isO 0 (ρ 1 5) ∧ ∀ ρ4, ρ4 = up2 ρ 0 8 (ρ 1 5) → isO 6 (ρ4 1 6) ∧ ∀ ρ6, ρ6 = up2 ρ4 0 9 (ρ4 1 6) → isO 0 (ρ 0 8) ∧ ∀ ρ8, ρ8 = up2 ρ6 1 5 (ρ 0 8) → isO 6 (ρ 0 9) ∧ ∀ ρ10, ρ10 = up2 ρ8 1 6 (ρ 0 9) → ∀ μ11, μ11 = up2 μ 0 10 1 → ∀ μ12, μ12 = up2 μ11 0 11 0 → ∀ μ13, μ13 = up2 μ12 69 1 0 → isO 0 (ρ10 0 8) ∧ isO 6 (ρ10 0 9) ∧ ∃ P : Int → Rf → Mem → Prop, qE mX3_play GG GG [qP 27, qP (ρ10 0 8), qP (ρ10 0 9)] ρ10 μ13 P ∧ ∀ (z16 : Int) (ρ17 : Rf) (μ18 : Mem), P z16 ρ17 μ18 → Post 0 ρ17 μ18) : qE mX7_takeParsedPlan GG GG [qP 0] ρ μ Post := by
  refine qE_intro pl_X7_takeParsedPlan (Nat.le_of_ble_eq_true rfl) (Nat.le_refl _) ?_
  refine qX_aload_n 0 dX7_takeParsedPlan_0 rfl rfl (by decide) ?_
  refine qX_getR 7 8 _ dX7_takeParsedPlan_1 fs_X7_60 sh0 ?_
  have hO1 := h.1
  replace h := h.2
  refine qX_astore_n 1 dX7_takeParsedPlan_4 rfl (Nat.le_of_ble_eq_true rfl) rfl (shN hO1) ?_
  refine qX_aload_n 0 dX7_takeParsedPlan_5 rfl rfl (by decide) ?_
  refine qX_getR 7 9 _ dX7_takeParsedPlan_6 fs_X7_64 sh0 ?_
  have hO2 := h.1
  replace h := h.2
  refine qX_astore_n 2 dX7_takeParsedPlan_9 rfl (Nat.le_of_ble_eq_true rfl) rfl (shN hO2) ?_
  refine qX_aload_n 0 dX7_takeParsedPlan_10 rfl rfl (by decide) ?_
  refine qX_aload_n 0 dX7_takeParsedPlan_11 rfl rfl (by decide) ?_
  refine qX_getS 7 0 _ 0 dX7_takeParsedPlan_12 fs_X7_12 rfl rfl sh0 (x := 1) rfl ?_
  refine qX_getR 2 5 _ dX7_takeParsedPlan_15 fs_X7_336 sh1 ?_
  have hO3 := h.1
  replace h := h.2
  refine qX_putR 7 8 _ dX7_takeParsedPlan_18 fs_X7_60 sh0 (fun _ => ⟨rfl, rfl⟩) (shL hO3) rfl ?_
  replace h := h _ rfl
  refine qX_aload_n 0 dX7_takeParsedPlan_21 rfl rfl (by decide) ?_
  refine qX_aload_n 0 dX7_takeParsedPlan_22 rfl rfl (by decide) ?_
  refine qX_getS 7 0 _ 0 dX7_takeParsedPlan_23 fs_X7_12 rfl rfl sh0 (x := 1) rfl ?_
  refine qX_getR 2 6 _ dX7_takeParsedPlan_26 fs_X7_337 sh1 ?_
  have hO5 := h.1
  replace h := h.2
  refine qX_putR 7 9 _ dX7_takeParsedPlan_29 fs_X7_64 sh0 (fun _ => ⟨rfl, rfl⟩) (shL hO5) rfl ?_
  replace h := h _ rfl
  refine qX_aload_n 0 dX7_takeParsedPlan_32 rfl rfl (by decide) ?_
  refine qX_getS 7 0 _ 0 dX7_takeParsedPlan_33 fs_X7_12 rfl rfl sh0 (x := 1) rfl ?_
  have hO7 := h.1
  replace h := h.2
  refine qX_aload_n 1 dX7_takeParsedPlan_36 rfl rfl (shN hO7) ?_
  refine qX_putR 2 5 _ dX7_takeParsedPlan_37 fs_X7_336 sh1 (fun _ => ⟨rfl, rfl⟩) (shL hO7) rfl ?_
  replace h := h _ rfl
  refine qX_aload_n 0 dX7_takeParsedPlan_40 rfl rfl (by decide) ?_
  refine qX_getS 7 0 _ 0 dX7_takeParsedPlan_41 fs_X7_12 rfl rfl sh0 (x := 1) rfl ?_
  have hO9 := h.1
  replace h := h.2
  refine qX_aload_n 2 dX7_takeParsedPlan_44 rfl rfl (shN hO9) ?_
  refine qX_putR 2 6 _ dX7_takeParsedPlan_45 fs_X7_337 sh1 (fun _ => ⟨rfl, rfl⟩) (shL hO9) rfl ?_
  replace h := h _ rfl
  refine qX_aload_n 0 dX7_takeParsedPlan_48 rfl rfl (by decide) ?_
  refine qX_iconst dX7_takeParsedPlan_49 (i32_of rfl) ?_
  refine qX_putZ 7 10 _ dX7_takeParsedPlan_50 fs_X7_106 sh0 (by decide) ?_
  replace h := h _ rfl
  refine qX_aload_n 0 dX7_takeParsedPlan_53 rfl rfl (by decide) ?_
  refine qX_iconst dX7_takeParsedPlan_54 (i32_of rfl) ?_
  refine qX_putZ 7 11 _ dX7_takeParsedPlan_55 fs_X7_321 sh0 (by decide) ?_
  replace h := h _ rfl
  refine qX_aload_n 0 dX7_takeParsedPlan_58 rfl rfl (by decide) ?_
  refine qX_getS 7 5 _ 68 dX7_takeParsedPlan_59 fs_X7_39 rfl rfl sh0 (x := 69) rfl ?_
  refine qX_iconst dX7_takeParsedPlan_62 (i32_of rfl) ?_
  refine qX_putI 1 1 _ dX7_takeParsedPlan_63 fs_X7_317 sh69 ?_
  replace h := h _ rfl
  refine qX_aload_n 0 dX7_takeParsedPlan_66 rfl rfl (by decide) ?_
  refine qX_getS 7 1 _ 26 dX7_takeParsedPlan_67 fs_X7_19 rfl rfl sh0 (x := 27) rfl ?_
  refine qX_aload_n 0 dX7_takeParsedPlan_70 rfl rfl (by decide) ?_
  refine qX_getR 7 8 _ dX7_takeParsedPlan_71 fs_X7_60 sh0 ?_
  refine qX_aload_n 0 dX7_takeParsedPlan_74 rfl rfl (by decide) ?_
  refine qX_getR 7 9 _ dX7_takeParsedPlan_75 fs_X7_64 sh0 ?_
  have hO14 := h.1
  replace h := h.2
  have hO15 := h.1
  replace h := h.2
  obtain ⟨P, hE19, h⟩ := h
  refine qN_callV mX3_play [_, _] _ 3 [] dX7_takeParsedPlan_78 cm_X7_271 ⟨(Nat.le_of_ble_eq_true rfl), (Nat.le_of_ble_eq_true rfl)⟩ rfl rfl sh27 (Nat.le_of_ble_eq_true rfl) ⟨rfl, rfl⟩ hE19 (fun z16 ρ17 μ18 hz => ?_)
  replace h := h _ _ _ hz
  exact qX_return rfl dX7_takeParsedPlan_81 rfl ⟨(Nat.le_of_ble_eq_true rfl), (Nat.le_of_ble_eq_true rfl)⟩ h
set_option maxRecDepth 20000 in
theorem e_X7_isTrain {Post : Int → Rf → Mem → Prop} {ρ : Rf} {μ : Mem} {x1 : Int}
  (h : ((μ 0 10 = 0 → Post 0 ρ μ) ∧ (μ 0 10 ≠ 0 → ((x1 < 0 → Post 0 ρ μ) ∧ (0 ≤ x1 → ((2 ≤ x1 → Post 0 ρ μ) ∧ (x1 < 2 → Post 1 ρ μ))))))) : qE mX7_isTrain GG GG [qP 0, qI x1] ρ μ Post := by
  refine qE_intro pl_X7_isTrain (Nat.le_of_ble_eq_true rfl) (Nat.le_refl _) ?_
  refine qX_aload_n 0 dX7_isTrain_0 rfl rfl (by decide) ?_
  refine qX_getI 7 10 _ dX7_isTrain_1 fs_X7_106 sh0 ?_
  refine qX_if_eq 20 dX7_isTrain_4 rfl (fun hc => ?_) (fun hc => ?_)
  · replace h := h.1 hc
    refine qX_iconst dX7_isTrain_20 (i32_of rfl) ?_
    exact qX_zreturn rfl dX7_isTrain_21 rfl ⟨(Nat.le_of_ble_eq_true rfl), (Nat.le_of_ble_eq_true rfl)⟩ (by decide) h
  · replace h := h.2 hc
    refine qX_iload_n 1 dX7_isTrain_7 rfl rfl ?_
    refine qX_if_lt 20 dX7_isTrain_8 rfl (fun hc => ?_) (fun hc => ?_)
    · replace h := h.1 hc
      refine qX_iconst dX7_isTrain_20 (i32_of rfl) ?_
      exact qX_zreturn rfl dX7_isTrain_21 rfl ⟨(Nat.le_of_ble_eq_true rfl), (Nat.le_of_ble_eq_true rfl)⟩ (by decide) h
    · replace h := h.2 hc
      refine qX_iload_n 1 dX7_isTrain_11 rfl rfl ?_
      refine qX_iconst dX7_isTrain_12 (i32_of rfl) ?_
      refine qX_icmp_ge 20 dX7_isTrain_13 rfl (fun hc => ?_) (fun hc => ?_)
      · replace h := h.1 hc
        refine qX_iconst dX7_isTrain_20 (i32_of rfl) ?_
        exact qX_zreturn rfl dX7_isTrain_21 rfl ⟨(Nat.le_of_ble_eq_true rfl), (Nat.le_of_ble_eq_true rfl)⟩ (by decide) h
      · replace h := h.2 hc
        refine qX_iconst dX7_isTrain_16 (i32_of rfl) ?_
        refine qX_goto 21 dX7_isTrain_17 rfl ?_
        exact qX_zreturn rfl dX7_isTrain_21 rfl ⟨(Nat.le_of_ble_eq_true rfl), (Nat.le_of_ble_eq_true rfl)⟩ (by decide) h
set_option maxRecDepth 20000 in
theorem e_X7_isCar {Post : Int → Rf → Mem → Prop} {ρ : Rf} {μ : Mem} {x1 : Int} {x2 : Int}
  (h : ∃ P : Int → Rf → Mem → Prop, qE mX7_isTrain GG GG [qP 0, qI x1] ρ μ P ∧ ∀ (z1 : Int) (ρ2 : Rf) (μ3 : Mem), P z1 ρ2 μ3 → ((z1 = 0 → Post 0 ρ2 μ3) ∧ (z1 ≠ 0 → ((x2 < 0 → Post 0 ρ2 μ3) ∧ (0 ≤ x2 → isO 0 (ρ2 0 8) ∧ (0 ≤ x1 ∧ x1 < 2) ∧ ((μ3 (ρ2 0 8 + 3) x1 ≤ x2 → Post 0 ρ2 μ3) ∧ (x2 < μ3 (ρ2 0 8 + 3) x1 → Post 1 ρ2 μ3))))))) : qE mX7_isCar GG GG [qP 0, qI x1, qI x2] ρ μ Post := by
  refine qE_intro pl_X7_isCar (Nat.le_of_ble_eq_true rfl) (Nat.le_refl _) ?_
  refine qX_aload_n 0 dX7_isCar_0 rfl rfl (by decide) ?_
  refine qX_iload_n 1 dX7_isCar_1 rfl rfl ?_
  obtain ⟨P, hE4, h⟩ := h
  refine qN_callV mX7_isTrain [_] _ 7 [] dX7_isCar_2 cm_X7_98 ⟨(Nat.le_of_ble_eq_true rfl), (Nat.le_of_ble_eq_true rfl)⟩ rfl rfl sh0 (Nat.le_of_ble_eq_true rfl) ⟨rfl, rfl⟩ hE4 (fun z1 ρ2 μ3 hz => ?_)
  replace h := h _ _ _ hz
  refine qX_if_eq 29 dX7_isCar_5 rfl (fun hc => ?_) (fun hc => ?_)
  · replace h := h.1 hc
    refine qX_iconst dX7_isCar_29 (i32_of rfl) ?_
    exact qX_zreturn rfl dX7_isCar_30 rfl ⟨(Nat.le_of_ble_eq_true rfl), (Nat.le_of_ble_eq_true rfl)⟩ (by decide) h
  · replace h := h.2 hc
    refine qX_iload_n 2 dX7_isCar_8 rfl rfl ?_
    refine qX_if_lt 29 dX7_isCar_9 rfl (fun hc => ?_) (fun hc => ?_)
    · replace h := h.1 hc
      refine qX_iconst dX7_isCar_29 (i32_of rfl) ?_
      exact qX_zreturn rfl dX7_isCar_30 rfl ⟨(Nat.le_of_ble_eq_true rfl), (Nat.le_of_ble_eq_true rfl)⟩ (by decide) h
    · replace h := h.2 hc
      refine qX_iload_n 2 dX7_isCar_12 rfl rfl ?_
      refine qX_aload_n 0 dX7_isCar_13 rfl rfl (by decide) ?_
      refine qX_getR 7 8 _ dX7_isCar_14 fs_X7_60 sh0 ?_
      have hO5 := h.1
      replace h := h.2
      refine qX_getS 0 2 _ 2 dX7_isCar_17 fs_X7_102 rfl rfl hO5 rfl ?_
      refine qX_iload_n 1 dX7_isCar_20 rfl rfl ?_
      refine qX_iald dX7_isCar_21 (ar0_2 hO5) h.1 ?_
      replace h := h.2
      refine qX_icmp_ge 29 dX7_isCar_22 rfl (fun hc => ?_) (fun hc => ?_)
      · replace h := h.1 hc
        refine qX_iconst dX7_isCar_29 (i32_of rfl) ?_
        exact qX_zreturn rfl dX7_isCar_30 rfl ⟨(Nat.le_of_ble_eq_true rfl), (Nat.le_of_ble_eq_true rfl)⟩ (by decide) h
      · replace h := h.2 hc
        refine qX_iconst dX7_isCar_25 (i32_of rfl) ?_
        refine qX_goto 30 dX7_isCar_26 rfl ?_
        exact qX_zreturn rfl dX7_isCar_30 rfl ⟨(Nat.le_of_ble_eq_true rfl), (Nat.le_of_ble_eq_true rfl)⟩ (by decide) h
set_option maxRecDepth 20000 in
theorem e_X7_isMeal {Post : Int → Rf → Mem → Prop} {ρ : Rf} {μ : Mem} {x1 : Int}
  (h : ((μ 0 10 = 0 → Post 0 ρ μ) ∧ (μ 0 10 ≠ 0 → ((x1 < 0 → Post 0 ρ μ) ∧ (0 ≤ x1 → isO 0 (ρ 0 8) ∧ ((μ (ρ 0 8) 15 ≤ x1 → Post 0 ρ μ) ∧ (x1 < μ (ρ 0 8) 15 → Post 1 ρ μ))))))) : qE mX7_isMeal GG GG [qP 0, qI x1] ρ μ Post := by
  refine qE_intro pl_X7_isMeal (Nat.le_of_ble_eq_true rfl) (Nat.le_refl _) ?_
  refine qX_aload_n 0 dX7_isMeal_0 rfl rfl (by decide) ?_
  refine qX_getI 7 10 _ dX7_isMeal_1 fs_X7_106 sh0 ?_
  refine qX_if_eq 26 dX7_isMeal_4 rfl (fun hc => ?_) (fun hc => ?_)
  · replace h := h.1 hc
    refine qX_iconst dX7_isMeal_26 (i32_of rfl) ?_
    exact qX_zreturn rfl dX7_isMeal_27 rfl ⟨(Nat.le_of_ble_eq_true rfl), (Nat.le_of_ble_eq_true rfl)⟩ (by decide) h
  · replace h := h.2 hc
    refine qX_iload_n 1 dX7_isMeal_7 rfl rfl ?_
    refine qX_if_lt 26 dX7_isMeal_8 rfl (fun hc => ?_) (fun hc => ?_)
    · replace h := h.1 hc
      refine qX_iconst dX7_isMeal_26 (i32_of rfl) ?_
      exact qX_zreturn rfl dX7_isMeal_27 rfl ⟨(Nat.le_of_ble_eq_true rfl), (Nat.le_of_ble_eq_true rfl)⟩ (by decide) h
    · replace h := h.2 hc
      refine qX_iload_n 1 dX7_isMeal_11 rfl rfl ?_
      refine qX_aload_n 0 dX7_isMeal_12 rfl rfl (by decide) ?_
      refine qX_getR 7 8 _ dX7_isMeal_13 fs_X7_60 sh0 ?_
      have hO1 := h.1
      replace h := h.2
      refine qX_getI 0 15 _ dX7_isMeal_16 fs_X7_110 hO1 ?_
      refine qX_icmp_ge 26 dX7_isMeal_19 rfl (fun hc => ?_) (fun hc => ?_)
      · replace h := h.1 hc
        refine qX_iconst dX7_isMeal_26 (i32_of rfl) ?_
        exact qX_zreturn rfl dX7_isMeal_27 rfl ⟨(Nat.le_of_ble_eq_true rfl), (Nat.le_of_ble_eq_true rfl)⟩ (by decide) h
      · replace h := h.2 hc
        refine qX_iconst dX7_isMeal_22 (i32_of rfl) ?_
        refine qX_goto 27 dX7_isMeal_23 rfl ?_
        exact qX_zreturn rfl dX7_isMeal_27 rfl ⟨(Nat.le_of_ble_eq_true rfl), (Nat.le_of_ble_eq_true rfl)⟩ (by decide) h
set_option maxRecDepth 20000 in
theorem e_X7_isCarMeal {Post : Int → Rf → Mem → Prop} {ρ : Rf} {μ : Mem} {x1 : Int} {x2 : Int} {x3 : Int}
  (h : ∃ P : Int → Rf → Mem → Prop, qE mX7_isCar GG GG [qP 0, qI x1, qI x2] ρ μ P ∧ ∀ (z1 : Int) (ρ2 : Rf) (μ3 : Mem), P z1 ρ2 μ3 → ((z1 = 0 → Post 0 ρ2 μ3) ∧ (z1 ≠ 0 → ∃ P : Int → Rf → Mem → Prop, qE mX7_isMeal GG GG [qP 0, qI x3] ρ2 μ3 P ∧ ∀ (z5 : Int) (ρ6 : Rf) (μ7 : Mem), P z5 ρ6 μ7 → ((z5 = 0 → Post 0 ρ6 μ7) ∧ (z5 ≠ 0 → Post 1 ρ6 μ7))))) : qE mX7_isCarMeal GG GG [qP 0, qI x1, qI x2, qI x3] ρ μ Post := by
  refine qE_intro pl_X7_isCarMeal (Nat.le_of_ble_eq_true rfl) (Nat.le_refl _) ?_
  refine qX_aload_n 0 dX7_isCarMeal_0 rfl rfl (by decide) ?_
  refine qX_iload_n 1 dX7_isCarMeal_1 rfl rfl ?_
  refine qX_iload_n 2 dX7_isCarMeal_2 rfl rfl ?_
  obtain ⟨P, hE4, h⟩ := h
  refine qN_callV mX7_isCar [_, _] _ 7 [] dX7_isCarMeal_3 cm_X7_182 ⟨(Nat.le_of_ble_eq_true rfl), (Nat.le_of_ble_eq_true rfl)⟩ rfl rfl sh0 (Nat.le_of_ble_eq_true rfl) ⟨rfl, rfl⟩ hE4 (fun z1 ρ2 μ3 hz => ?_)
  replace h := h _ _ _ hz
  refine qX_if_eq 21 dX7_isCarMeal_6 rfl (fun hc => ?_) (fun hc => ?_)
  · replace h := h.1 hc
    refine qX_iconst dX7_isCarMeal_21 (i32_of rfl) ?_
    exact qX_zreturn rfl dX7_isCarMeal_22 rfl ⟨(Nat.le_of_ble_eq_true rfl), (Nat.le_of_ble_eq_true rfl)⟩ (by decide) h
  · replace h := h.2 hc
    refine qX_aload_n 0 dX7_isCarMeal_9 rfl rfl (by decide) ?_
    refine qX_iload_n 3 dX7_isCarMeal_10 rfl rfl ?_
    obtain ⟨P, hE8, h⟩ := h
    refine qN_callV mX7_isMeal [_] _ 7 [] dX7_isCarMeal_11 cm_X7_209 ⟨(Nat.le_of_ble_eq_true rfl), (Nat.le_of_ble_eq_true rfl)⟩ rfl rfl sh0 (Nat.le_of_ble_eq_true rfl) ⟨rfl, rfl⟩ hE8 (fun z5 ρ6 μ7 hz => ?_)
    replace h := h _ _ _ hz
    refine qX_if_eq 21 dX7_isCarMeal_14 rfl (fun hc => ?_) (fun hc => ?_)
    · replace h := h.1 hc
      refine qX_iconst dX7_isCarMeal_21 (i32_of rfl) ?_
      exact qX_zreturn rfl dX7_isCarMeal_22 rfl ⟨(Nat.le_of_ble_eq_true rfl), (Nat.le_of_ble_eq_true rfl)⟩ (by decide) h
    · replace h := h.2 hc
      refine qX_iconst dX7_isCarMeal_17 (i32_of rfl) ?_
      refine qX_goto 22 dX7_isCarMeal_18 rfl ?_
      exact qX_zreturn rfl dX7_isCarMeal_22 rfl ⟨(Nat.le_of_ble_eq_true rfl), (Nat.le_of_ble_eq_true rfl)⟩ (by decide) h
set_option maxRecDepth 20000 in
theorem e_X7_isStock {Post : Int → Rf → Mem → Prop} {ρ : Rf} {μ : Mem} {x1 : Int} {x2 : Int}
  (h : ∃ P : Int → Rf → Mem → Prop, qE mX7_isMeal GG GG [qP 0, qI x2] ρ μ P ∧ ∀ (z1 : Int) (ρ2 : Rf) (μ3 : Mem), P z1 ρ2 μ3 → ((z1 = 0 → Post 0 ρ2 μ3) ∧ (z1 ≠ 0 → ((x1 < 0 → Post 0 ρ2 μ3) ∧ (0 ≤ x1 → isO 0 (ρ2 0 8) ∧ ((μ3 (ρ2 0 8) 16 ≤ x1 → Post 0 ρ2 μ3) ∧ (x1 < μ3 (ρ2 0 8) 16 → Post 1 ρ2 μ3))))))) : qE mX7_isStock GG GG [qP 0, qI x1, qI x2] ρ μ Post := by
  refine qE_intro pl_X7_isStock (Nat.le_of_ble_eq_true rfl) (Nat.le_refl _) ?_
  refine qX_aload_n 0 dX7_isStock_0 rfl rfl (by decide) ?_
  refine qX_iload_n 2 dX7_isStock_1 rfl rfl ?_
  obtain ⟨P, hE4, h⟩ := h
  refine qN_callV mX7_isMeal [_] _ 7 [] dX7_isStock_2 cm_X7_209 ⟨(Nat.le_of_ble_eq_true rfl), (Nat.le_of_ble_eq_true rfl)⟩ rfl rfl sh0 (Nat.le_of_ble_eq_true rfl) ⟨rfl, rfl⟩ hE4 (fun z1 ρ2 μ3 hz => ?_)
  replace h := h _ _ _ hz
  refine qX_if_eq 27 dX7_isStock_5 rfl (fun hc => ?_) (fun hc => ?_)
  · replace h := h.1 hc
    refine qX_iconst dX7_isStock_27 (i32_of rfl) ?_
    exact qX_zreturn rfl dX7_isStock_28 rfl ⟨(Nat.le_of_ble_eq_true rfl), (Nat.le_of_ble_eq_true rfl)⟩ (by decide) h
  · replace h := h.2 hc
    refine qX_iload_n 1 dX7_isStock_8 rfl rfl ?_
    refine qX_if_lt 27 dX7_isStock_9 rfl (fun hc => ?_) (fun hc => ?_)
    · replace h := h.1 hc
      refine qX_iconst dX7_isStock_27 (i32_of rfl) ?_
      exact qX_zreturn rfl dX7_isStock_28 rfl ⟨(Nat.le_of_ble_eq_true rfl), (Nat.le_of_ble_eq_true rfl)⟩ (by decide) h
    · replace h := h.2 hc
      refine qX_iload_n 1 dX7_isStock_12 rfl rfl ?_
      refine qX_aload_n 0 dX7_isStock_13 rfl rfl (by decide) ?_
      refine qX_getR 7 8 _ dX7_isStock_14 fs_X7_60 sh0 ?_
      have hO5 := h.1
      replace h := h.2
      refine qX_getI 0 16 _ dX7_isStock_17 fs_X7_338 hO5 ?_
      refine qX_icmp_ge 27 dX7_isStock_20 rfl (fun hc => ?_) (fun hc => ?_)
      · replace h := h.1 hc
        refine qX_iconst dX7_isStock_27 (i32_of rfl) ?_
        exact qX_zreturn rfl dX7_isStock_28 rfl ⟨(Nat.le_of_ble_eq_true rfl), (Nat.le_of_ble_eq_true rfl)⟩ (by decide) h
      · replace h := h.2 hc
        refine qX_iconst dX7_isStock_23 (i32_of rfl) ?_
        refine qX_goto 28 dX7_isStock_24 rfl ?_
        exact qX_zreturn rfl dX7_isStock_28 rfl ⟨(Nat.le_of_ble_eq_true rfl), (Nat.le_of_ble_eq_true rfl)⟩ (by decide) h
set_option maxRecDepth 20000 in
theorem e_X7_isTrolley {Post : Int → Rf → Mem → Prop} {ρ : Rf} {μ : Mem} {x1 : Int}
  (h : ((μ 0 10 = 0 → Post 0 ρ μ) ∧ (μ 0 10 ≠ 0 → ((x1 < 0 → Post 0 ρ μ) ∧ (0 ≤ x1 → isO 0 (ρ 0 8) ∧ ((μ (ρ 0 8) 17 ≤ x1 → Post 0 ρ μ) ∧ (x1 < μ (ρ 0 8) 17 → Post 1 ρ μ))))))) : qE mX7_isTrolley GG GG [qP 0, qI x1] ρ μ Post := by
  refine qE_intro pl_X7_isTrolley (Nat.le_of_ble_eq_true rfl) (Nat.le_refl _) ?_
  refine qX_aload_n 0 dX7_isTrolley_0 rfl rfl (by decide) ?_
  refine qX_getI 7 10 _ dX7_isTrolley_1 fs_X7_106 sh0 ?_
  refine qX_if_eq 26 dX7_isTrolley_4 rfl (fun hc => ?_) (fun hc => ?_)
  · replace h := h.1 hc
    refine qX_iconst dX7_isTrolley_26 (i32_of rfl) ?_
    exact qX_zreturn rfl dX7_isTrolley_27 rfl ⟨(Nat.le_of_ble_eq_true rfl), (Nat.le_of_ble_eq_true rfl)⟩ (by decide) h
  · replace h := h.2 hc
    refine qX_iload_n 1 dX7_isTrolley_7 rfl rfl ?_
    refine qX_if_lt 26 dX7_isTrolley_8 rfl (fun hc => ?_) (fun hc => ?_)
    · replace h := h.1 hc
      refine qX_iconst dX7_isTrolley_26 (i32_of rfl) ?_
      exact qX_zreturn rfl dX7_isTrolley_27 rfl ⟨(Nat.le_of_ble_eq_true rfl), (Nat.le_of_ble_eq_true rfl)⟩ (by decide) h
    · replace h := h.2 hc
      refine qX_iload_n 1 dX7_isTrolley_11 rfl rfl ?_
      refine qX_aload_n 0 dX7_isTrolley_12 rfl rfl (by decide) ?_
      refine qX_getR 7 8 _ dX7_isTrolley_13 fs_X7_60 sh0 ?_
      have hO1 := h.1
      replace h := h.2
      refine qX_getI 0 17 _ dX7_isTrolley_16 fs_X7_113 hO1 ?_
      refine qX_icmp_ge 26 dX7_isTrolley_19 rfl (fun hc => ?_) (fun hc => ?_)
      · replace h := h.1 hc
        refine qX_iconst dX7_isTrolley_26 (i32_of rfl) ?_
        exact qX_zreturn rfl dX7_isTrolley_27 rfl ⟨(Nat.le_of_ble_eq_true rfl), (Nat.le_of_ble_eq_true rfl)⟩ (by decide) h
      · replace h := h.2 hc
        refine qX_iconst dX7_isTrolley_22 (i32_of rfl) ?_
        refine qX_goto 27 dX7_isTrolley_23 rfl ?_
        exact qX_zreturn rfl dX7_isTrolley_27 rfl ⟨(Nat.le_of_ble_eq_true rfl), (Nat.le_of_ble_eq_true rfl)⟩ (by decide) h
set_option maxRecDepth 20000 in
theorem e_X7_isJob {Post : Int → Rf → Mem → Prop} {ρ : Rf} {μ : Mem} {x1 : Int}
  (h : ((μ 0 10 = 0 → Post 0 ρ μ) ∧ (μ 0 10 ≠ 0 → ((x1 < 0 → Post 0 ρ μ) ∧ (0 ≤ x1 → isO 6 (ρ 0 9) ∧ ((μ (ρ 0 9) 6 ≤ x1 → Post 0 ρ μ) ∧ (x1 < μ (ρ 0 9) 6 → Post 1 ρ μ))))))) : qE mX7_isJob GG GG [qP 0, qI x1] ρ μ Post := by
  refine qE_intro pl_X7_isJob (Nat.le_of_ble_eq_true rfl) (Nat.le_refl _) ?_
  refine qX_aload_n 0 dX7_isJob_0 rfl rfl (by decide) ?_
  refine qX_getI 7 10 _ dX7_isJob_1 fs_X7_106 sh0 ?_
  refine qX_if_eq 26 dX7_isJob_4 rfl (fun hc => ?_) (fun hc => ?_)
  · replace h := h.1 hc
    refine qX_iconst dX7_isJob_26 (i32_of rfl) ?_
    exact qX_zreturn rfl dX7_isJob_27 rfl ⟨(Nat.le_of_ble_eq_true rfl), (Nat.le_of_ble_eq_true rfl)⟩ (by decide) h
  · replace h := h.2 hc
    refine qX_iload_n 1 dX7_isJob_7 rfl rfl ?_
    refine qX_if_lt 26 dX7_isJob_8 rfl (fun hc => ?_) (fun hc => ?_)
    · replace h := h.1 hc
      refine qX_iconst dX7_isJob_26 (i32_of rfl) ?_
      exact qX_zreturn rfl dX7_isJob_27 rfl ⟨(Nat.le_of_ble_eq_true rfl), (Nat.le_of_ble_eq_true rfl)⟩ (by decide) h
    · replace h := h.2 hc
      refine qX_iload_n 1 dX7_isJob_11 rfl rfl ?_
      refine qX_aload_n 0 dX7_isJob_12 rfl rfl (by decide) ?_
      refine qX_getR 7 9 _ dX7_isJob_13 fs_X7_64 sh0 ?_
      have hO1 := h.1
      replace h := h.2
      refine qX_getI 6 6 _ dX7_isJob_16 fs_X7_89 hO1 ?_
      refine qX_icmp_ge 26 dX7_isJob_19 rfl (fun hc => ?_) (fun hc => ?_)
      · replace h := h.1 hc
        refine qX_iconst dX7_isJob_26 (i32_of rfl) ?_
        exact qX_zreturn rfl dX7_isJob_27 rfl ⟨(Nat.le_of_ble_eq_true rfl), (Nat.le_of_ble_eq_true rfl)⟩ (by decide) h
      · replace h := h.2 hc
        refine qX_iconst dX7_isJob_22 (i32_of rfl) ?_
        refine qX_goto 27 dX7_isJob_23 rfl ?_
        exact qX_zreturn rfl dX7_isJob_27 rfl ⟨(Nat.le_of_ble_eq_true rfl), (Nat.le_of_ble_eq_true rfl)⟩ (by decide) h
set_option maxRecDepth 20000 in
theorem e_X7_isJobQuantity {Post : Int → Rf → Mem → Prop} {ρ : Rf} {μ : Mem} {x0 : Int}
  (h : ((x0 < 1 → Post 0 ρ μ) ∧ (1 ≤ x0 → ((99 < x0 → Post 0 ρ μ) ∧ (x0 ≤ 99 → Post 1 ρ μ))))) : qE mX7_isJobQuantity GG GG [qI x0] ρ μ Post := by
  refine qE_intro pl_X7_isJobQuantity (Nat.le_of_ble_eq_true rfl) (Nat.le_refl _) ?_
  refine qX_iload_n 0 dX7_isJobQuantity_0 rfl rfl ?_
  refine qX_iconst dX7_isJobQuantity_1 (i32_of rfl) ?_
  refine qX_icmp_lt 15 dX7_isJobQuantity_2 rfl (fun hc => ?_) (fun hc => ?_)
  · replace h := h.1 hc
    refine qX_iconst dX7_isJobQuantity_15 (i32_of rfl) ?_
    exact qX_zreturn rfl dX7_isJobQuantity_16 rfl ⟨(Nat.le_of_ble_eq_true rfl), (Nat.le_of_ble_eq_true rfl)⟩ (by decide) h
  · replace h := h.2 hc
    refine qX_iload_n 0 dX7_isJobQuantity_5 rfl rfl ?_
    refine qX_bip dX7_isJobQuantity_6 rfl ?_
    refine qX_icmp_gt 15 dX7_isJobQuantity_8 rfl (fun hc => ?_) (fun hc => ?_)
    · replace h := h.1 hc
      refine qX_iconst dX7_isJobQuantity_15 (i32_of rfl) ?_
      exact qX_zreturn rfl dX7_isJobQuantity_16 rfl ⟨(Nat.le_of_ble_eq_true rfl), (Nat.le_of_ble_eq_true rfl)⟩ (by decide) h
    · replace h := h.2 hc
      refine qX_iconst dX7_isJobQuantity_11 (i32_of rfl) ?_
      refine qX_goto 16 dX7_isJobQuantity_12 rfl ?_
      exact qX_zreturn rfl dX7_isJobQuantity_16 rfl ⟨(Nat.le_of_ble_eq_true rfl), (Nat.le_of_ble_eq_true rfl)⟩ (by decide) h
set_option maxRecDepth 20000 in
theorem e_X7_doorIndex {Post : Int → Rf → Mem → Prop} {ρ : Rf} {μ : Mem} {x0 : Int} {x1 : Int}
  (h : i32 (x0 * 5) ∧ i32 ((x0 * 5) + x1) ∧ Post ((x0 * 5) + x1) ρ μ) : qE mX7_doorIndex GG GG [qI x0, qI x1] ρ μ Post := by
  refine qE_intro pl_X7_doorIndex (Nat.le_of_ble_eq_true rfl) (Nat.le_refl _) ?_
  refine qX_iload_n 0 dX7_doorIndex_0 rfl rfl ?_
  refine qX_iconst dX7_doorIndex_1 (i32_of rfl) ?_
  refine qR_imul dX7_doorIndex_2 h.1 ?_
  replace h := h.2
  refine qX_iload_n 1 dX7_doorIndex_3 rfl rfl ?_
  refine qR_iadd dX7_doorIndex_4 h.1 ?_
  replace h := h.2
  exact qX_ireturn rfl dX7_doorIndex_5 rfl ⟨(Nat.le_of_ble_eq_true rfl), (Nat.le_of_ble_eq_true rfl)⟩ h
set_option maxRecDepth 20000 in
theorem e_X7_stockIndex {Post : Int → Rf → Mem → Prop} {ρ : Rf} {μ : Mem} {x0 : Int} {x1 : Int}
  (h : i32 (x0 * 4) ∧ i32 ((x0 * 4) + x1) ∧ Post ((x0 * 4) + x1) ρ μ) : qE mX7_stockIndex GG GG [qI x0, qI x1] ρ μ Post := by
  refine qE_intro pl_X7_stockIndex (Nat.le_of_ble_eq_true rfl) (Nat.le_refl _) ?_
  refine qX_iload_n 0 dX7_stockIndex_0 rfl rfl ?_
  refine qX_iconst dX7_stockIndex_1 (i32_of rfl) ?_
  refine qR_imul dX7_stockIndex_2 h.1 ?_
  replace h := h.2
  refine qX_iload_n 1 dX7_stockIndex_3 rfl rfl ?_
  refine qR_iadd dX7_stockIndex_4 h.1 ?_
  replace h := h.2
  exact qX_ireturn rfl dX7_stockIndex_5 rfl ⟨(Nat.le_of_ble_eq_true rfl), (Nat.le_of_ble_eq_true rfl)⟩ h
set_option maxRecDepth 20000 in
theorem e_X7_handedAt {Post : Int → Rf → Mem → Prop} {ρ : Rf} {μ : Mem} {x1 : Int} {x2 : Int}
  (h : qX mX7_handedAt GG Post GG (0, 0) 5 [some (qP 0), some (qI x1), some (qI x2), some (qI 0), some (qI 0)] [] ρ μ) : qE mX7_handedAt GG GG [qP 0, qI x1, qI x2] ρ μ Post := by
  refine qE_intro pl_X7_handedAt (Nat.le_of_ble_eq_true rfl) (Nat.le_refl _) ?_
  refine qX_iconst dX7_handedAt_0 (i32_of rfl) ?_
  refine qX_istore_n 3 dX7_handedAt_1 rfl (Nat.le_of_ble_eq_true rfl) rfl ?_
  refine qX_iconst dX7_handedAt_2 (i32_of rfl) ?_
  refine qX_istore dX7_handedAt_3 (Nat.le_of_ble_eq_true rfl) rfl ?_
  exact qX_mask [true, true, true, true, true] h
set_option maxRecDepth 20000 in
theorem w_X7_handedAt_5 {Post : Int → Rf → Mem → Prop} {ρ : Rf} {μ : Mem} {x1 : Int} {x2 : Int} {x3 : Int} {x4 : Int}
  (h : isO 6 (ρ 0 9) ∧ ((μ (ρ 0 9) 6 ≤ x4 → Post x3 ρ μ) ∧ (x4 < μ (ρ 0 9) 6 → (0 ≤ x4 ∧ x4 < 20) ∧ ((μ (ρ 0 9 + 2) x4 ≠ x1 → i32 (x4 + 1) ∧ qX mX7_handedAt GG Post GG (0, 0) 5 [some (qP 0), some (qI x1), some (qI x2), some (qI x3), some (qI (x4 + 1))] [] ρ μ) ∧ (μ (ρ 0 9 + 2) x4 = x1 → (0 ≤ x4 ∧ x4 < 20) ∧ ((μ (ρ 0 9 + 3) x4 ≠ x2 → i32 (x4 + 1) ∧ qX mX7_handedAt GG Post GG (0, 0) 5 [some (qP 0), some (qI x1), some (qI x2), some (qI x3), some (qI (x4 + 1))] [] ρ μ) ∧ (μ (ρ 0 9 + 3) x4 = x2 → (0 ≤ x4 ∧ x4 < 20) ∧ i32 (x3 + (μ 34 x4)) ∧ i32 (x4 + 1) ∧ qX mX7_handedAt GG Post GG (0, 0) 5 [some (qP 0), some (qI x1), some (qI x2), some (qI (x3 + (μ 34 x4))), some (qI (x4 + 1))] [] ρ μ))))))) : qX mX7_handedAt GG Post GG (0, 0) 5 [some (qP 0), some (qI x1), some (qI x2), some (qI x3), some (qI x4)] [] ρ μ := by
  refine qX_iload dX7_handedAt_5 rfl ?_
  refine qX_aload_n 0 dX7_handedAt_7 rfl rfl (by decide) ?_
  refine qX_getR 7 9 _ dX7_handedAt_8 fs_X7_64 sh0 ?_
  have hO1 := h.1
  replace h := h.2
  refine qX_getI 6 6 _ dX7_handedAt_11 fs_X7_89 hO1 ?_
  refine qX_icmp_ge 64 dX7_handedAt_14 rfl (fun hc => ?_) (fun hc => ?_)
  · replace h := h.1 hc
    refine qX_iload_n 3 dX7_handedAt_64 rfl rfl ?_
    exact qX_ireturn rfl dX7_handedAt_65 rfl ⟨(Nat.le_of_ble_eq_true rfl), (Nat.le_of_ble_eq_true rfl)⟩ h
  · replace h := h.2 hc
    refine qX_aload_n 0 dX7_handedAt_17 rfl rfl (by decide) ?_
    refine qX_getR 7 9 _ dX7_handedAt_18 fs_X7_64 sh0 ?_
    refine qX_getS 6 1 _ 1 dX7_handedAt_21 fs_X7_185 rfl rfl hO1 rfl ?_
    refine qX_iload dX7_handedAt_24 rfl ?_
    refine qX_iald dX7_handedAt_26 (ar6_1 hO1) h.1 ?_
    replace h := h.2
    refine qX_iload_n 1 dX7_handedAt_27 rfl rfl ?_
    refine qX_icmp_ne 58 dX7_handedAt_28 rfl (fun hc => ?_) (fun hc => ?_)
    · replace h := h.1 hc
      refine qR_iinc dX7_handedAt_58 rfl (Nat.le_of_ble_eq_true rfl) rfl h.1 ?_
      replace h := h.2
      refine qX_goto 5 dX7_handedAt_61 rfl ?_
      exact qX_mask [true, true, true, true, true] h
    · replace h := h.2 hc
      refine qX_aload_n 0 dX7_handedAt_31 rfl rfl (by decide) ?_
      refine qX_getR 7 9 _ dX7_handedAt_32 fs_X7_64 sh0 ?_
      refine qX_getS 6 2 _ 2 dX7_handedAt_35 fs_X7_341 rfl rfl hO1 rfl ?_
      refine qX_iload dX7_handedAt_38 rfl ?_
      refine qX_iald dX7_handedAt_40 (ar6_2 hO1) h.1 ?_
      replace h := h.2
      refine qX_iload_n 2 dX7_handedAt_41 rfl rfl ?_
      refine qX_icmp_ne 58 dX7_handedAt_42 rfl (fun hc => ?_) (fun hc => ?_)
      · replace h := h.1 hc
        refine qR_iinc dX7_handedAt_58 rfl (Nat.le_of_ble_eq_true rfl) rfl h.1 ?_
        replace h := h.2
        refine qX_goto 5 dX7_handedAt_61 rfl ?_
        exact qX_mask [true, true, true, true, true] h
      · replace h := h.2 hc
        refine qX_iload_n 3 dX7_handedAt_45 rfl rfl ?_
        refine qX_aload_n 0 dX7_handedAt_46 rfl rfl (by decide) ?_
        refine qX_getS 7 1 _ 26 dX7_handedAt_47 fs_X7_19 rfl rfl sh0 (x := 27) rfl ?_
        refine qX_getS 3 6 _ 6 dX7_handedAt_50 fs_X7_155 rfl rfl sh27 (x := 34) rfl ?_
        refine qX_iload dX7_handedAt_53 rfl ?_
        refine qX_iald dX7_handedAt_55 sh34 h.1 ?_
        replace h := h.2
        refine qR_iadd dX7_handedAt_56 h.1 ?_
        replace h := h.2
        refine qX_istore_n 3 dX7_handedAt_57 rfl (Nat.le_of_ble_eq_true rfl) rfl ?_
        refine qR_iinc dX7_handedAt_58 rfl (Nat.le_of_ble_eq_true rfl) rfl h.1 ?_
        replace h := h.2
        refine qX_goto 5 dX7_handedAt_61 rfl ?_
        exact qX_mask [true, true, true, true, true] h
set_option maxRecDepth 20000 in
theorem e_X7_handedToTrain {Post : Int → Rf → Mem → Prop} {ρ : Rf} {μ : Mem} {x1 : Int} {x2 : Int}
  (h : qX mX7_handedToTrain GG Post GG (0, 0) 5 [some (qP 0), some (qI x1), some (qI x2), some (qI 0), some (qI 0)] [] ρ μ) : qE mX7_handedToTrain GG GG [qP 0, qI x1, qI x2] ρ μ Post := by
  refine qE_intro pl_X7_handedToTrain (Nat.le_of_ble_eq_true rfl) (Nat.le_refl _) ?_
  refine qX_iconst dX7_handedToTrain_0 (i32_of rfl) ?_
  refine qX_istore_n 3 dX7_handedToTrain_1 rfl (Nat.le_of_ble_eq_true rfl) rfl ?_
  refine qX_iconst dX7_handedToTrain_2 (i32_of rfl) ?_
  refine qX_istore dX7_handedToTrain_3 (Nat.le_of_ble_eq_true rfl) rfl ?_
  exact qX_mask [true, true, true, true, true] h
set_option maxRecDepth 20000 in
theorem w_X7_handedToTrain_5 {Post : Int → Rf → Mem → Prop} {ρ : Rf} {μ : Mem} {x1 : Int} {x2 : Int} {x3 : Int} {x4 : Int}
  (h : isO 0 (ρ 0 8) ∧ (0 ≤ x1 ∧ x1 < 2) ∧ ((μ (ρ 0 8 + 3) x1 ≤ x4 → Post x3 ρ μ) ∧ (x4 < μ (ρ 0 8 + 3) x1 → ∃ P : Int → Rf → Mem → Prop, qE mX7_doorIndex GG GG [qI x1, qI x4] ρ μ P ∧ ∀ (z2 : Int) (ρ3 : Rf) (μ4 : Mem), P z2 ρ3 μ4 → ∃ P : Int → Rf → Mem → Prop, qE mX7_handedAt GG GG [qP 0, qI z2, qI x2] ρ3 μ4 P ∧ ∀ (z6 : Int) (ρ7 : Rf) (μ8 : Mem), P z6 ρ7 μ8 → i32 (x3 + z6) ∧ i32 (x4 + 1) ∧ qX mX7_handedToTrain GG Post GG (0, 0) 5 [some (qP 0), some (qI x1), some (qI x2), some (qI (x3 + z6)), some (qI (x4 + 1))] [] ρ7 μ8))) : qX mX7_handedToTrain GG Post GG (0, 0) 5 [some (qP 0), some (qI x1), some (qI x2), some (qI x3), some (qI x4)] [] ρ μ := by
  refine qX_iload dX7_handedToTrain_5 rfl ?_
  refine qX_aload_n 0 dX7_handedToTrain_7 rfl rfl (by decide) ?_
  refine qX_getR 7 8 _ dX7_handedToTrain_8 fs_X7_60 sh0 ?_
  have hO1 := h.1
  replace h := h.2
  refine qX_getS 0 2 _ 2 dX7_handedToTrain_11 fs_X7_102 rfl rfl hO1 rfl ?_
  refine qX_iload_n 1 dX7_handedToTrain_14 rfl rfl ?_
  refine qX_iald dX7_handedToTrain_15 (ar0_2 hO1) h.1 ?_
  replace h := h.2
  refine qX_icmp_ge 39 dX7_handedToTrain_16 rfl (fun hc => ?_) (fun hc => ?_)
  · replace h := h.1 hc
    refine qX_iload_n 3 dX7_handedToTrain_39 rfl rfl ?_
    exact qX_ireturn rfl dX7_handedToTrain_40 rfl ⟨(Nat.le_of_ble_eq_true rfl), (Nat.le_of_ble_eq_true rfl)⟩ h
  · replace h := h.2 hc
    refine qX_iload_n 3 dX7_handedToTrain_19 rfl rfl ?_
    refine qX_aload_n 0 dX7_handedToTrain_20 rfl rfl (by decide) ?_
    refine qX_iload_n 1 dX7_handedToTrain_21 rfl rfl ?_
    refine qX_iload dX7_handedToTrain_22 rfl ?_
    obtain ⟨P, hE5, h⟩ := h
    refine qN_callS mX7_doorIndex [_, _] [_, _] dX7_handedToTrain_24 cm_X7_134 ⟨(Nat.le_of_ble_eq_true rfl), (Nat.le_of_ble_eq_true rfl)⟩ rfl rfl (Nat.le_of_ble_eq_true rfl) ⟨rfl, rfl⟩ hE5 (fun z2 ρ3 μ4 hz => ?_)
    replace h := h _ _ _ hz
    refine qX_iload_n 2 dX7_handedToTrain_27 rfl rfl ?_
    obtain ⟨P, hE9, h⟩ := h
    refine qN_callV mX7_handedAt [_, _] _ 7 [_] dX7_handedToTrain_28 cm_X7_164 ⟨(Nat.le_of_ble_eq_true rfl), (Nat.le_of_ble_eq_true rfl)⟩ rfl rfl sh0 (Nat.le_of_ble_eq_true rfl) ⟨rfl, rfl⟩ hE9 (fun z6 ρ7 μ8 hz => ?_)
    replace h := h _ _ _ hz
    refine qR_iadd dX7_handedToTrain_31 h.1 ?_
    replace h := h.2
    refine qX_istore_n 3 dX7_handedToTrain_32 rfl (Nat.le_of_ble_eq_true rfl) rfl ?_
    refine qR_iinc dX7_handedToTrain_33 rfl (Nat.le_of_ble_eq_true rfl) rfl h.1 ?_
    replace h := h.2
    refine qX_goto 5 dX7_handedToTrain_36 rfl ?_
    exact qX_mask [true, true, true, true, true] h
set_option maxRecDepth 20000 in
theorem e_X7_wantedByTrain {Post : Int → Rf → Mem → Prop} {ρ : Rf} {μ : Mem} {x1 : Int} {x2 : Int}
  (h : qX mX7_wantedByTrain GG Post GG (0, 0) 5 [some (qP 0), some (qI x1), some (qI x2), some (qI 0), some (qI 0)] [] ρ μ) : qE mX7_wantedByTrain GG GG [qP 0, qI x1, qI x2] ρ μ Post := by
  refine qE_intro pl_X7_wantedByTrain (Nat.le_of_ble_eq_true rfl) (Nat.le_refl _) ?_
  refine qX_iconst dX7_wantedByTrain_0 (i32_of rfl) ?_
  refine qX_istore_n 3 dX7_wantedByTrain_1 rfl (Nat.le_of_ble_eq_true rfl) rfl ?_
  refine qX_iconst dX7_wantedByTrain_2 (i32_of rfl) ?_
  refine qX_istore dX7_wantedByTrain_3 (Nat.le_of_ble_eq_true rfl) rfl ?_
  exact qX_mask [true, true, true, true, true] h
set_option maxRecDepth 20000 in
theorem w_X7_wantedByTrain_5 {Post : Int → Rf → Mem → Prop} {ρ : Rf} {μ : Mem} {x1 : Int} {x2 : Int} {x3 : Int} {x4 : Int}
  (h : isO 0 (ρ 0 8) ∧ (0 ≤ x1 ∧ x1 < 2) ∧ ((μ (ρ 0 8 + 3) x1 ≤ x4 → Post x3 ρ μ) ∧ (x4 < μ (ρ 0 8 + 3) x1 → ∃ P : Int → Rf → Mem → Prop, qE mX7_doorIndex GG GG [qI x1, qI x4] ρ μ P ∧ ∀ (z2 : Int) (ρ3 : Rf) (μ4 : Mem), P z2 ρ3 μ4 → isO 0 (ρ 0 8) ∧ ∃ P : Int → Rf → Mem → Prop, qE mX0_wanted GG GG [qP (ρ 0 8), qI z2, qI x2] ρ3 μ4 P ∧ ∀ (z7 : Int) (ρ8 : Rf) (μ9 : Mem), P z7 ρ8 μ9 → i32 (x3 + z7) ∧ i32 (x4 + 1) ∧ qX mX7_wantedByTrain GG Post GG (0, 0) 5 [some (qP 0), some (qI x1), some (qI x2), some (qI (x3 + z7)), some (qI (x4 + 1))] [] ρ8 μ9))) : qX mX7_wantedByTrain GG Post GG (0, 0) 5 [some (qP 0), some (qI x1), some (qI x2), some (qI x3), some (qI x4)] [] ρ μ := by
  refine qX_iload dX7_wantedByTrain_5 rfl ?_
  refine qX_aload_n 0 dX7_wantedByTrain_7 rfl rfl (by decide) ?_
  refine qX_getR 7 8 _ dX7_wantedByTrain_8 fs_X7_60 sh0 ?_
  have hO1 := h.1
  replace h := h.2
  refine qX_getS 0 2 _ 2 dX7_wantedByTrain_11 fs_X7_102 rfl rfl hO1 rfl ?_
  refine qX_iload_n 1 dX7_wantedByTrain_14 rfl rfl ?_
  refine qX_iald dX7_wantedByTrain_15 (ar0_2 hO1) h.1 ?_
  replace h := h.2
  refine qX_icmp_ge 42 dX7_wantedByTrain_16 rfl (fun hc => ?_) (fun hc => ?_)
  · replace h := h.1 hc
    refine qX_iload_n 3 dX7_wantedByTrain_42 rfl rfl ?_
    exact qX_ireturn rfl dX7_wantedByTrain_43 rfl ⟨(Nat.le_of_ble_eq_true rfl), (Nat.le_of_ble_eq_true rfl)⟩ h
  · replace h := h.2 hc
    refine qX_iload_n 3 dX7_wantedByTrain_19 rfl rfl ?_
    refine qX_aload_n 0 dX7_wantedByTrain_20 rfl rfl (by decide) ?_
    refine qX_getR 7 8 _ dX7_wantedByTrain_21 fs_X7_60 sh0 ?_
    refine qX_iload_n 1 dX7_wantedByTrain_24 rfl rfl ?_
    refine qX_iload dX7_wantedByTrain_25 rfl ?_
    obtain ⟨P, hE5, h⟩ := h
    refine qN_callS mX7_doorIndex [_, _] [_, _] dX7_wantedByTrain_27 cm_X7_134 ⟨(Nat.le_of_ble_eq_true rfl), (Nat.le_of_ble_eq_true rfl)⟩ rfl rfl (Nat.le_of_ble_eq_true rfl) ⟨rfl, rfl⟩ hE5 (fun z2 ρ3 μ4 hz => ?_)
    replace h := h _ _ _ hz
    refine qX_iload_n 2 dX7_wantedByTrain_30 rfl rfl ?_
    have hO6 := h.1
    replace h := h.2
    obtain ⟨P, hE10, h⟩ := h
    refine qN_callV mX0_wanted [_, _] _ 0 [_] dX7_wantedByTrain_31 cm_X7_137 ⟨(Nat.le_of_ble_eq_true rfl), (Nat.le_of_ble_eq_true rfl)⟩ rfl rfl hO6 (Nat.le_of_ble_eq_true rfl) ⟨rfl, rfl⟩ hE10 (fun z7 ρ8 μ9 hz => ?_)
    replace h := h _ _ _ hz
    refine qR_iadd dX7_wantedByTrain_34 h.1 ?_
    replace h := h.2
    refine qX_istore_n 3 dX7_wantedByTrain_35 rfl (Nat.le_of_ble_eq_true rfl) rfl ?_
    refine qR_iinc dX7_wantedByTrain_36 rfl (Nat.le_of_ble_eq_true rfl) rfl h.1 ?_
    replace h := h.2
    refine qX_goto 5 dX7_wantedByTrain_39 rfl ?_
    exact qX_mask [true, true, true, true, true] h
set_option maxRecDepth 20000 in
theorem e_X7_addClaims {Post : Int → Rf → Mem → Prop} {ρ : Rf} {μ : Mem} {x1 : Int} {x2 : Int}
  (h : qX mX7_addClaims GG Post GG (0, 0) 2 [some (qP 0), some (qI x1), some (qI x2), some (qI 0)] [] ρ μ) : qE mX7_addClaims GG GG [qP 0, qI x1, qI x2] ρ μ Post := by
  refine qE_intro pl_X7_addClaims (Nat.le_of_ble_eq_true rfl) (Nat.le_refl _) ?_
  refine qX_iconst dX7_addClaims_0 (i32_of rfl) ?_
  refine qX_istore_n 3 dX7_addClaims_1 rfl (Nat.le_of_ble_eq_true rfl) rfl ?_
  exact qX_mask [true, true, true, true] h
set_option maxRecDepth 20000 in
theorem w_X7_addClaims_2 {Post : Int → Rf → Mem → Prop} {ρ : Rf} {μ : Mem} {x1 : Int} {x2 : Int} {x3 : Int}
  (h : isO 0 (ρ 0 8) ∧ (0 ≤ x1 ∧ x1 < 2) ∧ ((μ (ρ 0 8 + 3) x1 ≤ x3 → Post 0 ρ μ) ∧ (x3 < μ (ρ 0 8 + 3) x1 → ∃ P : Int → Rf → Mem → Prop, qE mX7_doorIndex GG GG [qI x1, qI x3] ρ μ P ∧ ∀ (z2 : Int) (ρ3 : Rf) (μ4 : Mem), P z2 ρ3 μ4 → isO 0 (ρ 0 8) ∧ ∃ P : Int → Rf → Mem → Prop, qE mX0_wanted GG GG [qP (ρ 0 8), qI z2, qI x2] ρ3 μ4 P ∧ ∀ (z7 : Int) (ρ8 : Rf) (μ9 : Mem), P z7 ρ8 μ9 → ∃ P : Int → Rf → Mem → Prop, qE mX4_addClaim GG GG [qP 151, qI z7] ρ8 μ9 P ∧ ∀ (z11 : Int) (ρ12 : Rf) (μ13 : Mem), P z11 ρ12 μ13 → i32 (x3 + 1) ∧ qX mX7_addClaims GG Post GG (0, 0) 2 [some (qP 0), some (qI x1), some (qI x2), some (qI (x3 + 1))] [] ρ12 μ13))) : qX mX7_addClaims GG Post GG (0, 0) 2 [some (qP 0), some (qI x1), some (qI x2), some (qI x3)] [] ρ μ := by
  refine qX_iload_n 3 dX7_addClaims_2 rfl rfl ?_
  refine qX_aload_n 0 dX7_addClaims_3 rfl rfl (by decide) ?_
  refine qX_getR 7 8 _ dX7_addClaims_4 fs_X7_60 sh0 ?_
  have hO1 := h.1
  replace h := h.2
  refine qX_getS 0 2 _ 2 dX7_addClaims_7 fs_X7_102 rfl rfl hO1 rfl ?_
  refine qX_iload_n 1 dX7_addClaims_10 rfl rfl ?_
  refine qX_iald dX7_addClaims_11 (ar0_2 hO1) h.1 ?_
  replace h := h.2
  refine qX_icmp_ge 41 dX7_addClaims_12 rfl (fun hc => ?_) (fun hc => ?_)
  · replace h := h.1 hc
    exact qX_return rfl dX7_addClaims_41 rfl ⟨(Nat.le_of_ble_eq_true rfl), (Nat.le_of_ble_eq_true rfl)⟩ h
  · replace h := h.2 hc
    refine qX_aload_n 0 dX7_addClaims_15 rfl rfl (by decide) ?_
    refine qX_getS 7 7 _ 150 dX7_addClaims_16 fs_X7_53 rfl rfl sh0 (x := 151) rfl ?_
    refine qX_aload_n 0 dX7_addClaims_19 rfl rfl (by decide) ?_
    refine qX_getR 7 8 _ dX7_addClaims_20 fs_X7_60 sh0 ?_
    refine qX_iload_n 1 dX7_addClaims_23 rfl rfl ?_
    refine qX_iload_n 3 dX7_addClaims_24 rfl rfl ?_
    obtain ⟨P, hE5, h⟩ := h
    refine qN_callS mX7_doorIndex [_, _] [_, _] dX7_addClaims_25 cm_X7_134 ⟨(Nat.le_of_ble_eq_true rfl), (Nat.le_of_ble_eq_true rfl)⟩ rfl rfl (Nat.le_of_ble_eq_true rfl) ⟨rfl, rfl⟩ hE5 (fun z2 ρ3 μ4 hz => ?_)
    replace h := h _ _ _ hz
    refine qX_iload_n 2 dX7_addClaims_28 rfl rfl ?_
    have hO6 := h.1
    replace h := h.2
    obtain ⟨P, hE10, h⟩ := h
    refine qN_callV mX0_wanted [_, _] _ 0 [_] dX7_addClaims_29 cm_X7_137 ⟨(Nat.le_of_ble_eq_true rfl), (Nat.le_of_ble_eq_true rfl)⟩ rfl rfl hO6 (Nat.le_of_ble_eq_true rfl) ⟨rfl, rfl⟩ hE10 (fun z7 ρ8 μ9 hz => ?_)
    replace h := h _ _ _ hz
    obtain ⟨P, hE14, h⟩ := h
    refine qN_callV mX4_addClaim [_] _ 4 [] dX7_addClaims_32 cm_X7_344 ⟨(Nat.le_of_ble_eq_true rfl), (Nat.le_of_ble_eq_true rfl)⟩ rfl rfl sh151 (Nat.le_of_ble_eq_true rfl) ⟨rfl, rfl⟩ hE14 (fun z11 ρ12 μ13 hz => ?_)
    replace h := h _ _ _ hz
    refine qR_iinc dX7_addClaims_35 rfl (Nat.le_of_ble_eq_true rfl) rfl h.1 ?_
    replace h := h.2
    refine qX_goto 2 dX7_addClaims_38 rfl ?_
    exact qX_mask [true, true, true, true] h
set_option maxRecDepth 20000 in
theorem e_X7_shareInTrain {Post : Int → Rf → Mem → Prop} {ρ : Rf} {μ : Mem} {x1 : Int} {x2 : Int}
  (h : ∃ P : Int → Rf → Mem → Prop, qE mX4_clear GG GG [qP 151] ρ μ P ∧ ∀ (z1 : Int) (ρ2 : Rf) (μ3 : Mem), P z1 ρ2 μ3 → ∃ P : Int → Rf → Mem → Prop, qE mX7_addClaims GG GG [qP 0, qI x1, qI x2] ρ2 μ3 P ∧ ∀ (z5 : Int) (ρ6 : Rf) (μ7 : Mem), P z5 ρ6 μ7 → ∃ P : Int → Rf → Mem → Prop, qE mX7_handedToTrain GG GG [qP 0, qI x1, qI x2] ρ6 μ7 P ∧ ∀ (z9 : Int) (ρ10 : Rf) (μ11 : Mem), P z9 ρ10 μ11 → ∃ P : Int → Rf → Mem → Prop, qE mX4_shareOut GG GG [qP 151, qI z9] ρ10 μ11 P ∧ ∀ (z13 : Int) (ρ14 : Rf) (μ15 : Mem), P z13 ρ14 μ15 → Post 0 ρ14 μ15) : qE mX7_shareInTrain GG GG [qP 0, qI x1, qI x2] ρ μ Post := by
  refine qE_intro pl_X7_shareInTrain (Nat.le_of_ble_eq_true rfl) (Nat.le_refl _) ?_
  refine qX_aload_n 0 dX7_shareInTrain_0 rfl rfl (by decide) ?_
  refine qX_getS 7 7 _ 150 dX7_shareInTrain_1 fs_X7_53 rfl rfl sh0 (x := 151) rfl ?_
  obtain ⟨P, hE4, h⟩ := h
  refine qN_callV mX4_clear [] _ 4 [] dX7_shareInTrain_4 cm_X7_212 ⟨(Nat.le_of_ble_eq_true rfl), (Nat.le_of_ble_eq_true rfl)⟩ rfl rfl sh151 (Nat.le_of_ble_eq_true rfl) ⟨rfl, rfl⟩ hE4 (fun z1 ρ2 μ3 hz => ?_)
  replace h := h _ _ _ hz
  refine qX_aload_n 0 dX7_shareInTrain_7 rfl rfl (by decide) ?_
  refine qX_iload_n 1 dX7_shareInTrain_8 rfl rfl ?_
  refine qX_iload_n 2 dX7_shareInTrain_9 rfl rfl ?_
  obtain ⟨P, hE8, h⟩ := h
  refine qN_callV mX7_addClaims [_, _] _ 7 [] dX7_shareInTrain_10 cm_X7_215 ⟨(Nat.le_of_ble_eq_true rfl), (Nat.le_of_ble_eq_true rfl)⟩ rfl rfl sh0 (Nat.le_of_ble_eq_true rfl) ⟨rfl, rfl⟩ hE8 (fun z5 ρ6 μ7 hz => ?_)
  replace h := h _ _ _ hz
  refine qX_aload_n 0 dX7_shareInTrain_13 rfl rfl (by decide) ?_
  refine qX_getS 7 7 _ 150 dX7_shareInTrain_14 fs_X7_53 rfl rfl sh0 (x := 151) rfl ?_
  refine qX_aload_n 0 dX7_shareInTrain_17 rfl rfl (by decide) ?_
  refine qX_iload_n 1 dX7_shareInTrain_18 rfl rfl ?_
  refine qX_iload_n 2 dX7_shareInTrain_19 rfl rfl ?_
  obtain ⟨P, hE12, h⟩ := h
  refine qN_callV mX7_handedToTrain [_, _] _ 7 [_] dX7_shareInTrain_20 cm_X7_218 ⟨(Nat.le_of_ble_eq_true rfl), (Nat.le_of_ble_eq_true rfl)⟩ rfl rfl sh0 (Nat.le_of_ble_eq_true rfl) ⟨rfl, rfl⟩ hE12 (fun z9 ρ10 μ11 hz => ?_)
  replace h := h _ _ _ hz
  obtain ⟨P, hE16, h⟩ := h
  refine qN_callV mX4_shareOut [_] _ 4 [] dX7_shareInTrain_23 cm_X7_221 ⟨(Nat.le_of_ble_eq_true rfl), (Nat.le_of_ble_eq_true rfl)⟩ rfl rfl sh151 (Nat.le_of_ble_eq_true rfl) ⟨rfl, rfl⟩ hE16 (fun z13 ρ14 μ15 hz => ?_)
  replace h := h _ _ _ hz
  exact qX_return rfl dX7_shareInTrain_26 rfl ⟨(Nat.le_of_ble_eq_true rfl), (Nat.le_of_ble_eq_true rfl)⟩ h
set_option maxRecDepth 20000 in
theorem e_X7_coverageAbove {Post : Int → Rf → Mem → Prop} {ρ : Rf} {μ : Mem} {x1 : Int} {x2 : Int}
  (h : ∃ P : Int → Rf → Mem → Prop, qE mX7_wantedByTrain GG GG [qP 0, qI x1, qI x2] ρ μ P ∧ ∀ (z1 : Int) (ρ2 : Rf) (μ3 : Mem), P z1 ρ2 μ3 → ((z1 ≠ 0 → ∃ P : Int → Rf → Mem → Prop, qE mX7_handedToTrain GG GG [qP 0, qI x1, qI x2] ρ2 μ3 P ∧ ∀ (z5 : Int) (ρ6 : Rf) (μ7 : Mem), P z5 ρ6 μ7 → Post (min z1 z5) ρ6 μ7) ∧ (z1 = 0 → Post 1 ρ2 μ3))) : qE mX7_coverageAbove GG GG [qP 0, qI x1, qI x2] ρ μ Post := by
  refine qE_intro pl_X7_coverageAbove (Nat.le_of_ble_eq_true rfl) (Nat.le_refl _) ?_
  refine qX_aload_n 0 dX7_coverageAbove_0 rfl rfl (by decide) ?_
  refine qX_iload_n 1 dX7_coverageAbove_1 rfl rfl ?_
  refine qX_iload_n 2 dX7_coverageAbove_2 rfl rfl ?_
  obtain ⟨P, hE4, h⟩ := h
  refine qN_callV mX7_wantedByTrain [_, _] _ 7 [] dX7_coverageAbove_3 cm_X7_347 ⟨(Nat.le_of_ble_eq_true rfl), (Nat.le_of_ble_eq_true rfl)⟩ rfl rfl sh0 (Nat.le_of_ble_eq_true rfl) ⟨rfl, rfl⟩ hE4 (fun z1 ρ2 μ3 hz => ?_)
  replace h := h _ _ _ hz
  refine qX_istore_n 3 dX7_coverageAbove_6 rfl (Nat.le_of_ble_eq_true rfl) rfl ?_
  refine qX_iload_n 3 dX7_coverageAbove_7 rfl rfl ?_
  refine qX_if_ne 15 dX7_coverageAbove_8 rfl (fun hc => ?_) (fun hc => ?_)
  · replace h := h.1 hc
    refine qX_iload_n 3 dX7_coverageAbove_15 rfl rfl ?_
    refine qX_aload_n 0 dX7_coverageAbove_16 rfl rfl (by decide) ?_
    refine qX_iload_n 1 dX7_coverageAbove_17 rfl rfl ?_
    refine qX_iload_n 2 dX7_coverageAbove_18 rfl rfl ?_
    obtain ⟨P, hE8, h⟩ := h
    refine qN_callV mX7_handedToTrain [_, _] _ 7 [_] dX7_coverageAbove_19 cm_X7_218 ⟨(Nat.le_of_ble_eq_true rfl), (Nat.le_of_ble_eq_true rfl)⟩ rfl rfl sh0 (Nat.le_of_ble_eq_true rfl) ⟨rfl, rfl⟩ hE8 (fun z5 ρ6 μ7 hz => ?_)
    replace h := h _ _ _ hz
    refine qX_min dX7_coverageAbove_22 kM_X7_350 ⟨(Nat.le_of_ble_eq_true rfl), (Nat.le_of_ble_eq_true rfl)⟩ (Nat.le_of_ble_eq_true rfl) ⟨(Nat.le_of_ble_eq_true rfl), (Nat.le_of_ble_eq_true rfl)⟩ ?_
    exact qX_ireturn rfl dX7_coverageAbove_25 rfl ⟨(Nat.le_of_ble_eq_true rfl), (Nat.le_of_ble_eq_true rfl)⟩ h
  · replace h := h.2 hc
    refine qX_iconst dX7_coverageAbove_11 (i32_of rfl) ?_
    refine qX_goto 25 dX7_coverageAbove_12 rfl ?_
    exact qX_ireturn rfl dX7_coverageAbove_25 rfl ⟨(Nat.le_of_ble_eq_true rfl), (Nat.le_of_ble_eq_true rfl)⟩ h
set_option maxRecDepth 20000 in
theorem e_X7_coverageBelow {Post : Int → Rf → Mem → Prop} {ρ : Rf} {μ : Mem} {x1 : Int} {x2 : Int}
  (h : ∃ P : Int → Rf → Mem → Prop, qE mX7_wantedByTrain GG GG [qP 0, qI x1, qI x2] ρ μ P ∧ ∀ (z1 : Int) (ρ2 : Rf) (μ3 : Mem), P z1 ρ2 μ3 → Post (max 1 z1) ρ2 μ3) : qE mX7_coverageBelow GG GG [qP 0, qI x1, qI x2] ρ μ Post := by
  refine qE_intro pl_X7_coverageBelow (Nat.le_of_ble_eq_true rfl) (Nat.le_refl _) ?_
  refine qX_iconst dX7_coverageBelow_0 (i32_of rfl) ?_
  refine qX_aload_n 0 dX7_coverageBelow_1 rfl rfl (by decide) ?_
  refine qX_iload_n 1 dX7_coverageBelow_2 rfl rfl ?_
  refine qX_iload_n 2 dX7_coverageBelow_3 rfl rfl ?_
  obtain ⟨P, hE4, h⟩ := h
  refine qN_callV mX7_wantedByTrain [_, _] _ 7 [_] dX7_coverageBelow_4 cm_X7_347 ⟨(Nat.le_of_ble_eq_true rfl), (Nat.le_of_ble_eq_true rfl)⟩ rfl rfl sh0 (Nat.le_of_ble_eq_true rfl) ⟨rfl, rfl⟩ hE4 (fun z1 ρ2 μ3 hz => ?_)
  replace h := h _ _ _ hz
  refine qX_max dX7_coverageBelow_7 kM_X7_174 ⟨(Nat.le_of_ble_eq_true rfl), (Nat.le_of_ble_eq_true rfl)⟩ (Nat.le_of_ble_eq_true rfl) ⟨(Nat.le_of_ble_eq_true rfl), (Nat.le_of_ble_eq_true rfl)⟩ ?_
  exact qX_ireturn rfl dX7_coverageBelow_10 rfl ⟨(Nat.le_of_ble_eq_true rfl), (Nat.le_of_ble_eq_true rfl)⟩ h
set_option maxRecDepth 20000 in
theorem e_X7_lowestTerm {Post : Int → Rf → Mem → Prop} {ρ : Rf} {μ : Mem} {x1 : Int} {x2 : Int} {x3 : Int}
  (h : ∃ P : Int → Rf → Mem → Prop, qE mX7_coverageAbove GG GG [qP 0, qI x1, qI x2] ρ μ P ∧ ∀ (z1 : Int) (ρ2 : Rf) (μ3 : Mem), P z1 ρ2 μ3 → ∃ P : Int → Rf → Mem → Prop, qE mX7_coverageBelow GG GG [qP 0, qI x1, qI x2] ρ2 μ3 P ∧ ∀ (z5 : Int) (ρ6 : Rf) (μ7 : Mem), P z5 ρ6 μ7 → ((x3 = 0 → ∃ P : Int → Rf → Mem → Prop, qE mX7_commonDivisor GG GG [qI z1, qI z5] ρ6 μ7 P ∧ ∀ (z9 : Int) (ρ10 : Rf) (μ11 : Mem), P z9 ρ10 μ11 → ∃ P : Int → Rf → Mem → Prop, qE mX7_wholeParts GG GG [qI z1, qI z9] ρ10 μ11 P ∧ ∀ (z13 : Int) (ρ14 : Rf) (μ15 : Mem), P z13 ρ14 μ15 → Post z13 ρ14 μ15) ∧ (x3 ≠ 0 → ∃ P : Int → Rf → Mem → Prop, qE mX7_commonDivisor GG GG [qI z1, qI z5] ρ6 μ7 P ∧ ∀ (z17 : Int) (ρ18 : Rf) (μ19 : Mem), P z17 ρ18 μ19 → ∃ P : Int → Rf → Mem → Prop, qE mX7_wholeParts GG GG [qI z5, qI z17] ρ18 μ19 P ∧ ∀ (z21 : Int) (ρ22 : Rf) (μ23 : Mem), P z21 ρ22 μ23 → Post z21 ρ22 μ23))) : qE mX7_lowestTerm GG GG [qP 0, qI x1, qI x2, qI x3] ρ μ Post := by
  refine qE_intro pl_X7_lowestTerm (Nat.le_of_ble_eq_true rfl) (Nat.le_refl _) ?_
  refine qX_aload_n 0 dX7_lowestTerm_0 rfl rfl (by decide) ?_
  refine qX_iload_n 1 dX7_lowestTerm_1 rfl rfl ?_
  refine qX_iload_n 2 dX7_lowestTerm_2 rfl rfl ?_
  obtain ⟨P, hE4, h⟩ := h
  refine qN_callV mX7_coverageAbove [_, _] _ 7 [] dX7_lowestTerm_3 cm_X7_353 ⟨(Nat.le_of_ble_eq_true rfl), (Nat.le_of_ble_eq_true rfl)⟩ rfl rfl sh0 (Nat.le_of_ble_eq_true rfl) ⟨rfl, rfl⟩ hE4 (fun z1 ρ2 μ3 hz => ?_)
  replace h := h _ _ _ hz
  refine qX_istore dX7_lowestTerm_6 (Nat.le_of_ble_eq_true rfl) rfl ?_
  refine qX_aload_n 0 dX7_lowestTerm_8 rfl rfl (by decide) ?_
  refine qX_iload_n 1 dX7_lowestTerm_9 rfl rfl ?_
  refine qX_iload_n 2 dX7_lowestTerm_10 rfl rfl ?_
  obtain ⟨P, hE8, h⟩ := h
  refine qN_callV mX7_coverageBelow [_, _] _ 7 [] dX7_lowestTerm_11 cm_X7_356 ⟨(Nat.le_of_ble_eq_true rfl), (Nat.le_of_ble_eq_true rfl)⟩ rfl rfl sh0 (Nat.le_of_ble_eq_true rfl) ⟨rfl, rfl⟩ hE8 (fun z5 ρ6 μ7 hz => ?_)
  replace h := h _ _ _ hz
  refine qX_istore dX7_lowestTerm_14 (Nat.le_of_ble_eq_true rfl) rfl ?_
  refine qX_iload_n 3 dX7_lowestTerm_16 rfl rfl ?_
  refine qX_if_eq 25 dX7_lowestTerm_17 rfl (fun hc => ?_) (fun hc => ?_)
  · replace h := h.1 hc
    refine qX_iload dX7_lowestTerm_25 rfl ?_
    refine qX_iload dX7_lowestTerm_27 rfl ?_
    refine qX_iload dX7_lowestTerm_29 rfl ?_
    obtain ⟨P, hE12, h⟩ := h
    refine qN_callS mX7_commonDivisor [_, _] [_] dX7_lowestTerm_31 cm_X7_359 ⟨(Nat.le_of_ble_eq_true rfl), (Nat.le_of_ble_eq_true rfl)⟩ rfl rfl (Nat.le_of_ble_eq_true rfl) ⟨rfl, rfl⟩ hE12 (fun z9 ρ10 μ11 hz => ?_)
    replace h := h _ _ _ hz
    obtain ⟨P, hE16, h⟩ := h
    refine qN_callS mX7_wholeParts [_, _] [] dX7_lowestTerm_34 cm_X7_362 ⟨(Nat.le_of_ble_eq_true rfl), (Nat.le_of_ble_eq_true rfl)⟩ rfl rfl (Nat.le_of_ble_eq_true rfl) ⟨rfl, rfl⟩ hE16 (fun z13 ρ14 μ15 hz => ?_)
    replace h := h _ _ _ hz
    exact qX_ireturn rfl dX7_lowestTerm_37 rfl ⟨(Nat.le_of_ble_eq_true rfl), (Nat.le_of_ble_eq_true rfl)⟩ h
  · replace h := h.2 hc
    refine qX_iload dX7_lowestTerm_20 rfl ?_
    refine qX_goto 27 dX7_lowestTerm_22 rfl ?_
    refine qX_iload dX7_lowestTerm_27 rfl ?_
    refine qX_iload dX7_lowestTerm_29 rfl ?_
    obtain ⟨P, hE20, h⟩ := h
    refine qN_callS mX7_commonDivisor [_, _] [_] dX7_lowestTerm_31 cm_X7_359 ⟨(Nat.le_of_ble_eq_true rfl), (Nat.le_of_ble_eq_true rfl)⟩ rfl rfl (Nat.le_of_ble_eq_true rfl) ⟨rfl, rfl⟩ hE20 (fun z17 ρ18 μ19 hz => ?_)
    replace h := h _ _ _ hz
    obtain ⟨P, hE24, h⟩ := h
    refine qN_callS mX7_wholeParts [_, _] [] dX7_lowestTerm_34 cm_X7_362 ⟨(Nat.le_of_ble_eq_true rfl), (Nat.le_of_ble_eq_true rfl)⟩ rfl rfl (Nat.le_of_ble_eq_true rfl) ⟨rfl, rfl⟩ hE24 (fun z21 ρ22 μ23 hz => ?_)
    replace h := h _ _ _ hz
    exact qX_ireturn rfl dX7_lowestTerm_37 rfl ⟨(Nat.le_of_ble_eq_true rfl), (Nat.le_of_ble_eq_true rfl)⟩ h
set_option maxRecDepth 20000 in
theorem e_X7_compareCoverage {Post : Int → Rf → Mem → Prop} {ρ : Rf} {μ : Mem} {x1 : Int} {x2 : Int} {x3 : Int} {x4 : Int}
  (h : ∃ P : Int → Rf → Mem → Prop, qE mX7_coverageAbove GG GG [qP 0, qI x1, qI x2] ρ μ P ∧ ∀ (z1 : Int) (ρ2 : Rf) (μ3 : Mem), P z1 ρ2 μ3 → ∃ P : Int → Rf → Mem → Prop, qE mX7_coverageBelow GG GG [qP 0, qI x3, qI x4] ρ2 μ3 P ∧ ∀ (z5 : Int) (ρ6 : Rf) (μ7 : Mem), P z5 ρ6 μ7 → i32 (z1 * z5) ∧ ∃ P : Int → Rf → Mem → Prop, qE mX7_coverageAbove GG GG [qP 0, qI x3, qI x4] ρ6 μ7 P ∧ ∀ (z9 : Int) (ρ10 : Rf) (μ11 : Mem), P z9 ρ10 μ11 → ∃ P : Int → Rf → Mem → Prop, qE mX7_coverageBelow GG GG [qP 0, qI x1, qI x2] ρ10 μ11 P ∧ ∀ (z13 : Int) (ρ14 : Rf) (μ15 : Mem), P z13 ρ14 μ15 → i32 (z9 * z13) ∧ ∃ P : Int → Rf → Mem → Prop, qE mJ6_compare_7cf53 GG GG [qI (z1 * z5), qI (z9 * z13)] ρ14 μ15 P ∧ ∀ (z17 : Int) (ρ18 : Rf) (μ19 : Mem), P z17 ρ18 μ19 → Post z17 ρ18 μ19) : qE mX7_compareCoverage GG GG [qP 0, qI x1, qI x2, qI x3, qI x4] ρ μ Post := by
  refine qE_intro pl_X7_compareCoverage (Nat.le_of_ble_eq_true rfl) (Nat.le_refl _) ?_
  refine qX_aload_n 0 dX7_compareCoverage_0 rfl rfl (by decide) ?_
  refine qX_iload_n 1 dX7_compareCoverage_1 rfl rfl ?_
  refine qX_iload_n 2 dX7_compareCoverage_2 rfl rfl ?_
  obtain ⟨P, hE4, h⟩ := h
  refine qN_callV mX7_coverageAbove [_, _] _ 7 [] dX7_compareCoverage_3 cm_X7_353 ⟨(Nat.le_of_ble_eq_true rfl), (Nat.le_of_ble_eq_true rfl)⟩ rfl rfl sh0 (Nat.le_of_ble_eq_true rfl) ⟨rfl, rfl⟩ hE4 (fun z1 ρ2 μ3 hz => ?_)
  replace h := h _ _ _ hz
  refine qX_aload_n 0 dX7_compareCoverage_6 rfl rfl (by decide) ?_
  refine qX_iload_n 3 dX7_compareCoverage_7 rfl rfl ?_
  refine qX_iload dX7_compareCoverage_8 rfl ?_
  obtain ⟨P, hE8, h⟩ := h
  refine qN_callV mX7_coverageBelow [_, _] _ 7 [_] dX7_compareCoverage_10 cm_X7_356 ⟨(Nat.le_of_ble_eq_true rfl), (Nat.le_of_ble_eq_true rfl)⟩ rfl rfl sh0 (Nat.le_of_ble_eq_true rfl) ⟨rfl, rfl⟩ hE8 (fun z5 ρ6 μ7 hz => ?_)
  replace h := h _ _ _ hz
  refine qR_imul dX7_compareCoverage_13 h.1 ?_
  replace h := h.2
  refine qX_istore dX7_compareCoverage_14 (Nat.le_of_ble_eq_true rfl) rfl ?_
  refine qX_aload_n 0 dX7_compareCoverage_16 rfl rfl (by decide) ?_
  refine qX_iload_n 3 dX7_compareCoverage_17 rfl rfl ?_
  refine qX_iload dX7_compareCoverage_18 rfl ?_
  obtain ⟨P, hE12, h⟩ := h
  refine qN_callV mX7_coverageAbove [_, _] _ 7 [] dX7_compareCoverage_20 cm_X7_353 ⟨(Nat.le_of_ble_eq_true rfl), (Nat.le_of_ble_eq_true rfl)⟩ rfl rfl sh0 (Nat.le_of_ble_eq_true rfl) ⟨rfl, rfl⟩ hE12 (fun z9 ρ10 μ11 hz => ?_)
  replace h := h _ _ _ hz
  refine qX_aload_n 0 dX7_compareCoverage_23 rfl rfl (by decide) ?_
  refine qX_iload_n 1 dX7_compareCoverage_24 rfl rfl ?_
  refine qX_iload_n 2 dX7_compareCoverage_25 rfl rfl ?_
  obtain ⟨P, hE16, h⟩ := h
  refine qN_callV mX7_coverageBelow [_, _] _ 7 [_] dX7_compareCoverage_26 cm_X7_356 ⟨(Nat.le_of_ble_eq_true rfl), (Nat.le_of_ble_eq_true rfl)⟩ rfl rfl sh0 (Nat.le_of_ble_eq_true rfl) ⟨rfl, rfl⟩ hE16 (fun z13 ρ14 μ15 hz => ?_)
  replace h := h _ _ _ hz
  refine qR_imul dX7_compareCoverage_29 h.1 ?_
  replace h := h.2
  refine qX_istore dX7_compareCoverage_30 (Nat.le_of_ble_eq_true rfl) rfl ?_
  refine qX_iload dX7_compareCoverage_32 rfl ?_
  refine qX_iload dX7_compareCoverage_34 rfl ?_
  obtain ⟨P, hE20, h⟩ := h
  refine qN_callS mJ6_compare_7cf53 [_, _] [] dX7_compareCoverage_36 cm_X7_365 ⟨(Nat.le_of_ble_eq_true rfl), (Nat.le_of_ble_eq_true rfl)⟩ rfl rfl (Nat.le_of_ble_eq_true rfl) ⟨rfl, rfl⟩ hE20 (fun z17 ρ18 μ19 hz => ?_)
  replace h := h _ _ _ hz
  exact qX_ireturn rfl dX7_compareCoverage_39 rfl ⟨(Nat.le_of_ble_eq_true rfl), (Nat.le_of_ble_eq_true rfl)⟩ h
set_option maxRecDepth 20000 in
theorem e_X7_commonDivisor {Post : Int → Rf → Mem → Prop} {ρ : Rf} {μ : Mem} {x0 : Int} {x1 : Int}
  (h : qX mX7_commonDivisor GG Post GG (0, 0) 7 [none, none, some (qI x0), some (qI x1), some (qI 0), none] [] ρ μ) : qE mX7_commonDivisor GG GG [qI x0, qI x1] ρ μ Post := by
  refine qE_intro pl_X7_commonDivisor (Nat.le_of_ble_eq_true rfl) (Nat.le_refl _) ?_
  refine qX_iload_n 0 dX7_commonDivisor_0 rfl rfl ?_
  refine qX_istore_n 2 dX7_commonDivisor_1 rfl (Nat.le_of_ble_eq_true rfl) rfl ?_
  refine qX_iload_n 1 dX7_commonDivisor_2 rfl rfl ?_
  refine qX_istore_n 3 dX7_commonDivisor_3 rfl (Nat.le_of_ble_eq_true rfl) rfl ?_
  refine qX_iconst dX7_commonDivisor_4 (i32_of rfl) ?_
  refine qX_istore dX7_commonDivisor_5 (Nat.le_of_ble_eq_true rfl) rfl ?_
  exact qX_mask [false, false, true, true, true, false] h
set_option maxRecDepth 20000 in
theorem w_X7_commonDivisor_7 {Post : Int → Rf → Mem → Prop} {ρ : Rf} {μ : Mem} {x2 : Int} {x3 : Int} {x4 : Int}
  (h : ((64 ≤ x4 → Post x2 ρ μ) ∧ (x4 < 64 → ((x3 = 0 → Post x2 ρ μ) ∧ (x3 ≠ 0 → (0 ≤ x2 ∧ 0 < x3) ∧ i32 (x4 + 1) ∧ qX mX7_commonDivisor GG Post GG (0, 0) 7 [none, none, some (qI x3), some (qI (x2 % x3)), some (qI (x4 + 1)), none] [] ρ μ))))) : qX mX7_commonDivisor GG Post GG (0, 0) 7 [none, none, some (qI x2), some (qI x3), some (qI x4), none] [] ρ μ := by
  refine qX_iload dX7_commonDivisor_7 rfl ?_
  refine qX_bip dX7_commonDivisor_9 rfl ?_
  refine qX_icmp_ge 34 dX7_commonDivisor_11 rfl (fun hc => ?_) (fun hc => ?_)
  · replace h := h.1 hc
    refine qX_iload_n 2 dX7_commonDivisor_34 rfl rfl ?_
    exact qX_ireturn rfl dX7_commonDivisor_35 rfl ⟨(Nat.le_of_ble_eq_true rfl), (Nat.le_of_ble_eq_true rfl)⟩ h
  · replace h := h.2 hc
    refine qX_iload_n 3 dX7_commonDivisor_14 rfl rfl ?_
    refine qX_if_eq 34 dX7_commonDivisor_15 rfl (fun hc => ?_) (fun hc => ?_)
    · replace h := h.1 hc
      refine qX_iload_n 2 dX7_commonDivisor_34 rfl rfl ?_
      exact qX_ireturn rfl dX7_commonDivisor_35 rfl ⟨(Nat.le_of_ble_eq_true rfl), (Nat.le_of_ble_eq_true rfl)⟩ h
    · replace h := h.2 hc
      refine qX_iload_n 2 dX7_commonDivisor_18 rfl rfl ?_
      refine qX_iload_n 3 dX7_commonDivisor_19 rfl rfl ?_
      refine qR_irem dX7_commonDivisor_20 h.1 ?_
      replace h := h.2
      refine qX_istore dX7_commonDivisor_21 (Nat.le_of_ble_eq_true rfl) rfl ?_
      refine qX_iload_n 3 dX7_commonDivisor_23 rfl rfl ?_
      refine qX_istore_n 2 dX7_commonDivisor_24 rfl (Nat.le_of_ble_eq_true rfl) rfl ?_
      refine qX_iload dX7_commonDivisor_25 rfl ?_
      refine qX_istore_n 3 dX7_commonDivisor_27 rfl (Nat.le_of_ble_eq_true rfl) rfl ?_
      refine qR_iinc dX7_commonDivisor_28 rfl (Nat.le_of_ble_eq_true rfl) rfl h.1 ?_
      replace h := h.2
      refine qX_goto 7 dX7_commonDivisor_31 rfl ?_
      exact qX_mask [false, false, true, true, true, false] h
set_option maxRecDepth 20000 in
theorem e_X7_wholeParts {Post : Int → Rf → Mem → Prop} {ρ : Rf} {μ : Mem} {x0 : Int} {x1 : Int}
  (h : ((1 ≤ x1 → (0 ≤ x0 ∧ 0 < x1) ∧ Post (x0 / x1) ρ μ) ∧ (x1 < 1 → Post 0 ρ μ))) : qE mX7_wholeParts GG GG [qI x0, qI x1] ρ μ Post := by
  refine qE_intro pl_X7_wholeParts (Nat.le_of_ble_eq_true rfl) (Nat.le_refl _) ?_
  refine qX_iload_n 1 dX7_wholeParts_0 rfl rfl ?_
  refine qX_iconst dX7_wholeParts_1 (i32_of rfl) ?_
  refine qX_icmp_ge 9 dX7_wholeParts_2 rfl (fun hc => ?_) (fun hc => ?_)
  · replace h := h.1 hc
    refine qX_iload_n 0 dX7_wholeParts_9 rfl rfl ?_
    refine qX_iload_n 1 dX7_wholeParts_10 rfl rfl ?_
    refine qR_idiv dX7_wholeParts_11 h.1 ?_
    replace h := h.2
    exact qX_ireturn rfl dX7_wholeParts_12 rfl ⟨(Nat.le_of_ble_eq_true rfl), (Nat.le_of_ble_eq_true rfl)⟩ h
  · replace h := h.2 hc
    refine qX_iconst dX7_wholeParts_5 (i32_of rfl) ?_
    refine qX_goto 12 dX7_wholeParts_6 rfl ?_
    exact qX_ireturn rfl dX7_wholeParts_12 rfl ⟨(Nat.le_of_ble_eq_true rfl), (Nat.le_of_ble_eq_true rfl)⟩ h
set_option maxRecDepth 20000 in
theorem e_X7_partsRoundedUp {Post : Int → Rf → Mem → Prop} {ρ : Rf} {μ : Mem} {x0 : Int} {x1 : Int}
  (h : i32 (x0 + x1) ∧ i32 ((x0 + x1) - 1) ∧ ∃ P : Int → Rf → Mem → Prop, qE mX7_wholeParts GG GG [qI ((x0 + x1) - 1), qI x1] ρ μ P ∧ ∀ (z1 : Int) (ρ2 : Rf) (μ3 : Mem), P z1 ρ2 μ3 → Post z1 ρ2 μ3) : qE mX7_partsRoundedUp GG GG [qI x0, qI x1] ρ μ Post := by
  refine qE_intro pl_X7_partsRoundedUp (Nat.le_of_ble_eq_true rfl) (Nat.le_refl _) ?_
  refine qX_iload_n 0 dX7_partsRoundedUp_0 rfl rfl ?_
  refine qX_iload_n 1 dX7_partsRoundedUp_1 rfl rfl ?_
  refine qR_iadd dX7_partsRoundedUp_2 h.1 ?_
  replace h := h.2
  refine qX_iconst dX7_partsRoundedUp_3 (i32_of rfl) ?_
  refine qR_isub dX7_partsRoundedUp_4 h.1 ?_
  replace h := h.2
  refine qX_iload_n 1 dX7_partsRoundedUp_5 rfl rfl ?_
  obtain ⟨P, hE4, h⟩ := h
  refine qN_callS mX7_wholeParts [_, _] [] dX7_partsRoundedUp_6 cm_X7_362 ⟨(Nat.le_of_ble_eq_true rfl), (Nat.le_of_ble_eq_true rfl)⟩ rfl rfl (Nat.le_of_ble_eq_true rfl) ⟨rfl, rfl⟩ hE4 (fun z1 ρ2 μ3 hz => ?_)
  replace h := h _ _ _ hz
  exact qX_ireturn rfl dX7_partsRoundedUp_9 rfl ⟨(Nat.le_of_ble_eq_true rfl), (Nat.le_of_ble_eq_true rfl)⟩ h
set_option maxRecDepth 20000 in
theorem e_J7_fill_53178 {Post : Int → Rf → Mem → Prop} {ρ : Rf} {μ : Mem} {x0 nx0 : Nat} (hx0 : GG.2[x0]? = some (10, nx0)) {x1 : Int}
  (h : ((nx0 : Nat) : Int) ≤ 2147483647 ∧ qX mJ7_fill_53178 GG Post GG (0, 0) 5 [some (qP x0), some (qI x1), some (qI 0), some (qI ((nx0 : Nat) : Int))] [] ρ μ) : qE mJ7_fill_53178 GG GG [qP x0, qI x1] ρ μ Post := by
  refine qE_intro pl_J7_fill_53178 (Nat.le_of_ble_eq_true rfl) (Nat.le_refl _) ?_
  refine qX_iconst dJ7_fill_53178_0 (i32_of rfl) ?_
  refine qX_istore_n 2 dJ7_fill_53178_1 rfl (Nat.le_of_ble_eq_true rfl) rfl ?_
  refine qX_aload_n 0 dJ7_fill_53178_2 rfl rfl (shN hx0) ?_
  refine qX_alen dJ7_fill_53178_3 hx0 h.1 ?_
  replace h := h.2
  refine qX_istore_n 3 dJ7_fill_53178_4 rfl (Nat.le_of_ble_eq_true rfl) rfl ?_
  exact qX_mask [true, true, true, true] h
set_option maxRecDepth 20000 in
theorem w_J7_fill_53178_5 {Post : Int → Rf → Mem → Prop} {ρ : Rf} {μ : Mem} {x0 nx0 : Nat} (hx0 : GG.2[x0]? = some (10, nx0)) {x1 : Int} {x2 : Int} {x3 : Int}
  (h : ((x3 ≤ x2 → Post 0 ρ μ) ∧ (x2 < x3 → (0 ≤ x2 ∧ x2 < nx0) ∧ ∀ μ1, μ1 = up2 μ x0 x2 x1 → i32 (x2 + 1) ∧ qX mJ7_fill_53178 GG Post GG (0, 0) 5 [some (qP x0), some (qI x1), some (qI (x2 + 1)), some (qI x3)] [] ρ μ1))) : qX mJ7_fill_53178 GG Post GG (0, 0) 5 [some (qP x0), some (qI x1), some (qI x2), some (qI x3)] [] ρ μ := by
  refine qX_iload_n 2 dJ7_fill_53178_5 rfl rfl ?_
  refine qX_iload_n 3 dJ7_fill_53178_6 rfl rfl ?_
  refine qX_icmp_ge 20 dJ7_fill_53178_7 rfl (fun hc => ?_) (fun hc => ?_)
  · replace h := h.1 hc
    exact qX_return rfl dJ7_fill_53178_20 rfl ⟨(Nat.le_of_ble_eq_true rfl), (Nat.le_of_ble_eq_true rfl)⟩ h
  · replace h := h.2 hc
    refine qX_aload_n 0 dJ7_fill_53178_10 rfl rfl (shN hx0) ?_
    refine qX_iload_n 2 dJ7_fill_53178_11 rfl rfl ?_
    refine qX_iload_n 1 dJ7_fill_53178_12 rfl rfl ?_
    refine qX_iast dJ7_fill_53178_13 hx0 h.1 ?_
    replace h := h.2
    replace h := h _ rfl
    refine qR_iinc dJ7_fill_53178_14 rfl (Nat.le_of_ble_eq_true rfl) rfl h.1 ?_
    replace h := h.2
    refine qX_goto 5 dJ7_fill_53178_17 rfl ?_
    exact qX_mask [true, true, true, true] h
set_option maxRecDepth 20000 in
theorem e_J6_compare_7cf53 {Post : Int → Rf → Mem → Prop} {ρ : Rf} {μ : Mem} {x0 : Int} {x1 : Int}
  (h : ((x1 ≤ x0 → ((x0 ≠ x1 → Post 1 ρ μ) ∧ (x0 = x1 → Post 0 ρ μ))) ∧ (x0 < x1 → Post (-1) ρ μ))) : qE mJ6_compare_7cf53 GG GG [qI x0, qI x1] ρ μ Post := by
  refine qE_intro pl_J6_compare_7cf53 (Nat.le_of_ble_eq_true rfl) (Nat.le_refl _) ?_
  refine qX_iload_n 0 dJ6_compare_7cf53_0 rfl rfl ?_
  refine qX_iload_n 1 dJ6_compare_7cf53_1 rfl rfl ?_
  refine qX_icmp_ge 9 dJ6_compare_7cf53_2 rfl (fun hc => ?_) (fun hc => ?_)
  · replace h := h.1 hc
    refine qX_iload_n 0 dJ6_compare_7cf53_9 rfl rfl ?_
    refine qX_iload_n 1 dJ6_compare_7cf53_10 rfl rfl ?_
    refine qX_icmp_ne 18 dJ6_compare_7cf53_11 rfl (fun hc => ?_) (fun hc => ?_)
    · replace h := h.1 hc
      refine qX_iconst dJ6_compare_7cf53_18 (i32_of rfl) ?_
      exact qX_ireturn rfl dJ6_compare_7cf53_19 rfl ⟨(Nat.le_of_ble_eq_true rfl), (Nat.le_of_ble_eq_true rfl)⟩ h
    · replace h := h.2 hc
      refine qX_iconst dJ6_compare_7cf53_14 (i32_of rfl) ?_
      refine qX_goto 19 dJ6_compare_7cf53_15 rfl ?_
      exact qX_ireturn rfl dJ6_compare_7cf53_19 rfl ⟨(Nat.le_of_ble_eq_true rfl), (Nat.le_of_ble_eq_true rfl)⟩ h
  · replace h := h.2 hc
    refine qX_iconst dJ6_compare_7cf53_5 (i32_of rfl) ?_
    refine qX_goto 19 dJ6_compare_7cf53_6 rfl ?_
    exact qX_ireturn rfl dJ6_compare_7cf53_19 rfl ⟨(Nat.le_of_ble_eq_true rfl), (Nat.le_of_ble_eq_true rfl)⟩ h
set_option maxRecDepth 20000 in
theorem e_J6_bitCount_0f7a4 {Post : Int → Rf → Mem → Prop} {ρ : Rf} {μ : Mem} {X : List Sh} {x0 : Int}
  (h : i32 (x0 - (and32 (ushr32 x0 1) 1431655765)) ∧ i32 ((and32 (x0 - (and32 (ushr32 x0 1) 1431655765)) 858993459) + (and32 (ushr32 (x0 - (and32 (ushr32 x0 1) 1431655765)) 2) 858993459)) ∧ i32 (((and32 (x0 - (and32 (ushr32 x0 1) 1431655765)) 858993459) + (and32 (ushr32 (x0 - (and32 (ushr32 x0 1) 1431655765)) 2) 858993459)) + (ushr32 ((and32 (x0 - (and32 (ushr32 x0 1) 1431655765)) 858993459) + (and32 (ushr32 (x0 - (and32 (ushr32 x0 1) 1431655765)) 2) 858993459)) 4)) ∧ i32 ((and32 (((and32 (x0 - (and32 (ushr32 x0 1) 1431655765)) 858993459) + (and32 (ushr32 (x0 - (and32 (ushr32 x0 1) 1431655765)) 2) 858993459)) + (ushr32 ((and32 (x0 - (and32 (ushr32 x0 1) 1431655765)) 858993459) + (and32 (ushr32 (x0 - (and32 (ushr32 x0 1) 1431655765)) 2) 858993459)) 4)) 252645135) + (ushr32 (and32 (((and32 (x0 - (and32 (ushr32 x0 1) 1431655765)) 858993459) + (and32 (ushr32 (x0 - (and32 (ushr32 x0 1) 1431655765)) 2) 858993459)) + (ushr32 ((and32 (x0 - (and32 (ushr32 x0 1) 1431655765)) 858993459) + (and32 (ushr32 (x0 - (and32 (ushr32 x0 1) 1431655765)) 2) 858993459)) 4)) 252645135) 8)) ∧ i32 (((and32 (((and32 (x0 - (and32 (ushr32 x0 1) 1431655765)) 858993459) + (and32 (ushr32 (x0 - (and32 (ushr32 x0 1) 1431655765)) 2) 858993459)) + (ushr32 ((and32 (x0 - (and32 (ushr32 x0 1) 1431655765)) 858993459) + (and32 (ushr32 (x0 - (and32 (ushr32 x0 1) 1431655765)) 2) 858993459)) 4)) 252645135) + (ushr32 (and32 (((and32 (x0 - (and32 (ushr32 x0 1) 1431655765)) 858993459) + (and32 (ushr32 (x0 - (and32 (ushr32 x0 1) 1431655765)) 2) 858993459)) + (ushr32 ((and32 (x0 - (and32 (ushr32 x0 1) 1431655765)) 858993459) + (and32 (ushr32 (x0 - (and32 (ushr32 x0 1) 1431655765)) 2) 858993459)) 4)) 252645135) 8)) + (ushr32 ((and32 (((and32 (x0 - (and32 (ushr32 x0 1) 1431655765)) 858993459) + (and32 (ushr32 (x0 - (and32 (ushr32 x0 1) 1431655765)) 2) 858993459)) + (ushr32 ((and32 (x0 - (and32 (ushr32 x0 1) 1431655765)) 858993459) + (and32 (ushr32 (x0 - (and32 (ushr32 x0 1) 1431655765)) 2) 858993459)) 4)) 252645135) + (ushr32 (and32 (((and32 (x0 - (and32 (ushr32 x0 1) 1431655765)) 858993459) + (and32 (ushr32 (x0 - (and32 (ushr32 x0 1) 1431655765)) 2) 858993459)) + (ushr32 ((and32 (x0 - (and32 (ushr32 x0 1) 1431655765)) 858993459) + (and32 (ushr32 (x0 - (and32 (ushr32 x0 1) 1431655765)) 2) 858993459)) 4)) 252645135) 8)) 16)) ∧ Post (and32 (((and32 (((and32 (x0 - (and32 (ushr32 x0 1) 1431655765)) 858993459) + (and32 (ushr32 (x0 - (and32 (ushr32 x0 1) 1431655765)) 2) 858993459)) + (ushr32 ((and32 (x0 - (and32 (ushr32 x0 1) 1431655765)) 858993459) + (and32 (ushr32 (x0 - (and32 (ushr32 x0 1) 1431655765)) 2) 858993459)) 4)) 252645135) + (ushr32 (and32 (((and32 (x0 - (and32 (ushr32 x0 1) 1431655765)) 858993459) + (and32 (ushr32 (x0 - (and32 (ushr32 x0 1) 1431655765)) 2) 858993459)) + (ushr32 ((and32 (x0 - (and32 (ushr32 x0 1) 1431655765)) 858993459) + (and32 (ushr32 (x0 - (and32 (ushr32 x0 1) 1431655765)) 2) 858993459)) 4)) 252645135) 8)) + (ushr32 ((and32 (((and32 (x0 - (and32 (ushr32 x0 1) 1431655765)) 858993459) + (and32 (ushr32 (x0 - (and32 (ushr32 x0 1) 1431655765)) 2) 858993459)) + (ushr32 ((and32 (x0 - (and32 (ushr32 x0 1) 1431655765)) 858993459) + (and32 (ushr32 (x0 - (and32 (ushr32 x0 1) 1431655765)) 2) 858993459)) 4)) 252645135) + (ushr32 (and32 (((and32 (x0 - (and32 (ushr32 x0 1) 1431655765)) 858993459) + (and32 (ushr32 (x0 - (and32 (ushr32 x0 1) 1431655765)) 2) 858993459)) + (ushr32 ((and32 (x0 - (and32 (ushr32 x0 1) 1431655765)) 858993459) + (and32 (ushr32 (x0 - (and32 (ushr32 x0 1) 1431655765)) 2) 858993459)) 4)) 252645135) 8)) 16)) 63) ρ μ) : qE mJ6_bitCount_0f7a4 (GX X) (GX X) [qI x0] ρ μ Post := by
  refine qE_intro pl_J6_bitCount_0f7a4 (Nat.le_of_ble_eq_true rfl) (Nat.le_refl _) ?_
  refine qX_iload_n 0 dJ6_bitCount_0f7a4_0 rfl rfl ?_
  refine qX_iload_n 0 dJ6_bitCount_0f7a4_1 rfl rfl ?_
  refine qX_iconst dJ6_bitCount_0f7a4_2 (i32_of rfl) ?_
  refine qX_iushr dJ6_bitCount_0f7a4_3 ?_
  refine qX_ldcw (n := 1431655765) dJ6_bitCount_0f7a4_4 kK_J6_265 (i32_of rfl) ?_
  refine qX_iand dJ6_bitCount_0f7a4_7 ?_
  refine qR_isub dJ6_bitCount_0f7a4_8 h.1 ?_
  replace h := h.2
  refine qX_istore_n 0 dJ6_bitCount_0f7a4_9 rfl (Nat.le_of_ble_eq_true rfl) rfl ?_
  refine qX_iload_n 0 dJ6_bitCount_0f7a4_10 rfl rfl ?_
  refine qX_ldcw (n := 858993459) dJ6_bitCount_0f7a4_11 kK_J6_266 (i32_of rfl) ?_
  refine qX_iand dJ6_bitCount_0f7a4_14 ?_
  refine qX_iload_n 0 dJ6_bitCount_0f7a4_15 rfl rfl ?_
  refine qX_iconst dJ6_bitCount_0f7a4_16 (i32_of rfl) ?_
  refine qX_iushr dJ6_bitCount_0f7a4_17 ?_
  refine qX_ldcw (n := 858993459) dJ6_bitCount_0f7a4_18 kK_J6_266 (i32_of rfl) ?_
  refine qX_iand dJ6_bitCount_0f7a4_21 ?_
  refine qR_iadd dJ6_bitCount_0f7a4_22 h.1 ?_
  replace h := h.2
  refine qX_istore_n 0 dJ6_bitCount_0f7a4_23 rfl (Nat.le_of_ble_eq_true rfl) rfl ?_
  refine qX_iload_n 0 dJ6_bitCount_0f7a4_24 rfl rfl ?_
  refine qX_iload_n 0 dJ6_bitCount_0f7a4_25 rfl rfl ?_
  refine qX_iconst dJ6_bitCount_0f7a4_26 (i32_of rfl) ?_
  refine qX_iushr dJ6_bitCount_0f7a4_27 ?_
  refine qR_iadd dJ6_bitCount_0f7a4_28 h.1 ?_
  replace h := h.2
  refine qX_ldcw (n := 252645135) dJ6_bitCount_0f7a4_29 kK_J6_267 (i32_of rfl) ?_
  refine qX_iand dJ6_bitCount_0f7a4_32 ?_
  refine qX_istore_n 0 dJ6_bitCount_0f7a4_33 rfl (Nat.le_of_ble_eq_true rfl) rfl ?_
  refine qX_iload_n 0 dJ6_bitCount_0f7a4_34 rfl rfl ?_
  refine qX_iload_n 0 dJ6_bitCount_0f7a4_35 rfl rfl ?_
  refine qX_bip dJ6_bitCount_0f7a4_36 rfl ?_
  refine qX_iushr dJ6_bitCount_0f7a4_38 ?_
  refine qR_iadd dJ6_bitCount_0f7a4_39 h.1 ?_
  replace h := h.2
  refine qX_istore_n 0 dJ6_bitCount_0f7a4_40 rfl (Nat.le_of_ble_eq_true rfl) rfl ?_
  refine qX_iload_n 0 dJ6_bitCount_0f7a4_41 rfl rfl ?_
  refine qX_iload_n 0 dJ6_bitCount_0f7a4_42 rfl rfl ?_
  refine qX_bip dJ6_bitCount_0f7a4_43 rfl ?_
  refine qX_iushr dJ6_bitCount_0f7a4_45 ?_
  refine qR_iadd dJ6_bitCount_0f7a4_46 h.1 ?_
  replace h := h.2
  refine qX_istore_n 0 dJ6_bitCount_0f7a4_47 rfl (Nat.le_of_ble_eq_true rfl) rfl ?_
  refine qX_iload_n 0 dJ6_bitCount_0f7a4_48 rfl rfl ?_
  refine qX_bip dJ6_bitCount_0f7a4_49 rfl ?_
  refine qX_iand dJ6_bitCount_0f7a4_51 ?_
  exact qX_ireturn rfl dJ6_bitCount_0f7a4_52 rfl ⟨(Nat.le_of_ble_eq_true rfl), (Nat.le_of_ble_eq_true rfl)⟩ h
set_option maxRecDepth 20000 in
theorem e_L_put {Post : Int → Rf → Mem → Prop} {ρ : Rf} {μ : Mem} {X : List Sh} {x1 nx1 : Nat} (hx1 : (GX X).2[x1]? = some (10, nx1)) {x2 : Int}
  (h : (0 ≤ (5 : Int) ∧ (5 : Int) < nx1) ∧ (0 ≤ μ x1 5 ∧ 0 < (4 : Int)) ∧ (0 ≤ μ x1 5 ∧ 0 < (4 : Int)) ∧ (0 ≤ (μ x1 5) / 4 ∧ (μ x1 5) / 4 < nx1) ∧ (0 ≤ (μ x1 5) / 4 ∧ (μ x1 5) / 4 < nx1) ∧ ∀ μ1, μ1 = up2 μ x1 ((μ x1 5) / 4) (or32 (shl32 (μ x1 ((μ x1 5) / 4)) 8) x2) → (0 ≤ (5 : Int) ∧ (5 : Int) < nx1) ∧ i32 ((μ1 x1 5) + 1) ∧ (0 ≤ (5 : Int) ∧ (5 : Int) < nx1) ∧ ∀ μ2, μ2 = up2 μ1 x1 5 ((μ1 x1 5) + 1) → (0 ≤ (6 : Int) ∧ (6 : Int) < nx1) ∧ i32 ((μ2 x1 6) + 1) ∧ (0 ≤ (6 : Int) ∧ (6 : Int) < nx1) ∧ ∀ μ3, μ3 = up2 μ2 x1 6 ((μ2 x1 6) + 1) → (0 ≤ (5 : Int) ∧ (5 : Int) < nx1) ∧ ((μ3 x1 5 ≠ 20 → Post 0 ρ μ3) ∧ (μ3 x1 5 = 20 → ∃ P : Int → Rf → Mem → Prop, qE mL_flush (GX X) (GX X) [qP 0, qP x1] ρ μ3 P ∧ ∀ (z4 : Int) (ρ5 : Rf) (μ6 : Mem), P z4 ρ5 μ6 → Post 0 ρ5 μ6))) : qE mL_put (GX X) (GX X) [qP 0, qP x1, qI x2] ρ μ Post := by
  refine qE_intro pl_L_put (Nat.le_of_ble_eq_true rfl) (Nat.le_refl _) ?_
  refine qM_aload_n 1 dL_put_0 rfl rfl hx1 ?_
  refine qX_iconst dL_put_1 (i32_of rfl) ?_
  refine qX_iald dL_put_2 hx1 h.1 ?_
  replace h := h.2
  refine qX_istore_n 3 dL_put_3 rfl (Nat.le_of_ble_eq_true rfl) rfl ?_
  refine qM_aload_n 1 dL_put_4 rfl rfl hx1 ?_
  refine qX_iload_n 3 dL_put_5 rfl rfl ?_
  refine qX_iconst dL_put_6 (i32_of rfl) ?_
  refine qR_idiv dL_put_7 h.1 ?_
  replace h := h.2
  refine qM_aload_n 1 dL_put_8 rfl rfl hx1 ?_
  refine qX_iload_n 3 dL_put_9 rfl rfl ?_
  refine qX_iconst dL_put_10 (i32_of rfl) ?_
  refine qR_idiv dL_put_11 h.1 ?_
  replace h := h.2
  refine qX_iald dL_put_12 hx1 h.1 ?_
  replace h := h.2
  refine qX_bip dL_put_13 rfl ?_
  refine qX_ishl dL_put_15 ?_
  refine qX_iload_n 2 dL_put_16 rfl rfl ?_
  refine qX_ior dL_put_17 ?_
  refine qX_iast dL_put_18 hx1 h.1 ?_
  replace h := h.2
  replace h := h _ rfl
  refine qM_aload_n 1 dL_put_19 rfl rfl hx1 ?_
  refine qX_iconst dL_put_20 (i32_of rfl) ?_
  refine qX_dup2 dL_put_21 rfl rfl ?_
  refine qX_iald dL_put_22 hx1 h.1 ?_
  replace h := h.2
  refine qX_iconst dL_put_23 (i32_of rfl) ?_
  refine qR_iadd dL_put_24 h.1 ?_
  replace h := h.2
  refine qX_iast dL_put_25 hx1 h.1 ?_
  replace h := h.2
  replace h := h _ rfl
  refine qM_aload_n 1 dL_put_26 rfl rfl hx1 ?_
  refine qX_bip dL_put_27 rfl ?_
  refine qX_dup2 dL_put_29 rfl rfl ?_
  refine qX_iald dL_put_30 hx1 h.1 ?_
  replace h := h.2
  refine qX_iconst dL_put_31 (i32_of rfl) ?_
  refine qR_iadd dL_put_32 h.1 ?_
  replace h := h.2
  refine qX_iast dL_put_33 hx1 h.1 ?_
  replace h := h.2
  replace h := h _ rfl
  refine qM_aload_n 1 dL_put_34 rfl rfl hx1 ?_
  refine qX_iconst dL_put_35 (i32_of rfl) ?_
  refine qX_iald dL_put_36 hx1 h.1 ?_
  replace h := h.2
  refine qX_bip dL_put_37 rfl ?_
  refine qX_icmp_ne 47 dL_put_39 rfl (fun hc => ?_) (fun hc => ?_)
  · replace h := h.1 hc
    exact qX_return rfl dL_put_47 rfl ⟨(Nat.le_of_ble_eq_true rfl), (Nat.le_of_ble_eq_true rfl)⟩ h
  · replace h := h.2 hc
    refine qM_aload_n 0 dL_put_42 rfl rfl shX0 ?_
    refine qM_aload_n 1 dL_put_43 rfl rfl hx1 ?_
    obtain ⟨P, hE7, h⟩ := h
    refine qM_callS mL_flush [_, _] [] dL_put_44 cm_L_7 ⟨(Nat.le_of_ble_eq_true rfl), (Nat.le_of_ble_eq_true rfl)⟩ rfl rfl (Nat.le_of_ble_eq_true rfl) ⟨rfl, rfl⟩ ⟨(Nat.le_of_ble_eq_true rfl), (Nat.le_of_ble_eq_true rfl)⟩ hE7 (fun z4 ρ5 μ6 hz => ?_)
    replace h := h _ _ _ hz
    exact qX_return rfl dL_put_47 rfl ⟨(Nat.le_of_ble_eq_true rfl), (Nat.le_of_ble_eq_true rfl)⟩ h
set_option maxRecDepth 20000 in
theorem e_L_flush {Post : Int → Rf → Mem → Prop} {ρ : Rf} {μ : Mem} {X : List Sh} {x1 nx1 : Nat} (hx1 : (GX X).2[x1]? = some (10, nx1))
  (h : (0 ≤ (0 : Int) ∧ (0 : Int) < nx1) ∧ (0 ≤ (1 : Int) ∧ (1 : Int) < nx1) ∧ (0 ≤ (2 : Int) ∧ (2 : Int) < nx1) ∧ (0 ≤ (3 : Int) ∧ (3 : Int) < nx1) ∧ (0 ≤ (4 : Int) ∧ (4 : Int) < nx1) ∧ ∃ P : Int → Rf → Mem → Prop, qE mX7_append (GX X) (GX X) [qP 0, qI (μ x1 0), qI (μ x1 1), qI (μ x1 2), qI (μ x1 3), qI (μ x1 4)] ρ μ P ∧ ∀ (z1 : Int) (ρ2 : Rf) (μ3 : Mem), P z1 ρ2 μ3 → (0 ≤ (5 : Int) ∧ (5 : Int) < nx1) ∧ ∀ μ5, μ5 = up2 μ3 x1 5 0 → Post 0 ρ2 μ5) : qE mL_flush (GX X) (GX X) [qP 0, qP x1] ρ μ Post := by
  refine qE_intro pl_L_flush (Nat.le_of_ble_eq_true rfl) (Nat.le_refl _) ?_
  refine qM_aload_n 0 dL_flush_0 rfl rfl shX0 ?_
  refine qM_aload_n 1 dL_flush_1 rfl rfl hx1 ?_
  refine qX_iconst dL_flush_2 (i32_of rfl) ?_
  refine qX_iald dL_flush_3 hx1 h.1 ?_
  replace h := h.2
  refine qM_aload_n 1 dL_flush_4 rfl rfl hx1 ?_
  refine qX_iconst dL_flush_5 (i32_of rfl) ?_
  refine qX_iald dL_flush_6 hx1 h.1 ?_
  replace h := h.2
  refine qM_aload_n 1 dL_flush_7 rfl rfl hx1 ?_
  refine qX_iconst dL_flush_8 (i32_of rfl) ?_
  refine qX_iald dL_flush_9 hx1 h.1 ?_
  replace h := h.2
  refine qM_aload_n 1 dL_flush_10 rfl rfl hx1 ?_
  refine qX_iconst dL_flush_11 (i32_of rfl) ?_
  refine qX_iald dL_flush_12 hx1 h.1 ?_
  replace h := h.2
  refine qM_aload_n 1 dL_flush_13 rfl rfl hx1 ?_
  refine qX_iconst dL_flush_14 (i32_of rfl) ?_
  refine qX_iald dL_flush_15 hx1 h.1 ?_
  replace h := h.2
  obtain ⟨P, hE4, h⟩ := h
  refine qM_callV mX7_append [_, _, _, _, _] _ 7 [] dL_flush_16 cm_L_13 ⟨(Nat.le_of_ble_eq_true rfl), (Nat.le_of_ble_eq_true rfl)⟩ rfl rfl shX0 (Nat.le_of_ble_eq_true rfl) ⟨rfl, rfl⟩ ⟨(Nat.le_of_ble_eq_true rfl), (Nat.le_of_ble_eq_true rfl)⟩ hE4 (fun z1 ρ2 μ3 hz => ?_)
  replace h := h _ _ _ hz
  refine qX_istore_n 2 dL_flush_19 rfl (Nat.le_of_ble_eq_true rfl) rfl ?_
  refine qM_aload_n 1 dL_flush_20 rfl rfl hx1 ?_
  refine qX_iconst dL_flush_21 (i32_of rfl) ?_
  refine qX_iconst dL_flush_22 (i32_of rfl) ?_
  refine qX_iast dL_flush_23 hx1 h.1 ?_
  replace h := h.2
  replace h := h _ rfl
  exact qX_return rfl dL_flush_24 rfl ⟨(Nat.le_of_ble_eq_true rfl), (Nat.le_of_ble_eq_true rfl)⟩ h
set_option maxRecDepth 20000 in
theorem e_L_say {Post : Int → Rf → Mem → Prop} {ρ : Rf} {μ : Mem} {X : List Sh} {x1 nx1 : Nat} (hx1 : (GX X).2[x1]? = some (10, nx1)) {x2 : Int}
  (h : qX mL_say (GX X) Post (GX X) (0, 0) 4 [some (qP 0), some (qP x1), some (qJ x2), none, some (qI 56)] [] ρ μ) : qE mL_say (GX X) (GX X) [qP 0, qP x1, qJ x2] ρ μ Post := by
  refine qE_intro pl_L_say (Nat.le_of_ble_eq_true rfl) (Nat.le_refl _) ?_
  refine qX_bip dL_say_0 rfl ?_
  refine qX_istore dL_say_2 (Nat.le_of_ble_eq_true rfl) rfl ?_
  exact qX_mask [true, true, true, false, true] h
set_option maxRecDepth 20000 in
theorem w_L_say_4 {Post : Int → Rf → Mem → Prop} {ρ : Rf} {μ : Mem} {X : List Sh} {x1 nx1 : Nat} (hx1 : (GX X).2[x1]? = some (10, nx1)) {x2 : Int} {x4 : Int}
  (h : ((x4 < 0 → Post 0 ρ μ) ∧ (0 ≤ x4 → ((and64 (shr64 x2 x4) 255 = 0 → i32 (x4 + (-8)) ∧ qX mL_say (GX X) Post (GX X) (0, 0) 4 [some (qP 0), some (qP x1), some (qJ x2), none, some (qI (x4 + (-8)))] [] ρ μ) ∧ (and64 (shr64 x2 x4) 255 ≠ 0 → ∃ P : Int → Rf → Mem → Prop, qE mL_put (GX X) (GX X) [qP 0, qP x1, qI (l2i (and64 (shr64 x2 x4) 255))] ρ μ P ∧ ∀ (z1 : Int) (ρ2 : Rf) (μ3 : Mem), P z1 ρ2 μ3 → i32 (x4 + (-8)) ∧ qX mL_say (GX X) Post (GX X) (0, 0) 4 [some (qP 0), some (qP x1), some (qJ x2), none, some (qI (x4 + (-8)))] [] ρ2 μ3))))) : qX mL_say (GX X) Post (GX X) (0, 0) 4 [some (qP 0), some (qP x1), some (qJ x2), none, some (qI x4)] [] ρ μ := by
  refine qX_iload dL_say_4 rfl ?_
  refine qX_if_lt 42 dL_say_6 rfl (fun hc => ?_) (fun hc => ?_)
  · replace h := h.1 hc
    exact qX_return rfl dL_say_42 rfl ⟨(Nat.le_of_ble_eq_true rfl), (Nat.le_of_ble_eq_true rfl)⟩ h
  · replace h := h.2 hc
    refine qX_lload_n 2 dL_say_9 rfl rfl ?_
    refine qX_iload dL_say_10 rfl ?_
    refine qX_lshr dL_say_12 ?_
    refine qX_ldc2 (n := 255) dL_say_13 kK_L_19 (i64_of rfl) ?_
    refine qX_land dL_say_16 ?_
    refine qX_lconst 0 dL_say_17 rfl (i64_of rfl) ?_
    refine qX_lcmp dL_say_18 ?_
    refine qX_if_eq 36 dL_say_19 rfl (fun hc => ?_) (fun hc => ?_)
    · replace h := h.1 (cmpL_eq0.mp hc)
      refine qR_iinc dL_say_36 rfl (Nat.le_of_ble_eq_true rfl) rfl h.1 ?_
      replace h := h.2
      refine qX_goto 4 dL_say_39 rfl ?_
      exact qX_mask [true, true, true, false, true] h
    · replace h := h.2 (fun e => hc (cmpL_eq0.mpr e))
      refine qM_aload_n 0 dL_say_22 rfl rfl shX0 ?_
      refine qM_aload_n 1 dL_say_23 rfl rfl hx1 ?_
      refine qX_lload_n 2 dL_say_24 rfl rfl ?_
      refine qX_iload dL_say_25 rfl ?_
      refine qX_lshr dL_say_27 ?_
      refine qX_ldc2 (n := 255) dL_say_28 kK_L_19 (i64_of rfl) ?_
      refine qX_land dL_say_31 ?_
      refine qX_l2i dL_say_32 ?_
      obtain ⟨P, hE4, h⟩ := h
      refine qM_callS mL_put [_, _, _] [] dL_say_33 cm_L_21 ⟨(Nat.le_of_ble_eq_true rfl), (Nat.le_of_ble_eq_true rfl)⟩ rfl rfl (Nat.le_of_ble_eq_true rfl) ⟨rfl, rfl⟩ ⟨(Nat.le_of_ble_eq_true rfl), (Nat.le_of_ble_eq_true rfl)⟩ hE4 (fun z1 ρ2 μ3 hz => ?_)
      replace h := h _ _ _ hz
      refine qR_iinc dL_say_36 rfl (Nat.le_of_ble_eq_true rfl) rfl h.1 ?_
      replace h := h.2
      refine qX_goto 4 dL_say_39 rfl ?_
      exact qX_mask [true, true, true, false, true] h
set_option maxRecDepth 20000 in
theorem e_L_said {Post : Int → Rf → Mem → Prop} {ρ : Rf} {μ : Mem} {X : List Sh} {x1 nx1 : Nat} (hx1 : (GX X).2[x1]? = some (10, nx1))
  (h : (0 ≤ (6 : Int) ∧ (6 : Int) < nx1) ∧ qX mL_said (GX X) Post (GX X) (0, 0) 5 [some (qP 0), some (qP x1), some (qI (μ x1 6))] [] ρ μ) : qE mL_said (GX X) (GX X) [qP 0, qP x1] ρ μ Post := by
  refine qE_intro pl_L_said (Nat.le_of_ble_eq_true rfl) (Nat.le_refl _) ?_
  refine qM_aload_n 1 dL_said_0 rfl rfl hx1 ?_
  refine qX_bip dL_said_1 rfl ?_
  refine qX_iald dL_said_3 hx1 h.1 ?_
  replace h := h.2
  refine qX_istore_n 2 dL_said_4 rfl (Nat.le_of_ble_eq_true rfl) rfl ?_
  exact qX_mask [true, true, true] h
set_option maxRecDepth 20000 in
theorem w_L_said_5 {Post : Int → Rf → Mem → Prop} {ρ : Rf} {μ : Mem} {X : List Sh} {x1 nx1 : Nat} (hx1 : (GX X).2[x1]? = some (10, nx1)) {x2 : Int}
  (h : (0 ≤ (5 : Int) ∧ (5 : Int) < nx1) ∧ ((μ x1 5 ≤ 0 → (0 ≤ (6 : Int) ∧ (6 : Int) < nx1) ∧ ∀ μ1, μ1 = up2 μ x1 6 0 → Post x2 ρ μ1) ∧ (0 < μ x1 5 → ∃ P : Int → Rf → Mem → Prop, qE mL_put (GX X) (GX X) [qP 0, qP x1, qI 32] ρ μ P ∧ ∀ (z2 : Int) (ρ3 : Rf) (μ4 : Mem), P z2 ρ3 μ4 → qX mL_said (GX X) Post (GX X) (0, 0) 5 [some (qP 0), some (qP x1), some (qI x2)] [] ρ3 μ4))) : qX mL_said (GX X) Post (GX X) (0, 0) 5 [some (qP 0), some (qP x1), some (qI x2)] [] ρ μ := by
  refine qM_aload_n 1 dL_said_5 rfl rfl hx1 ?_
  refine qX_iconst dL_said_6 (i32_of rfl) ?_
  refine qX_iald dL_said_7 hx1 h.1 ?_
  replace h := h.2
  refine qX_if_le 21 dL_said_8 rfl (fun hc => ?_) (fun hc => ?_)
  · replace h := h.1 hc
    refine qM_aload_n 1 dL_said_21 rfl rfl hx1 ?_
    refine qX_bip dL_said_22 rfl ?_
    refine qX_iconst dL_said_24 (i32_of rfl) ?_
    refine qX_iast dL_said_25 hx1 h.1 ?_
    replace h := h.2
    replace h := h _ rfl
    refine qX_iload_n 2 dL_said_26 rfl rfl ?_
    exact qX_ireturn rfl dL_said_27 rfl ⟨(Nat.le_of_ble_eq_true rfl), (Nat.le_of_ble_eq_true rfl)⟩ h
  · replace h := h.2 hc
    refine qM_aload_n 0 dL_said_11 rfl rfl shX0 ?_
    refine qM_aload_n 1 dL_said_12 rfl rfl hx1 ?_
    refine qX_bip dL_said_13 rfl ?_
    obtain ⟨P, hE5, h⟩ := h
    refine qM_callS mL_put [_, _, _] [] dL_said_15 cm_L_21 ⟨(Nat.le_of_ble_eq_true rfl), (Nat.le_of_ble_eq_true rfl)⟩ rfl rfl (Nat.le_of_ble_eq_true rfl) ⟨rfl, rfl⟩ ⟨(Nat.le_of_ble_eq_true rfl), (Nat.le_of_ble_eq_true rfl)⟩ hE5 (fun z2 ρ3 μ4 hz => ?_)
    replace h := h _ _ _ hz
    refine qX_goto 5 dL_said_18 rfl ?_
    exact qX_mask [true, true, true] h
set_option maxRecDepth 20000 in
theorem e_L_number {Post : Int → Rf → Mem → Prop} {ρ : Rf} {μ : Mem} {X : List Sh} {x1 nx1 : Nat} (hx1 : (GX X).2[x1]? = some (10, nx1)) {x2 : Int}
  (h : qX mL_number (GX X) Post (GX X) (0, 0) 4 [some (qP 0), some (qP x1), some (qI x2), some (qI 1000)] [] ρ μ) : qE mL_number (GX X) (GX X) [qP 0, qP x1, qI x2] ρ μ Post := by
  refine qE_intro pl_L_number (Nat.le_of_ble_eq_true rfl) (Nat.le_refl _) ?_
  refine qX_sip dL_number_0 rfl ?_
  refine qX_istore_n 3 dL_number_3 rfl (Nat.le_of_ble_eq_true rfl) rfl ?_
  exact qX_mask [true, true, true, true] h
set_option maxRecDepth 20000 in
theorem w_L_number_4 {Post : Int → Rf → Mem → Prop} {ρ : Rf} {μ : Mem} {X : List Sh} {x1 nx1 : Nat} (hx1 : (GX X).2[x1]? = some (10, nx1)) {x2 : Int} {x3 : Int}
  (h : ((x3 ≤ 1 → qX mL_number (GX X) Post (GX X) (0, 0) 22 [some (qP 0), some (qP x1), some (qI x2), some (qI x3)] [] ρ μ) ∧ (1 < x3 → ((x3 ≤ x2 → qX mL_number (GX X) Post (GX X) (0, 0) 22 [some (qP 0), some (qP x1), some (qI x2), some (qI x3)] [] ρ μ) ∧ (x2 < x3 → (0 ≤ x3 ∧ 0 < (10 : Int)) ∧ qX mL_number (GX X) Post (GX X) (0, 0) 4 [some (qP 0), some (qP x1), some (qI x2), some (qI (x3 / 10))] [] ρ μ))))) : qX mL_number (GX X) Post (GX X) (0, 0) 4 [some (qP 0), some (qP x1), some (qI x2), some (qI x3)] [] ρ μ := by
  refine qX_iload_n 3 dL_number_4 rfl rfl ?_
  refine qX_iconst dL_number_5 (i32_of rfl) ?_
  refine qX_icmp_le 22 dL_number_6 rfl (fun hc => ?_) (fun hc => ?_)
  · replace h := h.1 hc
    exact qX_mask [true, true, true, true] h
  · replace h := h.2 hc
    refine qX_iload_n 2 dL_number_9 rfl rfl ?_
    refine qX_iload_n 3 dL_number_10 rfl rfl ?_
    refine qX_icmp_ge 22 dL_number_11 rfl (fun hc => ?_) (fun hc => ?_)
    · replace h := h.1 hc
      exact qX_mask [true, true, true, true] h
    · replace h := h.2 hc
      refine qX_iload_n 3 dL_number_14 rfl rfl ?_
      refine qX_bip dL_number_15 rfl ?_
      refine qR_idiv dL_number_17 h.1 ?_
      replace h := h.2
      refine qX_istore_n 3 dL_number_18 rfl (Nat.le_of_ble_eq_true rfl) rfl ?_
      refine qX_goto 4 dL_number_19 rfl ?_
      exact qX_mask [true, true, true, true] h
set_option maxRecDepth 20000 in
theorem w_L_number_22 {Post : Int → Rf → Mem → Prop} {ρ : Rf} {μ : Mem} {X : List Sh} {x1 nx1 : Nat} (hx1 : (GX X).2[x1]? = some (10, nx1)) {x2 : Int} {x3 : Int}
  (h : ((x3 ≤ 0 → Post 0 ρ μ) ∧ (0 < x3 → (0 ≤ x2 ∧ 0 < x3) ∧ (0 ≤ x2 / x3 ∧ 0 < (10 : Int)) ∧ i32 (48 + ((x2 / x3) % 10)) ∧ ∃ P : Int → Rf → Mem → Prop, qE mL_put (GX X) (GX X) [qP 0, qP x1, qI (48 + ((x2 / x3) % 10))] ρ μ P ∧ ∀ (z1 : Int) (ρ2 : Rf) (μ3 : Mem), P z1 ρ2 μ3 → (0 ≤ x3 ∧ 0 < (10 : Int)) ∧ qX mL_number (GX X) Post (GX X) (0, 0) 22 [some (qP 0), some (qP x1), some (qI x2), some (qI (x3 / 10))] [] ρ2 μ3))) : qX mL_number (GX X) Post (GX X) (0, 0) 22 [some (qP 0), some (qP x1), some (qI x2), some (qI x3)] [] ρ μ := by
  refine qX_iload_n 3 dL_number_22 rfl rfl ?_
  refine qX_if_le 48 dL_number_23 rfl (fun hc => ?_) (fun hc => ?_)
  · replace h := h.1 hc
    exact qX_return rfl dL_number_48 rfl ⟨(Nat.le_of_ble_eq_true rfl), (Nat.le_of_ble_eq_true rfl)⟩ h
  · replace h := h.2 hc
    refine qM_aload_n 0 dL_number_26 rfl rfl shX0 ?_
    refine qM_aload_n 1 dL_number_27 rfl rfl hx1 ?_
    refine qX_bip dL_number_28 rfl ?_
    refine qX_iload_n 2 dL_number_30 rfl rfl ?_
    refine qX_iload_n 3 dL_number_31 rfl rfl ?_
    refine qR_idiv dL_number_32 h.1 ?_
    replace h := h.2
    refine qX_bip dL_number_33 rfl ?_
    refine qR_irem dL_number_35 h.1 ?_
    replace h := h.2
    refine qR_iadd dL_number_36 h.1 ?_
    replace h := h.2
    obtain ⟨P, hE4, h⟩ := h
    refine qM_callS mL_put [_, _, _] [] dL_number_37 cm_L_21 ⟨(Nat.le_of_ble_eq_true rfl), (Nat.le_of_ble_eq_true rfl)⟩ rfl rfl (Nat.le_of_ble_eq_true rfl) ⟨rfl, rfl⟩ ⟨(Nat.le_of_ble_eq_true rfl), (Nat.le_of_ble_eq_true rfl)⟩ hE4 (fun z1 ρ2 μ3 hz => ?_)
    replace h := h _ _ _ hz
    refine qX_iload_n 3 dL_number_40 rfl rfl ?_
    refine qX_bip dL_number_41 rfl ?_
    refine qR_idiv dL_number_43 h.1 ?_
    replace h := h.2
    refine qX_istore_n 3 dL_number_44 rfl (Nat.le_of_ble_eq_true rfl) rfl ?_
    refine qX_goto 22 dL_number_45 rfl ?_
    exact qX_mask [true, true, true, true] h
set_option maxRecDepth 20000 in
theorem e_L_drawn {Post : Int → Rf → Mem → Prop} {ρ : Rf} {μ : Mem} {X : List Sh} 
  (h : X.length < 1000 ∧ ∃ P : Int → Rf → Mem → Prop, qE mL_cell (GX (X ++ [(10, 200)])) (GX (X ++ [(10, 200)])) [qP sid, qI 0] ρ μ P ∧ ∀ (z1 : Int) (ρ2 : Rf) (μ3 : Mem), P z1 ρ2 μ3 → qX mL_drawn (GX (X ++ [(10, 200)])) Post (GX (X ++ [(10, 200)])) (1, 200) 14 [some (qP sid), some (qP (178 + X.length)), some (qI z1), some (qI 0), none] [] ρ2 μ3) : qE mL_drawn (GX (X ++ [(10, 200)])) (GX X) [qP sid] ρ μ Post := by
  refine qE_intro pl_L_drawn (Nat.le_of_ble_eq_true rfl) GX_le ?_
  refine qX_sip dL_drawn_0 rfl ?_
  refine qM_newI 200 dL_drawn_3 rfl (by decide) ⟨(Nat.le_of_ble_eq_true rfl), (Nat.le_of_ble_eq_true rfl)⟩ h.1 ?_
  replace h := h.2
  refine qM_astore_n 1 dL_drawn_5 rfl (Nat.le_of_ble_eq_true rfl) rfl shXe ?_
  refine qX_aload_n 0 dL_drawn_6 rfl rfl (by decide) ?_
  refine qX_iconst dL_drawn_7 (i32_of rfl) ?_
  obtain ⟨P, hE4, h⟩ := h
  refine qM_callS mL_cell [_, _] [] dL_drawn_8 cm_L_25 ⟨(Nat.le_of_ble_eq_true rfl), (Nat.le_of_ble_eq_true rfl)⟩ rfl rfl (Nat.le_of_ble_eq_true rfl) ⟨rfl, rfl⟩ ⟨(Nat.le_of_ble_eq_true rfl), (Nat.le_of_ble_eq_true rfl)⟩ hE4 (fun z1 ρ2 μ3 hz => ?_)
  replace h := h _ _ _ hz
  refine qX_istore_n 2 dL_drawn_11 rfl (Nat.le_of_ble_eq_true rfl) rfl ?_
  refine qX_iconst dL_drawn_12 (i32_of rfl) ?_
  refine qX_istore_n 3 dL_drawn_13 rfl (Nat.le_of_ble_eq_true rfl) rfl ?_
  exact qX_mask [true, true, true, true, false] h
set_option maxRecDepth 20000 in
theorem w_L_drawn_14 {Post : Int → Rf → Mem → Prop} {ρ : Rf} {μ : Mem} {X : List Sh} {x1 nx1 : Nat} (hx1 : (GX X).2[x1]? = some (10, nx1)) {x2 : Int} {x3 : Int}
  (h : ((2 ≤ x3 → qX mL_drawn (GX X) Post (GX X) (1, 200) 60 [some (qP sid), some (qP x1), none, some (qI 0), none] [] ρ μ) ∧ (x3 < 2 → i32 (13 * x3) ∧ (0 ≤ x3 ∧ x3 < nx1) ∧ ∀ μ1, μ1 = up2 μ x1 x3 (and32 (shr32 x2 (13 * x3)) 63) → i32 (2 + x3) ∧ (0 ≤ x3 ∧ x3 < nx1) ∧ i32 (13 * x3) ∧ i32 ((13 * x3) + 6) ∧ i32 ((μ1 x1 x3) + (and32 (shr32 x2 ((13 * x3) + 6)) 127)) ∧ (0 ≤ 2 + x3 ∧ 2 + x3 < nx1) ∧ ∀ μ2, μ2 = up2 μ1 x1 (2 + x3) ((μ1 x1 x3) + (and32 (shr32 x2 ((13 * x3) + 6)) 127)) → i32 (x3 + 1) ∧ qX mL_drawn (GX X) Post (GX X) (1, 200) 14 [some (qP sid), some (qP x1), some (qI x2), some (qI (x3 + 1)), none] [] ρ μ2))) : qX mL_drawn (GX X) Post (GX X) (1, 200) 14 [some (qP sid), some (qP x1), some (qI x2), some (qI x3), none] [] ρ μ := by
  refine qX_iload_n 3 dL_drawn_14 rfl rfl ?_
  refine qX_iconst dL_drawn_15 (i32_of rfl) ?_
  refine qX_icmp_ge 58 dL_drawn_16 rfl (fun hc => ?_) (fun hc => ?_)
  · replace h := h.1 hc
    refine qX_iconst dL_drawn_58 (i32_of rfl) ?_
    refine qX_istore_n 3 dL_drawn_59 rfl (Nat.le_of_ble_eq_true rfl) rfl ?_
    exact qX_mask [true, true, false, true, false] h
  · replace h := h.2 hc
    refine qM_aload_n 1 dL_drawn_19 rfl rfl hx1 ?_
    refine qX_iload_n 3 dL_drawn_20 rfl rfl ?_
    refine qX_iload_n 2 dL_drawn_21 rfl rfl ?_
    refine qX_bip dL_drawn_22 rfl ?_
    refine qX_iload_n 3 dL_drawn_24 rfl rfl ?_
    refine qR_imul dL_drawn_25 h.1 ?_
    replace h := h.2
    refine qX_ishr dL_drawn_26 ?_
    refine qX_bip dL_drawn_27 rfl ?_
    refine qX_iand dL_drawn_29 ?_
    refine qX_iast dL_drawn_30 hx1 h.1 ?_
    replace h := h.2
    replace h := h _ rfl
    refine qM_aload_n 1 dL_drawn_31 rfl rfl hx1 ?_
    refine qX_iconst dL_drawn_32 (i32_of rfl) ?_
    refine qX_iload_n 3 dL_drawn_33 rfl rfl ?_
    refine qR_iadd dL_drawn_34 h.1 ?_
    replace h := h.2
    refine qM_aload_n 1 dL_drawn_35 rfl rfl hx1 ?_
    refine qX_iload_n 3 dL_drawn_36 rfl rfl ?_
    refine qX_iald dL_drawn_37 hx1 h.1 ?_
    replace h := h.2
    refine qX_iload_n 2 dL_drawn_38 rfl rfl ?_
    refine qX_bip dL_drawn_39 rfl ?_
    refine qX_iload_n 3 dL_drawn_41 rfl rfl ?_
    refine qR_imul dL_drawn_42 h.1 ?_
    replace h := h.2
    refine qX_bip dL_drawn_43 rfl ?_
    refine qR_iadd dL_drawn_45 h.1 ?_
    replace h := h.2
    refine qX_ishr dL_drawn_46 ?_
    refine qX_bip dL_drawn_47 rfl ?_
    refine qX_iand dL_drawn_49 ?_
    refine qR_iadd dL_drawn_50 h.1 ?_
    replace h := h.2
    refine qX_iast dL_drawn_51 hx1 h.1 ?_
    replace h := h.2
    replace h := h _ rfl
    refine qR_iinc dL_drawn_52 rfl (Nat.le_of_ble_eq_true rfl) rfl h.1 ?_
    replace h := h.2
    refine qX_goto 14 dL_drawn_55 rfl ?_
    exact qX_mask [true, true, true, true, false] h
set_option maxRecDepth 20000 in
theorem w_L_drawn_60 {Post : Int → Rf → Mem → Prop} {ρ : Rf} {μ : Mem} {X : List Sh} {x1 nx1 : Nat} (hx1 : (GX X).2[x1]? = some (10, nx1)) {x3 : Int}
  (h : ((4 ≤ x3 → ∃ P : Int → Rf → Mem → Prop, qE mL_cell (GX X) (GX X) [qP sid, qI 5] ρ μ P ∧ ∀ (z1 : Int) (ρ2 : Rf) (μ3 : Mem), P z1 ρ2 μ3 → qX mL_drawn (GX X) Post (GX X) (1, 200) 132 [some (qP sid), some (qP x1), some (qI z1), some (qI 0), none] [] ρ2 μ3) ∧ (x3 < 4 → i32 (1 + x3) ∧ ∃ P : Int → Rf → Mem → Prop, qE mL_cell (GX X) (GX X) [qP sid, qI (1 + x3)] ρ μ P ∧ ∀ (z5 : Int) (ρ6 : Rf) (μ7 : Mem), P z5 ρ6 μ7 → i32 (3 * x3) ∧ i32 (10 + (3 * x3)) ∧ (0 ≤ 10 + (3 * x3) ∧ 10 + (3 * x3) < nx1) ∧ ∀ μ9, μ9 = up2 μ7 x1 (10 + (3 * x3)) (and32 z5 31) → i32 (3 * x3) ∧ i32 (11 + (3 * x3)) ∧ (0 ≤ 11 + (3 * x3) ∧ 11 + (3 * x3) < nx1) ∧ ∀ μ10, μ10 = up2 μ9 x1 (11 + (3 * x3)) (and32 (shr32 z5 5) 15) → i32 (3 * x3) ∧ i32 (12 + (3 * x3)) ∧ (0 ≤ 12 + (3 * x3) ∧ 12 + (3 * x3) < nx1) ∧ ∀ μ11, μ11 = up2 μ10 x1 (12 + (3 * x3)) (and32 (shr32 z5 9) 31) → i32 (x3 + 1) ∧ qX mL_drawn (GX X) Post (GX X) (1, 200) 60 [some (qP sid), some (qP x1), none, some (qI (x3 + 1)), none] [] ρ6 μ11))) : qX mL_drawn (GX X) Post (GX X) (1, 200) 60 [some (qP sid), some (qP x1), none, some (qI x3), none] [] ρ μ := by
  refine qX_iload_n 3 dL_drawn_60 rfl rfl ?_
  refine qX_iconst dL_drawn_61 (i32_of rfl) ?_
  refine qX_icmp_ge 124 dL_drawn_62 rfl (fun hc => ?_) (fun hc => ?_)
  · replace h := h.1 hc
    refine qX_aload_n 0 dL_drawn_124 rfl rfl (by decide) ?_
    refine qX_iconst dL_drawn_125 (i32_of rfl) ?_
    obtain ⟨P, hE4, h⟩ := h
    refine qM_callS mL_cell [_, _] [] dL_drawn_126 cm_L_25 ⟨(Nat.le_of_ble_eq_true rfl), (Nat.le_of_ble_eq_true rfl)⟩ rfl rfl (Nat.le_of_ble_eq_true rfl) ⟨rfl, rfl⟩ ⟨(Nat.le_of_ble_eq_true rfl), (Nat.le_of_ble_eq_true rfl)⟩ hE4 (fun z1 ρ2 μ3 hz => ?_)
    replace h := h _ _ _ hz
    refine qX_istore_n 2 dL_drawn_129 rfl (Nat.le_of_ble_eq_true rfl) rfl ?_
    refine qX_iconst dL_drawn_130 (i32_of rfl) ?_
    refine qX_istore_n 3 dL_drawn_131 rfl (Nat.le_of_ble_eq_true rfl) rfl ?_
    exact qX_mask [true, true, true, true, false] h
  · replace h := h.2 hc
    refine qX_aload_n 0 dL_drawn_65 rfl rfl (by decide) ?_
    refine qX_iconst dL_drawn_66 (i32_of rfl) ?_
    refine qX_iload_n 3 dL_drawn_67 rfl rfl ?_
    refine qR_iadd dL_drawn_68 h.1 ?_
    replace h := h.2
    obtain ⟨P, hE8, h⟩ := h
    refine qM_callS mL_cell [_, _] [] dL_drawn_69 cm_L_25 ⟨(Nat.le_of_ble_eq_true rfl), (Nat.le_of_ble_eq_true rfl)⟩ rfl rfl (Nat.le_of_ble_eq_true rfl) ⟨rfl, rfl⟩ ⟨(Nat.le_of_ble_eq_true rfl), (Nat.le_of_ble_eq_true rfl)⟩ hE8 (fun z5 ρ6 μ7 hz => ?_)
    replace h := h _ _ _ hz
    refine qX_istore dL_drawn_72 (Nat.le_of_ble_eq_true rfl) rfl ?_
    refine qM_aload_n 1 dL_drawn_74 rfl rfl hx1 ?_
    refine qX_bip dL_drawn_75 rfl ?_
    refine qX_iconst dL_drawn_77 (i32_of rfl) ?_
    refine qX_iload_n 3 dL_drawn_78 rfl rfl ?_
    refine qR_imul dL_drawn_79 h.1 ?_
    replace h := h.2
    refine qR_iadd dL_drawn_80 h.1 ?_
    replace h := h.2
    refine qX_iload dL_drawn_81 rfl ?_
    refine qX_bip dL_drawn_83 rfl ?_
    refine qX_iand dL_drawn_85 ?_
    refine qX_iast dL_drawn_86 hx1 h.1 ?_
    replace h := h.2
    replace h := h _ rfl
    refine qM_aload_n 1 dL_drawn_87 rfl rfl hx1 ?_
    refine qX_bip dL_drawn_88 rfl ?_
    refine qX_iconst dL_drawn_90 (i32_of rfl) ?_
    refine qX_iload_n 3 dL_drawn_91 rfl rfl ?_
    refine qR_imul dL_drawn_92 h.1 ?_
    replace h := h.2
    refine qR_iadd dL_drawn_93 h.1 ?_
    replace h := h.2
    refine qX_iload dL_drawn_94 rfl ?_
    refine qX_iconst dL_drawn_96 (i32_of rfl) ?_
    refine qX_ishr dL_drawn_97 ?_
    refine qX_bip dL_drawn_98 rfl ?_
    refine qX_iand dL_drawn_100 ?_
    refine qX_iast dL_drawn_101 hx1 h.1 ?_
    replace h := h.2
    replace h := h _ rfl
    refine qM_aload_n 1 dL_drawn_102 rfl rfl hx1 ?_
    refine qX_bip dL_drawn_103 rfl ?_
    refine qX_iconst dL_drawn_105 (i32_of rfl) ?_
    refine qX_iload_n 3 dL_drawn_106 rfl rfl ?_
    refine qR_imul dL_drawn_107 h.1 ?_
    replace h := h.2
    refine qR_iadd dL_drawn_108 h.1 ?_
    replace h := h.2
    refine qX_iload dL_drawn_109 rfl ?_
    refine qX_bip dL_drawn_111 rfl ?_
    refine qX_ishr dL_drawn_113 ?_
    refine qX_bip dL_drawn_114 rfl ?_
    refine qX_iand dL_drawn_116 ?_
    refine qX_iast dL_drawn_117 hx1 h.1 ?_
    replace h := h.2
    replace h := h _ rfl
    refine qR_iinc dL_drawn_118 rfl (Nat.le_of_ble_eq_true rfl) rfl h.1 ?_
    replace h := h.2
    refine qX_goto 60 dL_drawn_121 rfl ?_
    exact qX_mask [true, true, false, true, false] h
set_option maxRecDepth 20000 in
theorem w_L_drawn_132 {Post : Int → Rf → Mem → Prop} {ρ : Rf} {μ : Mem} {X : List Sh} {x1 nx1 : Nat} (hx1 : (GX X).2[x1]? = some (10, nx1)) {x2 : Int} {x3 : Int}
  (h : ((4 ≤ x3 → qX mL_drawn (GX X) Post (GX X) (1, 200) 159 [some (qP sid), some (qP x1), some (qI x2), some (qI 0), none] [] ρ μ) ∧ (x3 < 4 → i32 (30 + x3) ∧ i32 (4 * x3) ∧ (0 ≤ 30 + x3 ∧ 30 + x3 < nx1) ∧ ∀ μ1, μ1 = up2 μ x1 (30 + x3) (and32 (shr32 x2 (4 * x3)) 15) → i32 (x3 + 1) ∧ qX mL_drawn (GX X) Post (GX X) (1, 200) 132 [some (qP sid), some (qP x1), some (qI x2), some (qI (x3 + 1)), none] [] ρ μ1))) : qX mL_drawn (GX X) Post (GX X) (1, 200) 132 [some (qP sid), some (qP x1), some (qI x2), some (qI x3), none] [] ρ μ := by
  refine qX_iload_n 3 dL_drawn_132 rfl rfl ?_
  refine qX_iconst dL_drawn_133 (i32_of rfl) ?_
  refine qX_icmp_ge 157 dL_drawn_134 rfl (fun hc => ?_) (fun hc => ?_)
  · replace h := h.1 hc
    refine qX_iconst dL_drawn_157 (i32_of rfl) ?_
    refine qX_istore_n 3 dL_drawn_158 rfl (Nat.le_of_ble_eq_true rfl) rfl ?_
    exact qX_mask [true, true, true, true, false] h
  · replace h := h.2 hc
    refine qM_aload_n 1 dL_drawn_137 rfl rfl hx1 ?_
    refine qX_bip dL_drawn_138 rfl ?_
    refine qX_iload_n 3 dL_drawn_140 rfl rfl ?_
    refine qR_iadd dL_drawn_141 h.1 ?_
    replace h := h.2
    refine qX_iload_n 2 dL_drawn_142 rfl rfl ?_
    refine qX_iconst dL_drawn_143 (i32_of rfl) ?_
    refine qX_iload_n 3 dL_drawn_144 rfl rfl ?_
    refine qR_imul dL_drawn_145 h.1 ?_
    replace h := h.2
    refine qX_ishr dL_drawn_146 ?_
    refine qX_bip dL_drawn_147 rfl ?_
    refine qX_iand dL_drawn_149 ?_
    refine qX_iast dL_drawn_150 hx1 h.1 ?_
    replace h := h.2
    replace h := h _ rfl
    refine qR_iinc dL_drawn_151 rfl (Nat.le_of_ble_eq_true rfl) rfl h.1 ?_
    replace h := h.2
    refine qX_goto 132 dL_drawn_154 rfl ?_
    exact qX_mask [true, true, true, true, false] h
set_option maxRecDepth 20000 in
theorem w_L_drawn_159 {Post : Int → Rf → Mem → Prop} {ρ : Rf} {μ : Mem} {X : List Sh} {x1 nx1 : Nat} (hx1 : (GX X).2[x1]? = some (10, nx1)) {x2 : Int} {x3 : Int}
  (h : ((2 ≤ x3 → ∃ P : Int → Rf → Mem → Prop, qE mL_cell (GX X) (GX X) [qP sid, qI 6] ρ μ P ∧ ∀ (z1 : Int) (ρ2 : Rf) (μ3 : Mem), P z1 ρ2 μ3 → qX mL_drawn (GX X) Post (GX X) (1, 200) 196 [some (qP sid), some (qP x1), some (qI z1), some (qI 0), none] [] ρ2 μ3) ∧ (x3 < 2 → i32 (40 + x3) ∧ i32 (5 * x3) ∧ i32 (16 + (5 * x3)) ∧ (0 ≤ 40 + x3 ∧ 40 + x3 < nx1) ∧ ∀ μ5, μ5 = up2 μ x1 (40 + x3) (and32 (shr32 x2 (16 + (5 * x3))) 31) → i32 (x3 + 1) ∧ qX mL_drawn (GX X) Post (GX X) (1, 200) 159 [some (qP sid), some (qP x1), some (qI x2), some (qI (x3 + 1)), none] [] ρ μ5))) : qX mL_drawn (GX X) Post (GX X) (1, 200) 159 [some (qP sid), some (qP x1), some (qI x2), some (qI x3), none] [] ρ μ := by
  refine qX_iload_n 3 dL_drawn_159 rfl rfl ?_
  refine qX_iconst dL_drawn_160 (i32_of rfl) ?_
  refine qX_icmp_ge 187 dL_drawn_161 rfl (fun hc => ?_) (fun hc => ?_)
  · replace h := h.1 hc
    refine qX_aload_n 0 dL_drawn_187 rfl rfl (by decide) ?_
    refine qX_bip dL_drawn_188 rfl ?_
    obtain ⟨P, hE4, h⟩ := h
    refine qM_callS mL_cell [_, _] [] dL_drawn_190 cm_L_25 ⟨(Nat.le_of_ble_eq_true rfl), (Nat.le_of_ble_eq_true rfl)⟩ rfl rfl (Nat.le_of_ble_eq_true rfl) ⟨rfl, rfl⟩ ⟨(Nat.le_of_ble_eq_true rfl), (Nat.le_of_ble_eq_true rfl)⟩ hE4 (fun z1 ρ2 μ3 hz => ?_)
    replace h := h _ _ _ hz
    refine qX_istore_n 2 dL_drawn_193 rfl (Nat.le_of_ble_eq_true rfl) rfl ?_
    refine qX_iconst dL_drawn_194 (i32_of rfl) ?_
    refine qX_istore_n 3 dL_drawn_195 rfl (Nat.le_of_ble_eq_true rfl) rfl ?_
    exact qX_mask [true, true, true, true, false] h
  · replace h := h.2 hc
    refine qM_aload_n 1 dL_drawn_164 rfl rfl hx1 ?_
    refine qX_bip dL_drawn_165 rfl ?_
    refine qX_iload_n 3 dL_drawn_167 rfl rfl ?_
    refine qR_iadd dL_drawn_168 h.1 ?_
    replace h := h.2
    refine qX_iload_n 2 dL_drawn_169 rfl rfl ?_
    refine qX_bip dL_drawn_170 rfl ?_
    refine qX_iconst dL_drawn_172 (i32_of rfl) ?_
    refine qX_iload_n 3 dL_drawn_173 rfl rfl ?_
    refine qR_imul dL_drawn_174 h.1 ?_
    replace h := h.2
    refine qR_iadd dL_drawn_175 h.1 ?_
    replace h := h.2
    refine qX_ishr dL_drawn_176 ?_
    refine qX_bip dL_drawn_177 rfl ?_
    refine qX_iand dL_drawn_179 ?_
    refine qX_iast dL_drawn_180 hx1 h.1 ?_
    replace h := h.2
    replace h := h _ rfl
    refine qR_iinc dL_drawn_181 rfl (Nat.le_of_ble_eq_true rfl) rfl h.1 ?_
    replace h := h.2
    refine qX_goto 159 dL_drawn_184 rfl ?_
    exact qX_mask [true, true, true, true, false] h
set_option maxRecDepth 20000 in
theorem w_L_drawn_196 {Post : Int → Rf → Mem → Prop} {ρ : Rf} {μ : Mem} {X : List Sh} {x1 nx1 : Nat} (hx1 : (GX X).2[x1]? = some (10, nx1)) {x2 : Int} {x3 : Int}
  (h : ((4 ≤ x3 → qX mL_drawn (GX X) Post (GX X) (1, 200) 224 [some (qP sid), some (qP x1), none, some (qI 0), none] [] ρ μ) ∧ (x3 < 4 → i32 (42 + x3) ∧ i32 (6 * x3) ∧ (0 ≤ 42 + x3 ∧ 42 + x3 < nx1) ∧ ∀ μ1, μ1 = up2 μ x1 (42 + x3) (and32 (shr32 x2 (6 * x3)) 63) → i32 (x3 + 1) ∧ qX mL_drawn (GX X) Post (GX X) (1, 200) 196 [some (qP sid), some (qP x1), some (qI x2), some (qI (x3 + 1)), none] [] ρ μ1))) : qX mL_drawn (GX X) Post (GX X) (1, 200) 196 [some (qP sid), some (qP x1), some (qI x2), some (qI x3), none] [] ρ μ := by
  refine qX_iload_n 3 dL_drawn_196 rfl rfl ?_
  refine qX_iconst dL_drawn_197 (i32_of rfl) ?_
  refine qX_icmp_ge 222 dL_drawn_198 rfl (fun hc => ?_) (fun hc => ?_)
  · replace h := h.1 hc
    refine qX_iconst dL_drawn_222 (i32_of rfl) ?_
    refine qX_istore_n 3 dL_drawn_223 rfl (Nat.le_of_ble_eq_true rfl) rfl ?_
    exact qX_mask [true, true, false, true, false] h
  · replace h := h.2 hc
    refine qM_aload_n 1 dL_drawn_201 rfl rfl hx1 ?_
    refine qX_bip dL_drawn_202 rfl ?_
    refine qX_iload_n 3 dL_drawn_204 rfl rfl ?_
    refine qR_iadd dL_drawn_205 h.1 ?_
    replace h := h.2
    refine qX_iload_n 2 dL_drawn_206 rfl rfl ?_
    refine qX_bip dL_drawn_207 rfl ?_
    refine qX_iload_n 3 dL_drawn_209 rfl rfl ?_
    refine qR_imul dL_drawn_210 h.1 ?_
    replace h := h.2
    refine qX_ishr dL_drawn_211 ?_
    refine qX_bip dL_drawn_212 rfl ?_
    refine qX_iand dL_drawn_214 ?_
    refine qX_iast dL_drawn_215 hx1 h.1 ?_
    replace h := h.2
    replace h := h _ rfl
    refine qR_iinc dL_drawn_216 rfl (Nat.le_of_ble_eq_true rfl) rfl h.1 ?_
    replace h := h.2
    refine qX_goto 196 dL_drawn_219 rfl ?_
    exact qX_mask [true, true, true, true, false] h
set_option maxRecDepth 20000 in
theorem w_L_drawn_224 {Post : Int → Rf → Mem → Prop} {ρ : Rf} {μ : Mem} {X : List Sh} {x1 nx1 : Nat} (hx1 : (GX X).2[x1]? = some (10, nx1)) {x3 : Int}
  (h : ((3 ≤ x3 → ∃ P : Int → Rf → Mem → Prop, qE mL_cell (GX X) (GX X) [qP sid, qI 10] ρ μ P ∧ ∀ (z1 : Int) (ρ2 : Rf) (μ3 : Mem), P z1 ρ2 μ3 → (0 ≤ and32 z1 7 ∧ 0 < (5 : Int)) ∧ i32 (2 + ((and32 z1 7) % 5)) ∧ (0 ≤ (70 : Int) ∧ (70 : Int) < nx1) ∧ ∀ μ5, μ5 = up2 μ3 x1 70 (2 + ((and32 z1 7) % 5)) → qX mL_drawn (GX X) Post (GX X) (1, 200) 341 [some (qP sid), some (qP x1), none, some (qI 0), none] [] ρ2 μ5) ∧ (x3 < 3 → i32 (7 + x3) ∧ ∃ P : Int → Rf → Mem → Prop, qE mL_cell (GX X) (GX X) [qP sid, qI (7 + x3)] ρ μ P ∧ ∀ (z6 : Int) (ρ7 : Rf) (μ8 : Mem), P z6 ρ7 μ8 → i32 (5 * x3) ∧ i32 (50 + (5 * x3)) ∧ (0 ≤ 50 + (5 * x3) ∧ 50 + (5 * x3) < nx1) ∧ ∀ μ10, μ10 = up2 μ8 x1 (50 + (5 * x3)) (and32 z6 1) → i32 (5 * x3) ∧ i32 (51 + (5 * x3)) ∧ i32 (1 + (and32 (shr32 z6 1) 31)) ∧ (0 ≤ 51 + (5 * x3) ∧ 51 + (5 * x3) < nx1) ∧ ∀ μ11, μ11 = up2 μ10 x1 (51 + (5 * x3)) (1 + (and32 (shr32 z6 1) 31)) → i32 (5 * x3) ∧ i32 (52 + (5 * x3)) ∧ i32 (1 + (and32 (shr32 z6 6) 7)) ∧ (0 ≤ 52 + (5 * x3) ∧ 52 + (5 * x3) < nx1) ∧ ∀ μ12, μ12 = up2 μ11 x1 (52 + (5 * x3)) (1 + (and32 (shr32 z6 6) 7)) → i32 (5 * x3) ∧ i32 (53 + (5 * x3)) ∧ i32 (1 + (and32 (shr32 z6 9) 3)) ∧ (0 ≤ 53 + (5 * x3) ∧ 53 + (5 * x3) < nx1) ∧ ∀ μ13, μ13 = up2 μ12 x1 (53 + (5 * x3)) (1 + (and32 (shr32 z6 9) 3)) → i32 (5 * x3) ∧ i32 (54 + (5 * x3)) ∧ i32 (1 + (and32 (shr32 z6 11) 3)) ∧ (0 ≤ 54 + (5 * x3) ∧ 54 + (5 * x3) < nx1) ∧ ∀ μ14, μ14 = up2 μ13 x1 (54 + (5 * x3)) (1 + (and32 (shr32 z6 11) 3)) → i32 (x3 + 1) ∧ qX mL_drawn (GX X) Post (GX X) (1, 200) 224 [some (qP sid), some (qP x1), none, some (qI (x3 + 1)), none] [] ρ7 μ14))) : qX mL_drawn (GX X) Post (GX X) (1, 200) 224 [some (qP sid), some (qP x1), none, some (qI x3), none] [] ρ μ := by
  refine qX_iload_n 3 dL_drawn_224 rfl rfl ?_
  refine qX_iconst dL_drawn_225 (i32_of rfl) ?_
  refine qX_icmp_ge 320 dL_drawn_226 rfl (fun hc => ?_) (fun hc => ?_)
  · replace h := h.1 hc
    refine qX_aload_n 0 dL_drawn_320 rfl rfl (by decide) ?_
    refine qX_bip dL_drawn_321 rfl ?_
    obtain ⟨P, hE4, h⟩ := h
    refine qM_callS mL_cell [_, _] [] dL_drawn_323 cm_L_25 ⟨(Nat.le_of_ble_eq_true rfl), (Nat.le_of_ble_eq_true rfl)⟩ rfl rfl (Nat.le_of_ble_eq_true rfl) ⟨rfl, rfl⟩ ⟨(Nat.le_of_ble_eq_true rfl), (Nat.le_of_ble_eq_true rfl)⟩ hE4 (fun z1 ρ2 μ3 hz => ?_)
    replace h := h _ _ _ hz
    refine qX_istore_n 2 dL_drawn_326 rfl (Nat.le_of_ble_eq_true rfl) rfl ?_
    refine qM_aload_n 1 dL_drawn_327 rfl rfl hx1 ?_
    refine qX_bip dL_drawn_328 rfl ?_
    refine qX_iconst dL_drawn_330 (i32_of rfl) ?_
    refine qX_iload_n 2 dL_drawn_331 rfl rfl ?_
    refine qX_bip dL_drawn_332 rfl ?_
    refine qX_iand dL_drawn_334 ?_
    refine qX_iconst dL_drawn_335 (i32_of rfl) ?_
    refine qR_irem dL_drawn_336 h.1 ?_
    replace h := h.2
    refine qR_iadd dL_drawn_337 h.1 ?_
    replace h := h.2
    refine qX_iast dL_drawn_338 hx1 h.1 ?_
    replace h := h.2
    replace h := h _ rfl
    refine qX_iconst dL_drawn_339 (i32_of rfl) ?_
    refine qX_istore_n 3 dL_drawn_340 rfl (Nat.le_of_ble_eq_true rfl) rfl ?_
    exact qX_mask [true, true, false, true, false] h
  · replace h := h.2 hc
    refine qX_aload_n 0 dL_drawn_229 rfl rfl (by decide) ?_
    refine qX_bip dL_drawn_230 rfl ?_
    refine qX_iload_n 3 dL_drawn_232 rfl rfl ?_
    refine qR_iadd dL_drawn_233 h.1 ?_
    replace h := h.2
    obtain ⟨P, hE9, h⟩ := h
    refine qM_callS mL_cell [_, _] [] dL_drawn_234 cm_L_25 ⟨(Nat.le_of_ble_eq_true rfl), (Nat.le_of_ble_eq_true rfl)⟩ rfl rfl (Nat.le_of_ble_eq_true rfl) ⟨rfl, rfl⟩ ⟨(Nat.le_of_ble_eq_true rfl), (Nat.le_of_ble_eq_true rfl)⟩ hE9 (fun z6 ρ7 μ8 hz => ?_)
    replace h := h _ _ _ hz
    refine qX_istore_n 2 dL_drawn_237 rfl (Nat.le_of_ble_eq_true rfl) rfl ?_
    refine qM_aload_n 1 dL_drawn_238 rfl rfl hx1 ?_
    refine qX_bip dL_drawn_239 rfl ?_
    refine qX_iconst dL_drawn_241 (i32_of rfl) ?_
    refine qX_iload_n 3 dL_drawn_242 rfl rfl ?_
    refine qR_imul dL_drawn_243 h.1 ?_
    replace h := h.2
    refine qR_iadd dL_drawn_244 h.1 ?_
    replace h := h.2
    refine qX_iload_n 2 dL_drawn_245 rfl rfl ?_
    refine qX_iconst dL_drawn_246 (i32_of rfl) ?_
    refine qX_iand dL_drawn_247 ?_
    refine qX_iast dL_drawn_248 hx1 h.1 ?_
    replace h := h.2
    replace h := h _ rfl
    refine qM_aload_n 1 dL_drawn_249 rfl rfl hx1 ?_
    refine qX_bip dL_drawn_250 rfl ?_
    refine qX_iconst dL_drawn_252 (i32_of rfl) ?_
    refine qX_iload_n 3 dL_drawn_253 rfl rfl ?_
    refine qR_imul dL_drawn_254 h.1 ?_
    replace h := h.2
    refine qR_iadd dL_drawn_255 h.1 ?_
    replace h := h.2
    refine qX_iconst dL_drawn_256 (i32_of rfl) ?_
    refine qX_iload_n 2 dL_drawn_257 rfl rfl ?_
    refine qX_iconst dL_drawn_258 (i32_of rfl) ?_
    refine qX_ishr dL_drawn_259 ?_
    refine qX_bip dL_drawn_260 rfl ?_
    refine qX_iand dL_drawn_262 ?_
    refine qR_iadd dL_drawn_263 h.1 ?_
    replace h := h.2
    refine qX_iast dL_drawn_264 hx1 h.1 ?_
    replace h := h.2
    replace h := h _ rfl
    refine qM_aload_n 1 dL_drawn_265 rfl rfl hx1 ?_
    refine qX_bip dL_drawn_266 rfl ?_
    refine qX_iconst dL_drawn_268 (i32_of rfl) ?_
    refine qX_iload_n 3 dL_drawn_269 rfl rfl ?_
    refine qR_imul dL_drawn_270 h.1 ?_
    replace h := h.2
    refine qR_iadd dL_drawn_271 h.1 ?_
    replace h := h.2
    refine qX_iconst dL_drawn_272 (i32_of rfl) ?_
    refine qX_iload_n 2 dL_drawn_273 rfl rfl ?_
    refine qX_bip dL_drawn_274 rfl ?_
    refine qX_ishr dL_drawn_276 ?_
    refine qX_bip dL_drawn_277 rfl ?_
    refine qX_iand dL_drawn_279 ?_
    refine qR_iadd dL_drawn_280 h.1 ?_
    replace h := h.2
    refine qX_iast dL_drawn_281 hx1 h.1 ?_
    replace h := h.2
    replace h := h _ rfl
    refine qM_aload_n 1 dL_drawn_282 rfl rfl hx1 ?_
    refine qX_bip dL_drawn_283 rfl ?_
    refine qX_iconst dL_drawn_285 (i32_of rfl) ?_
    refine qX_iload_n 3 dL_drawn_286 rfl rfl ?_
    refine qR_imul dL_drawn_287 h.1 ?_
    replace h := h.2
    refine qR_iadd dL_drawn_288 h.1 ?_
    replace h := h.2
    refine qX_iconst dL_drawn_289 (i32_of rfl) ?_
    refine qX_iload_n 2 dL_drawn_290 rfl rfl ?_
    refine qX_bip dL_drawn_291 rfl ?_
    refine qX_ishr dL_drawn_293 ?_
    refine qX_iconst dL_drawn_294 (i32_of rfl) ?_
    refine qX_iand dL_drawn_295 ?_
    refine qR_iadd dL_drawn_296 h.1 ?_
    replace h := h.2
    refine qX_iast dL_drawn_297 hx1 h.1 ?_
    replace h := h.2
    replace h := h _ rfl
    refine qM_aload_n 1 dL_drawn_298 rfl rfl hx1 ?_
    refine qX_bip dL_drawn_299 rfl ?_
    refine qX_iconst dL_drawn_301 (i32_of rfl) ?_
    refine qX_iload_n 3 dL_drawn_302 rfl rfl ?_
    refine qR_imul dL_drawn_303 h.1 ?_
    replace h := h.2
    refine qR_iadd dL_drawn_304 h.1 ?_
    replace h := h.2
    refine qX_iconst dL_drawn_305 (i32_of rfl) ?_
    refine qX_iload_n 2 dL_drawn_306 rfl rfl ?_
    refine qX_bip dL_drawn_307 rfl ?_
    refine qX_ishr dL_drawn_309 ?_
    refine qX_iconst dL_drawn_310 (i32_of rfl) ?_
    refine qX_iand dL_drawn_311 ?_
    refine qR_iadd dL_drawn_312 h.1 ?_
    replace h := h.2
    refine qX_iast dL_drawn_313 hx1 h.1 ?_
    replace h := h.2
    replace h := h _ rfl
    refine qR_iinc dL_drawn_314 rfl (Nat.le_of_ble_eq_true rfl) rfl h.1 ?_
    replace h := h.2
    refine qX_goto 224 dL_drawn_317 rfl ?_
    exact qX_mask [true, true, false, true, false] h
set_option maxRecDepth 20000 in
theorem w_L_drawn_341 {Post : Int → Rf → Mem → Prop} {ρ : Rf} {μ : Mem} {X : List Sh} {x1 nx1 : Nat} (hx1 : (GX X).2[x1]? = some (10, nx1)) {x3 : Int}
  (h : (0 ≤ (70 : Int) ∧ (70 : Int) < nx1) ∧ ((μ x1 70 ≤ x3 → Post ((x1 : Nat) : Int) ρ μ) ∧ (x3 < μ x1 70 → i32 (11 + x3) ∧ ∃ P : Int → Rf → Mem → Prop, qE mL_cell (GX X) (GX X) [qP sid, qI (11 + x3)] ρ μ P ∧ ∀ (z1 : Int) (ρ2 : Rf) (μ3 : Mem), P z1 ρ2 μ3 → i32 (5 * x3) ∧ i32 (71 + (5 * x3)) ∧ (0 ≤ and32 z1 3 ∧ 0 < (3 : Int)) ∧ (0 ≤ 71 + (5 * x3) ∧ 71 + (5 * x3) < nx1) ∧ ∀ μ5, μ5 = up2 μ3 x1 (71 + (5 * x3)) ((and32 z1 3) % 3) → i32 (5 * x3) ∧ i32 (72 + (5 * x3)) ∧ (0 ≤ 72 + (5 * x3) ∧ 72 + (5 * x3) < nx1) ∧ ∀ μ6, μ6 = up2 μ5 x1 (72 + (5 * x3)) (and32 (shr32 z1 2) 1) → i32 (5 * x3) ∧ i32 (73 + (5 * x3)) ∧ (0 ≤ 73 + (5 * x3) ∧ 73 + (5 * x3) < nx1) ∧ ∀ μ7, μ7 = up2 μ6 x1 (73 + (5 * x3)) (and32 (shr32 z1 3) 1) → i32 (5 * x3) ∧ i32 (74 + (5 * x3)) ∧ (0 ≤ 74 + (5 * x3) ∧ 74 + (5 * x3) < nx1) ∧ ∀ μ8, μ8 = up2 μ7 x1 (74 + (5 * x3)) (and32 (shr32 z1 4) 1) → i32 (5 * x3) ∧ i32 (75 + (5 * x3)) ∧ i32 (1 + (and32 (shr32 z1 5) 31)) ∧ (0 ≤ 75 + (5 * x3) ∧ 75 + (5 * x3) < nx1) ∧ ∀ μ9, μ9 = up2 μ8 x1 (75 + (5 * x3)) (1 + (and32 (shr32 z1 5) 31)) → i32 (x3 + 1) ∧ qX mL_drawn (GX X) Post (GX X) (1, 200) 341 [some (qP sid), some (qP x1), none, some (qI (x3 + 1)), none] [] ρ2 μ9))) : qX mL_drawn (GX X) Post (GX X) (1, 200) 341 [some (qP sid), some (qP x1), none, some (qI x3), none] [] ρ μ := by
  refine qX_iload_n 3 dL_drawn_341 rfl rfl ?_
  refine qM_aload_n 1 dL_drawn_342 rfl rfl hx1 ?_
  refine qX_bip dL_drawn_343 rfl ?_
  refine qX_iald dL_drawn_345 hx1 h.1 ?_
  replace h := h.2
  refine qX_icmp_ge 438 dL_drawn_346 rfl (fun hc => ?_) (fun hc => ?_)
  · replace h := h.1 hc
    refine qM_aload_n 1 dL_drawn_438 rfl rfl hx1 ?_
    exact qM_areturn rfl dL_drawn_439 rfl ⟨(Nat.le_of_ble_eq_true rfl), (Nat.le_of_ble_eq_true rfl)⟩ hx1 h
  · replace h := h.2 hc
    refine qX_aload_n 0 dL_drawn_349 rfl rfl (by decide) ?_
    refine qX_bip dL_drawn_350 rfl ?_
    refine qX_iload_n 3 dL_drawn_352 rfl rfl ?_
    refine qR_iadd dL_drawn_353 h.1 ?_
    replace h := h.2
    obtain ⟨P, hE4, h⟩ := h
    refine qM_callS mL_cell [_, _] [] dL_drawn_354 cm_L_25 ⟨(Nat.le_of_ble_eq_true rfl), (Nat.le_of_ble_eq_true rfl)⟩ rfl rfl (Nat.le_of_ble_eq_true rfl) ⟨rfl, rfl⟩ ⟨(Nat.le_of_ble_eq_true rfl), (Nat.le_of_ble_eq_true rfl)⟩ hE4 (fun z1 ρ2 μ3 hz => ?_)
    replace h := h _ _ _ hz
    refine qX_istore dL_drawn_357 (Nat.le_of_ble_eq_true rfl) rfl ?_
    refine qM_aload_n 1 dL_drawn_359 rfl rfl hx1 ?_
    refine qX_bip dL_drawn_360 rfl ?_
    refine qX_iconst dL_drawn_362 (i32_of rfl) ?_
    refine qX_iload_n 3 dL_drawn_363 rfl rfl ?_
    refine qR_imul dL_drawn_364 h.1 ?_
    replace h := h.2
    refine qR_iadd dL_drawn_365 h.1 ?_
    replace h := h.2
    refine qX_iload dL_drawn_366 rfl ?_
    refine qX_iconst dL_drawn_368 (i32_of rfl) ?_
    refine qX_iand dL_drawn_369 ?_
    refine qX_iconst dL_drawn_370 (i32_of rfl) ?_
    refine qR_irem dL_drawn_371 h.1 ?_
    replace h := h.2
    refine qX_iast dL_drawn_372 hx1 h.1 ?_
    replace h := h.2
    replace h := h _ rfl
    refine qM_aload_n 1 dL_drawn_373 rfl rfl hx1 ?_
    refine qX_bip dL_drawn_374 rfl ?_
    refine qX_iconst dL_drawn_376 (i32_of rfl) ?_
    refine qX_iload_n 3 dL_drawn_377 rfl rfl ?_
    refine qR_imul dL_drawn_378 h.1 ?_
    replace h := h.2
    refine qR_iadd dL_drawn_379 h.1 ?_
    replace h := h.2
    refine qX_iload dL_drawn_380 rfl ?_
    refine qX_iconst dL_drawn_382 (i32_of rfl) ?_
    refine qX_ishr dL_drawn_383 ?_
    refine qX_iconst dL_drawn_384 (i32_of rfl) ?_
    refine qX_iand dL_drawn_385 ?_
    refine qX_iast dL_drawn_386 hx1 h.1 ?_
    replace h := h.2
    replace h := h _ rfl
    refine qM_aload_n 1 dL_drawn_387 rfl rfl hx1 ?_
    refine qX_bip dL_drawn_388 rfl ?_
    refine qX_iconst dL_drawn_390 (i32_of rfl) ?_
    refine qX_iload_n 3 dL_drawn_391 rfl rfl ?_
    refine qR_imul dL_drawn_392 h.1 ?_
    replace h := h.2
    refine qR_iadd dL_drawn_393 h.1 ?_
    replace h := h.2
    refine qX_iload dL_drawn_394 rfl ?_
    refine qX_iconst dL_drawn_396 (i32_of rfl) ?_
    refine qX_ishr dL_drawn_397 ?_
    refine qX_iconst dL_drawn_398 (i32_of rfl) ?_
    refine qX_iand dL_drawn_399 ?_
    refine qX_iast dL_drawn_400 hx1 h.1 ?_
    replace h := h.2
    replace h := h _ rfl
    refine qM_aload_n 1 dL_drawn_401 rfl rfl hx1 ?_
    refine qX_bip dL_drawn_402 rfl ?_
    refine qX_iconst dL_drawn_404 (i32_of rfl) ?_
    refine qX_iload_n 3 dL_drawn_405 rfl rfl ?_
    refine qR_imul dL_drawn_406 h.1 ?_
    replace h := h.2
    refine qR_iadd dL_drawn_407 h.1 ?_
    replace h := h.2
    refine qX_iload dL_drawn_408 rfl ?_
    refine qX_iconst dL_drawn_410 (i32_of rfl) ?_
    refine qX_ishr dL_drawn_411 ?_
    refine qX_iconst dL_drawn_412 (i32_of rfl) ?_
    refine qX_iand dL_drawn_413 ?_
    refine qX_iast dL_drawn_414 hx1 h.1 ?_
    replace h := h.2
    replace h := h _ rfl
    refine qM_aload_n 1 dL_drawn_415 rfl rfl hx1 ?_
    refine qX_bip dL_drawn_416 rfl ?_
    refine qX_iconst dL_drawn_418 (i32_of rfl) ?_
    refine qX_iload_n 3 dL_drawn_419 rfl rfl ?_
    refine qR_imul dL_drawn_420 h.1 ?_
    replace h := h.2
    refine qR_iadd dL_drawn_421 h.1 ?_
    replace h := h.2
    refine qX_iconst dL_drawn_422 (i32_of rfl) ?_
    refine qX_iload dL_drawn_423 rfl ?_
    refine qX_iconst dL_drawn_425 (i32_of rfl) ?_
    refine qX_ishr dL_drawn_426 ?_
    refine qX_bip dL_drawn_427 rfl ?_
    refine qX_iand dL_drawn_429 ?_
    refine qR_iadd dL_drawn_430 h.1 ?_
    replace h := h.2
    refine qX_iast dL_drawn_431 hx1 h.1 ?_
    replace h := h.2
    replace h := h _ rfl
    refine qR_iinc dL_drawn_432 rfl (Nat.le_of_ble_eq_true rfl) rfl h.1 ?_
    replace h := h.2
    refine qX_goto 341 dL_drawn_435 rfl ?_
    exact qX_mask [true, true, false, true, false] h
set_option maxRecDepth 20000 in
theorem e_L_part {Post : Int → Rf → Mem → Prop} {ρ : Rf} {μ : Mem} {X : List Sh} {x1 nx1 : Nat} (hx1 : (GX X).2[x1]? = some (10, nx1)) {x2 : Int}
  (h : ∃ P : Int → Rf → Mem → Prop, qE mL_put (GX X) (GX X) [qP 0, qP x1, qI 32] ρ μ P ∧ ∀ (z1 : Int) (ρ2 : Rf) (μ3 : Mem), P z1 ρ2 μ3 → ∃ P : Int → Rf → Mem → Prop, qE mL_number (GX X) (GX X) [qP 0, qP x1, qI x2] ρ2 μ3 P ∧ ∀ (z5 : Int) (ρ6 : Rf) (μ7 : Mem), P z5 ρ6 μ7 → Post 0 ρ6 μ7) : qE mL_part (GX X) (GX X) [qP 0, qP x1, qI x2] ρ μ Post := by
  refine qE_intro pl_L_part (Nat.le_of_ble_eq_true rfl) (Nat.le_refl _) ?_
  refine qM_aload_n 0 dL_part_0 rfl rfl shX0 ?_
  refine qM_aload_n 1 dL_part_1 rfl rfl hx1 ?_
  refine qX_bip dL_part_2 rfl ?_
  obtain ⟨P, hE4, h⟩ := h
  refine qM_callS mL_put [_, _, _] [] dL_part_4 cm_L_21 ⟨(Nat.le_of_ble_eq_true rfl), (Nat.le_of_ble_eq_true rfl)⟩ rfl rfl (Nat.le_of_ble_eq_true rfl) ⟨rfl, rfl⟩ ⟨(Nat.le_of_ble_eq_true rfl), (Nat.le_of_ble_eq_true rfl)⟩ hE4 (fun z1 ρ2 μ3 hz => ?_)
  replace h := h _ _ _ hz
  refine qM_aload_n 0 dL_part_7 rfl rfl shX0 ?_
  refine qM_aload_n 1 dL_part_8 rfl rfl hx1 ?_
  refine qX_iload_n 2 dL_part_9 rfl rfl ?_
  obtain ⟨P, hE8, h⟩ := h
  refine qM_callS mL_number [_, _, _] [] dL_part_10 cm_L_29 ⟨(Nat.le_of_ble_eq_true rfl), (Nat.le_of_ble_eq_true rfl)⟩ rfl rfl (Nat.le_of_ble_eq_true rfl) ⟨rfl, rfl⟩ ⟨(Nat.le_of_ble_eq_true rfl), (Nat.le_of_ble_eq_true rfl)⟩ hE8 (fun z5 ρ6 μ7 hz => ?_)
  replace h := h _ _ _ hz
  exact qX_return rfl dL_part_13 rfl ⟨(Nat.le_of_ble_eq_true rfl), (Nat.le_of_ble_eq_true rfl)⟩ h
set_option maxRecDepth 20000 in
theorem e_L_mealName {Post : Int → Rf → Mem → Prop} {ρ : Rf} {μ : Mem} {X : List Sh} {x1 nx1 : Nat} (hx1 : (GX X).2[x1]? = some (10, nx1)) {x2 : Int}
  (h : ((x2 ≠ 0 → ∃ P : Int → Rf → Mem → Prop, qE mL_say (GX X) (GX X) [qP 0, qP x1, qJ 139358462821] ρ μ P ∧ ∀ (z1 : Int) (ρ2 : Rf) (μ3 : Mem), P z1 ρ2 μ3 → Post 0 ρ2 μ3) ∧ (x2 = 0 → ∃ P : Int → Rf → Mem → Prop, qE mL_say (GX X) (GX X) [qP 0, qP x1, qJ 544499041] ρ μ P ∧ ∀ (z5 : Int) (ρ6 : Rf) (μ7 : Mem), P z5 ρ6 μ7 → Post 0 ρ6 μ7))) : qE mL_mealName (GX X) (GX X) [qP 0, qP x1, qI x2] ρ μ Post := by
  refine qE_intro pl_L_mealName (Nat.le_of_ble_eq_true rfl) (Nat.le_refl _) ?_
  refine qX_iload_n 2 dL_mealName_0 rfl rfl ?_
  refine qX_if_ne 15 dL_mealName_1 rfl (fun hc => ?_) (fun hc => ?_)
  · replace h := h.1 hc
    refine qM_aload_n 0 dL_mealName_15 rfl rfl shX0 ?_
    refine qM_aload_n 1 dL_mealName_16 rfl rfl hx1 ?_
    refine qX_ldc2 (n := 139358462821) dL_mealName_17 kK_L_38 (i64_of rfl) ?_
    obtain ⟨P, hE4, h⟩ := h
    refine qM_callS mL_say [_, _, _] [] dL_mealName_20 cm_L_34 ⟨(Nat.le_of_ble_eq_true rfl), (Nat.le_of_ble_eq_true rfl)⟩ rfl rfl (Nat.le_of_ble_eq_true rfl) ⟨rfl, rfl⟩ ⟨(Nat.le_of_ble_eq_true rfl), (Nat.le_of_ble_eq_true rfl)⟩ hE4 (fun z1 ρ2 μ3 hz => ?_)
    replace h := h _ _ _ hz
    exact qX_return rfl dL_mealName_23 rfl ⟨(Nat.le_of_ble_eq_true rfl), (Nat.le_of_ble_eq_true rfl)⟩ h
  · replace h := h.2 hc
    refine qM_aload_n 0 dL_mealName_4 rfl rfl shX0 ?_
    refine qM_aload_n 1 dL_mealName_5 rfl rfl hx1 ?_
    refine qX_ldc2 (n := 544499041) dL_mealName_6 kK_L_32 (i64_of rfl) ?_
    obtain ⟨P, hE8, h⟩ := h
    refine qM_callS mL_say [_, _, _] [] dL_mealName_9 cm_L_34 ⟨(Nat.le_of_ble_eq_true rfl), (Nat.le_of_ble_eq_true rfl)⟩ rfl rfl (Nat.le_of_ble_eq_true rfl) ⟨rfl, rfl⟩ ⟨(Nat.le_of_ble_eq_true rfl), (Nat.le_of_ble_eq_true rfl)⟩ hE8 (fun z5 ρ6 μ7 hz => ?_)
    replace h := h _ _ _ hz
    refine qX_goto 23 dL_mealName_12 rfl ?_
    exact qX_return rfl dL_mealName_23 rfl ⟨(Nat.le_of_ble_eq_true rfl), (Nat.le_of_ble_eq_true rfl)⟩ h
