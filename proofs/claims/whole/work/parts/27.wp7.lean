/-! ===== conditions of the methods, from cut to cut (generated, part 7) ===== -/
set_option maxRecDepth 20000 in
theorem e_X8_addJob {Post : Int → Rf → Mem → Prop} {ρ : Rf} {μ : Mem} {x1 : Int} {x2 : Int} {x3 : Int} {x4 : Int} {x5 : Int}
  (h : ∀ μ1, μ1 = up2 μ 178 0 0 → ∃ P : Int → Rf → Mem → Prop, qE mX8_isTrolley GG GG [qP 178, qI x1] ρ μ1 P ∧ ∀ (z2 : Int) (ρ3 : Rf) (μ4 : Mem), P z2 ρ3 μ4 → ((z2 = 0 → ∃ P : Int → Rf → Mem → Prop, qE mX8_failed GG GG [qP 178, qI 1] ρ3 μ4 P ∧ ∀ (z6 : Int) (ρ7 : Rf) (μ8 : Mem), P z6 ρ7 μ8 → Post z6 ρ7 μ8) ∧ (z2 ≠ 0 → ∃ P : Int → Rf → Mem → Prop, qE mX8_isCar GG GG [qP 178, qI x2, qI x3] ρ3 μ4 P ∧ ∀ (z10 : Int) (ρ11 : Rf) (μ12 : Mem), P z10 ρ11 μ12 → ((z10 = 0 → ∃ P : Int → Rf → Mem → Prop, qE mX8_failed GG GG [qP 178, qI 1] ρ11 μ12 P ∧ ∀ (z14 : Int) (ρ15 : Rf) (μ16 : Mem), P z14 ρ15 μ16 → Post z14 ρ15 μ16) ∧ (z10 ≠ 0 → ∃ P : Int → Rf → Mem → Prop, qE mX8_isMeal GG GG [qP 178, qI x4] ρ11 μ12 P ∧ ∀ (z18 : Int) (ρ19 : Rf) (μ20 : Mem), P z18 ρ19 μ20 → ((z18 ≠ 0 → ∃ P : Int → Rf → Mem → Prop, qE mX8_in GG GG [qI x5, qI 1, qI 99] ρ19 μ20 P ∧ ∀ (z22 : Int) (ρ23 : Rf) (μ24 : Mem), P z22 ρ23 μ24 → ((z22 ≠ 0 → ((μ24 180 87 = 20 → ∃ P : Int → Rf → Mem → Prop, qE mX8_failed GG GG [qP 178, qI 3] ρ23 μ24 P ∧ ∀ (z26 : Int) (ρ27 : Rf) (μ28 : Mem), P z26 ρ27 μ28 → Post z26 ρ27 μ28) ∧ (μ24 180 87 ≠ 20 → ∃ P : Int → Rf → Mem → Prop, qE mX8_jobsOf GG GG [qP 180, qI x1] ρ23 μ24 P ∧ ∀ (z30 : Int) (ρ31 : Rf) (μ32 : Mem), P z30 ρ31 μ32 → ((z30 ≠ 8 → ∃ P : Int → Rf → Mem → Prop, qE mX8_remember GG GG [qP 178] ρ31 μ32 P ∧ ∀ (z34 : Int) (ρ35 : Rf) (μ36 : Mem), P z34 ρ35 μ36 → ∃ P : Int → Rf → Mem → Prop, qE mX8_layJob GG GG [qP 180, qI (μ36 180 87), qI x1, qI x2, qI x3, qI x4, qI x5] ρ35 μ36 P ∧ ∀ (z38 : Int) (ρ39 : Rf) (μ40 : Mem), P z38 ρ39 μ40 → i32 ((μ40 180 87) + 1) ∧ ∀ μ42, μ42 = up2 μ40 180 87 ((μ40 180 87) + 1) → ∃ P : Int → Rf → Mem → Prop, qE mX8_done GG GG [qP 178, qI (μ42 180 87)] ρ39 μ42 P ∧ ∀ (z43 : Int) (ρ44 : Rf) (μ45 : Mem), P z43 ρ44 μ45 → Post z43 ρ44 μ45) ∧ (z30 = 8 → ∃ P : Int → Rf → Mem → Prop, qE mX8_failed GG GG [qP 178, qI 3] ρ31 μ32 P ∧ ∀ (z47 : Int) (ρ48 : Rf) (μ49 : Mem), P z47 ρ48 μ49 → Post z47 ρ48 μ49))))) ∧ (z22 = 0 → ∃ P : Int → Rf → Mem → Prop, qE mX8_failed GG GG [qP 178, qI 2] ρ23 μ24 P ∧ ∀ (z51 : Int) (ρ52 : Rf) (μ53 : Mem), P z51 ρ52 μ53 → Post z51 ρ52 μ53))) ∧ (z18 = 0 → ∃ P : Int → Rf → Mem → Prop, qE mX8_failed GG GG [qP 178, qI 1] ρ19 μ20 P ∧ ∀ (z55 : Int) (ρ56 : Rf) (μ57 : Mem), P z55 ρ56 μ57 → Post z55 ρ56 μ57))))))) : qE mX8_addJob GG GG [qP 178, qI x1, qI x2, qI x3, qI x4, qI x5] ρ μ Post := by
  refine qE_intro pl_X8_addJob (Nat.le_of_ble_eq_true rfl) (Nat.le_refl _) ?_
  refine qX_aload_n 0 dX8_addJob_0 rfl rfl (by decide) ?_
  refine qX_iconst dX8_addJob_1 (i32_of rfl) ?_
  refine qX_putI 8 0 _ dX8_addJob_2 fs_X8_103 sh178 ?_
  replace h := h _ rfl
  refine qX_aload_n 0 dX8_addJob_5 rfl rfl (by decide) ?_
  refine qX_iload_n 1 dX8_addJob_6 rfl rfl ?_
  obtain ⟨P, hE5, h⟩ := h
  refine qN_callV mX8_isTrolley [_] _ 8 [] dX8_addJob_7 cm_X8_330 ⟨(Nat.le_of_ble_eq_true rfl), (Nat.le_of_ble_eq_true rfl)⟩ rfl rfl sh178 (Nat.le_of_ble_eq_true rfl) ⟨rfl, rfl⟩ hE5 (fun z2 ρ3 μ4 hz => ?_)
  replace h := h _ _ _ hz
  refine qX_if_eq 31 dX8_addJob_10 rfl (fun hc => ?_) (fun hc => ?_)
  · replace h := h.1 hc
    refine qX_aload_n 0 dX8_addJob_31 rfl rfl (by decide) ?_
    refine qX_iconst dX8_addJob_32 (i32_of rfl) ?_
    obtain ⟨P, hE9, h⟩ := h
    refine qN_callV mX8_failed [_] _ 8 [] dX8_addJob_33 cm_X8_226 ⟨(Nat.le_of_ble_eq_true rfl), (Nat.le_of_ble_eq_true rfl)⟩ rfl rfl sh178 (Nat.le_of_ble_eq_true rfl) ⟨rfl, rfl⟩ hE9 (fun z6 ρ7 μ8 hz => ?_)
    replace h := h _ _ _ hz
    exact qX_ireturn rfl dX8_addJob_36 rfl ⟨Nat.le_refl _, Nat.le_refl _⟩ h
  · replace h := h.2 hc
    refine qX_aload_n 0 dX8_addJob_13 rfl rfl (by decide) ?_
    refine qX_iload_n 2 dX8_addJob_14 rfl rfl ?_
    refine qX_iload_n 3 dX8_addJob_15 rfl rfl ?_
    obtain ⟨P, hE13, h⟩ := h
    refine qN_callV mX8_isCar [_, _] _ 8 [] dX8_addJob_16 cm_X8_267 ⟨(Nat.le_of_ble_eq_true rfl), (Nat.le_of_ble_eq_true rfl)⟩ rfl rfl sh178 (Nat.le_of_ble_eq_true rfl) ⟨rfl, rfl⟩ hE13 (fun z10 ρ11 μ12 hz => ?_)
    replace h := h _ _ _ hz
    refine qX_if_eq 31 dX8_addJob_19 rfl (fun hc => ?_) (fun hc => ?_)
    · replace h := h.1 hc
      refine qX_aload_n 0 dX8_addJob_31 rfl rfl (by decide) ?_
      refine qX_iconst dX8_addJob_32 (i32_of rfl) ?_
      obtain ⟨P, hE17, h⟩ := h
      refine qN_callV mX8_failed [_] _ 8 [] dX8_addJob_33 cm_X8_226 ⟨(Nat.le_of_ble_eq_true rfl), (Nat.le_of_ble_eq_true rfl)⟩ rfl rfl sh178 (Nat.le_of_ble_eq_true rfl) ⟨rfl, rfl⟩ hE17 (fun z14 ρ15 μ16 hz => ?_)
      replace h := h _ _ _ hz
      exact qX_ireturn rfl dX8_addJob_36 rfl ⟨Nat.le_refl _, Nat.le_refl _⟩ h
    · replace h := h.2 hc
      refine qX_aload_n 0 dX8_addJob_22 rfl rfl (by decide) ?_
      refine qX_iload dX8_addJob_23 rfl ?_
      obtain ⟨P, hE21, h⟩ := h
      refine qN_callV mX8_isMeal [_] _ 8 [] dX8_addJob_25 cm_X8_260 ⟨(Nat.le_of_ble_eq_true rfl), (Nat.le_of_ble_eq_true rfl)⟩ rfl rfl sh178 (Nat.le_of_ble_eq_true rfl) ⟨rfl, rfl⟩ hE21 (fun z18 ρ19 μ20 hz => ?_)
      replace h := h _ _ _ hz
      refine qX_if_ne 37 dX8_addJob_28 rfl (fun hc => ?_) (fun hc => ?_)
      · replace h := h.1 hc
        refine qX_iload dX8_addJob_37 rfl ?_
        refine qX_iconst dX8_addJob_39 (i32_of rfl) ?_
        refine qX_bip dX8_addJob_40 rfl ?_
        obtain ⟨P, hE25, h⟩ := h
        refine qN_callS mX8_in [_, _, _] [] dX8_addJob_42 cm_X8_142 ⟨(Nat.le_of_ble_eq_true rfl), (Nat.le_of_ble_eq_true rfl)⟩ rfl rfl (Nat.le_of_ble_eq_true rfl) ⟨rfl, rfl⟩ hE25 (fun z22 ρ23 μ24 hz => ?_)
        replace h := h _ _ _ hz
        refine qX_if_ne 54 dX8_addJob_45 rfl (fun hc => ?_) (fun hc => ?_)
        · replace h := h.1 hc
          refine qX_aload_n 0 dX8_addJob_54 rfl rfl (by decide) ?_
          refine qX_getS 8 12 _ 1 dX8_addJob_55 fs_X8_17 rfl rfl sh178 (x := 180) rfl ?_
          refine qX_bip dX8_addJob_58 rfl ?_
          refine qX_iald dX8_addJob_60 sh180 ⟨by decide, by decide⟩ ?_
          refine qX_bip dX8_addJob_61 rfl ?_
          refine qX_icmp_eq 79 dX8_addJob_63 rfl (fun hc => ?_) (fun hc => ?_)
          · replace h := h.1 hc
            refine qX_aload_n 0 dX8_addJob_79 rfl rfl (by decide) ?_
            refine qX_iconst dX8_addJob_80 (i32_of rfl) ?_
            obtain ⟨P, hE29, h⟩ := h
            refine qN_callV mX8_failed [_] _ 8 [] dX8_addJob_81 cm_X8_226 ⟨(Nat.le_of_ble_eq_true rfl), (Nat.le_of_ble_eq_true rfl)⟩ rfl rfl sh178 (Nat.le_of_ble_eq_true rfl) ⟨rfl, rfl⟩ hE29 (fun z26 ρ27 μ28 hz => ?_)
            replace h := h _ _ _ hz
            exact qX_ireturn rfl dX8_addJob_84 rfl ⟨Nat.le_refl _, Nat.le_refl _⟩ h
          · replace h := h.2 hc
            refine qX_aload_n 0 dX8_addJob_66 rfl rfl (by decide) ?_
            refine qX_getS 8 12 _ 1 dX8_addJob_67 fs_X8_17 rfl rfl sh178 (x := 180) rfl ?_
            refine qX_iload_n 1 dX8_addJob_70 rfl rfl ?_
            obtain ⟨P, hE33, h⟩ := h
            refine qN_callS mX8_jobsOf [_, _] [] dX8_addJob_71 cm_X8_194 ⟨(Nat.le_of_ble_eq_true rfl), (Nat.le_of_ble_eq_true rfl)⟩ rfl rfl (Nat.le_of_ble_eq_true rfl) ⟨rfl, rfl⟩ hE33 (fun z30 ρ31 μ32 hz => ?_)
            replace h := h _ _ _ hz
            refine qX_bip dX8_addJob_74 rfl ?_
            refine qX_icmp_ne 85 dX8_addJob_76 rfl (fun hc => ?_) (fun hc => ?_)
            · replace h := h.1 hc
              refine qX_aload_n 0 dX8_addJob_85 rfl rfl (by decide) ?_
              obtain ⟨P, hE37, h⟩ := h
              refine qN_callV mX8_remember [] _ 8 [] dX8_addJob_86 cm_X8_404 ⟨(Nat.le_of_ble_eq_true rfl), (Nat.le_of_ble_eq_true rfl)⟩ rfl rfl sh178 (Nat.le_of_ble_eq_true rfl) ⟨rfl, rfl⟩ hE37 (fun z34 ρ35 μ36 hz => ?_)
              replace h := h _ _ _ hz
              refine qX_aload_n 0 dX8_addJob_89 rfl rfl (by decide) ?_
              refine qX_getS 8 12 _ 1 dX8_addJob_90 fs_X8_17 rfl rfl sh178 (x := 180) rfl ?_
              refine qX_aload_n 0 dX8_addJob_93 rfl rfl (by decide) ?_
              refine qX_getS 8 12 _ 1 dX8_addJob_94 fs_X8_17 rfl rfl sh178 (x := 180) rfl ?_
              refine qX_bip dX8_addJob_97 rfl ?_
              refine qX_iald dX8_addJob_99 sh180 ⟨by decide, by decide⟩ ?_
              refine qX_iload_n 1 dX8_addJob_100 rfl rfl ?_
              refine qX_iload_n 2 dX8_addJob_101 rfl rfl ?_
              refine qX_iload_n 3 dX8_addJob_102 rfl rfl ?_
              refine qX_iload dX8_addJob_103 rfl ?_
              refine qX_iload dX8_addJob_105 rfl ?_
              obtain ⟨P, hE41, h⟩ := h
              refine qN_callS mX8_layJob [_, _, _, _, _, _, _] [] dX8_addJob_107 cm_X8_198 ⟨(Nat.le_of_ble_eq_true rfl), (Nat.le_of_ble_eq_true rfl)⟩ rfl rfl (Nat.le_of_ble_eq_true rfl) ⟨rfl, rfl⟩ hE41 (fun z38 ρ39 μ40 hz => ?_)
              replace h := h _ _ _ hz
              refine qX_aload_n 0 dX8_addJob_110 rfl rfl (by decide) ?_
              refine qX_getS 8 12 _ 1 dX8_addJob_111 fs_X8_17 rfl rfl sh178 (x := 180) rfl ?_
              refine qX_bip dX8_addJob_114 rfl ?_
              refine qX_dup2 dX8_addJob_116 rfl rfl ?_
              refine qX_iald dX8_addJob_117 sh180 ⟨by decide, by decide⟩ ?_
              refine qX_iconst dX8_addJob_118 (i32_of rfl) ?_
              refine qR_iadd dX8_addJob_119 h.1 ?_
              replace h := h.2
              refine qX_iast dX8_addJob_120 sh180 ⟨by decide, by decide⟩ ?_
              replace h := h _ rfl
              refine qX_aload_n 0 dX8_addJob_121 rfl rfl (by decide) ?_
              refine qX_aload_n 0 dX8_addJob_122 rfl rfl (by decide) ?_
              refine qX_getS 8 12 _ 1 dX8_addJob_123 fs_X8_17 rfl rfl sh178 (x := 180) rfl ?_
              refine qX_bip dX8_addJob_126 rfl ?_
              refine qX_iald dX8_addJob_128 sh180 ⟨by decide, by decide⟩ ?_
              obtain ⟨P, hE46, h⟩ := h
              refine qN_callV mX8_done [_] _ 8 [] dX8_addJob_129 cm_X8_246 ⟨(Nat.le_of_ble_eq_true rfl), (Nat.le_of_ble_eq_true rfl)⟩ rfl rfl sh178 (Nat.le_of_ble_eq_true rfl) ⟨rfl, rfl⟩ hE46 (fun z43 ρ44 μ45 hz => ?_)
              replace h := h _ _ _ hz
              exact qX_ireturn rfl dX8_addJob_132 rfl ⟨Nat.le_refl _, Nat.le_refl _⟩ h
            · replace h := h.2 hc
              refine qX_aload_n 0 dX8_addJob_79 rfl rfl (by decide) ?_
              refine qX_iconst dX8_addJob_80 (i32_of rfl) ?_
              obtain ⟨P, hE50, h⟩ := h
              refine qN_callV mX8_failed [_] _ 8 [] dX8_addJob_81 cm_X8_226 ⟨(Nat.le_of_ble_eq_true rfl), (Nat.le_of_ble_eq_true rfl)⟩ rfl rfl sh178 (Nat.le_of_ble_eq_true rfl) ⟨rfl, rfl⟩ hE50 (fun z47 ρ48 μ49 hz => ?_)
              replace h := h _ _ _ hz
              exact qX_ireturn rfl dX8_addJob_84 rfl ⟨Nat.le_refl _, Nat.le_refl _⟩ h
        · replace h := h.2 hc
          refine qX_aload_n 0 dX8_addJob_48 rfl rfl (by decide) ?_
          refine qX_iconst dX8_addJob_49 (i32_of rfl) ?_
          obtain ⟨P, hE54, h⟩ := h
          refine qN_callV mX8_failed [_] _ 8 [] dX8_addJob_50 cm_X8_226 ⟨(Nat.le_of_ble_eq_true rfl), (Nat.le_of_ble_eq_true rfl)⟩ rfl rfl sh178 (Nat.le_of_ble_eq_true rfl) ⟨rfl, rfl⟩ hE54 (fun z51 ρ52 μ53 hz => ?_)
          replace h := h _ _ _ hz
          exact qX_ireturn rfl dX8_addJob_53 rfl ⟨Nat.le_refl _, Nat.le_refl _⟩ h
      · replace h := h.2 hc
        refine qX_aload_n 0 dX8_addJob_31 rfl rfl (by decide) ?_
        refine qX_iconst dX8_addJob_32 (i32_of rfl) ?_
        obtain ⟨P, hE58, h⟩ := h
        refine qN_callV mX8_failed [_] _ 8 [] dX8_addJob_33 cm_X8_226 ⟨(Nat.le_of_ble_eq_true rfl), (Nat.le_of_ble_eq_true rfl)⟩ rfl rfl sh178 (Nat.le_of_ble_eq_true rfl) ⟨rfl, rfl⟩ hE58 (fun z55 ρ56 μ57 hz => ?_)
        replace h := h _ _ _ hz
        exact qX_ireturn rfl dX8_addJob_36 rfl ⟨Nat.le_refl _, Nat.le_refl _⟩ h
set_option maxRecDepth 20000 in
theorem e_X8_dropJob {Post : Int → Rf → Mem → Prop} {ρ : Rf} {μ : Mem} {x1 : Int}
  (h : i32 (5 * x1) ∧ i32 (88 + (5 * x1)) ∧ qX mX8_dropJob GG Post GG (0, 0) 7 [some (qP 178), none, some (qI (88 + (5 * x1)))] [] ρ μ) : qE mX8_dropJob GG GG [qP 178, qI x1] ρ μ Post := by
  refine qE_intro pl_X8_dropJob (Nat.le_of_ble_eq_true rfl) (Nat.le_refl _) ?_
  refine qX_bip dX8_dropJob_0 rfl ?_
  refine qX_iconst dX8_dropJob_2 (i32_of rfl) ?_
  refine qX_iload_n 1 dX8_dropJob_3 rfl rfl ?_
  refine qR_imul dX8_dropJob_4 h.1 ?_
  replace h := h.2
  refine qR_iadd dX8_dropJob_5 h.1 ?_
  replace h := h.2
  refine qX_istore_n 2 dX8_dropJob_6 rfl (Nat.le_of_ble_eq_true rfl) rfl ?_
  exact qX_mask [true, false, true] h
set_option maxRecDepth 20000 in
theorem w_X8_dropJob_7 {Post : Int → Rf → Mem → Prop} {ρ : Rf} {μ : Mem} {x2 : Int}
  (h : i32 ((μ 180 87) - 1) ∧ i32 (5 * ((μ 180 87) - 1)) ∧ i32 (88 + (5 * ((μ 180 87) - 1))) ∧ ((88 + (5 * ((μ 180 87) - 1)) ≤ x2 → i32 ((μ 180 87) - 1) ∧ ∀ μ1, μ1 = up2 μ 180 87 ((μ 180 87) - 1) → Post 0 ρ μ1) ∧ (x2 < 88 + (5 * ((μ 180 87) - 1)) → i32 (x2 + 5) ∧ (0 ≤ x2 + 5 ∧ x2 + 5 < 188) ∧ (0 ≤ x2 ∧ x2 < 188) ∧ ∀ μ2, μ2 = up2 μ 180 x2 (μ 180 (x2 + 5)) → i32 (x2 + 1) ∧ qX mX8_dropJob GG Post GG (0, 0) 7 [some (qP 178), none, some (qI (x2 + 1))] [] ρ μ2))) : qX mX8_dropJob GG Post GG (0, 0) 7 [some (qP 178), none, some (qI x2)] [] ρ μ := by
  refine qX_iload_n 2 dX8_dropJob_7 rfl rfl ?_
  refine qX_bip dX8_dropJob_8 rfl ?_
  refine qX_iconst dX8_dropJob_10 (i32_of rfl) ?_
  refine qX_aload_n 0 dX8_dropJob_11 rfl rfl (by decide) ?_
  refine qX_getS 8 12 _ 1 dX8_dropJob_12 fs_X8_17 rfl rfl sh178 (x := 180) rfl ?_
  refine qX_bip dX8_dropJob_15 rfl ?_
  refine qX_iald dX8_dropJob_17 sh180 ⟨by decide, by decide⟩ ?_
  refine qX_iconst dX8_dropJob_18 (i32_of rfl) ?_
  refine qR_isub dX8_dropJob_19 h.1 ?_
  replace h := h.2
  refine qR_imul dX8_dropJob_20 h.1 ?_
  replace h := h.2
  refine qR_iadd dX8_dropJob_21 h.1 ?_
  replace h := h.2
  refine qX_icmp_ge 45 dX8_dropJob_22 rfl (fun hc => ?_) (fun hc => ?_)
  · replace h := h.1 hc
    refine qX_aload_n 0 dX8_dropJob_45 rfl rfl (by decide) ?_
    refine qX_getS 8 12 _ 1 dX8_dropJob_46 fs_X8_17 rfl rfl sh178 (x := 180) rfl ?_
    refine qX_bip dX8_dropJob_49 rfl ?_
    refine qX_dup2 dX8_dropJob_51 rfl rfl ?_
    refine qX_iald dX8_dropJob_52 sh180 ⟨by decide, by decide⟩ ?_
    refine qX_iconst dX8_dropJob_53 (i32_of rfl) ?_
    refine qR_isub dX8_dropJob_54 h.1 ?_
    replace h := h.2
    refine qX_iast dX8_dropJob_55 sh180 ⟨by decide, by decide⟩ ?_
    replace h := h _ rfl
    exact qX_return rfl dX8_dropJob_56 rfl ⟨Nat.le_refl _, Nat.le_refl _⟩ h
  · replace h := h.2 hc
    refine qX_aload_n 0 dX8_dropJob_25 rfl rfl (by decide) ?_
    refine qX_getS 8 12 _ 1 dX8_dropJob_26 fs_X8_17 rfl rfl sh178 (x := 180) rfl ?_
    refine qX_iload_n 2 dX8_dropJob_29 rfl rfl ?_
    refine qX_aload_n 0 dX8_dropJob_30 rfl rfl (by decide) ?_
    refine qX_getS 8 12 _ 1 dX8_dropJob_31 fs_X8_17 rfl rfl sh178 (x := 180) rfl ?_
    refine qX_iload_n 2 dX8_dropJob_34 rfl rfl ?_
    refine qX_iconst dX8_dropJob_35 (i32_of rfl) ?_
    refine qR_iadd dX8_dropJob_36 h.1 ?_
    replace h := h.2
    refine qX_iald dX8_dropJob_37 sh180 h.1 ?_
    replace h := h.2
    refine qX_iast dX8_dropJob_38 sh180 h.1 ?_
    replace h := h.2
    replace h := h _ rfl
    refine qR_iinc dX8_dropJob_39 rfl (Nat.le_of_ble_eq_true rfl) rfl h.1 ?_
    replace h := h.2
    refine qX_goto 7 dX8_dropJob_42 rfl ?_
    exact qX_mask [true, false, true] h
set_option maxRecDepth 20000 in
theorem e_X8_removeJob {Post : Int → Rf → Mem → Prop} {ρ : Rf} {μ : Mem} {x1 : Int}
  (h : ∀ μ1, μ1 = up2 μ 178 0 0 → ∃ P : Int → Rf → Mem → Prop, qE mX8_isJob GG GG [qP 178, qI x1] ρ μ1 P ∧ ∀ (z2 : Int) (ρ3 : Rf) (μ4 : Mem), P z2 ρ3 μ4 → ((z2 ≠ 0 → ∃ P : Int → Rf → Mem → Prop, qE mX8_remember GG GG [qP 178] ρ3 μ4 P ∧ ∀ (z6 : Int) (ρ7 : Rf) (μ8 : Mem), P z6 ρ7 μ8 → ∃ P : Int → Rf → Mem → Prop, qE mX8_dropJob GG GG [qP 178, qI x1] ρ7 μ8 P ∧ ∀ (z10 : Int) (ρ11 : Rf) (μ12 : Mem), P z10 ρ11 μ12 → ∃ P : Int → Rf → Mem → Prop, qE mX8_done GG GG [qP 178, qI (μ12 180 87)] ρ11 μ12 P ∧ ∀ (z14 : Int) (ρ15 : Rf) (μ16 : Mem), P z14 ρ15 μ16 → Post z14 ρ15 μ16) ∧ (z2 = 0 → ∃ P : Int → Rf → Mem → Prop, qE mX8_failed GG GG [qP 178, qI 1] ρ3 μ4 P ∧ ∀ (z18 : Int) (ρ19 : Rf) (μ20 : Mem), P z18 ρ19 μ20 → Post z18 ρ19 μ20))) : qE mX8_removeJob GG GG [qP 178, qI x1] ρ μ Post := by
  refine qE_intro pl_X8_removeJob (Nat.le_of_ble_eq_true rfl) (Nat.le_refl _) ?_
  refine qX_aload_n 0 dX8_removeJob_0 rfl rfl (by decide) ?_
  refine qX_iconst dX8_removeJob_1 (i32_of rfl) ?_
  refine qX_putI 8 0 _ dX8_removeJob_2 fs_X8_103 sh178 ?_
  replace h := h _ rfl
  refine qX_aload_n 0 dX8_removeJob_5 rfl rfl (by decide) ?_
  refine qX_iload_n 1 dX8_removeJob_6 rfl rfl ?_
  obtain ⟨P, hE5, h⟩ := h
  refine qN_callV mX8_isJob [_] _ 8 [] dX8_removeJob_7 cm_X8_271 ⟨(Nat.le_of_ble_eq_true rfl), (Nat.le_of_ble_eq_true rfl)⟩ rfl rfl sh178 (Nat.le_of_ble_eq_true rfl) ⟨rfl, rfl⟩ hE5 (fun z2 ρ3 μ4 hz => ?_)
  replace h := h _ _ _ hz
  refine qX_if_ne 19 dX8_removeJob_10 rfl (fun hc => ?_) (fun hc => ?_)
  · replace h := h.1 hc
    refine qX_aload_n 0 dX8_removeJob_19 rfl rfl (by decide) ?_
    obtain ⟨P, hE9, h⟩ := h
    refine qN_callV mX8_remember [] _ 8 [] dX8_removeJob_20 cm_X8_404 ⟨(Nat.le_of_ble_eq_true rfl), (Nat.le_of_ble_eq_true rfl)⟩ rfl rfl sh178 (Nat.le_of_ble_eq_true rfl) ⟨rfl, rfl⟩ hE9 (fun z6 ρ7 μ8 hz => ?_)
    replace h := h _ _ _ hz
    refine qX_aload_n 0 dX8_removeJob_23 rfl rfl (by decide) ?_
    refine qX_iload_n 1 dX8_removeJob_24 rfl rfl ?_
    obtain ⟨P, hE13, h⟩ := h
    refine qN_callV mX8_dropJob [_] _ 8 [] dX8_removeJob_25 cm_X8_407 ⟨(Nat.le_of_ble_eq_true rfl), (Nat.le_of_ble_eq_true rfl)⟩ rfl rfl sh178 (Nat.le_of_ble_eq_true rfl) ⟨rfl, rfl⟩ hE13 (fun z10 ρ11 μ12 hz => ?_)
    replace h := h _ _ _ hz
    refine qX_aload_n 0 dX8_removeJob_28 rfl rfl (by decide) ?_
    refine qX_aload_n 0 dX8_removeJob_29 rfl rfl (by decide) ?_
    refine qX_getS 8 12 _ 1 dX8_removeJob_30 fs_X8_17 rfl rfl sh178 (x := 180) rfl ?_
    refine qX_bip dX8_removeJob_33 rfl ?_
    refine qX_iald dX8_removeJob_35 sh180 ⟨by decide, by decide⟩ ?_
    obtain ⟨P, hE17, h⟩ := h
    refine qN_callV mX8_done [_] _ 8 [] dX8_removeJob_36 cm_X8_246 ⟨(Nat.le_of_ble_eq_true rfl), (Nat.le_of_ble_eq_true rfl)⟩ rfl rfl sh178 (Nat.le_of_ble_eq_true rfl) ⟨rfl, rfl⟩ hE17 (fun z14 ρ15 μ16 hz => ?_)
    replace h := h _ _ _ hz
    exact qX_ireturn rfl dX8_removeJob_39 rfl ⟨Nat.le_refl _, Nat.le_refl _⟩ h
  · replace h := h.2 hc
    refine qX_aload_n 0 dX8_removeJob_13 rfl rfl (by decide) ?_
    refine qX_iconst dX8_removeJob_14 (i32_of rfl) ?_
    obtain ⟨P, hE21, h⟩ := h
    refine qN_callV mX8_failed [_] _ 8 [] dX8_removeJob_15 cm_X8_226 ⟨(Nat.le_of_ble_eq_true rfl), (Nat.le_of_ble_eq_true rfl)⟩ rfl rfl sh178 (Nat.le_of_ble_eq_true rfl) ⟨rfl, rfl⟩ hE21 (fun z18 ρ19 μ20 hz => ?_)
    replace h := h _ _ _ hz
    exact qX_ireturn rfl dX8_removeJob_18 rfl ⟨Nat.le_refl _, Nat.le_refl _⟩ h
set_option maxRecDepth 20000 in
theorem e_X8_swap {Post : Int → Rf → Mem → Prop} {ρ : Rf} {μ : Mem} {x1 : Int} {x2 : Int}
  (h : qX mX8_swap GG Post GG (0, 0) 2 [some (qP 178), some (qI x1), some (qI x2), some (qI 0), none] [] ρ μ) : qE mX8_swap GG GG [qP 178, qI x1, qI x2] ρ μ Post := by
  refine qE_intro pl_X8_swap (Nat.le_of_ble_eq_true rfl) (Nat.le_refl _) ?_
  refine qX_iconst dX8_swap_0 (i32_of rfl) ?_
  refine qX_istore_n 3 dX8_swap_1 rfl (Nat.le_of_ble_eq_true rfl) rfl ?_
  exact qX_mask [true, true, true, true, false] h
set_option maxRecDepth 20000 in
theorem w_X8_swap_2 {Post : Int → Rf → Mem → Prop} {ρ : Rf} {μ : Mem} {x1 : Int} {x2 : Int} {x3 : Int}
  (h : ((5 ≤ x3 → Post 0 ρ μ) ∧ (x3 < 5 → i32 (5 * x1) ∧ i32 (88 + (5 * x1)) ∧ i32 ((88 + (5 * x1)) + x3) ∧ (0 ≤ (88 + (5 * x1)) + x3 ∧ (88 + (5 * x1)) + x3 < 188) ∧ i32 (5 * x1) ∧ i32 (88 + (5 * x1)) ∧ i32 ((88 + (5 * x1)) + x3) ∧ i32 (5 * x2) ∧ i32 (88 + (5 * x2)) ∧ i32 ((88 + (5 * x2)) + x3) ∧ (0 ≤ (88 + (5 * x2)) + x3 ∧ (88 + (5 * x2)) + x3 < 188) ∧ (0 ≤ (88 + (5 * x1)) + x3 ∧ (88 + (5 * x1)) + x3 < 188) ∧ ∀ μ1, μ1 = up2 μ 180 ((88 + (5 * x1)) + x3) (μ 180 ((88 + (5 * x2)) + x3)) → i32 (5 * x2) ∧ i32 (88 + (5 * x2)) ∧ i32 ((88 + (5 * x2)) + x3) ∧ (0 ≤ (88 + (5 * x2)) + x3 ∧ (88 + (5 * x2)) + x3 < 188) ∧ ∀ μ2, μ2 = up2 μ1 180 ((88 + (5 * x2)) + x3) (μ 180 ((88 + (5 * x1)) + x3)) → i32 (x3 + 1) ∧ qX mX8_swap GG Post GG (0, 0) 2 [some (qP 178), some (qI x1), some (qI x2), some (qI (x3 + 1)), none] [] ρ μ2))) : qX mX8_swap GG Post GG (0, 0) 2 [some (qP 178), some (qI x1), some (qI x2), some (qI x3), none] [] ρ μ := by
  refine qX_iload_n 3 dX8_swap_2 rfl rfl ?_
  refine qX_iconst dX8_swap_3 (i32_of rfl) ?_
  refine qX_icmp_ge 69 dX8_swap_4 rfl (fun hc => ?_) (fun hc => ?_)
  · replace h := h.1 hc
    exact qX_return rfl dX8_swap_69 rfl ⟨Nat.le_refl _, Nat.le_refl _⟩ h
  · replace h := h.2 hc
    refine qX_aload_n 0 dX8_swap_7 rfl rfl (by decide) ?_
    refine qX_getS 8 12 _ 1 dX8_swap_8 fs_X8_17 rfl rfl sh178 (x := 180) rfl ?_
    refine qX_bip dX8_swap_11 rfl ?_
    refine qX_iconst dX8_swap_13 (i32_of rfl) ?_
    refine qX_iload_n 1 dX8_swap_14 rfl rfl ?_
    refine qR_imul dX8_swap_15 h.1 ?_
    replace h := h.2
    refine qR_iadd dX8_swap_16 h.1 ?_
    replace h := h.2
    refine qX_iload_n 3 dX8_swap_17 rfl rfl ?_
    refine qR_iadd dX8_swap_18 h.1 ?_
    replace h := h.2
    refine qX_iald dX8_swap_19 sh180 h.1 ?_
    replace h := h.2
    refine qX_istore dX8_swap_20 (Nat.le_of_ble_eq_true rfl) rfl ?_
    refine qX_aload_n 0 dX8_swap_22 rfl rfl (by decide) ?_
    refine qX_getS 8 12 _ 1 dX8_swap_23 fs_X8_17 rfl rfl sh178 (x := 180) rfl ?_
    refine qX_bip dX8_swap_26 rfl ?_
    refine qX_iconst dX8_swap_28 (i32_of rfl) ?_
    refine qX_iload_n 1 dX8_swap_29 rfl rfl ?_
    refine qR_imul dX8_swap_30 h.1 ?_
    replace h := h.2
    refine qR_iadd dX8_swap_31 h.1 ?_
    replace h := h.2
    refine qX_iload_n 3 dX8_swap_32 rfl rfl ?_
    refine qR_iadd dX8_swap_33 h.1 ?_
    replace h := h.2
    refine qX_aload_n 0 dX8_swap_34 rfl rfl (by decide) ?_
    refine qX_getS 8 12 _ 1 dX8_swap_35 fs_X8_17 rfl rfl sh178 (x := 180) rfl ?_
    refine qX_bip dX8_swap_38 rfl ?_
    refine qX_iconst dX8_swap_40 (i32_of rfl) ?_
    refine qX_iload_n 2 dX8_swap_41 rfl rfl ?_
    refine qR_imul dX8_swap_42 h.1 ?_
    replace h := h.2
    refine qR_iadd dX8_swap_43 h.1 ?_
    replace h := h.2
    refine qX_iload_n 3 dX8_swap_44 rfl rfl ?_
    refine qR_iadd dX8_swap_45 h.1 ?_
    replace h := h.2
    refine qX_iald dX8_swap_46 sh180 h.1 ?_
    replace h := h.2
    refine qX_iast dX8_swap_47 sh180 h.1 ?_
    replace h := h.2
    replace h := h _ rfl
    refine qX_aload_n 0 dX8_swap_48 rfl rfl (by decide) ?_
    refine qX_getS 8 12 _ 1 dX8_swap_49 fs_X8_17 rfl rfl sh178 (x := 180) rfl ?_
    refine qX_bip dX8_swap_52 rfl ?_
    refine qX_iconst dX8_swap_54 (i32_of rfl) ?_
    refine qX_iload_n 2 dX8_swap_55 rfl rfl ?_
    refine qR_imul dX8_swap_56 h.1 ?_
    replace h := h.2
    refine qR_iadd dX8_swap_57 h.1 ?_
    replace h := h.2
    refine qX_iload_n 3 dX8_swap_58 rfl rfl ?_
    refine qR_iadd dX8_swap_59 h.1 ?_
    replace h := h.2
    refine qX_iload dX8_swap_60 rfl ?_
    refine qX_iast dX8_swap_62 sh180 h.1 ?_
    replace h := h.2
    replace h := h _ rfl
    refine qR_iinc dX8_swap_63 rfl (Nat.le_of_ble_eq_true rfl) rfl h.1 ?_
    replace h := h.2
    refine qX_goto 2 dX8_swap_66 rfl ?_
    exact qX_mask [true, true, true, true, false] h
set_option maxRecDepth 20000 in
theorem e_X8_moveJob {Post : Int → Rf → Mem → Prop} {ρ : Rf} {μ : Mem} {x1 : Int} {x2 : Int}
  (h : ∀ μ1, μ1 = up2 μ 178 0 0 → ∃ P : Int → Rf → Mem → Prop, qE mX8_isJob GG GG [qP 178, qI x1] ρ μ1 P ∧ ∀ (z2 : Int) (ρ3 : Rf) (μ4 : Mem), P z2 ρ3 μ4 → ((z2 = 0 → ∃ P : Int → Rf → Mem → Prop, qE mX8_failed GG GG [qP 178, qI 1] ρ3 μ4 P ∧ ∀ (z6 : Int) (ρ7 : Rf) (μ8 : Mem), P z6 ρ7 μ8 → Post z6 ρ7 μ8) ∧ (z2 ≠ 0 → ∃ P : Int → Rf → Mem → Prop, qE mX8_isJob GG GG [qP 178, qI x2] ρ3 μ4 P ∧ ∀ (z10 : Int) (ρ11 : Rf) (μ12 : Mem), P z10 ρ11 μ12 → ((z10 ≠ 0 → ∃ P : Int → Rf → Mem → Prop, qE mX8_remember GG GG [qP 178] ρ11 μ12 P ∧ ∀ (z14 : Int) (ρ15 : Rf) (μ16 : Mem), P z14 ρ15 μ16 → qX mX8_moveJob GG Post GG (0, 0) 33 [some (qP 178), some (qI x1), some (qI x2), some (qI x1)] [] ρ15 μ16) ∧ (z10 = 0 → ∃ P : Int → Rf → Mem → Prop, qE mX8_failed GG GG [qP 178, qI 1] ρ11 μ12 P ∧ ∀ (z18 : Int) (ρ19 : Rf) (μ20 : Mem), P z18 ρ19 μ20 → Post z18 ρ19 μ20))))) : qE mX8_moveJob GG GG [qP 178, qI x1, qI x2] ρ μ Post := by
  refine qE_intro pl_X8_moveJob (Nat.le_of_ble_eq_true rfl) (Nat.le_refl _) ?_
  refine qX_aload_n 0 dX8_moveJob_0 rfl rfl (by decide) ?_
  refine qX_iconst dX8_moveJob_1 (i32_of rfl) ?_
  refine qX_putI 8 0 _ dX8_moveJob_2 fs_X8_103 sh178 ?_
  replace h := h _ rfl
  refine qX_aload_n 0 dX8_moveJob_5 rfl rfl (by decide) ?_
  refine qX_iload_n 1 dX8_moveJob_6 rfl rfl ?_
  obtain ⟨P, hE5, h⟩ := h
  refine qN_callV mX8_isJob [_] _ 8 [] dX8_moveJob_7 cm_X8_271 ⟨(Nat.le_of_ble_eq_true rfl), (Nat.le_of_ble_eq_true rfl)⟩ rfl rfl sh178 (Nat.le_of_ble_eq_true rfl) ⟨rfl, rfl⟩ hE5 (fun z2 ρ3 μ4 hz => ?_)
  replace h := h _ _ _ hz
  refine qX_if_eq 21 dX8_moveJob_10 rfl (fun hc => ?_) (fun hc => ?_)
  · replace h := h.1 hc
    refine qX_aload_n 0 dX8_moveJob_21 rfl rfl (by decide) ?_
    refine qX_iconst dX8_moveJob_22 (i32_of rfl) ?_
    obtain ⟨P, hE9, h⟩ := h
    refine qN_callV mX8_failed [_] _ 8 [] dX8_moveJob_23 cm_X8_226 ⟨(Nat.le_of_ble_eq_true rfl), (Nat.le_of_ble_eq_true rfl)⟩ rfl rfl sh178 (Nat.le_of_ble_eq_true rfl) ⟨rfl, rfl⟩ hE9 (fun z6 ρ7 μ8 hz => ?_)
    replace h := h _ _ _ hz
    exact qX_ireturn rfl dX8_moveJob_26 rfl ⟨Nat.le_refl _, Nat.le_refl _⟩ h
  · replace h := h.2 hc
    refine qX_aload_n 0 dX8_moveJob_13 rfl rfl (by decide) ?_
    refine qX_iload_n 2 dX8_moveJob_14 rfl rfl ?_
    obtain ⟨P, hE13, h⟩ := h
    refine qN_callV mX8_isJob [_] _ 8 [] dX8_moveJob_15 cm_X8_271 ⟨(Nat.le_of_ble_eq_true rfl), (Nat.le_of_ble_eq_true rfl)⟩ rfl rfl sh178 (Nat.le_of_ble_eq_true rfl) ⟨rfl, rfl⟩ hE13 (fun z10 ρ11 μ12 hz => ?_)
    replace h := h _ _ _ hz
    refine qX_if_ne 27 dX8_moveJob_18 rfl (fun hc => ?_) (fun hc => ?_)
    · replace h := h.1 hc
      refine qX_aload_n 0 dX8_moveJob_27 rfl rfl (by decide) ?_
      obtain ⟨P, hE17, h⟩ := h
      refine qN_callV mX8_remember [] _ 8 [] dX8_moveJob_28 cm_X8_404 ⟨(Nat.le_of_ble_eq_true rfl), (Nat.le_of_ble_eq_true rfl)⟩ rfl rfl sh178 (Nat.le_of_ble_eq_true rfl) ⟨rfl, rfl⟩ hE17 (fun z14 ρ15 μ16 hz => ?_)
      replace h := h _ _ _ hz
      refine qX_iload_n 1 dX8_moveJob_31 rfl rfl ?_
      refine qX_istore_n 3 dX8_moveJob_32 rfl (Nat.le_of_ble_eq_true rfl) rfl ?_
      exact qX_mask [true, true, true, true] h
    · replace h := h.2 hc
      refine qX_aload_n 0 dX8_moveJob_21 rfl rfl (by decide) ?_
      refine qX_iconst dX8_moveJob_22 (i32_of rfl) ?_
      obtain ⟨P, hE21, h⟩ := h
      refine qN_callV mX8_failed [_] _ 8 [] dX8_moveJob_23 cm_X8_226 ⟨(Nat.le_of_ble_eq_true rfl), (Nat.le_of_ble_eq_true rfl)⟩ rfl rfl sh178 (Nat.le_of_ble_eq_true rfl) ⟨rfl, rfl⟩ hE21 (fun z18 ρ19 μ20 hz => ?_)
      replace h := h _ _ _ hz
      exact qX_ireturn rfl dX8_moveJob_26 rfl ⟨Nat.le_refl _, Nat.le_refl _⟩ h
set_option maxRecDepth 20000 in
theorem w_X8_moveJob_33 {Post : Int → Rf → Mem → Prop} {ρ : Rf} {μ : Mem} {x1 : Int} {x2 : Int} {x3 : Int}
  (h : ((x2 ≤ x3 → qX mX8_moveJob GG Post GG (0, 0) 54 [some (qP 178), none, some (qI x2), some (qI x1)] [] ρ μ) ∧ (x3 < x2 → i32 (x3 + 1) ∧ ∃ P : Int → Rf → Mem → Prop, qE mX8_swap GG GG [qP 178, qI x3, qI (x3 + 1)] ρ μ P ∧ ∀ (z1 : Int) (ρ2 : Rf) (μ3 : Mem), P z1 ρ2 μ3 → i32 (x3 + 1) ∧ qX mX8_moveJob GG Post GG (0, 0) 33 [some (qP 178), some (qI x1), some (qI x2), some (qI (x3 + 1))] [] ρ2 μ3))) : qX mX8_moveJob GG Post GG (0, 0) 33 [some (qP 178), some (qI x1), some (qI x2), some (qI x3)] [] ρ μ := by
  refine qX_iload_n 3 dX8_moveJob_33 rfl rfl ?_
  refine qX_iload_n 2 dX8_moveJob_34 rfl rfl ?_
  refine qX_icmp_ge 52 dX8_moveJob_35 rfl (fun hc => ?_) (fun hc => ?_)
  · replace h := h.1 hc
    refine qX_iload_n 1 dX8_moveJob_52 rfl rfl ?_
    refine qX_istore_n 3 dX8_moveJob_53 rfl (Nat.le_of_ble_eq_true rfl) rfl ?_
    exact qX_mask [true, false, true, true] h
  · replace h := h.2 hc
    refine qX_aload_n 0 dX8_moveJob_38 rfl rfl (by decide) ?_
    refine qX_iload_n 3 dX8_moveJob_39 rfl rfl ?_
    refine qX_iload_n 3 dX8_moveJob_40 rfl rfl ?_
    refine qX_iconst dX8_moveJob_41 (i32_of rfl) ?_
    refine qR_iadd dX8_moveJob_42 h.1 ?_
    replace h := h.2
    obtain ⟨P, hE4, h⟩ := h
    refine qN_callV mX8_swap [_, _] _ 8 [] dX8_moveJob_43 cm_X8_401 ⟨(Nat.le_of_ble_eq_true rfl), (Nat.le_of_ble_eq_true rfl)⟩ rfl rfl sh178 (Nat.le_of_ble_eq_true rfl) ⟨rfl, rfl⟩ hE4 (fun z1 ρ2 μ3 hz => ?_)
    replace h := h _ _ _ hz
    refine qR_iinc dX8_moveJob_46 rfl (Nat.le_of_ble_eq_true rfl) rfl h.1 ?_
    replace h := h.2
    refine qX_goto 33 dX8_moveJob_49 rfl ?_
    exact qX_mask [true, true, true, true] h
set_option maxRecDepth 20000 in
theorem w_X8_moveJob_54 {Post : Int → Rf → Mem → Prop} {ρ : Rf} {μ : Mem} {x2 : Int} {x3 : Int}
  (h : ((x3 ≤ x2 → ∃ P : Int → Rf → Mem → Prop, qE mX8_done GG GG [qP 178, qI 0] ρ μ P ∧ ∀ (z1 : Int) (ρ2 : Rf) (μ3 : Mem), P z1 ρ2 μ3 → Post z1 ρ2 μ3) ∧ (x2 < x3 → i32 (x3 - 1) ∧ ∃ P : Int → Rf → Mem → Prop, qE mX8_swap GG GG [qP 178, qI x3, qI (x3 - 1)] ρ μ P ∧ ∀ (z5 : Int) (ρ6 : Rf) (μ7 : Mem), P z5 ρ6 μ7 → i32 (x3 + (-1)) ∧ qX mX8_moveJob GG Post GG (0, 0) 54 [some (qP 178), none, some (qI x2), some (qI (x3 + (-1)))] [] ρ6 μ7))) : qX mX8_moveJob GG Post GG (0, 0) 54 [some (qP 178), none, some (qI x2), some (qI x3)] [] ρ μ := by
  refine qX_iload_n 3 dX8_moveJob_54 rfl rfl ?_
  refine qX_iload_n 2 dX8_moveJob_55 rfl rfl ?_
  refine qX_icmp_le 73 dX8_moveJob_56 rfl (fun hc => ?_) (fun hc => ?_)
  · replace h := h.1 hc
    refine qX_aload_n 0 dX8_moveJob_73 rfl rfl (by decide) ?_
    refine qX_iconst dX8_moveJob_74 (i32_of rfl) ?_
    obtain ⟨P, hE4, h⟩ := h
    refine qN_callV mX8_done [_] _ 8 [] dX8_moveJob_75 cm_X8_246 ⟨(Nat.le_of_ble_eq_true rfl), (Nat.le_of_ble_eq_true rfl)⟩ rfl rfl sh178 (Nat.le_of_ble_eq_true rfl) ⟨rfl, rfl⟩ hE4 (fun z1 ρ2 μ3 hz => ?_)
    replace h := h _ _ _ hz
    exact qX_ireturn rfl dX8_moveJob_78 rfl ⟨Nat.le_refl _, Nat.le_refl _⟩ h
  · replace h := h.2 hc
    refine qX_aload_n 0 dX8_moveJob_59 rfl rfl (by decide) ?_
    refine qX_iload_n 3 dX8_moveJob_60 rfl rfl ?_
    refine qX_iload_n 3 dX8_moveJob_61 rfl rfl ?_
    refine qX_iconst dX8_moveJob_62 (i32_of rfl) ?_
    refine qR_isub dX8_moveJob_63 h.1 ?_
    replace h := h.2
    obtain ⟨P, hE8, h⟩ := h
    refine qN_callV mX8_swap [_, _] _ 8 [] dX8_moveJob_64 cm_X8_401 ⟨(Nat.le_of_ble_eq_true rfl), (Nat.le_of_ble_eq_true rfl)⟩ rfl rfl sh178 (Nat.le_of_ble_eq_true rfl) ⟨rfl, rfl⟩ hE8 (fun z5 ρ6 μ7 hz => ?_)
    replace h := h _ _ _ hz
    refine qR_iinc dX8_moveJob_67 rfl (Nat.le_of_ble_eq_true rfl) rfl h.1 ?_
    replace h := h.2
    refine qX_goto 54 dX8_moveJob_70 rfl ?_
    exact qX_mask [true, false, true, true] h
set_option maxRecDepth 20000 in
theorem e_X8_set {Post : Int → Rf → Mem → Prop} {ρ : Rf} {μ : Mem} {x1 : Int} {x2 : Int}
  (h : (0 ≤ x1 ∧ x1 < 188) ∧ ∃ P : Int → Rf → Mem → Prop, qE mX8_remember GG GG [qP 178] ρ μ P ∧ ∀ (z1 : Int) (ρ2 : Rf) (μ3 : Mem), P z1 ρ2 μ3 → (0 ≤ x1 ∧ x1 < 188) ∧ ∀ μ5, μ5 = up2 μ3 180 x1 x2 → ∃ P : Int → Rf → Mem → Prop, qE mX8_done GG GG [qP 178, qI (μ 180 x1)] ρ2 μ5 P ∧ ∀ (z6 : Int) (ρ7 : Rf) (μ8 : Mem), P z6 ρ7 μ8 → Post z6 ρ7 μ8) : qE mX8_set GG GG [qP 178, qI x1, qI x2] ρ μ Post := by
  refine qE_intro pl_X8_set (Nat.le_of_ble_eq_true rfl) (Nat.le_refl _) ?_
  refine qX_aload_n 0 dX8_set_0 rfl rfl (by decide) ?_
  refine qX_getS 8 12 _ 1 dX8_set_1 fs_X8_17 rfl rfl sh178 (x := 180) rfl ?_
  refine qX_iload_n 1 dX8_set_4 rfl rfl ?_
  refine qX_iald dX8_set_5 sh180 h.1 ?_
  replace h := h.2
  refine qX_istore_n 3 dX8_set_6 rfl (Nat.le_of_ble_eq_true rfl) rfl ?_
  refine qX_aload_n 0 dX8_set_7 rfl rfl (by decide) ?_
  obtain ⟨P, hE4, h⟩ := h
  refine qN_callV mX8_remember [] _ 8 [] dX8_set_8 cm_X8_404 ⟨(Nat.le_of_ble_eq_true rfl), (Nat.le_of_ble_eq_true rfl)⟩ rfl rfl sh178 (Nat.le_of_ble_eq_true rfl) ⟨rfl, rfl⟩ hE4 (fun z1 ρ2 μ3 hz => ?_)
  replace h := h _ _ _ hz
  refine qX_aload_n 0 dX8_set_11 rfl rfl (by decide) ?_
  refine qX_getS 8 12 _ 1 dX8_set_12 fs_X8_17 rfl rfl sh178 (x := 180) rfl ?_
  refine qX_iload_n 1 dX8_set_15 rfl rfl ?_
  refine qX_iload_n 2 dX8_set_16 rfl rfl ?_
  refine qX_iast dX8_set_17 sh180 h.1 ?_
  replace h := h.2
  replace h := h _ rfl
  refine qX_aload_n 0 dX8_set_18 rfl rfl (by decide) ?_
  refine qX_iload_n 3 dX8_set_19 rfl rfl ?_
  obtain ⟨P, hE9, h⟩ := h
  refine qN_callV mX8_done [_] _ 8 [] dX8_set_20 cm_X8_246 ⟨(Nat.le_of_ble_eq_true rfl), (Nat.le_of_ble_eq_true rfl)⟩ rfl rfl sh178 (Nat.le_of_ble_eq_true rfl) ⟨rfl, rfl⟩ hE9 (fun z6 ρ7 μ8 hz => ?_)
  replace h := h _ _ _ hz
  exact qX_ireturn rfl dX8_set_23 rfl ⟨Nat.le_refl _, Nat.le_refl _⟩ h
set_option maxRecDepth 20000 in
theorem e_X8_setDeparture {Post : Int → Rf → Mem → Prop} {ρ : Rf} {μ : Mem} {x1 : Int} {x2 : Int}
  (h : ∀ μ1, μ1 = up2 μ 178 0 0 → ∃ P : Int → Rf → Mem → Prop, qE mX8_isTrainNow GG GG [qP 178, qI x1] ρ μ1 P ∧ ∀ (z2 : Int) (ρ3 : Rf) (μ4 : Mem), P z2 ρ3 μ4 → ((z2 ≠ 0 → i32 (0 + x1) ∧ (0 ≤ 0 + x1 ∧ 0 + x1 < 188) ∧ ∃ P : Int → Rf → Mem → Prop, qE mX8_in GG GG [qI x2, qI (μ4 180 (0 + x1)), qI 999] ρ3 μ4 P ∧ ∀ (z6 : Int) (ρ7 : Rf) (μ8 : Mem), P z6 ρ7 μ8 → ((z6 = 0 → ∃ P : Int → Rf → Mem → Prop, qE mX8_failed GG GG [qP 178, qI 2] ρ7 μ8 P ∧ ∀ (z10 : Int) (ρ11 : Rf) (μ12 : Mem), P z10 ρ11 μ12 → Post z10 ρ11 μ12) ∧ (z6 ≠ 0 → i32 (2 + x1) ∧ ∃ P : Int → Rf → Mem → Prop, qE mX8_set GG GG [qP 178, qI (2 + x1), qI x2] ρ7 μ8 P ∧ ∀ (z14 : Int) (ρ15 : Rf) (μ16 : Mem), P z14 ρ15 μ16 → Post z14 ρ15 μ16))) ∧ (z2 = 0 → ∃ P : Int → Rf → Mem → Prop, qE mX8_failed GG GG [qP 178, qI 1] ρ3 μ4 P ∧ ∀ (z18 : Int) (ρ19 : Rf) (μ20 : Mem), P z18 ρ19 μ20 → Post z18 ρ19 μ20))) : qE mX8_setDeparture GG GG [qP 178, qI x1, qI x2] ρ μ Post := by
  refine qE_intro pl_X8_setDeparture (Nat.le_of_ble_eq_true rfl) (Nat.le_refl _) ?_
  refine qX_aload_n 0 dX8_setDeparture_0 rfl rfl (by decide) ?_
  refine qX_iconst dX8_setDeparture_1 (i32_of rfl) ?_
  refine qX_putI 8 0 _ dX8_setDeparture_2 fs_X8_103 sh178 ?_
  replace h := h _ rfl
  refine qX_aload_n 0 dX8_setDeparture_5 rfl rfl (by decide) ?_
  refine qX_iload_n 1 dX8_setDeparture_6 rfl rfl ?_
  obtain ⟨P, hE5, h⟩ := h
  refine qN_callV mX8_isTrainNow [_] _ 8 [] dX8_setDeparture_7 cm_X8_249 ⟨(Nat.le_of_ble_eq_true rfl), (Nat.le_of_ble_eq_true rfl)⟩ rfl rfl sh178 (Nat.le_of_ble_eq_true rfl) ⟨rfl, rfl⟩ hE5 (fun z2 ρ3 μ4 hz => ?_)
  replace h := h _ _ _ hz
  refine qX_if_ne 19 dX8_setDeparture_10 rfl (fun hc => ?_) (fun hc => ?_)
  · replace h := h.1 hc
    refine qX_iload_n 2 dX8_setDeparture_19 rfl rfl ?_
    refine qX_aload_n 0 dX8_setDeparture_20 rfl rfl (by decide) ?_
    refine qX_getS 8 12 _ 1 dX8_setDeparture_21 fs_X8_17 rfl rfl sh178 (x := 180) rfl ?_
    refine qX_iconst dX8_setDeparture_24 (i32_of rfl) ?_
    refine qX_iload_n 1 dX8_setDeparture_25 rfl rfl ?_
    refine qR_iadd dX8_setDeparture_26 h.1 ?_
    replace h := h.2
    refine qX_iald dX8_setDeparture_27 sh180 h.1 ?_
    replace h := h.2
    refine qX_sip dX8_setDeparture_28 rfl ?_
    obtain ⟨P, hE9, h⟩ := h
    refine qN_callS mX8_in [_, _, _] [] dX8_setDeparture_31 cm_X8_142 ⟨(Nat.le_of_ble_eq_true rfl), (Nat.le_of_ble_eq_true rfl)⟩ rfl rfl (Nat.le_of_ble_eq_true rfl) ⟨rfl, rfl⟩ hE9 (fun z6 ρ7 μ8 hz => ?_)
    replace h := h _ _ _ hz
    refine qX_if_eq 48 dX8_setDeparture_34 rfl (fun hc => ?_) (fun hc => ?_)
    · replace h := h.1 hc
      refine qX_aload_n 0 dX8_setDeparture_48 rfl rfl (by decide) ?_
      refine qX_iconst dX8_setDeparture_49 (i32_of rfl) ?_
      obtain ⟨P, hE13, h⟩ := h
      refine qN_callV mX8_failed [_] _ 8 [] dX8_setDeparture_50 cm_X8_226 ⟨(Nat.le_of_ble_eq_true rfl), (Nat.le_of_ble_eq_true rfl)⟩ rfl rfl sh178 (Nat.le_of_ble_eq_true rfl) ⟨rfl, rfl⟩ hE13 (fun z10 ρ11 μ12 hz => ?_)
      replace h := h _ _ _ hz
      exact qX_ireturn rfl dX8_setDeparture_53 rfl ⟨Nat.le_refl _, Nat.le_refl _⟩ h
    · replace h := h.2 hc
      refine qX_aload_n 0 dX8_setDeparture_37 rfl rfl (by decide) ?_
      refine qX_iconst dX8_setDeparture_38 (i32_of rfl) ?_
      refine qX_iload_n 1 dX8_setDeparture_39 rfl rfl ?_
      refine qR_iadd dX8_setDeparture_40 h.1 ?_
      replace h := h.2
      refine qX_iload_n 2 dX8_setDeparture_41 rfl rfl ?_
      obtain ⟨P, hE17, h⟩ := h
      refine qN_callV mX8_set [_, _] _ 8 [] dX8_setDeparture_42 cm_X8_410 ⟨(Nat.le_of_ble_eq_true rfl), (Nat.le_of_ble_eq_true rfl)⟩ rfl rfl sh178 (Nat.le_of_ble_eq_true rfl) ⟨rfl, rfl⟩ hE17 (fun z14 ρ15 μ16 hz => ?_)
      replace h := h _ _ _ hz
      refine qX_goto 53 dX8_setDeparture_45 rfl ?_
      exact qX_ireturn rfl dX8_setDeparture_53 rfl ⟨Nat.le_refl _, Nat.le_refl _⟩ h
  · replace h := h.2 hc
    refine qX_aload_n 0 dX8_setDeparture_13 rfl rfl (by decide) ?_
    refine qX_iconst dX8_setDeparture_14 (i32_of rfl) ?_
    obtain ⟨P, hE21, h⟩ := h
    refine qN_callV mX8_failed [_] _ 8 [] dX8_setDeparture_15 cm_X8_226 ⟨(Nat.le_of_ble_eq_true rfl), (Nat.le_of_ble_eq_true rfl)⟩ rfl rfl sh178 (Nat.le_of_ble_eq_true rfl) ⟨rfl, rfl⟩ hE21 (fun z18 ρ19 μ20 hz => ?_)
    replace h := h _ _ _ hz
    exact qX_ireturn rfl dX8_setDeparture_18 rfl ⟨Nat.le_refl _, Nat.le_refl _⟩ h
set_option maxRecDepth 20000 in
theorem e_X8_setStock {Post : Int → Rf → Mem → Prop} {ρ : Rf} {μ : Mem} {x1 : Int} {x2 : Int} {x3 : Int}
  (h : ∀ μ1, μ1 = up2 μ 178 0 0 → ∃ P : Int → Rf → Mem → Prop, qE mX8_isKitchen GG GG [qP 178, qI x1] ρ μ1 P ∧ ∀ (z2 : Int) (ρ3 : Rf) (μ4 : Mem), P z2 ρ3 μ4 → ((z2 = 0 → ∃ P : Int → Rf → Mem → Prop, qE mX8_failed GG GG [qP 178, qI 1] ρ3 μ4 P ∧ ∀ (z6 : Int) (ρ7 : Rf) (μ8 : Mem), P z6 ρ7 μ8 → Post z6 ρ7 μ8) ∧ (z2 ≠ 0 → ∃ P : Int → Rf → Mem → Prop, qE mX8_isMeal GG GG [qP 178, qI x2] ρ3 μ4 P ∧ ∀ (z10 : Int) (ρ11 : Rf) (μ12 : Mem), P z10 ρ11 μ12 → ((z10 ≠ 0 → ∃ P : Int → Rf → Mem → Prop, qE mX8_in GG GG [qI x3, qI 0, qI 999] ρ11 μ12 P ∧ ∀ (z14 : Int) (ρ15 : Rf) (μ16 : Mem), P z14 ρ15 μ16 → ((z14 = 0 → ∃ P : Int → Rf → Mem → Prop, qE mX8_failed GG GG [qP 178, qI 2] ρ15 μ16 P ∧ ∀ (z18 : Int) (ρ19 : Rf) (μ20 : Mem), P z18 ρ19 μ20 → Post z18 ρ19 μ20) ∧ (z14 ≠ 0 → i32 (4 * x1) ∧ i32 (49 + (4 * x1)) ∧ i32 ((49 + (4 * x1)) + x2) ∧ ∃ P : Int → Rf → Mem → Prop, qE mX8_set GG GG [qP 178, qI ((49 + (4 * x1)) + x2), qI x3] ρ15 μ16 P ∧ ∀ (z22 : Int) (ρ23 : Rf) (μ24 : Mem), P z22 ρ23 μ24 → Post z22 ρ23 μ24))) ∧ (z10 = 0 → ∃ P : Int → Rf → Mem → Prop, qE mX8_failed GG GG [qP 178, qI 1] ρ11 μ12 P ∧ ∀ (z26 : Int) (ρ27 : Rf) (μ28 : Mem), P z26 ρ27 μ28 → Post z26 ρ27 μ28))))) : qE mX8_setStock GG GG [qP 178, qI x1, qI x2, qI x3] ρ μ Post := by
  refine qE_intro pl_X8_setStock (Nat.le_of_ble_eq_true rfl) (Nat.le_refl _) ?_
  refine qX_aload_n 0 dX8_setStock_0 rfl rfl (by decide) ?_
  refine qX_iconst dX8_setStock_1 (i32_of rfl) ?_
  refine qX_putI 8 0 _ dX8_setStock_2 fs_X8_103 sh178 ?_
  replace h := h _ rfl
  refine qX_aload_n 0 dX8_setStock_5 rfl rfl (by decide) ?_
  refine qX_iload_n 1 dX8_setStock_6 rfl rfl ?_
  obtain ⟨P, hE5, h⟩ := h
  refine qN_callV mX8_isKitchen [_] _ 8 [] dX8_setStock_7 cm_X8_257 ⟨(Nat.le_of_ble_eq_true rfl), (Nat.le_of_ble_eq_true rfl)⟩ rfl rfl sh178 (Nat.le_of_ble_eq_true rfl) ⟨rfl, rfl⟩ hE5 (fun z2 ρ3 μ4 hz => ?_)
  replace h := h _ _ _ hz
  refine qX_if_eq 21 dX8_setStock_10 rfl (fun hc => ?_) (fun hc => ?_)
  · replace h := h.1 hc
    refine qX_aload_n 0 dX8_setStock_21 rfl rfl (by decide) ?_
    refine qX_iconst dX8_setStock_22 (i32_of rfl) ?_
    obtain ⟨P, hE9, h⟩ := h
    refine qN_callV mX8_failed [_] _ 8 [] dX8_setStock_23 cm_X8_226 ⟨(Nat.le_of_ble_eq_true rfl), (Nat.le_of_ble_eq_true rfl)⟩ rfl rfl sh178 (Nat.le_of_ble_eq_true rfl) ⟨rfl, rfl⟩ hE9 (fun z6 ρ7 μ8 hz => ?_)
    replace h := h _ _ _ hz
    exact qX_ireturn rfl dX8_setStock_26 rfl ⟨Nat.le_refl _, Nat.le_refl _⟩ h
  · replace h := h.2 hc
    refine qX_aload_n 0 dX8_setStock_13 rfl rfl (by decide) ?_
    refine qX_iload_n 2 dX8_setStock_14 rfl rfl ?_
    obtain ⟨P, hE13, h⟩ := h
    refine qN_callV mX8_isMeal [_] _ 8 [] dX8_setStock_15 cm_X8_260 ⟨(Nat.le_of_ble_eq_true rfl), (Nat.le_of_ble_eq_true rfl)⟩ rfl rfl sh178 (Nat.le_of_ble_eq_true rfl) ⟨rfl, rfl⟩ hE13 (fun z10 ρ11 μ12 hz => ?_)
    replace h := h _ _ _ hz
    refine qX_if_ne 27 dX8_setStock_18 rfl (fun hc => ?_) (fun hc => ?_)
    · replace h := h.1 hc
      refine qX_iload_n 3 dX8_setStock_27 rfl rfl ?_
      refine qX_iconst dX8_setStock_28 (i32_of rfl) ?_
      refine qX_sip dX8_setStock_29 rfl ?_
      obtain ⟨P, hE17, h⟩ := h
      refine qN_callS mX8_in [_, _, _] [] dX8_setStock_32 cm_X8_142 ⟨(Nat.le_of_ble_eq_true rfl), (Nat.le_of_ble_eq_true rfl)⟩ rfl rfl (Nat.le_of_ble_eq_true rfl) ⟨rfl, rfl⟩ hE17 (fun z14 ρ15 μ16 hz => ?_)
      replace h := h _ _ _ hz
      refine qX_if_eq 54 dX8_setStock_35 rfl (fun hc => ?_) (fun hc => ?_)
      · replace h := h.1 hc
        refine qX_aload_n 0 dX8_setStock_54 rfl rfl (by decide) ?_
        refine qX_iconst dX8_setStock_55 (i32_of rfl) ?_
        obtain ⟨P, hE21, h⟩ := h
        refine qN_callV mX8_failed [_] _ 8 [] dX8_setStock_56 cm_X8_226 ⟨(Nat.le_of_ble_eq_true rfl), (Nat.le_of_ble_eq_true rfl)⟩ rfl rfl sh178 (Nat.le_of_ble_eq_true rfl) ⟨rfl, rfl⟩ hE21 (fun z18 ρ19 μ20 hz => ?_)
        replace h := h _ _ _ hz
        exact qX_ireturn rfl dX8_setStock_59 rfl ⟨Nat.le_refl _, Nat.le_refl _⟩ h
      · replace h := h.2 hc
        refine qX_aload_n 0 dX8_setStock_38 rfl rfl (by decide) ?_
        refine qX_bip dX8_setStock_39 rfl ?_
        refine qX_iconst dX8_setStock_41 (i32_of rfl) ?_
        refine qX_iload_n 1 dX8_setStock_42 rfl rfl ?_
        refine qR_imul dX8_setStock_43 h.1 ?_
        replace h := h.2
        refine qR_iadd dX8_setStock_44 h.1 ?_
        replace h := h.2
        refine qX_iload_n 2 dX8_setStock_45 rfl rfl ?_
        refine qR_iadd dX8_setStock_46 h.1 ?_
        replace h := h.2
        refine qX_iload_n 3 dX8_setStock_47 rfl rfl ?_
        obtain ⟨P, hE25, h⟩ := h
        refine qN_callV mX8_set [_, _] _ 8 [] dX8_setStock_48 cm_X8_410 ⟨(Nat.le_of_ble_eq_true rfl), (Nat.le_of_ble_eq_true rfl)⟩ rfl rfl sh178 (Nat.le_of_ble_eq_true rfl) ⟨rfl, rfl⟩ hE25 (fun z22 ρ23 μ24 hz => ?_)
        replace h := h _ _ _ hz
        refine qX_goto 59 dX8_setStock_51 rfl ?_
        exact qX_ireturn rfl dX8_setStock_59 rfl ⟨Nat.le_refl _, Nat.le_refl _⟩ h
    · replace h := h.2 hc
      refine qX_aload_n 0 dX8_setStock_21 rfl rfl (by decide) ?_
      refine qX_iconst dX8_setStock_22 (i32_of rfl) ?_
      obtain ⟨P, hE29, h⟩ := h
      refine qN_callV mX8_failed [_] _ 8 [] dX8_setStock_23 cm_X8_226 ⟨(Nat.le_of_ble_eq_true rfl), (Nat.le_of_ble_eq_true rfl)⟩ rfl rfl sh178 (Nat.le_of_ble_eq_true rfl) ⟨rfl, rfl⟩ hE29 (fun z26 ρ27 μ28 hz => ?_)
      replace h := h _ _ _ hz
      exact qX_ireturn rfl dX8_setStock_26 rfl ⟨Nat.le_refl _, Nat.le_refl _⟩ h
set_option maxRecDepth 20000 in
theorem e_X8_setQuantity {Post : Int → Rf → Mem → Prop} {ρ : Rf} {μ : Mem} {x1 : Int} {x2 : Int}
  (h : ∀ μ1, μ1 = up2 μ 178 0 0 → ∃ P : Int → Rf → Mem → Prop, qE mX8_isJob GG GG [qP 178, qI x1] ρ μ1 P ∧ ∀ (z2 : Int) (ρ3 : Rf) (μ4 : Mem), P z2 ρ3 μ4 → ((z2 ≠ 0 → ∃ P : Int → Rf → Mem → Prop, qE mX8_in GG GG [qI x2, qI 1, qI 99] ρ3 μ4 P ∧ ∀ (z6 : Int) (ρ7 : Rf) (μ8 : Mem), P z6 ρ7 μ8 → ((z6 = 0 → ∃ P : Int → Rf → Mem → Prop, qE mX8_failed GG GG [qP 178, qI 2] ρ7 μ8 P ∧ ∀ (z10 : Int) (ρ11 : Rf) (μ12 : Mem), P z10 ρ11 μ12 → Post z10 ρ11 μ12) ∧ (z6 ≠ 0 → i32 (5 * x1) ∧ i32 (88 + (5 * x1)) ∧ i32 ((88 + (5 * x1)) + 4) ∧ ∃ P : Int → Rf → Mem → Prop, qE mX8_set GG GG [qP 178, qI ((88 + (5 * x1)) + 4), qI x2] ρ7 μ8 P ∧ ∀ (z14 : Int) (ρ15 : Rf) (μ16 : Mem), P z14 ρ15 μ16 → Post z14 ρ15 μ16))) ∧ (z2 = 0 → ∃ P : Int → Rf → Mem → Prop, qE mX8_failed GG GG [qP 178, qI 1] ρ3 μ4 P ∧ ∀ (z18 : Int) (ρ19 : Rf) (μ20 : Mem), P z18 ρ19 μ20 → Post z18 ρ19 μ20))) : qE mX8_setQuantity GG GG [qP 178, qI x1, qI x2] ρ μ Post := by
  refine qE_intro pl_X8_setQuantity (Nat.le_of_ble_eq_true rfl) (Nat.le_refl _) ?_
  refine qX_aload_n 0 dX8_setQuantity_0 rfl rfl (by decide) ?_
  refine qX_iconst dX8_setQuantity_1 (i32_of rfl) ?_
  refine qX_putI 8 0 _ dX8_setQuantity_2 fs_X8_103 sh178 ?_
  replace h := h _ rfl
  refine qX_aload_n 0 dX8_setQuantity_5 rfl rfl (by decide) ?_
  refine qX_iload_n 1 dX8_setQuantity_6 rfl rfl ?_
  obtain ⟨P, hE5, h⟩ := h
  refine qN_callV mX8_isJob [_] _ 8 [] dX8_setQuantity_7 cm_X8_271 ⟨(Nat.le_of_ble_eq_true rfl), (Nat.le_of_ble_eq_true rfl)⟩ rfl rfl sh178 (Nat.le_of_ble_eq_true rfl) ⟨rfl, rfl⟩ hE5 (fun z2 ρ3 μ4 hz => ?_)
  replace h := h _ _ _ hz
  refine qX_if_ne 19 dX8_setQuantity_10 rfl (fun hc => ?_) (fun hc => ?_)
  · replace h := h.1 hc
    refine qX_iload_n 2 dX8_setQuantity_19 rfl rfl ?_
    refine qX_iconst dX8_setQuantity_20 (i32_of rfl) ?_
    refine qX_bip dX8_setQuantity_21 rfl ?_
    obtain ⟨P, hE9, h⟩ := h
    refine qN_callS mX8_in [_, _, _] [] dX8_setQuantity_23 cm_X8_142 ⟨(Nat.le_of_ble_eq_true rfl), (Nat.le_of_ble_eq_true rfl)⟩ rfl rfl (Nat.le_of_ble_eq_true rfl) ⟨rfl, rfl⟩ hE9 (fun z6 ρ7 μ8 hz => ?_)
    replace h := h _ _ _ hz
    refine qX_if_eq 45 dX8_setQuantity_26 rfl (fun hc => ?_) (fun hc => ?_)
    · replace h := h.1 hc
      refine qX_aload_n 0 dX8_setQuantity_45 rfl rfl (by decide) ?_
      refine qX_iconst dX8_setQuantity_46 (i32_of rfl) ?_
      obtain ⟨P, hE13, h⟩ := h
      refine qN_callV mX8_failed [_] _ 8 [] dX8_setQuantity_47 cm_X8_226 ⟨(Nat.le_of_ble_eq_true rfl), (Nat.le_of_ble_eq_true rfl)⟩ rfl rfl sh178 (Nat.le_of_ble_eq_true rfl) ⟨rfl, rfl⟩ hE13 (fun z10 ρ11 μ12 hz => ?_)
      replace h := h _ _ _ hz
      exact qX_ireturn rfl dX8_setQuantity_50 rfl ⟨Nat.le_refl _, Nat.le_refl _⟩ h
    · replace h := h.2 hc
      refine qX_aload_n 0 dX8_setQuantity_29 rfl rfl (by decide) ?_
      refine qX_bip dX8_setQuantity_30 rfl ?_
      refine qX_iconst dX8_setQuantity_32 (i32_of rfl) ?_
      refine qX_iload_n 1 dX8_setQuantity_33 rfl rfl ?_
      refine qR_imul dX8_setQuantity_34 h.1 ?_
      replace h := h.2
      refine qR_iadd dX8_setQuantity_35 h.1 ?_
      replace h := h.2
      refine qX_iconst dX8_setQuantity_36 (i32_of rfl) ?_
      refine qR_iadd dX8_setQuantity_37 h.1 ?_
      replace h := h.2
      refine qX_iload_n 2 dX8_setQuantity_38 rfl rfl ?_
      obtain ⟨P, hE17, h⟩ := h
      refine qN_callV mX8_set [_, _] _ 8 [] dX8_setQuantity_39 cm_X8_410 ⟨(Nat.le_of_ble_eq_true rfl), (Nat.le_of_ble_eq_true rfl)⟩ rfl rfl sh178 (Nat.le_of_ble_eq_true rfl) ⟨rfl, rfl⟩ hE17 (fun z14 ρ15 μ16 hz => ?_)
      replace h := h _ _ _ hz
      refine qX_goto 50 dX8_setQuantity_42 rfl ?_
      exact qX_ireturn rfl dX8_setQuantity_50 rfl ⟨Nat.le_refl _, Nat.le_refl _⟩ h
  · replace h := h.2 hc
    refine qX_aload_n 0 dX8_setQuantity_13 rfl rfl (by decide) ?_
    refine qX_iconst dX8_setQuantity_14 (i32_of rfl) ?_
    obtain ⟨P, hE21, h⟩ := h
    refine qN_callV mX8_failed [_] _ 8 [] dX8_setQuantity_15 cm_X8_226 ⟨(Nat.le_of_ble_eq_true rfl), (Nat.le_of_ble_eq_true rfl)⟩ rfl rfl sh178 (Nat.le_of_ble_eq_true rfl) ⟨rfl, rfl⟩ hE21 (fun z18 ρ19 μ20 hz => ?_)
    replace h := h _ _ _ hz
    exact qX_ireturn rfl dX8_setQuantity_18 rfl ⟨Nat.le_refl _, Nat.le_refl _⟩ h
set_option maxRecDepth 20000 in
theorem e_X8_applyBest {Post : Int → Rf → Mem → Prop} {ρ : Rf} {μ : Mem} {x1 : Int}
  (h : ∀ μ1, μ1 = up2 μ 178 0 0 → ∃ P : Int → Rf → Mem → Prop, qE mX8_isTrolley GG GG [qP 178, qI x1] ρ μ1 P ∧ ∀ (z2 : Int) (ρ3 : Rf) (μ4 : Mem), P z2 ρ3 μ4 → ((z2 ≠ 0 → ∃ P : Int → Rf → Mem → Prop, qE mX8_layOrder GG GG [qP 178, qI x1] ρ3 μ4 P ∧ ∀ (z6 : Int) (ρ7 : Rf) (μ8 : Mem), P z6 ρ7 μ8 → ∃ P : Int → Rf → Mem → Prop, qE mX8_remember GG GG [qP 178] ρ7 μ8 P ∧ ∀ (z10 : Int) (ρ11 : Rf) (μ12 : Mem), P z10 ρ11 μ12 → i32 ((μ12 178 19) - 1) ∧ i32 (188 * ((μ12 178 19) - 1)) ∧ qX mX8_applyBest GG Post GG (0, 0) 41 [some (qP 178), none, some (qI (188 * ((μ12 178 19) - 1))), some (qI 0), none] [] ρ11 μ12) ∧ (z2 = 0 → ∃ P : Int → Rf → Mem → Prop, qE mX8_failed GG GG [qP 178, qI 1] ρ3 μ4 P ∧ ∀ (z14 : Int) (ρ15 : Rf) (μ16 : Mem), P z14 ρ15 μ16 → Post z14 ρ15 μ16))) : qE mX8_applyBest GG GG [qP 178, qI x1] ρ μ Post := by
  refine qE_intro pl_X8_applyBest (Nat.le_of_ble_eq_true rfl) (Nat.le_refl _) ?_
  refine qX_aload_n 0 dX8_applyBest_0 rfl rfl (by decide) ?_
  refine qX_iconst dX8_applyBest_1 (i32_of rfl) ?_
  refine qX_putI 8 0 _ dX8_applyBest_2 fs_X8_103 sh178 ?_
  replace h := h _ rfl
  refine qX_aload_n 0 dX8_applyBest_5 rfl rfl (by decide) ?_
  refine qX_iload_n 1 dX8_applyBest_6 rfl rfl ?_
  obtain ⟨P, hE5, h⟩ := h
  refine qN_callV mX8_isTrolley [_] _ 8 [] dX8_applyBest_7 cm_X8_330 ⟨(Nat.le_of_ble_eq_true rfl), (Nat.le_of_ble_eq_true rfl)⟩ rfl rfl sh178 (Nat.le_of_ble_eq_true rfl) ⟨rfl, rfl⟩ hE5 (fun z2 ρ3 μ4 hz => ?_)
  replace h := h _ _ _ hz
  refine qX_if_ne 19 dX8_applyBest_10 rfl (fun hc => ?_) (fun hc => ?_)
  · replace h := h.1 hc
    refine qX_aload_n 0 dX8_applyBest_19 rfl rfl (by decide) ?_
    refine qX_iload_n 1 dX8_applyBest_20 rfl rfl ?_
    obtain ⟨P, hE9, h⟩ := h
    refine qN_callV mX8_layOrder [_] _ 8 [] dX8_applyBest_21 cm_X8_395 ⟨(Nat.le_of_ble_eq_true rfl), (Nat.le_of_ble_eq_true rfl)⟩ rfl rfl sh178 (Nat.le_of_ble_eq_true rfl) ⟨rfl, rfl⟩ hE9 (fun z6 ρ7 μ8 hz => ?_)
    replace h := h _ _ _ hz
    refine qX_aload_n 0 dX8_applyBest_24 rfl rfl (by decide) ?_
    obtain ⟨P, hE13, h⟩ := h
    refine qN_callV mX8_remember [] _ 8 [] dX8_applyBest_25 cm_X8_404 ⟨(Nat.le_of_ble_eq_true rfl), (Nat.le_of_ble_eq_true rfl)⟩ rfl rfl sh178 (Nat.le_of_ble_eq_true rfl) ⟨rfl, rfl⟩ hE13 (fun z10 ρ11 μ12 hz => ?_)
    replace h := h _ _ _ hz
    refine qX_sip dX8_applyBest_28 rfl ?_
    refine qX_aload_n 0 dX8_applyBest_31 rfl rfl (by decide) ?_
    refine qX_getI 8 19 _ dX8_applyBest_32 fs_X8_243 sh178 ?_
    refine qX_iconst dX8_applyBest_35 (i32_of rfl) ?_
    refine qR_isub dX8_applyBest_36 h.1 ?_
    replace h := h.2
    refine qR_imul dX8_applyBest_37 h.1 ?_
    replace h := h.2
    refine qX_istore_n 2 dX8_applyBest_38 rfl (Nat.le_of_ble_eq_true rfl) rfl ?_
    refine qX_iconst dX8_applyBest_39 (i32_of rfl) ?_
    refine qX_istore_n 3 dX8_applyBest_40 rfl (Nat.le_of_ble_eq_true rfl) rfl ?_
    exact qX_mask [true, false, true, true, false] h
  · replace h := h.2 hc
    refine qX_aload_n 0 dX8_applyBest_13 rfl rfl (by decide) ?_
    refine qX_iconst dX8_applyBest_14 (i32_of rfl) ?_
    obtain ⟨P, hE17, h⟩ := h
    refine qN_callV mX8_failed [_] _ 8 [] dX8_applyBest_15 cm_X8_226 ⟨(Nat.le_of_ble_eq_true rfl), (Nat.le_of_ble_eq_true rfl)⟩ rfl rfl sh178 (Nat.le_of_ble_eq_true rfl) ⟨rfl, rfl⟩ hE17 (fun z14 ρ15 μ16 hz => ?_)
    replace h := h _ _ _ hz
    exact qX_ireturn rfl dX8_applyBest_18 rfl ⟨Nat.le_refl _, Nat.le_refl _⟩ h
set_option maxRecDepth 20000 in
theorem w_X8_applyBest_41 {Post : Int → Rf → Mem → Prop} {ρ : Rf} {μ : Mem} {x2 : Int} {x3 : Int}
  (h : ((μ 178 48 ≤ x3 → i32 ((μ 178 47) - 1) ∧ qX mX8_applyBest GG Post GG (0, 0) 117 [some (qP 178), none, none, some (qI ((μ 178 47) - 1)), none] [] ρ μ) ∧ (x3 < μ 178 48 → qX mX8_applyBest GG Post GG (0, 0) 52 [some (qP 178), none, some (qI x2), some (qI x3), some (qI 0)] [] ρ μ))) : qX mX8_applyBest GG Post GG (0, 0) 41 [some (qP 178), none, some (qI x2), some (qI x3), none] [] ρ μ := by
  refine qX_iload_n 3 dX8_applyBest_41 rfl rfl ?_
  refine qX_aload_n 0 dX8_applyBest_42 rfl rfl (by decide) ?_
  refine qX_getI 8 48 _ dX8_applyBest_43 fs_X8_392 sh178 ?_
  refine qX_icmp_ge 110 dX8_applyBest_46 rfl (fun hc => ?_) (fun hc => ?_)
  · replace h := h.1 hc
    refine qX_aload_n 0 dX8_applyBest_110 rfl rfl (by decide) ?_
    refine qX_getI 8 47 _ dX8_applyBest_111 fs_X8_374 sh178 ?_
    refine qX_iconst dX8_applyBest_114 (i32_of rfl) ?_
    refine qR_isub dX8_applyBest_115 h.1 ?_
    replace h := h.2
    refine qX_istore_n 3 dX8_applyBest_116 rfl (Nat.le_of_ble_eq_true rfl) rfl ?_
    exact qX_mask [true, false, false, true, false] h
  · replace h := h.2 hc
    refine qX_iconst dX8_applyBest_49 (i32_of rfl) ?_
    refine qX_istore dX8_applyBest_50 (Nat.le_of_ble_eq_true rfl) rfl ?_
    exact qX_mask [true, false, true, true, true] h
set_option maxRecDepth 20000 in
theorem w_X8_applyBest_117 {Post : Int → Rf → Mem → Prop} {ρ : Rf} {μ : Mem} {x3 : Int}
  (h : ((x3 < μ 178 48 → i32 ((μ 178 47) - (μ 178 48)) ∧ ∃ P : Int → Rf → Mem → Prop, qE mX8_done GG GG [qP 178, qI ((μ 178 47) - (μ 178 48))] ρ μ P ∧ ∀ (z1 : Int) (ρ2 : Rf) (μ3 : Mem), P z1 ρ2 μ3 → Post z1 ρ2 μ3) ∧ (μ 178 48 ≤ x3 → (0 ≤ x3 ∧ x3 < 8) ∧ ∃ P : Int → Rf → Mem → Prop, qE mX8_dropJob GG GG [qP 178, qI (μ 205 x3)] ρ μ P ∧ ∀ (z5 : Int) (ρ6 : Rf) (μ7 : Mem), P z5 ρ6 μ7 → i32 (x3 + (-1)) ∧ qX mX8_applyBest GG Post GG (0, 0) 117 [some (qP 178), none, none, some (qI (x3 + (-1))), none] [] ρ6 μ7))) : qX mX8_applyBest GG Post GG (0, 0) 117 [some (qP 178), none, none, some (qI x3), none] [] ρ μ := by
  refine qX_iload_n 3 dX8_applyBest_117 rfl rfl ?_
  refine qX_aload_n 0 dX8_applyBest_118 rfl rfl (by decide) ?_
  refine qX_getI 8 48 _ dX8_applyBest_119 fs_X8_392 sh178 ?_
  refine qX_icmp_lt 141 dX8_applyBest_122 rfl (fun hc => ?_) (fun hc => ?_)
  · replace h := h.1 hc
    refine qX_aload_n 0 dX8_applyBest_141 rfl rfl (by decide) ?_
    refine qX_aload_n 0 dX8_applyBest_142 rfl rfl (by decide) ?_
    refine qX_getI 8 47 _ dX8_applyBest_143 fs_X8_374 sh178 ?_
    refine qX_aload_n 0 dX8_applyBest_146 rfl rfl (by decide) ?_
    refine qX_getI 8 48 _ dX8_applyBest_147 fs_X8_392 sh178 ?_
    refine qR_isub dX8_applyBest_150 h.1 ?_
    replace h := h.2
    obtain ⟨P, hE4, h⟩ := h
    refine qN_callV mX8_done [_] _ 8 [] dX8_applyBest_151 cm_X8_246 ⟨(Nat.le_of_ble_eq_true rfl), (Nat.le_of_ble_eq_true rfl)⟩ rfl rfl sh178 (Nat.le_of_ble_eq_true rfl) ⟨rfl, rfl⟩ hE4 (fun z1 ρ2 μ3 hz => ?_)
    replace h := h _ _ _ hz
    exact qX_ireturn rfl dX8_applyBest_154 rfl ⟨Nat.le_refl _, Nat.le_refl _⟩ h
  · replace h := h.2 hc
    refine qX_aload_n 0 dX8_applyBest_125 rfl rfl (by decide) ?_
    refine qX_aload_n 0 dX8_applyBest_126 rfl rfl (by decide) ?_
    refine qX_getS 8 44 _ 26 dX8_applyBest_127 fs_X8_94 rfl rfl sh178 (x := 205) rfl ?_
    refine qX_iload_n 3 dX8_applyBest_130 rfl rfl ?_
    refine qX_iald dX8_applyBest_131 sh205 h.1 ?_
    replace h := h.2
    obtain ⟨P, hE8, h⟩ := h
    refine qN_callV mX8_dropJob [_] _ 8 [] dX8_applyBest_132 cm_X8_407 ⟨(Nat.le_of_ble_eq_true rfl), (Nat.le_of_ble_eq_true rfl)⟩ rfl rfl sh178 (Nat.le_of_ble_eq_true rfl) ⟨rfl, rfl⟩ hE8 (fun z5 ρ6 μ7 hz => ?_)
    replace h := h _ _ _ hz
    refine qR_iinc dX8_applyBest_135 rfl (Nat.le_of_ble_eq_true rfl) rfl h.1 ?_
    replace h := h.2
    refine qX_goto 117 dX8_applyBest_138 rfl ?_
    exact qX_mask [true, false, false, true, false] h
set_option maxRecDepth 20000 in
theorem w_X8_applyBest_52 {Post : Int → Rf → Mem → Prop} {ρ : Rf} {μ : Mem} {x2 : Int} {x3 : Int} {x4 : Int}
  (h : ((5 ≤ x4 → i32 (x3 + 1) ∧ qX mX8_applyBest GG Post GG (0, 0) 41 [some (qP 178), none, some (qI x2), some (qI (x3 + 1)), none] [] ρ μ) ∧ (x4 < 5 → (0 ≤ x3 ∧ x3 < 8) ∧ i32 (5 * (μ 205 x3)) ∧ i32 (88 + (5 * (μ 205 x3))) ∧ i32 ((88 + (5 * (μ 205 x3))) + x4) ∧ i32 (x2 + 88) ∧ (0 ≤ x3 ∧ x3 < 8) ∧ i32 (5 * (μ 207 x3)) ∧ i32 ((x2 + 88) + (5 * (μ 207 x3))) ∧ i32 (((x2 + 88) + (5 * (μ 207 x3))) + x4) ∧ (0 ≤ ((x2 + 88) + (5 * (μ 207 x3))) + x4 ∧ ((x2 + 88) + (5 * (μ 207 x3))) + x4 < 1880) ∧ (0 ≤ (88 + (5 * (μ 205 x3))) + x4 ∧ (88 + (5 * (μ 205 x3))) + x4 < 188) ∧ ∀ μ1, μ1 = up2 μ 180 ((88 + (5 * (μ 205 x3))) + x4) (μ 183 (((x2 + 88) + (5 * (μ 207 x3))) + x4)) → i32 (x4 + 1) ∧ qX mX8_applyBest GG Post GG (0, 0) 52 [some (qP 178), none, some (qI x2), some (qI x3), some (qI (x4 + 1))] [] ρ μ1))) : qX mX8_applyBest GG Post GG (0, 0) 52 [some (qP 178), none, some (qI x2), some (qI x3), some (qI x4)] [] ρ μ := by
  refine qX_iload dX8_applyBest_52 rfl ?_
  refine qX_iconst dX8_applyBest_54 (i32_of rfl) ?_
  refine qX_icmp_ge 104 dX8_applyBest_55 rfl (fun hc => ?_) (fun hc => ?_)
  · replace h := h.1 hc
    refine qR_iinc dX8_applyBest_104 rfl (Nat.le_of_ble_eq_true rfl) rfl h.1 ?_
    replace h := h.2
    refine qX_goto 41 dX8_applyBest_107 rfl ?_
    exact qX_mask [true, false, true, true, false] h
  · replace h := h.2 hc
    refine qX_aload_n 0 dX8_applyBest_58 rfl rfl (by decide) ?_
    refine qX_getS 8 12 _ 1 dX8_applyBest_59 fs_X8_17 rfl rfl sh178 (x := 180) rfl ?_
    refine qX_bip dX8_applyBest_62 rfl ?_
    refine qX_iconst dX8_applyBest_64 (i32_of rfl) ?_
    refine qX_aload_n 0 dX8_applyBest_65 rfl rfl (by decide) ?_
    refine qX_getS 8 44 _ 26 dX8_applyBest_66 fs_X8_94 rfl rfl sh178 (x := 205) rfl ?_
    refine qX_iload_n 3 dX8_applyBest_69 rfl rfl ?_
    refine qX_iald dX8_applyBest_70 sh205 h.1 ?_
    replace h := h.2
    refine qR_imul dX8_applyBest_71 h.1 ?_
    replace h := h.2
    refine qR_iadd dX8_applyBest_72 h.1 ?_
    replace h := h.2
    refine qX_iload dX8_applyBest_73 rfl ?_
    refine qR_iadd dX8_applyBest_75 h.1 ?_
    replace h := h.2
    refine qX_aload_n 0 dX8_applyBest_76 rfl rfl (by decide) ?_
    refine qX_getS 8 15 _ 4 dX8_applyBest_77 fs_X8_26 rfl rfl sh178 (x := 183) rfl ?_
    refine qX_iload_n 2 dX8_applyBest_80 rfl rfl ?_
    refine qX_bip dX8_applyBest_81 rfl ?_
    refine qR_iadd dX8_applyBest_83 h.1 ?_
    replace h := h.2
    refine qX_iconst dX8_applyBest_84 (i32_of rfl) ?_
    refine qX_aload_n 0 dX8_applyBest_85 rfl rfl (by decide) ?_
    refine qX_getS 8 46 _ 28 dX8_applyBest_86 fs_X8_100 rfl rfl sh178 (x := 207) rfl ?_
    refine qX_iload_n 3 dX8_applyBest_89 rfl rfl ?_
    refine qX_iald dX8_applyBest_90 sh207 h.1 ?_
    replace h := h.2
    refine qR_imul dX8_applyBest_91 h.1 ?_
    replace h := h.2
    refine qR_iadd dX8_applyBest_92 h.1 ?_
    replace h := h.2
    refine qX_iload dX8_applyBest_93 rfl ?_
    refine qR_iadd dX8_applyBest_95 h.1 ?_
    replace h := h.2
    refine qX_iald dX8_applyBest_96 sh183 h.1 ?_
    replace h := h.2
    refine qX_iast dX8_applyBest_97 sh180 h.1 ?_
    replace h := h.2
    replace h := h _ rfl
    refine qR_iinc dX8_applyBest_98 rfl (Nat.le_of_ble_eq_true rfl) rfl h.1 ?_
    replace h := h.2
    refine qX_goto 52 dX8_applyBest_101 rfl ?_
    exact qX_mask [true, false, true, true, true] h
set_option maxRecDepth 20000 in
theorem e_X8_undo {Post : Int → Rf → Mem → Prop} {ρ : Rf} {μ : Mem} 
  (h : ∀ μ1, μ1 = up2 μ 178 0 0 → ((μ1 178 20 ≠ 0 → ((μ1 178 19 ≠ 0 → i32 ((μ1 178 19) - 1) ∧ ∀ μ2, μ2 = up2 μ1 178 19 ((μ1 178 19) - 1) → i32 (188 * (μ2 178 19)) ∧ ∃ P : Int → Rf → Mem → Prop, qE mX8_copy GG GG [qP 183, qI (188 * (μ2 178 19)), qP 180, qI 0] ρ μ2 P ∧ ∀ (z3 : Int) (ρ4 : Rf) (μ5 : Mem), P z3 ρ4 μ5 → ∃ P : Int → Rf → Mem → Prop, qE mX8_done GG GG [qP 178, qI (μ5 178 19)] ρ4 μ5 P ∧ ∀ (z7 : Int) (ρ8 : Rf) (μ9 : Mem), P z7 ρ8 μ9 → Post z7 ρ8 μ9) ∧ (μ1 178 19 = 0 → ∃ P : Int → Rf → Mem → Prop, qE mX8_failed GG GG [qP 178, qI 6] ρ μ1 P ∧ ∀ (z11 : Int) (ρ12 : Rf) (μ13 : Mem), P z11 ρ12 μ13 → Post z11 ρ12 μ13))) ∧ (μ1 178 20 = 0 → ∃ P : Int → Rf → Mem → Prop, qE mX8_failed GG GG [qP 178, qI 1] ρ μ1 P ∧ ∀ (z15 : Int) (ρ16 : Rf) (μ17 : Mem), P z15 ρ16 μ17 → Post z15 ρ16 μ17))) : qE mX8_undo GG GG [qP 178] ρ μ Post := by
  refine qE_intro pl_X8_undo (Nat.le_of_ble_eq_true rfl) (Nat.le_refl _) ?_
  refine qX_aload_n 0 dX8_undo_0 rfl rfl (by decide) ?_
  refine qX_iconst dX8_undo_1 (i32_of rfl) ?_
  refine qX_putI 8 0 _ dX8_undo_2 fs_X8_103 sh178 ?_
  replace h := h _ rfl
  refine qX_aload_n 0 dX8_undo_5 rfl rfl (by decide) ?_
  refine qX_getI 8 20 _ dX8_undo_6 fs_X8_236 sh178 ?_
  refine qX_if_ne 18 dX8_undo_9 rfl (fun hc => ?_) (fun hc => ?_)
  · replace h := h.1 hc
    refine qX_aload_n 0 dX8_undo_18 rfl rfl (by decide) ?_
    refine qX_getI 8 19 _ dX8_undo_19 fs_X8_243 sh178 ?_
    refine qX_if_ne 32 dX8_undo_22 rfl (fun hc => ?_) (fun hc => ?_)
    · replace h := h.1 hc
      refine qX_aload_n 0 dX8_undo_32 rfl rfl (by decide) ?_
      refine qX_dup dX8_undo_33 rfl ?_
      refine qX_getI 8 19 _ dX8_undo_34 fs_X8_243 sh178 ?_
      refine qX_iconst dX8_undo_37 (i32_of rfl) ?_
      refine qR_isub dX8_undo_38 h.1 ?_
      replace h := h.2
      refine qX_putI 8 19 _ dX8_undo_39 fs_X8_243 sh178 ?_
      replace h := h _ rfl
      refine qX_aload_n 0 dX8_undo_42 rfl rfl (by decide) ?_
      refine qX_getS 8 15 _ 4 dX8_undo_43 fs_X8_26 rfl rfl sh178 (x := 183) rfl ?_
      refine qX_sip dX8_undo_46 rfl ?_
      refine qX_aload_n 0 dX8_undo_49 rfl rfl (by decide) ?_
      refine qX_getI 8 19 _ dX8_undo_50 fs_X8_243 sh178 ?_
      refine qR_imul dX8_undo_53 h.1 ?_
      replace h := h.2
      refine qX_aload_n 0 dX8_undo_54 rfl rfl (by decide) ?_
      refine qX_getS 8 12 _ 1 dX8_undo_55 fs_X8_17 rfl rfl sh178 (x := 180) rfl ?_
      refine qX_iconst dX8_undo_58 (i32_of rfl) ?_
      obtain ⟨P, hE6, h⟩ := h
      refine qN_callS mX8_copy [_, _, _, _] [] dX8_undo_59 cm_X8_232 ⟨(Nat.le_of_ble_eq_true rfl), (Nat.le_of_ble_eq_true rfl)⟩ rfl rfl (Nat.le_of_ble_eq_true rfl) ⟨rfl, rfl⟩ hE6 (fun z3 ρ4 μ5 hz => ?_)
      replace h := h _ _ _ hz
      refine qX_aload_n 0 dX8_undo_62 rfl rfl (by decide) ?_
      refine qX_aload_n 0 dX8_undo_63 rfl rfl (by decide) ?_
      refine qX_getI 8 19 _ dX8_undo_64 fs_X8_243 sh178 ?_
      obtain ⟨P, hE10, h⟩ := h
      refine qN_callV mX8_done [_] _ 8 [] dX8_undo_67 cm_X8_246 ⟨(Nat.le_of_ble_eq_true rfl), (Nat.le_of_ble_eq_true rfl)⟩ rfl rfl sh178 (Nat.le_of_ble_eq_true rfl) ⟨rfl, rfl⟩ hE10 (fun z7 ρ8 μ9 hz => ?_)
      replace h := h _ _ _ hz
      exact qX_ireturn rfl dX8_undo_70 rfl ⟨Nat.le_refl _, Nat.le_refl _⟩ h
    · replace h := h.2 hc
      refine qX_aload_n 0 dX8_undo_25 rfl rfl (by decide) ?_
      refine qX_bip dX8_undo_26 rfl ?_
      obtain ⟨P, hE14, h⟩ := h
      refine qN_callV mX8_failed [_] _ 8 [] dX8_undo_28 cm_X8_226 ⟨(Nat.le_of_ble_eq_true rfl), (Nat.le_of_ble_eq_true rfl)⟩ rfl rfl sh178 (Nat.le_of_ble_eq_true rfl) ⟨rfl, rfl⟩ hE14 (fun z11 ρ12 μ13 hz => ?_)
      replace h := h _ _ _ hz
      exact qX_ireturn rfl dX8_undo_31 rfl ⟨Nat.le_refl _, Nat.le_refl _⟩ h
  · replace h := h.2 hc
    refine qX_aload_n 0 dX8_undo_12 rfl rfl (by decide) ?_
    refine qX_iconst dX8_undo_13 (i32_of rfl) ?_
    obtain ⟨P, hE18, h⟩ := h
    refine qN_callV mX8_failed [_] _ 8 [] dX8_undo_14 cm_X8_226 ⟨(Nat.le_of_ble_eq_true rfl), (Nat.le_of_ble_eq_true rfl)⟩ rfl rfl sh178 (Nat.le_of_ble_eq_true rfl) ⟨rfl, rfl⟩ hE18 (fun z15 ρ16 μ17 hz => ?_)
    replace h := h _ _ _ hz
    exact qX_ireturn rfl dX8_undo_17 rfl ⟨Nat.le_refl _, Nat.le_refl _⟩ h
set_option maxRecDepth 20000 in
theorem e_X8_save {Post : Int → Rf → Mem → Prop} {ρ : Rf} {μ : Mem} 
  (h : ∀ μ1, μ1 = up2 μ 178 0 0 → ((μ1 178 20 ≠ 0 → ∃ P : Int → Rf → Mem → Prop, qE mX8_copy GG GG [qP 180, qI 0, qP 182, qI 0] ρ μ1 P ∧ ∀ (z2 : Int) (ρ3 : Rf) (μ4 : Mem), P z2 ρ3 μ4 → ∀ μ6, μ6 = up2 μ4 178 21 1 → ∃ P : Int → Rf → Mem → Prop, qE mX8_done GG GG [qP 178, qI 0] ρ3 μ6 P ∧ ∀ (z7 : Int) (ρ8 : Rf) (μ9 : Mem), P z7 ρ8 μ9 → Post z7 ρ8 μ9) ∧ (μ1 178 20 = 0 → ∃ P : Int → Rf → Mem → Prop, qE mX8_failed GG GG [qP 178, qI 1] ρ μ1 P ∧ ∀ (z11 : Int) (ρ12 : Rf) (μ13 : Mem), P z11 ρ12 μ13 → Post z11 ρ12 μ13))) : qE mX8_save GG GG [qP 178] ρ μ Post := by
  refine qE_intro pl_X8_save (Nat.le_of_ble_eq_true rfl) (Nat.le_refl _) ?_
  refine qX_aload_n 0 dX8_save_0 rfl rfl (by decide) ?_
  refine qX_iconst dX8_save_1 (i32_of rfl) ?_
  refine qX_putI 8 0 _ dX8_save_2 fs_X8_103 sh178 ?_
  replace h := h _ rfl
  refine qX_aload_n 0 dX8_save_5 rfl rfl (by decide) ?_
  refine qX_getI 8 20 _ dX8_save_6 fs_X8_236 sh178 ?_
  refine qX_if_ne 18 dX8_save_9 rfl (fun hc => ?_) (fun hc => ?_)
  · replace h := h.1 hc
    refine qX_aload_n 0 dX8_save_18 rfl rfl (by decide) ?_
    refine qX_getS 8 12 _ 1 dX8_save_19 fs_X8_17 rfl rfl sh178 (x := 180) rfl ?_
    refine qX_iconst dX8_save_22 (i32_of rfl) ?_
    refine qX_aload_n 0 dX8_save_23 rfl rfl (by decide) ?_
    refine qX_getS 8 14 _ 3 dX8_save_24 fs_X8_23 rfl rfl sh178 (x := 182) rfl ?_
    refine qX_iconst dX8_save_27 (i32_of rfl) ?_
    obtain ⟨P, hE5, h⟩ := h
    refine qN_callS mX8_copy [_, _, _, _] [] dX8_save_28 cm_X8_232 ⟨(Nat.le_of_ble_eq_true rfl), (Nat.le_of_ble_eq_true rfl)⟩ rfl rfl (Nat.le_of_ble_eq_true rfl) ⟨rfl, rfl⟩ hE5 (fun z2 ρ3 μ4 hz => ?_)
    replace h := h _ _ _ hz
    refine qX_aload_n 0 dX8_save_31 rfl rfl (by decide) ?_
    refine qX_iconst dX8_save_32 (i32_of rfl) ?_
    refine qX_putZ 8 21 _ dX8_save_33 fs_X8_240 sh178 (by decide) ?_
    replace h := h _ rfl
    refine qX_aload_n 0 dX8_save_36 rfl rfl (by decide) ?_
    refine qX_iconst dX8_save_37 (i32_of rfl) ?_
    obtain ⟨P, hE10, h⟩ := h
    refine qN_callV mX8_done [_] _ 8 [] dX8_save_38 cm_X8_246 ⟨(Nat.le_of_ble_eq_true rfl), (Nat.le_of_ble_eq_true rfl)⟩ rfl rfl sh178 (Nat.le_of_ble_eq_true rfl) ⟨rfl, rfl⟩ hE10 (fun z7 ρ8 μ9 hz => ?_)
    replace h := h _ _ _ hz
    exact qX_ireturn rfl dX8_save_41 rfl ⟨Nat.le_refl _, Nat.le_refl _⟩ h
  · replace h := h.2 hc
    refine qX_aload_n 0 dX8_save_12 rfl rfl (by decide) ?_
    refine qX_iconst dX8_save_13 (i32_of rfl) ?_
    obtain ⟨P, hE14, h⟩ := h
    refine qN_callV mX8_failed [_] _ 8 [] dX8_save_14 cm_X8_226 ⟨(Nat.le_of_ble_eq_true rfl), (Nat.le_of_ble_eq_true rfl)⟩ rfl rfl sh178 (Nat.le_of_ble_eq_true rfl) ⟨rfl, rfl⟩ hE14 (fun z11 ρ12 μ13 hz => ?_)
    replace h := h _ _ _ hz
    exact qX_ireturn rfl dX8_save_17 rfl ⟨Nat.le_refl _, Nat.le_refl _⟩ h
set_option maxRecDepth 20000 in
theorem e_X8_restore {Post : Int → Rf → Mem → Prop} {ρ : Rf} {μ : Mem} 
  (h : ∀ μ1, μ1 = up2 μ 178 0 0 → ((μ1 178 20 ≠ 0 → ((μ1 178 21 ≠ 0 → ∃ P : Int → Rf → Mem → Prop, qE mX8_copy GG GG [qP 182, qI 0, qP 180, qI 0] ρ μ1 P ∧ ∀ (z2 : Int) (ρ3 : Rf) (μ4 : Mem), P z2 ρ3 μ4 → ∀ μ6, μ6 = up2 μ4 178 19 0 → ∃ P : Int → Rf → Mem → Prop, qE mX8_done GG GG [qP 178, qI (μ6 180 87)] ρ3 μ6 P ∧ ∀ (z7 : Int) (ρ8 : Rf) (μ9 : Mem), P z7 ρ8 μ9 → Post z7 ρ8 μ9) ∧ (μ1 178 21 = 0 → ∃ P : Int → Rf → Mem → Prop, qE mX8_failed GG GG [qP 178, qI 6] ρ μ1 P ∧ ∀ (z11 : Int) (ρ12 : Rf) (μ13 : Mem), P z11 ρ12 μ13 → Post z11 ρ12 μ13))) ∧ (μ1 178 20 = 0 → ∃ P : Int → Rf → Mem → Prop, qE mX8_failed GG GG [qP 178, qI 1] ρ μ1 P ∧ ∀ (z15 : Int) (ρ16 : Rf) (μ17 : Mem), P z15 ρ16 μ17 → Post z15 ρ16 μ17))) : qE mX8_restore GG GG [qP 178] ρ μ Post := by
  refine qE_intro pl_X8_restore (Nat.le_of_ble_eq_true rfl) (Nat.le_refl _) ?_
  refine qX_aload_n 0 dX8_restore_0 rfl rfl (by decide) ?_
  refine qX_iconst dX8_restore_1 (i32_of rfl) ?_
  refine qX_putI 8 0 _ dX8_restore_2 fs_X8_103 sh178 ?_
  replace h := h _ rfl
  refine qX_aload_n 0 dX8_restore_5 rfl rfl (by decide) ?_
  refine qX_getI 8 20 _ dX8_restore_6 fs_X8_236 sh178 ?_
  refine qX_if_ne 18 dX8_restore_9 rfl (fun hc => ?_) (fun hc => ?_)
  · replace h := h.1 hc
    refine qX_aload_n 0 dX8_restore_18 rfl rfl (by decide) ?_
    refine qX_getI 8 21 _ dX8_restore_19 fs_X8_240 sh178 ?_
    refine qX_if_ne 32 dX8_restore_22 rfl (fun hc => ?_) (fun hc => ?_)
    · replace h := h.1 hc
      refine qX_aload_n 0 dX8_restore_32 rfl rfl (by decide) ?_
      refine qX_getS 8 14 _ 3 dX8_restore_33 fs_X8_23 rfl rfl sh178 (x := 182) rfl ?_
      refine qX_iconst dX8_restore_36 (i32_of rfl) ?_
      refine qX_aload_n 0 dX8_restore_37 rfl rfl (by decide) ?_
      refine qX_getS 8 12 _ 1 dX8_restore_38 fs_X8_17 rfl rfl sh178 (x := 180) rfl ?_
      refine qX_iconst dX8_restore_41 (i32_of rfl) ?_
      obtain ⟨P, hE5, h⟩ := h
      refine qN_callS mX8_copy [_, _, _, _] [] dX8_restore_42 cm_X8_232 ⟨(Nat.le_of_ble_eq_true rfl), (Nat.le_of_ble_eq_true rfl)⟩ rfl rfl (Nat.le_of_ble_eq_true rfl) ⟨rfl, rfl⟩ hE5 (fun z2 ρ3 μ4 hz => ?_)
      replace h := h _ _ _ hz
      refine qX_aload_n 0 dX8_restore_45 rfl rfl (by decide) ?_
      refine qX_iconst dX8_restore_46 (i32_of rfl) ?_
      refine qX_putI 8 19 _ dX8_restore_47 fs_X8_243 sh178 ?_
      replace h := h _ rfl
      refine qX_aload_n 0 dX8_restore_50 rfl rfl (by decide) ?_
      refine qX_aload_n 0 dX8_restore_51 rfl rfl (by decide) ?_
      refine qX_getS 8 12 _ 1 dX8_restore_52 fs_X8_17 rfl rfl sh178 (x := 180) rfl ?_
      refine qX_bip dX8_restore_55 rfl ?_
      refine qX_iald dX8_restore_57 sh180 ⟨by decide, by decide⟩ ?_
      obtain ⟨P, hE10, h⟩ := h
      refine qN_callV mX8_done [_] _ 8 [] dX8_restore_58 cm_X8_246 ⟨(Nat.le_of_ble_eq_true rfl), (Nat.le_of_ble_eq_true rfl)⟩ rfl rfl sh178 (Nat.le_of_ble_eq_true rfl) ⟨rfl, rfl⟩ hE10 (fun z7 ρ8 μ9 hz => ?_)
      replace h := h _ _ _ hz
      exact qX_ireturn rfl dX8_restore_61 rfl ⟨Nat.le_refl _, Nat.le_refl _⟩ h
    · replace h := h.2 hc
      refine qX_aload_n 0 dX8_restore_25 rfl rfl (by decide) ?_
      refine qX_bip dX8_restore_26 rfl ?_
      obtain ⟨P, hE14, h⟩ := h
      refine qN_callV mX8_failed [_] _ 8 [] dX8_restore_28 cm_X8_226 ⟨(Nat.le_of_ble_eq_true rfl), (Nat.le_of_ble_eq_true rfl)⟩ rfl rfl sh178 (Nat.le_of_ble_eq_true rfl) ⟨rfl, rfl⟩ hE14 (fun z11 ρ12 μ13 hz => ?_)
      replace h := h _ _ _ hz
      exact qX_ireturn rfl dX8_restore_31 rfl ⟨Nat.le_refl _, Nat.le_refl _⟩ h
  · replace h := h.2 hc
    refine qX_aload_n 0 dX8_restore_12 rfl rfl (by decide) ?_
    refine qX_iconst dX8_restore_13 (i32_of rfl) ?_
    obtain ⟨P, hE18, h⟩ := h
    refine qN_callV mX8_failed [_] _ 8 [] dX8_restore_14 cm_X8_226 ⟨(Nat.le_of_ble_eq_true rfl), (Nat.le_of_ble_eq_true rfl)⟩ rfl rfl sh178 (Nat.le_of_ble_eq_true rfl) ⟨rfl, rfl⟩ hE18 (fun z15 ρ16 μ17 hz => ?_)
    replace h := h _ _ _ hz
    exact qX_ireturn rfl dX8_restore_17 rfl ⟨Nat.le_refl _, Nat.le_refl _⟩ h
set_option maxRecDepth 20000 in
theorem e_X8_served {Post : Int → Rf → Mem → Prop} {ρ : Rf} {μ : Mem} {x1 : Int}
  (h : ∀ μ1, μ1 = up2 μ 178 0 0 → ((μ1 178 20 = 0 → qX mX8_served GG Post GG (0, 0) 20 [some (qP 178), some (qI x1), some (qI x1), some (qI 0)] [] ρ μ1) ∧ (μ1 178 20 ≠ 0 → ∃ P : Int → Rf → Mem → Prop, qE mX8_goAll GG GG [qP 178] ρ μ1 P ∧ ∀ (z2 : Int) (ρ3 : Rf) (μ4 : Mem), P z2 ρ3 μ4 → qX mX8_served GG Post GG (0, 0) 20 [some (qP 178), some (qI x1), some (qI x1), some (qI 0)] [] ρ3 μ4))) : qE mX8_served GG GG [qP 178, qI x1] ρ μ Post := by
  refine qE_intro pl_X8_served (Nat.le_of_ble_eq_true rfl) (Nat.le_refl _) ?_
  refine qX_aload_n 0 dX8_served_0 rfl rfl (by decide) ?_
  refine qX_iconst dX8_served_1 (i32_of rfl) ?_
  refine qX_putI 8 0 _ dX8_served_2 fs_X8_103 sh178 ?_
  replace h := h _ rfl
  refine qX_aload_n 0 dX8_served_5 rfl rfl (by decide) ?_
  refine qX_getI 8 20 _ dX8_served_6 fs_X8_236 sh178 ?_
  refine qX_if_eq 16 dX8_served_9 rfl (fun hc => ?_) (fun hc => ?_)
  · replace h := h.1 hc
    refine qX_iload_n 1 dX8_served_16 rfl rfl ?_
    refine qX_istore_n 2 dX8_served_17 rfl (Nat.le_of_ble_eq_true rfl) rfl ?_
    refine qX_iconst dX8_served_18 (i32_of rfl) ?_
    refine qX_istore_n 3 dX8_served_19 rfl (Nat.le_of_ble_eq_true rfl) rfl ?_
    exact qX_mask [true, true, true, true] h
  · replace h := h.2 hc
    refine qX_aload_n 0 dX8_served_12 rfl rfl (by decide) ?_
    obtain ⟨P, hE5, h⟩ := h
    refine qN_callV mX8_goAll [] _ 8 [] dX8_served_13 cm_X8_317 ⟨(Nat.le_of_ble_eq_true rfl), (Nat.le_of_ble_eq_true rfl)⟩ rfl rfl sh178 (Nat.le_of_ble_eq_true rfl) ⟨rfl, rfl⟩ hE5 (fun z2 ρ3 μ4 hz => ?_)
    replace h := h _ _ _ hz
    refine qX_iload_n 1 dX8_served_16 rfl rfl ?_
    refine qX_istore_n 2 dX8_served_17 rfl (Nat.le_of_ble_eq_true rfl) rfl ?_
    refine qX_iconst dX8_served_18 (i32_of rfl) ?_
    refine qX_istore_n 3 dX8_served_19 rfl (Nat.le_of_ble_eq_true rfl) rfl ?_
    exact qX_mask [true, true, true, true] h
set_option maxRecDepth 20000 in
theorem w_X8_served_20 {Post : Int → Rf → Mem → Prop} {ρ : Rf} {μ : Mem} {x1 : Int} {x2 : Int} {x3 : Int}
  (h : ((μ 178 20 = 0 → ∀ μ1, μ1 = up2 μ 178 0 1 → Post 0 ρ μ1) ∧ (μ 178 20 ≠ 0 → ((μ 180 87 ≤ x3 → ∀ μ2, μ2 = up2 μ 178 0 1 → Post 0 ρ μ2) ∧ (x3 < μ 180 87 → ((x1 < 0 → ∀ μ3, μ3 = up2 μ 178 0 1 → Post 0 ρ μ3) ∧ (0 ≤ x1 → (0 ≤ x3 ∧ x3 < 20) ∧ ((μ 199 x3 ≠ 0 → ((x2 ≠ 0 → i32 (x2 + (-1)) ∧ i32 (x3 + 1) ∧ qX mX8_served GG Post GG (0, 0) 20 [some (qP 178), some (qI x1), some (qI (x2 + (-1))), some (qI (x3 + 1))] [] ρ μ) ∧ (x2 = 0 → Post x3 ρ μ))) ∧ (μ 199 x3 = 0 → i32 (x3 + 1) ∧ qX mX8_served GG Post GG (0, 0) 20 [some (qP 178), some (qI x1), some (qI x2), some (qI (x3 + 1))] [] ρ μ))))))))) : qX mX8_served GG Post GG (0, 0) 20 [some (qP 178), some (qI x1), some (qI x2), some (qI x3)] [] ρ μ := by
  refine qX_aload_n 0 dX8_served_20 rfl rfl (by decide) ?_
  refine qX_getI 8 20 _ dX8_served_21 fs_X8_236 sh178 ?_
  refine qX_if_eq 69 dX8_served_24 rfl (fun hc => ?_) (fun hc => ?_)
  · replace h := h.1 hc
    refine qX_aload_n 0 dX8_served_69 rfl rfl (by decide) ?_
    refine qX_iconst dX8_served_70 (i32_of rfl) ?_
    refine qX_putI 8 0 _ dX8_served_71 fs_X8_103 sh178 ?_
    replace h := h _ rfl
    refine qX_iconst dX8_served_74 (i32_of rfl) ?_
    exact qX_ireturn rfl dX8_served_75 rfl ⟨Nat.le_refl _, Nat.le_refl _⟩ h
  · replace h := h.2 hc
    refine qX_iload_n 3 dX8_served_27 rfl rfl ?_
    refine qX_aload_n 0 dX8_served_28 rfl rfl (by decide) ?_
    refine qX_getS 8 12 _ 1 dX8_served_29 fs_X8_17 rfl rfl sh178 (x := 180) rfl ?_
    refine qX_bip dX8_served_32 rfl ?_
    refine qX_iald dX8_served_34 sh180 ⟨by decide, by decide⟩ ?_
    refine qX_icmp_ge 69 dX8_served_35 rfl (fun hc => ?_) (fun hc => ?_)
    · replace h := h.1 hc
      refine qX_aload_n 0 dX8_served_69 rfl rfl (by decide) ?_
      refine qX_iconst dX8_served_70 (i32_of rfl) ?_
      refine qX_putI 8 0 _ dX8_served_71 fs_X8_103 sh178 ?_
      replace h := h _ rfl
      refine qX_iconst dX8_served_74 (i32_of rfl) ?_
      exact qX_ireturn rfl dX8_served_75 rfl ⟨Nat.le_refl _, Nat.le_refl _⟩ h
    · replace h := h.2 hc
      refine qX_iload_n 1 dX8_served_38 rfl rfl ?_
      refine qX_if_lt 69 dX8_served_39 rfl (fun hc => ?_) (fun hc => ?_)
      · replace h := h.1 hc
        refine qX_aload_n 0 dX8_served_69 rfl rfl (by decide) ?_
        refine qX_iconst dX8_served_70 (i32_of rfl) ?_
        refine qX_putI 8 0 _ dX8_served_71 fs_X8_103 sh178 ?_
        replace h := h _ rfl
        refine qX_iconst dX8_served_74 (i32_of rfl) ?_
        exact qX_ireturn rfl dX8_served_75 rfl ⟨Nat.le_refl _, Nat.le_refl _⟩ h
      · replace h := h.2 hc
        refine qX_aload_n 0 dX8_served_42 rfl rfl (by decide) ?_
        refine qX_getS 8 34 _ 20 dX8_served_43 fs_X8_76 rfl rfl sh178 (x := 199) rfl ?_
        refine qX_iload_n 3 dX8_served_46 rfl rfl ?_
        refine qX_iald dX8_served_47 sh199 h.1 ?_
        replace h := h.2
        refine qX_if_ne 54 dX8_served_48 rfl (fun hc => ?_) (fun hc => ?_)
        · replace h := h.1 hc
          refine qX_iload_n 2 dX8_served_54 rfl rfl ?_
          refine qX_if_ne 60 dX8_served_55 rfl (fun hc => ?_) (fun hc => ?_)
          · replace h := h.1 hc
            refine qR_iinc dX8_served_60 rfl (Nat.le_of_ble_eq_true rfl) rfl h.1 ?_
            replace h := h.2
            refine qR_iinc dX8_served_63 rfl (Nat.le_of_ble_eq_true rfl) rfl h.1 ?_
            replace h := h.2
            refine qX_goto 20 dX8_served_66 rfl ?_
            exact qX_mask [true, true, true, true] h
          · replace h := h.2 hc
            refine qX_iload_n 3 dX8_served_58 rfl rfl ?_
            exact qX_ireturn rfl dX8_served_59 rfl ⟨Nat.le_refl _, Nat.le_refl _⟩ h
        · replace h := h.2 hc
          refine qX_goto 63 dX8_served_51 rfl ?_
          refine qR_iinc dX8_served_63 rfl (Nat.le_of_ble_eq_true rfl) rfl h.1 ?_
          replace h := h.2
          refine qX_goto 20 dX8_served_66 rfl ?_
          exact qX_mask [true, true, true, true] h
