/-! ===== conditions of the methods, from cut to cut (generated, part 1) ===== -/
set_option maxRecDepth 20000 in
theorem e_X3_play {Post : Int → Rf → Mem → Prop} {ρ : Rf} {μ : Mem} {o : Nat} (ho : isO 3 o) {x1 : Nat} (hx1 : isO 0 x1) {x2 : Nat} (hx2 : isO 6 x2)
  (h : ∀ μ1, μ1 = cpyM μ (x2 + 6) (o + 9) 12 → ∃ P : Int → Rf → Mem → Prop, qE mJ7_fill_53178 GG GG [qP (o + 13), qI 0] ρ μ1 P ∧ ∀ (z2 : Int) (ρ3 : Rf) (μ4 : Mem), P z2 ρ3 μ4 → ∀ μ6, μ6 = up2 μ4 o 9 0 → qX mX3_play GG Post GG (0, 0) 30 [some (qP o), some (qP x1), some (qP x2), some (qI 0), none] [] ρ3 μ6) : qE mX3_play GG GG [qP o, qP x1, qP x2] ρ μ Post := by
  refine qE_intro pl_X3_play (Nat.le_of_ble_eq_true rfl) (Nat.le_refl _) ?_
  refine qX_aload_n 2 dX3_play_0 rfl rfl (shN hx2) ?_
  refine qX_getS 6 5 _ 5 dX3_play_1 fs_X3_51 rfl rfl hx2 rfl ?_
  refine qX_iconst dX3_play_4 (i32_of rfl) ?_
  refine qX_aload_n 0 dX3_play_5 rfl rfl (shN ho) ?_
  refine qX_getS 3 8 _ 8 dX3_play_6 fs_X3_36 rfl rfl ho rfl ?_
  refine qX_iconst dX3_play_9 (i32_of rfl) ?_
  refine qX_bip dX3_play_10 rfl ?_
  refine qX_copy dX3_play_12 kM_X3_54 (ar6_5 hx2) (ar3_8 ho) ⟨by decide, by decide, by decide⟩ ⟨(Nat.le_of_ble_eq_true rfl), (Nat.le_of_ble_eq_true rfl)⟩ (Nat.le_of_ble_eq_true rfl) ?_
  replace h := h _ rfl
  refine qX_aload_n 0 dX3_play_15 rfl rfl (shN ho) ?_
  refine qX_getS 3 13 _ 12 dX3_play_16 fs_X3_48 rfl rfl ho rfl ?_
  refine qX_iconst dX3_play_19 (i32_of rfl) ?_
  obtain ⟨P, hE5, h⟩ := h
  refine qN_callS mJ7_fill_53178 [_, _] [] dX3_play_20 cm_X3_60 ⟨(Nat.le_of_ble_eq_true rfl), (Nat.le_of_ble_eq_true rfl)⟩ rfl rfl (Nat.le_of_ble_eq_true rfl) ⟨rfl, rfl⟩ hE5 (fun z2 ρ3 μ4 hz => ?_)
  replace h := h _ _ _ hz
  refine qX_aload_n 0 dX3_play_23 rfl rfl (shN ho) ?_
  refine qX_iconst dX3_play_24 (i32_of rfl) ?_
  refine qX_putI 3 9 _ dX3_play_25 fs_X3_66 ho ?_
  replace h := h _ rfl
  refine qX_iconst dX3_play_28 (i32_of rfl) ?_
  refine qX_istore_n 3 dX3_play_29 rfl (Nat.le_of_ble_eq_true rfl) rfl ?_
  exact qX_mask [true, true, true, true, false] h
set_option maxRecDepth 20000 in
theorem w_X3_play_30 {Post : Int → Rf → Mem → Prop} {ρ : Rf} {μ : Mem} {o : Nat} (ho : isO 3 o) {x1 : Nat} (hx1 : isO 0 x1) {x2 : Nat} (hx2 : isO 6 x2) {x3 : Int}
  (h : ((μ x1 17 ≤ x3 → qX mX3_play GG Post GG (0, 0) 54 [some (qP o), some (qP x1), some (qP x2), some (qI 0), none] [] ρ μ) ∧ (x3 < μ x1 17 → ∃ P : Int → Rf → Mem → Prop, qE mX3_awaitStart GG GG [qP o, qP x2, qI x3, qI 0, qI 0] ρ μ P ∧ ∀ (z1 : Int) (ρ2 : Rf) (μ3 : Mem), P z1 ρ2 μ3 → i32 (x3 + 1) ∧ qX mX3_play GG Post GG (0, 0) 30 [some (qP o), some (qP x1), some (qP x2), some (qI (x3 + 1)), none] [] ρ2 μ3))) : qX mX3_play GG Post GG (0, 0) 30 [some (qP o), some (qP x1), some (qP x2), some (qI x3), none] [] ρ μ := by
  refine qX_iload_n 3 dX3_play_30 rfl rfl ?_
  refine qX_aload_n 1 dX3_play_31 rfl rfl (shN hx1) ?_
  refine qX_getI 0 17 _ dX3_play_32 fs_X3_70 hx1 ?_
  refine qX_icmp_ge 52 dX3_play_35 rfl (fun hc => ?_) (fun hc => ?_)
  · replace h := h.1 hc
    refine qX_iconst dX3_play_52 (i32_of rfl) ?_
    refine qX_istore_n 3 dX3_play_53 rfl (Nat.le_of_ble_eq_true rfl) rfl ?_
    exact qX_mask [true, true, true, true, false] h
  · replace h := h.2 hc
    refine qX_aload_n 0 dX3_play_38 rfl rfl (shN ho) ?_
    refine qX_aload_n 2 dX3_play_39 rfl rfl (shN hx2) ?_
    refine qX_iload_n 3 dX3_play_40 rfl rfl ?_
    refine qX_iconst dX3_play_41 (i32_of rfl) ?_
    refine qX_iconst dX3_play_42 (i32_of rfl) ?_
    obtain ⟨P, hE4, h⟩ := h
    refine qN_callV mX3_awaitStart [_, _, _, _] _ 3 [] dX3_play_43 cm_X3_75 ⟨(Nat.le_of_ble_eq_true rfl), (Nat.le_of_ble_eq_true rfl)⟩ rfl rfl ho (Nat.le_of_ble_eq_true rfl) ⟨rfl, rfl⟩ hE4 (fun z1 ρ2 μ3 hz => ?_)
    replace h := h _ _ _ hz
    refine qR_iinc dX3_play_46 rfl (Nat.le_of_ble_eq_true rfl) rfl h.1 ?_
    replace h := h.2
    refine qX_goto 30 dX3_play_49 rfl ?_
    exact qX_mask [true, true, true, true, false] h
set_option maxRecDepth 20000 in
theorem w_X3_play_54 {Post : Int → Rf → Mem → Prop} {ρ : Rf} {μ : Mem} {o : Nat} (ho : isO 3 o) {x1 : Nat} (hx1 : isO 0 x1) {x2 : Nat} (hx2 : isO 6 x2) {x3 : Int}
  (h : ((60 ≤ x3 → Post 0 ρ μ) ∧ (x3 < 60 → ∃ P : Int → Rf → Mem → Prop, qE mX3_nextTrolley GG GG [qP o, qI (μ x1 17)] ρ μ P ∧ ∀ (z1 : Int) (ρ2 : Rf) (μ3 : Mem), P z1 ρ2 μ3 → ((0 ≤ z1 → (0 ≤ z1 ∧ z1 < 5) ∧ ((μ3 (o + 10) z1 ≠ 1 → (0 ≤ z1 ∧ z1 < 5) ∧ ((μ3 (o + 10) z1 ≠ 2 → ∃ P : Int → Rf → Mem → Prop, qE mX3_bringBack GG GG [qP o, qP x1, qP x2, qI z1] ρ2 μ3 P ∧ ∀ (z5 : Int) (ρ6 : Rf) (μ7 : Mem), P z5 ρ6 μ7 → qX mX3_play GG Post GG (0, 0) 128 [some (qP o), some (qP x1), some (qP x2), some (qI x3), none] [] ρ6 μ7) ∧ (μ3 (o + 10) z1 = 2 → ∃ P : Int → Rf → Mem → Prop, qE mX3_reachDoor GG GG [qP o, qP x1, qP x2, qI z1] ρ2 μ3 P ∧ ∀ (z9 : Int) (ρ10 : Rf) (μ11 : Mem), P z9 ρ10 μ11 → qX mX3_play GG Post GG (0, 0) 128 [some (qP o), some (qP x1), some (qP x2), some (qI x3), none] [] ρ10 μ11))) ∧ (μ3 (o + 10) z1 = 1 → ∃ P : Int → Rf → Mem → Prop, qE mX3_startJob GG GG [qP o, qP x1, qP x2, qI z1] ρ2 μ3 P ∧ ∀ (z13 : Int) (ρ14 : Rf) (μ15 : Mem), P z13 ρ14 μ15 → qX mX3_play GG Post GG (0, 0) 128 [some (qP o), some (qP x1), some (qP x2), some (qI x3), none] [] ρ14 μ15))) ∧ (z1 < 0 → Post 0 ρ2 μ3))))) : qX mX3_play GG Post GG (0, 0) 54 [some (qP o), some (qP x1), some (qP x2), some (qI x3), none] [] ρ μ := by
  refine qX_iload_n 3 dX3_play_54 rfl rfl ?_
  refine qX_bip dX3_play_55 rfl ?_
  refine qX_icmp_ge 134 dX3_play_57 rfl (fun hc => ?_) (fun hc => ?_)
  · replace h := h.1 hc
    exact qX_return rfl dX3_play_134 rfl ⟨(Nat.le_of_ble_eq_true rfl), (Nat.le_of_ble_eq_true rfl)⟩ h
  · replace h := h.2 hc
    refine qX_aload_n 0 dX3_play_60 rfl rfl (shN ho) ?_
    refine qX_aload_n 1 dX3_play_61 rfl rfl (shN hx1) ?_
    refine qX_getI 0 17 _ dX3_play_62 fs_X3_70 hx1 ?_
    obtain ⟨P, hE4, h⟩ := h
    refine qN_callV mX3_nextTrolley [_] _ 3 [] dX3_play_65 cm_X3_79 ⟨(Nat.le_of_ble_eq_true rfl), (Nat.le_of_ble_eq_true rfl)⟩ rfl rfl ho (Nat.le_of_ble_eq_true rfl) ⟨rfl, rfl⟩ hE4 (fun z1 ρ2 μ3 hz => ?_)
    replace h := h _ _ _ hz
    refine qX_istore dX3_play_68 (Nat.le_of_ble_eq_true rfl) rfl ?_
    refine qX_iload dX3_play_70 rfl ?_
    refine qX_if_ge 76 dX3_play_72 rfl (fun hc => ?_) (fun hc => ?_)
    · replace h := h.1 hc
      refine qX_aload_n 0 dX3_play_76 rfl rfl (shN ho) ?_
      refine qX_getS 3 10 _ 9 dX3_play_77 fs_X3_39 rfl rfl ho rfl ?_
      refine qX_iload dX3_play_80 rfl ?_
      refine qX_iald dX3_play_82 (ar3_10 ho) h.1 ?_
      replace h := h.2
      refine qX_iconst dX3_play_83 (i32_of rfl) ?_
      refine qX_icmp_ne 98 dX3_play_84 rfl (fun hc => ?_) (fun hc => ?_)
      · replace h := h.1 hc
        refine qX_aload_n 0 dX3_play_98 rfl rfl (shN ho) ?_
        refine qX_getS 3 10 _ 9 dX3_play_99 fs_X3_39 rfl rfl ho rfl ?_
        refine qX_iload dX3_play_102 rfl ?_
        refine qX_iald dX3_play_104 (ar3_10 ho) h.1 ?_
        replace h := h.2
        refine qX_iconst dX3_play_105 (i32_of rfl) ?_
        refine qX_icmp_ne 120 dX3_play_106 rfl (fun hc => ?_) (fun hc => ?_)
        · replace h := h.1 hc
          refine qX_aload_n 0 dX3_play_120 rfl rfl (shN ho) ?_
          refine qX_aload_n 1 dX3_play_121 rfl rfl (shN hx1) ?_
          refine qX_aload_n 2 dX3_play_122 rfl rfl (shN hx2) ?_
          refine qX_iload dX3_play_123 rfl ?_
          obtain ⟨P, hE8, h⟩ := h
          refine qN_callV mX3_bringBack [_, _, _] _ 3 [] dX3_play_125 cm_X3_90 ⟨(Nat.le_of_ble_eq_true rfl), (Nat.le_of_ble_eq_true rfl)⟩ rfl rfl ho (Nat.le_of_ble_eq_true rfl) ⟨rfl, rfl⟩ hE8 (fun z5 ρ6 μ7 hz => ?_)
          replace h := h _ _ _ hz
          exact qX_mask [true, true, true, true, false] h
        · replace h := h.2 hc
          refine qX_aload_n 0 dX3_play_109 rfl rfl (shN ho) ?_
          refine qX_aload_n 1 dX3_play_110 rfl rfl (shN hx1) ?_
          refine qX_aload_n 2 dX3_play_111 rfl rfl (shN hx2) ?_
          refine qX_iload dX3_play_112 rfl ?_
          obtain ⟨P, hE12, h⟩ := h
          refine qN_callV mX3_reachDoor [_, _, _] _ 3 [] dX3_play_114 cm_X3_87 ⟨(Nat.le_of_ble_eq_true rfl), (Nat.le_of_ble_eq_true rfl)⟩ rfl rfl ho (Nat.le_of_ble_eq_true rfl) ⟨rfl, rfl⟩ hE12 (fun z9 ρ10 μ11 hz => ?_)
          replace h := h _ _ _ hz
          refine qX_goto 128 dX3_play_117 rfl ?_
          exact qX_mask [true, true, true, true, false] h
      · replace h := h.2 hc
        refine qX_aload_n 0 dX3_play_87 rfl rfl (shN ho) ?_
        refine qX_aload_n 1 dX3_play_88 rfl rfl (shN hx1) ?_
        refine qX_aload_n 2 dX3_play_89 rfl rfl (shN hx2) ?_
        refine qX_iload dX3_play_90 rfl ?_
        obtain ⟨P, hE16, h⟩ := h
        refine qN_callV mX3_startJob [_, _, _] _ 3 [] dX3_play_92 cm_X3_83 ⟨(Nat.le_of_ble_eq_true rfl), (Nat.le_of_ble_eq_true rfl)⟩ rfl rfl ho (Nat.le_of_ble_eq_true rfl) ⟨rfl, rfl⟩ hE16 (fun z13 ρ14 μ15 hz => ?_)
        replace h := h _ _ _ hz
        refine qX_goto 128 dX3_play_95 rfl ?_
        exact qX_mask [true, true, true, true, false] h
    · replace h := h.2 hc
      exact qX_return rfl dX3_play_75 rfl ⟨(Nat.le_of_ble_eq_true rfl), (Nat.le_of_ble_eq_true rfl)⟩ h
set_option maxRecDepth 20000 in
theorem w_X3_play_128 {Post : Int → Rf → Mem → Prop} {ρ : Rf} {μ : Mem} {o : Nat} (ho : isO 3 o) {x1 : Nat} (hx1 : isO 0 x1) {x2 : Nat} (hx2 : isO 6 x2) {x3 : Int}
  (h : i32 (x3 + 1) ∧ qX mX3_play GG Post GG (0, 0) 54 [some (qP o), some (qP x1), some (qP x2), some (qI (x3 + 1)), none] [] ρ μ) : qX mX3_play GG Post GG (0, 0) 128 [some (qP o), some (qP x1), some (qP x2), some (qI x3), none] [] ρ μ := by
  refine qR_iinc dX3_play_128 rfl (Nat.le_of_ble_eq_true rfl) rfl h.1 ?_
  replace h := h.2
  refine qX_goto 54 dX3_play_131 rfl ?_
  exact qX_mask [true, true, true, true, false] h
set_option maxRecDepth 20000 in
theorem e_X3_awaitStart {Post : Int → Rf → Mem → Prop} {ρ : Rf} {μ : Mem} {o : Nat} (ho : isO 3 o) {x1 : Nat} (hx1 : isO 6 x1) {x2 : Int} {x3 : Int} {x4 : Int}
  (h : ∃ P : Int → Rf → Mem → Prop, qE mX6_jobFrom GG GG [qP x1, qI x2, qI x3] ρ μ P ∧ ∀ (z1 : Int) (ρ2 : Rf) (μ3 : Mem), P z1 ρ2 μ3 → (0 ≤ x2 ∧ x2 < 5) ∧ ∀ μ5, μ5 = up2 μ3 (o + 12) x2 z1 → (0 ≤ x2 ∧ x2 < 5) ∧ ∀ μ6, μ6 = up2 μ5 (o + 11) x2 x4 → (0 ≤ x2 ∧ x2 < 5) ∧ ((0 ≤ μ6 (o + 12) x2 → (0 ≤ x2 ∧ x2 < 5) ∧ ∀ μ7, μ7 = up2 μ6 (o + 10) x2 1 → Post 0 ρ2 μ7) ∧ (μ6 (o + 12) x2 < 0 → (0 ≤ x2 ∧ x2 < 5) ∧ ∀ μ8, μ8 = up2 μ6 (o + 10) x2 0 → Post 0 ρ2 μ8))) : qE mX3_awaitStart GG GG [qP o, qP x1, qI x2, qI x3, qI x4] ρ μ Post := by
  refine qE_intro pl_X3_awaitStart (Nat.le_of_ble_eq_true rfl) (Nat.le_refl _) ?_
  refine qX_aload_n 0 dX3_awaitStart_0 rfl rfl (shN ho) ?_
  refine qX_getS 3 12 _ 11 dX3_awaitStart_1 fs_X3_45 rfl rfl ho rfl ?_
  refine qX_iload_n 2 dX3_awaitStart_4 rfl rfl ?_
  refine qX_aload_n 1 dX3_awaitStart_5 rfl rfl (shN hx1) ?_
  refine qX_iload_n 2 dX3_awaitStart_6 rfl rfl ?_
  refine qX_iload_n 3 dX3_awaitStart_7 rfl rfl ?_
  obtain ⟨P, hE4, h⟩ := h
  refine qN_callV mX6_jobFrom [_, _] _ 6 [_, _] dX3_awaitStart_8 cm_X3_93 ⟨(Nat.le_of_ble_eq_true rfl), (Nat.le_of_ble_eq_true rfl)⟩ rfl rfl hx1 (Nat.le_of_ble_eq_true rfl) ⟨rfl, rfl⟩ hE4 (fun z1 ρ2 μ3 hz => ?_)
  replace h := h _ _ _ hz
  refine qX_iast dX3_awaitStart_11 (ar3_12 ho) h.1 ?_
  replace h := h.2
  replace h := h _ rfl
  refine qX_aload_n 0 dX3_awaitStart_12 rfl rfl (shN ho) ?_
  refine qX_getS 3 11 _ 10 dX3_awaitStart_13 fs_X3_42 rfl rfl ho rfl ?_
  refine qX_iload_n 2 dX3_awaitStart_16 rfl rfl ?_
  refine qX_iload dX3_awaitStart_17 rfl ?_
  refine qX_iast dX3_awaitStart_19 (ar3_11 ho) h.1 ?_
  replace h := h.2
  replace h := h _ rfl
  refine qX_aload_n 0 dX3_awaitStart_20 rfl rfl (shN ho) ?_
  refine qX_getS 3 10 _ 9 dX3_awaitStart_21 fs_X3_39 rfl rfl ho rfl ?_
  refine qX_iload_n 2 dX3_awaitStart_24 rfl rfl ?_
  refine qX_aload_n 0 dX3_awaitStart_25 rfl rfl (shN ho) ?_
  refine qX_getS 3 12 _ 11 dX3_awaitStart_26 fs_X3_45 rfl rfl ho rfl ?_
  refine qX_iload_n 2 dX3_awaitStart_29 rfl rfl ?_
  refine qX_iald dX3_awaitStart_30 (ar3_12 ho) h.1 ?_
  replace h := h.2
  refine qX_if_ge 38 dX3_awaitStart_31 rfl (fun hc => ?_) (fun hc => ?_)
  · replace h := h.1 hc
    refine qX_iconst dX3_awaitStart_38 (i32_of rfl) ?_
    refine qX_iast dX3_awaitStart_39 (ar3_10 ho) h.1 ?_
    replace h := h.2
    replace h := h _ rfl
    exact qX_return rfl dX3_awaitStart_40 rfl ⟨(Nat.le_of_ble_eq_true rfl), (Nat.le_of_ble_eq_true rfl)⟩ h
  · replace h := h.2 hc
    refine qX_iconst dX3_awaitStart_34 (i32_of rfl) ?_
    refine qX_goto 39 dX3_awaitStart_35 rfl ?_
    refine qX_iast dX3_awaitStart_39 (ar3_10 ho) h.1 ?_
    replace h := h.2
    replace h := h _ rfl
    exact qX_return rfl dX3_awaitStart_40 rfl ⟨(Nat.le_of_ble_eq_true rfl), (Nat.le_of_ble_eq_true rfl)⟩ h
set_option maxRecDepth 20000 in
theorem e_X3_nextTrolley {Post : Int → Rf → Mem → Prop} {ρ : Rf} {μ : Mem} {o : Nat} (ho : isO 3 o) {x1 : Int}
  (h : qX mX3_nextTrolley GG Post GG (0, 0) 7 [some (qP o), some (qI x1), some (qI (-1)), some (qI 0), some (qI 0), none] [] ρ μ) : qE mX3_nextTrolley GG GG [qP o, qI x1] ρ μ Post := by
  refine qE_intro pl_X3_nextTrolley (Nat.le_of_ble_eq_true rfl) (Nat.le_refl _) ?_
  refine qX_iconst dX3_nextTrolley_0 (i32_of rfl) ?_
  refine qX_istore_n 2 dX3_nextTrolley_1 rfl (Nat.le_of_ble_eq_true rfl) rfl ?_
  refine qX_iconst dX3_nextTrolley_2 (i32_of rfl) ?_
  refine qX_istore_n 3 dX3_nextTrolley_3 rfl (Nat.le_of_ble_eq_true rfl) rfl ?_
  refine qX_iconst dX3_nextTrolley_4 (i32_of rfl) ?_
  refine qX_istore dX3_nextTrolley_5 (Nat.le_of_ble_eq_true rfl) rfl ?_
  exact qX_mask [true, true, true, true, true, false] h
set_option maxRecDepth 20000 in
theorem w_X3_nextTrolley_7 {Post : Int → Rf → Mem → Prop} {ρ : Rf} {μ : Mem} {o : Nat} (ho : isO 3 o) {x1 : Int} {x2 : Int} {x3 : Int} {x4 : Int}
  (h : ((x1 ≤ x4 → Post x2 ρ μ) ∧ (x4 < x1 → (0 ≤ x4 ∧ x4 < 5) ∧ i32 (2 * (μ (o + 11) x4)) ∧ (0 ≤ x4 ∧ x4 < 5) ∧ ((μ (o + 10) x4 ≠ 3 → qX mX3_nextTrolley GG Post GG (0, 0) 38 [some (qP o), some (qI x1), some (qI x2), some (qI x3), some (qI x4), none] [qI 1, qI (2 * (μ (o + 11) x4))] ρ μ) ∧ (μ (o + 10) x4 = 3 → qX mX3_nextTrolley GG Post GG (0, 0) 38 [some (qP o), some (qI x1), some (qI x2), some (qI x3), some (qI x4), none] [qI 0, qI (2 * (μ (o + 11) x4))] ρ μ))))) : qX mX3_nextTrolley GG Post GG (0, 0) 7 [some (qP o), some (qI x1), some (qI x2), some (qI x3), some (qI x4), none] [] ρ μ := by
  refine qX_iload dX3_nextTrolley_7 rfl ?_
  refine qX_iload_n 1 dX3_nextTrolley_9 rfl rfl ?_
  refine qX_icmp_ge 73 dX3_nextTrolley_10 rfl (fun hc => ?_) (fun hc => ?_)
  · replace h := h.1 hc
    refine qX_iload_n 2 dX3_nextTrolley_73 rfl rfl ?_
    exact qX_ireturn rfl dX3_nextTrolley_74 rfl ⟨(Nat.le_of_ble_eq_true rfl), (Nat.le_of_ble_eq_true rfl)⟩ h
  · replace h := h.2 hc
    refine qX_iconst dX3_nextTrolley_13 (i32_of rfl) ?_
    refine qX_aload_n 0 dX3_nextTrolley_14 rfl rfl (shN ho) ?_
    refine qX_getS 3 11 _ 10 dX3_nextTrolley_15 fs_X3_42 rfl rfl ho rfl ?_
    refine qX_iload dX3_nextTrolley_18 rfl ?_
    refine qX_iald dX3_nextTrolley_20 (ar3_11 ho) h.1 ?_
    replace h := h.2
    refine qR_imul dX3_nextTrolley_21 h.1 ?_
    replace h := h.2
    refine qX_aload_n 0 dX3_nextTrolley_22 rfl rfl (shN ho) ?_
    refine qX_getS 3 10 _ 9 dX3_nextTrolley_23 fs_X3_39 rfl rfl ho rfl ?_
    refine qX_iload dX3_nextTrolley_26 rfl ?_
    refine qX_iald dX3_nextTrolley_28 (ar3_10 ho) h.1 ?_
    replace h := h.2
    refine qX_iconst dX3_nextTrolley_29 (i32_of rfl) ?_
    refine qX_icmp_ne 37 dX3_nextTrolley_30 rfl (fun hc => ?_) (fun hc => ?_)
    · replace h := h.1 hc
      refine qX_iconst dX3_nextTrolley_37 (i32_of rfl) ?_
      exact qX_mask [true, true, true, true, true, false] h
    · replace h := h.2 hc
      refine qX_iconst dX3_nextTrolley_33 (i32_of rfl) ?_
      refine qX_goto 38 dX3_nextTrolley_34 rfl ?_
      exact qX_mask [true, true, true, true, true, false] h
set_option maxRecDepth 20000 in
theorem w_X3_nextTrolley_38 {Post : Int → Rf → Mem → Prop} {ρ : Rf} {μ : Mem} {s0 : Int} {s1 : Int} {o : Nat} (ho : isO 3 o) {x1 : Int} {x2 : Int} {x3 : Int} {x4 : Int}
  (h : i32 (s0 + s1) ∧ (0 ≤ x4 ∧ x4 < 5) ∧ ((μ (o + 10) x4 = 0 → qX mX3_nextTrolley GG Post GG (0, 0) 67 [some (qP o), some (qI x1), some (qI x2), some (qI x3), some (qI x4), none] [] ρ μ) ∧ (μ (o + 10) x4 ≠ 0 → ((x2 < 0 → qX mX3_nextTrolley GG Post GG (0, 0) 61 [some (qP o), some (qI x1), none, none, some (qI x4), some (qI (s0 + s1))] [] ρ μ) ∧ (0 ≤ x2 → ((x3 ≤ s0 + s1 → qX mX3_nextTrolley GG Post GG (0, 0) 67 [some (qP o), some (qI x1), some (qI x2), some (qI x3), some (qI x4), none] [] ρ μ) ∧ (s0 + s1 < x3 → qX mX3_nextTrolley GG Post GG (0, 0) 61 [some (qP o), some (qI x1), none, none, some (qI x4), some (qI (s0 + s1))] [] ρ μ))))))) : qX mX3_nextTrolley GG Post GG (0, 0) 38 [some (qP o), some (qI x1), some (qI x2), some (qI x3), some (qI x4), none] [qI s1, qI s0] ρ μ := by
  refine qR_iadd dX3_nextTrolley_38 h.1 ?_
  replace h := h.2
  refine qX_istore dX3_nextTrolley_39 (Nat.le_of_ble_eq_true rfl) rfl ?_
  refine qX_aload_n 0 dX3_nextTrolley_41 rfl rfl (shN ho) ?_
  refine qX_getS 3 10 _ 9 dX3_nextTrolley_42 fs_X3_39 rfl rfl ho rfl ?_
  refine qX_iload dX3_nextTrolley_45 rfl ?_
  refine qX_iald dX3_nextTrolley_47 (ar3_10 ho) h.1 ?_
  replace h := h.2
  refine qX_if_eq 67 dX3_nextTrolley_48 rfl (fun hc => ?_) (fun hc => ?_)
  · replace h := h.1 hc
    exact qX_mask [true, true, true, true, true, false] h
  · replace h := h.2 hc
    refine qX_iload_n 2 dX3_nextTrolley_51 rfl rfl ?_
    refine qX_if_lt 61 dX3_nextTrolley_52 rfl (fun hc => ?_) (fun hc => ?_)
    · replace h := h.1 hc
      exact qX_mask [true, true, false, false, true, true] h
    · replace h := h.2 hc
      refine qX_iload dX3_nextTrolley_55 rfl ?_
      refine qX_iload_n 3 dX3_nextTrolley_57 rfl rfl ?_
      refine qX_icmp_ge 67 dX3_nextTrolley_58 rfl (fun hc => ?_) (fun hc => ?_)
      · replace h := h.1 hc
        exact qX_mask [true, true, true, true, true, false] h
      · replace h := h.2 hc
        exact qX_mask [true, true, false, false, true, true] h
set_option maxRecDepth 20000 in
theorem w_X3_nextTrolley_67 {Post : Int → Rf → Mem → Prop} {ρ : Rf} {μ : Mem} {o : Nat} (ho : isO 3 o) {x1 : Int} {x2 : Int} {x3 : Int} {x4 : Int}
  (h : i32 (x4 + 1) ∧ qX mX3_nextTrolley GG Post GG (0, 0) 7 [some (qP o), some (qI x1), some (qI x2), some (qI x3), some (qI (x4 + 1)), none] [] ρ μ) : qX mX3_nextTrolley GG Post GG (0, 0) 67 [some (qP o), some (qI x1), some (qI x2), some (qI x3), some (qI x4), none] [] ρ μ := by
  refine qR_iinc dX3_nextTrolley_67 rfl (Nat.le_of_ble_eq_true rfl) rfl h.1 ?_
  replace h := h.2
  refine qX_goto 7 dX3_nextTrolley_70 rfl ?_
  exact qX_mask [true, true, true, true, true, false] h
set_option maxRecDepth 20000 in
theorem w_X3_nextTrolley_61 {Post : Int → Rf → Mem → Prop} {ρ : Rf} {μ : Mem} {o : Nat} (ho : isO 3 o) {x1 : Int} {x4 : Int} {x5 : Int}
  (h : qX mX3_nextTrolley GG Post GG (0, 0) 67 [some (qP o), some (qI x1), some (qI x4), some (qI x5), some (qI x4), none] [] ρ μ) : qX mX3_nextTrolley GG Post GG (0, 0) 61 [some (qP o), some (qI x1), none, none, some (qI x4), some (qI x5)] [] ρ μ := by
  refine qX_iload dX3_nextTrolley_61 rfl ?_
  refine qX_istore_n 2 dX3_nextTrolley_63 rfl (Nat.le_of_ble_eq_true rfl) rfl ?_
  refine qX_iload dX3_nextTrolley_64 rfl ?_
  refine qX_istore_n 3 dX3_nextTrolley_66 rfl (Nat.le_of_ble_eq_true rfl) rfl ?_
  exact qX_mask [true, true, true, true, true, false] h
set_option maxRecDepth 20000 in
theorem e_X3_startJob {Post : Int → Rf → Mem → Prop} {ρ : Rf} {μ : Mem} {o : Nat} (ho : isO 3 o) {x1 : Nat} (hx1 : isO 0 x1) {x2 : Nat} (hx2 : isO 6 x2) {x3 : Int}
  (h : (0 ≤ x3 ∧ x3 < 5) ∧ (0 ≤ x3 ∧ x3 < 5) ∧ (0 ≤ μ (o + 12) x3 ∧ μ (o + 12) x3 < 20) ∧ ∃ P : Int → Rf → Mem → Prop, qE mX7_stockIndex GG GG [qI (μ (x1 + 11) x3), qI (μ (x2 + 3) (μ (o + 12) x3))] ρ μ P ∧ ∀ (z1 : Int) (ρ2 : Rf) (μ3 : Mem), P z1 ρ2 μ3 → (0 ≤ μ (o + 12) x3 ∧ μ (o + 12) x3 < 20) ∧ ∃ P : Int → Rf → Mem → Prop, qE mX0_mostMeals GG GG [qP x1, qI x3, qI (μ3 (x2 + 4) (μ (o + 12) x3))] ρ2 μ3 P ∧ ∀ (z5 : Int) (ρ6 : Rf) (μ7 : Mem), P z5 ρ6 μ7 → (0 ≤ z1 ∧ z1 < 12) ∧ (0 ≤ x3 ∧ x3 < 5) ∧ (0 ≤ μ (o + 12) x3 ∧ μ (o + 12) x3 < 20) ∧ ∀ μ9, μ9 = up2 μ7 (o + 1) (μ (o + 12) x3) (μ7 (o + 11) x3) → (0 ≤ μ (o + 12) x3 ∧ μ (o + 12) x3 < 20) ∧ ∀ μ10, μ10 = up2 μ9 (o + 2) (μ (o + 12) x3) (min z5 (μ7 (o + 9) z1)) → (0 ≤ z1 ∧ z1 < 12) ∧ i32 ((μ10 (o + 9) z1) - (min z5 (μ7 (o + 9) z1))) ∧ (0 ≤ z1 ∧ z1 < 12) ∧ ∀ μ11, μ11 = up2 μ10 (o + 9) z1 ((μ10 (o + 9) z1) - (min z5 (μ7 (o + 9) z1))) → (0 ≤ μ (o + 12) x3 ∧ μ (o + 12) x3 < 20) ∧ (0 ≤ x3 ∧ x3 < 5) ∧ i32 ((min z5 (μ7 (o + 9) z1)) * (μ11 (x1 + 14) x3)) ∧ i32 ((μ11 (o + 1) (μ (o + 12) x3)) + ((min z5 (μ7 (o + 9) z1)) * (μ11 (x1 + 14) x3))) ∧ (0 ≤ μ (o + 12) x3 ∧ μ (o + 12) x3 < 20) ∧ ∀ μ12, μ12 = up2 μ11 (o + 3) (μ (o + 12) x3) ((μ11 (o + 1) (μ (o + 12) x3)) + ((min z5 (μ7 (o + 9) z1)) * (μ11 (x1 + 14) x3))) → ((min z5 (μ7 (o + 9) z1) ≠ 0 → (0 ≤ μ (o + 12) x3 ∧ μ (o + 12) x3 < 20) ∧ (0 ≤ μ (o + 12) x3 ∧ μ (o + 12) x3 < 20) ∧ (0 ≤ x3 ∧ x3 < 5) ∧ ∃ P : Int → Rf → Mem → Prop, qE mX0_walk GG GG [qP x1, qI x3, qI (μ12 (x2 + 2) (μ (o + 12) x3)), qI (μ12 (x1 + 13) x3)] ρ6 μ12 P ∧ ∀ (z13 : Int) (ρ14 : Rf) (μ15 : Mem), P z13 ρ14 μ15 → i32 ((μ12 (o + 3) (μ (o + 12) x3)) + z13) ∧ (0 ≤ x3 ∧ x3 < 5) ∧ ∀ μ17, μ17 = up2 μ15 (o + 11) x3 ((μ12 (o + 3) (μ (o + 12) x3)) + z13) → (0 ≤ x3 ∧ x3 < 5) ∧ ∀ μ18, μ18 = up2 μ17 (o + 10) x3 2 → Post 0 ρ14 μ18) ∧ (min z5 (μ7 (o + 9) z1) = 0 → (0 ≤ μ (o + 12) x3 ∧ μ (o + 12) x3 < 20) ∧ ∃ P : Int → Rf → Mem → Prop, qE mX3_setNoUnloading GG GG [qP o, qI (μ (o + 12) x3), qI (μ12 (o + 1) (μ (o + 12) x3))] ρ6 μ12 P ∧ ∀ (z19 : Int) (ρ20 : Rf) (μ21 : Mem), P z19 ρ20 μ21 → (0 ≤ μ (o + 12) x3 ∧ μ (o + 12) x3 < 20) ∧ (0 ≤ μ (o + 12) x3 ∧ μ (o + 12) x3 < 20) ∧ ∀ μ23, μ23 = up2 μ21 (o + 8) (μ (o + 12) x3) (μ21 (o + 1) (μ (o + 12) x3)) → i32 ((μ (o + 12) x3) + 1) ∧ (0 ≤ μ (o + 12) x3 ∧ μ (o + 12) x3 < 20) ∧ ∃ P : Int → Rf → Mem → Prop, qE mX3_awaitStart GG GG [qP o, qP x2, qI x3, qI ((μ (o + 12) x3) + 1), qI (μ23 (o + 1) (μ (o + 12) x3))] ρ20 μ23 P ∧ ∀ (z24 : Int) (ρ25 : Rf) (μ26 : Mem), P z24 ρ25 μ26 → Post 0 ρ25 μ26))) : qE mX3_startJob GG GG [qP o, qP x1, qP x2, qI x3] ρ μ Post := by
  refine qE_intro pl_X3_startJob (Nat.le_of_ble_eq_true rfl) (Nat.le_refl _) ?_
  refine qX_aload_n 0 dX3_startJob_0 rfl rfl (shN ho) ?_
  refine qX_getS 3 12 _ 11 dX3_startJob_1 fs_X3_45 rfl rfl ho rfl ?_
  refine qX_iload_n 3 dX3_startJob_4 rfl rfl ?_
  refine qX_iald dX3_startJob_5 (ar3_12 ho) h.1 ?_
  replace h := h.2
  refine qX_istore dX3_startJob_6 (Nat.le_of_ble_eq_true rfl) rfl ?_
  refine qX_aload_n 1 dX3_startJob_8 rfl rfl (shN hx1) ?_
  refine qX_getS 0 10 _ 10 dX3_startJob_9 fs_X3_97 rfl rfl hx1 rfl ?_
  refine qX_iload_n 3 dX3_startJob_12 rfl rfl ?_
  refine qX_iald dX3_startJob_13 (ar0_10 hx1) h.1 ?_
  replace h := h.2
  refine qX_aload_n 2 dX3_startJob_14 rfl rfl (shN hx2) ?_
  refine qX_getS 6 2 _ 2 dX3_startJob_15 fs_X3_100 rfl rfl hx2 rfl ?_
  refine qX_iload dX3_startJob_18 rfl ?_
  refine qX_iald dX3_startJob_20 (ar6_2 hx2) h.1 ?_
  replace h := h.2
  obtain ⟨P, hE4, h⟩ := h
  refine qN_callSN mX7_stockIndex [_, _] [] dX3_startJob_21 cm_X3_103 ⟨(Nat.le_of_ble_eq_true rfl), (Nat.le_of_ble_eq_true rfl)⟩ rfl rfl (Nat.le_of_ble_eq_true rfl) ⟨rfl, rfl⟩ hE4 (fun z1 ρ2 μ3 hz => ?_)
  replace h := h _ _ _ hz
  refine qX_istore dX3_startJob_24 (Nat.le_of_ble_eq_true rfl) rfl ?_
  refine qX_aload_n 1 dX3_startJob_26 rfl rfl (shN hx1) ?_
  refine qX_iload_n 3 dX3_startJob_27 rfl rfl ?_
  refine qX_aload_n 2 dX3_startJob_28 rfl rfl (shN hx2) ?_
  refine qX_getS 6 3 _ 3 dX3_startJob_29 fs_X3_106 rfl rfl hx2 rfl ?_
  refine qX_iload dX3_startJob_32 rfl ?_
  refine qX_iald dX3_startJob_34 (ar6_3 hx2) h.1 ?_
  replace h := h.2
  obtain ⟨P, hE8, h⟩ := h
  refine qN_callV mX0_mostMeals [_, _] _ 0 [] dX3_startJob_35 cm_X3_109 ⟨(Nat.le_of_ble_eq_true rfl), (Nat.le_of_ble_eq_true rfl)⟩ rfl rfl hx1 (Nat.le_of_ble_eq_true rfl) ⟨rfl, rfl⟩ hE8 (fun z5 ρ6 μ7 hz => ?_)
  replace h := h _ _ _ hz
  refine qX_aload_n 0 dX3_startJob_38 rfl rfl (shN ho) ?_
  refine qX_getS 3 8 _ 8 dX3_startJob_39 fs_X3_36 rfl rfl ho rfl ?_
  refine qX_iload dX3_startJob_42 rfl ?_
  refine qX_iald dX3_startJob_44 (ar3_8 ho) h.1 ?_
  replace h := h.2
  refine qX_min dX3_startJob_45 kM_X3_112 ⟨(Nat.le_of_ble_eq_true rfl), (Nat.le_of_ble_eq_true rfl)⟩ (Nat.le_of_ble_eq_true rfl) ⟨(Nat.le_of_ble_eq_true rfl), (Nat.le_of_ble_eq_true rfl)⟩ ?_
  refine qX_istore dX3_startJob_48 (Nat.le_of_ble_eq_true rfl) rfl ?_
  refine qX_aload_n 0 dX3_startJob_50 rfl rfl (shN ho) ?_
  refine qX_getS 3 0 _ 0 dX3_startJob_51 fs_X3_9 rfl rfl ho rfl ?_
  refine qX_iload dX3_startJob_54 rfl ?_
  refine qX_aload_n 0 dX3_startJob_56 rfl rfl (shN ho) ?_
  refine qX_getS 3 11 _ 10 dX3_startJob_57 fs_X3_42 rfl rfl ho rfl ?_
  refine qX_iload_n 3 dX3_startJob_60 rfl rfl ?_
  refine qX_iald dX3_startJob_61 (ar3_11 ho) h.1 ?_
  replace h := h.2
  refine qX_iast dX3_startJob_62 (ar3_0 ho) h.1 ?_
  replace h := h.2
  replace h := h _ rfl
  refine qX_aload_n 0 dX3_startJob_63 rfl rfl (shN ho) ?_
  refine qX_getS 3 1 _ 1 dX3_startJob_64 fs_X3_15 rfl rfl ho rfl ?_
  refine qX_iload dX3_startJob_67 rfl ?_
  refine qX_iload dX3_startJob_69 rfl ?_
  refine qX_iast dX3_startJob_71 (ar3_1 ho) h.1 ?_
  replace h := h.2
  replace h := h _ rfl
  refine qX_aload_n 0 dX3_startJob_72 rfl rfl (shN ho) ?_
  refine qX_getS 3 8 _ 8 dX3_startJob_73 fs_X3_36 rfl rfl ho rfl ?_
  refine qX_iload dX3_startJob_76 rfl ?_
  refine qX_dup2 dX3_startJob_78 rfl rfl ?_
  refine qX_iald dX3_startJob_79 (ar3_8 ho) h.1 ?_
  replace h := h.2
  refine qX_iload dX3_startJob_80 rfl ?_
  refine qR_isub dX3_startJob_82 h.1 ?_
  replace h := h.2
  refine qX_iast dX3_startJob_83 (ar3_8 ho) h.1 ?_
  replace h := h.2
  replace h := h _ rfl
  refine qX_aload_n 0 dX3_startJob_84 rfl rfl (shN ho) ?_
  refine qX_getS 3 2 _ 2 dX3_startJob_85 fs_X3_18 rfl rfl ho rfl ?_
  refine qX_iload dX3_startJob_88 rfl ?_
  refine qX_aload_n 0 dX3_startJob_90 rfl rfl (shN ho) ?_
  refine qX_getS 3 0 _ 0 dX3_startJob_91 fs_X3_9 rfl rfl ho rfl ?_
  refine qX_iload dX3_startJob_94 rfl ?_
  refine qX_iald dX3_startJob_96 (ar3_0 ho) h.1 ?_
  replace h := h.2
  refine qX_iload dX3_startJob_97 rfl ?_
  refine qX_aload_n 1 dX3_startJob_99 rfl rfl (shN hx1) ?_
  refine qX_getS 0 13 _ 13 dX3_startJob_100 fs_X3_117 rfl rfl hx1 rfl ?_
  refine qX_iload_n 3 dX3_startJob_103 rfl rfl ?_
  refine qX_iald dX3_startJob_104 (ar0_13 hx1) h.1 ?_
  replace h := h.2
  refine qR_imul dX3_startJob_105 h.1 ?_
  replace h := h.2
  refine qR_iadd dX3_startJob_106 h.1 ?_
  replace h := h.2
  refine qX_iast dX3_startJob_107 (ar3_2 ho) h.1 ?_
  replace h := h.2
  replace h := h _ rfl
  refine qX_iload dX3_startJob_108 rfl ?_
  refine qX_if_ne 158 dX3_startJob_110 rfl (fun hc => ?_) (fun hc => ?_)
  · replace h := h.1 hc
    refine qX_aload_n 0 dX3_startJob_158 rfl rfl (shN ho) ?_
    refine qX_getS 3 11 _ 10 dX3_startJob_159 fs_X3_42 rfl rfl ho rfl ?_
    refine qX_iload_n 3 dX3_startJob_162 rfl rfl ?_
    refine qX_aload_n 0 dX3_startJob_163 rfl rfl (shN ho) ?_
    refine qX_getS 3 2 _ 2 dX3_startJob_164 fs_X3_18 rfl rfl ho rfl ?_
    refine qX_iload dX3_startJob_167 rfl ?_
    refine qX_iald dX3_startJob_169 (ar3_2 ho) h.1 ?_
    replace h := h.2
    refine qX_aload_n 1 dX3_startJob_170 rfl rfl (shN hx1) ?_
    refine qX_iload_n 3 dX3_startJob_171 rfl rfl ?_
    refine qX_aload_n 2 dX3_startJob_172 rfl rfl (shN hx2) ?_
    refine qX_getS 6 1 _ 1 dX3_startJob_173 fs_X3_124 rfl rfl hx2 rfl ?_
    refine qX_iload dX3_startJob_176 rfl ?_
    refine qX_iald dX3_startJob_178 (ar6_1 hx2) h.1 ?_
    replace h := h.2
    refine qX_aload_n 1 dX3_startJob_179 rfl rfl (shN hx1) ?_
    refine qX_getS 0 12 _ 12 dX3_startJob_180 fs_X3_127 rfl rfl hx1 rfl ?_
    refine qX_iload_n 3 dX3_startJob_183 rfl rfl ?_
    refine qX_iald dX3_startJob_184 (ar0_12 hx1) h.1 ?_
    replace h := h.2
    obtain ⟨P, hE16, h⟩ := h
    refine qN_callV mX0_walk [_, _, _] _ 0 [_, _, _] dX3_startJob_185 cm_X3_130 ⟨(Nat.le_of_ble_eq_true rfl), (Nat.le_of_ble_eq_true rfl)⟩ rfl rfl hx1 (Nat.le_of_ble_eq_true rfl) ⟨rfl, rfl⟩ hE16 (fun z13 ρ14 μ15 hz => ?_)
    replace h := h _ _ _ hz
    refine qR_iadd dX3_startJob_188 h.1 ?_
    replace h := h.2
    refine qX_iast dX3_startJob_189 (ar3_11 ho) h.1 ?_
    replace h := h.2
    replace h := h _ rfl
    refine qX_aload_n 0 dX3_startJob_190 rfl rfl (shN ho) ?_
    refine qX_getS 3 10 _ 9 dX3_startJob_191 fs_X3_39 rfl rfl ho rfl ?_
    refine qX_iload_n 3 dX3_startJob_194 rfl rfl ?_
    refine qX_iconst dX3_startJob_195 (i32_of rfl) ?_
    refine qX_iast dX3_startJob_196 (ar3_10 ho) h.1 ?_
    replace h := h.2
    replace h := h _ rfl
    exact qX_return rfl dX3_startJob_197 rfl ⟨(Nat.le_of_ble_eq_true rfl), (Nat.le_of_ble_eq_true rfl)⟩ h
  · replace h := h.2 hc
    refine qX_aload_n 0 dX3_startJob_113 rfl rfl (shN ho) ?_
    refine qX_iload dX3_startJob_114 rfl ?_
    refine qX_aload_n 0 dX3_startJob_116 rfl rfl (shN ho) ?_
    refine qX_getS 3 0 _ 0 dX3_startJob_117 fs_X3_9 rfl rfl ho rfl ?_
    refine qX_iload dX3_startJob_120 rfl ?_
    refine qX_iald dX3_startJob_122 (ar3_0 ho) h.1 ?_
    replace h := h.2
    obtain ⟨P, hE22, h⟩ := h
    refine qN_callV mX3_setNoUnloading [_, _] _ 3 [] dX3_startJob_123 cm_X3_120 ⟨(Nat.le_of_ble_eq_true rfl), (Nat.le_of_ble_eq_true rfl)⟩ rfl rfl ho (Nat.le_of_ble_eq_true rfl) ⟨rfl, rfl⟩ hE22 (fun z19 ρ20 μ21 hz => ?_)
    replace h := h _ _ _ hz
    refine qX_aload_n 0 dX3_startJob_126 rfl rfl (shN ho) ?_
    refine qX_getS 3 7 _ 7 dX3_startJob_127 fs_X3_33 rfl rfl ho rfl ?_
    refine qX_iload dX3_startJob_130 rfl ?_
    refine qX_aload_n 0 dX3_startJob_132 rfl rfl (shN ho) ?_
    refine qX_getS 3 0 _ 0 dX3_startJob_133 fs_X3_9 rfl rfl ho rfl ?_
    refine qX_iload dX3_startJob_136 rfl ?_
    refine qX_iald dX3_startJob_138 (ar3_0 ho) h.1 ?_
    replace h := h.2
    refine qX_iast dX3_startJob_139 (ar3_7 ho) h.1 ?_
    replace h := h.2
    replace h := h _ rfl
    refine qX_aload_n 0 dX3_startJob_140 rfl rfl (shN ho) ?_
    refine qX_aload_n 2 dX3_startJob_141 rfl rfl (shN hx2) ?_
    refine qX_iload_n 3 dX3_startJob_142 rfl rfl ?_
    refine qX_iload dX3_startJob_143 rfl ?_
    refine qX_iconst dX3_startJob_145 (i32_of rfl) ?_
    refine qR_iadd dX3_startJob_146 h.1 ?_
    replace h := h.2
    refine qX_aload_n 0 dX3_startJob_147 rfl rfl (shN ho) ?_
    refine qX_getS 3 0 _ 0 dX3_startJob_148 fs_X3_9 rfl rfl ho rfl ?_
    refine qX_iload dX3_startJob_151 rfl ?_
    refine qX_iald dX3_startJob_153 (ar3_0 ho) h.1 ?_
    replace h := h.2
    obtain ⟨P, hE27, h⟩ := h
    refine qN_callV mX3_awaitStart [_, _, _, _] _ 3 [] dX3_startJob_154 cm_X3_75 ⟨(Nat.le_of_ble_eq_true rfl), (Nat.le_of_ble_eq_true rfl)⟩ rfl rfl ho (Nat.le_of_ble_eq_true rfl) ⟨rfl, rfl⟩ hE27 (fun z24 ρ25 μ26 hz => ?_)
    replace h := h _ _ _ hz
    exact qX_return rfl dX3_startJob_157 rfl ⟨(Nat.le_of_ble_eq_true rfl), (Nat.le_of_ble_eq_true rfl)⟩ h
set_option maxRecDepth 20000 in
theorem e_X3_setNoUnloading {Post : Int → Rf → Mem → Prop} {ρ : Rf} {μ : Mem} {o : Nat} (ho : isO 3 o) {x1 : Int} {x2 : Int}
  (h : (0 ≤ x1 ∧ x1 < 20) ∧ ∀ μ1, μ1 = up2 μ (o + 4) x1 x2 → (0 ≤ x1 ∧ x1 < 20) ∧ ∀ μ2, μ2 = up2 μ1 (o + 5) x1 x2 → (0 ≤ x1 ∧ x1 < 20) ∧ ∀ μ3, μ3 = up2 μ2 (o + 6) x1 x2 → (0 ≤ x1 ∧ x1 < 20) ∧ ∀ μ4, μ4 = up2 μ3 (o + 7) x1 0 → Post 0 ρ μ4) : qE mX3_setNoUnloading GG GG [qP o, qI x1, qI x2] ρ μ Post := by
  refine qE_intro pl_X3_setNoUnloading (Nat.le_of_ble_eq_true rfl) (Nat.le_refl _) ?_
  refine qX_aload_n 0 dX3_setNoUnloading_0 rfl rfl (shN ho) ?_
  refine qX_getS 3 3 _ 3 dX3_setNoUnloading_1 fs_X3_21 rfl rfl ho rfl ?_
  refine qX_iload_n 1 dX3_setNoUnloading_4 rfl rfl ?_
  refine qX_iload_n 2 dX3_setNoUnloading_5 rfl rfl ?_
  refine qX_iast dX3_setNoUnloading_6 (ar3_3 ho) h.1 ?_
  replace h := h.2
  replace h := h _ rfl
  refine qX_aload_n 0 dX3_setNoUnloading_7 rfl rfl (shN ho) ?_
  refine qX_getS 3 4 _ 4 dX3_setNoUnloading_8 fs_X3_24 rfl rfl ho rfl ?_
  refine qX_iload_n 1 dX3_setNoUnloading_11 rfl rfl ?_
  refine qX_iload_n 2 dX3_setNoUnloading_12 rfl rfl ?_
  refine qX_iast dX3_setNoUnloading_13 (ar3_4 ho) h.1 ?_
  replace h := h.2
  replace h := h _ rfl
  refine qX_aload_n 0 dX3_setNoUnloading_14 rfl rfl (shN ho) ?_
  refine qX_getS 3 5 _ 5 dX3_setNoUnloading_15 fs_X3_27 rfl rfl ho rfl ?_
  refine qX_iload_n 1 dX3_setNoUnloading_18 rfl rfl ?_
  refine qX_iload_n 2 dX3_setNoUnloading_19 rfl rfl ?_
  refine qX_iast dX3_setNoUnloading_20 (ar3_5 ho) h.1 ?_
  replace h := h.2
  replace h := h _ rfl
  refine qX_aload_n 0 dX3_setNoUnloading_21 rfl rfl (shN ho) ?_
  refine qX_getS 3 6 _ 6 dX3_setNoUnloading_22 fs_X3_30 rfl rfl ho rfl ?_
  refine qX_iload_n 1 dX3_setNoUnloading_25 rfl rfl ?_
  refine qX_iconst dX3_setNoUnloading_26 (i32_of rfl) ?_
  refine qX_iast dX3_setNoUnloading_27 (ar3_6 ho) h.1 ?_
  replace h := h.2
  replace h := h _ rfl
  exact qX_return rfl dX3_setNoUnloading_28 rfl ⟨(Nat.le_of_ble_eq_true rfl), (Nat.le_of_ble_eq_true rfl)⟩ h
set_option maxRecDepth 20000 in
theorem e_X3_reachDoor {Post : Int → Rf → Mem → Prop} {ρ : Rf} {μ : Mem} {o : Nat} (ho : isO 3 o) {x1 : Nat} (hx1 : isO 0 x1) {x2 : Nat} (hx2 : isO 6 x2) {x3 : Int}
  (h : (0 ≤ x3 ∧ x3 < 5) ∧ (0 ≤ x3 ∧ x3 < 5) ∧ ∃ P : Int → Rf → Mem → Prop, qE mX3_setNoUnloading GG GG [qP o, qI (μ (o + 12) x3), qI (μ (o + 11) x3)] ρ μ P ∧ ∀ (z1 : Int) (ρ2 : Rf) (μ3 : Mem), P z1 ρ2 μ3 → ∃ P : Int → Rf → Mem → Prop, qE mX3_unload GG GG [qP o, qP x1, qP x2, qI x3] ρ2 μ3 P ∧ ∀ (z5 : Int) (ρ6 : Rf) (μ7 : Mem), P z5 ρ6 μ7 → (0 ≤ μ (o + 12) x3 ∧ μ (o + 12) x3 < 20) ∧ (0 ≤ μ (o + 12) x3 ∧ μ (o + 12) x3 < 20) ∧ (0 ≤ x3 ∧ x3 < 5) ∧ ∃ P : Int → Rf → Mem → Prop, qE mX0_walk GG GG [qP x1, qI x3, qI (μ7 (x2 + 2) (μ (o + 12) x3)), qI (μ7 (x1 + 13) x3)] ρ6 μ7 P ∧ ∀ (z9 : Int) (ρ10 : Rf) (μ11 : Mem), P z9 ρ10 μ11 → i32 ((μ7 (o + 6) (μ (o + 12) x3)) + z9) ∧ (0 ≤ μ (o + 12) x3 ∧ μ (o + 12) x3 < 20) ∧ ∀ μ13, μ13 = up2 μ11 (o + 8) (μ (o + 12) x3) ((μ7 (o + 6) (μ (o + 12) x3)) + z9) → (0 ≤ μ (o + 12) x3 ∧ μ (o + 12) x3 < 20) ∧ (0 ≤ x3 ∧ x3 < 5) ∧ ∀ μ14, μ14 = up2 μ13 (o + 11) x3 (μ13 (o + 8) (μ (o + 12) x3)) → (0 ≤ x3 ∧ x3 < 5) ∧ ∀ μ15, μ15 = up2 μ14 (o + 10) x3 3 → Post 0 ρ10 μ15) : qE mX3_reachDoor GG GG [qP o, qP x1, qP x2, qI x3] ρ μ Post := by
  refine qE_intro pl_X3_reachDoor (Nat.le_of_ble_eq_true rfl) (Nat.le_refl _) ?_
  refine qX_aload_n 0 dX3_reachDoor_0 rfl rfl (shN ho) ?_
  refine qX_getS 3 12 _ 11 dX3_reachDoor_1 fs_X3_45 rfl rfl ho rfl ?_
  refine qX_iload_n 3 dX3_reachDoor_4 rfl rfl ?_
  refine qX_iald dX3_reachDoor_5 (ar3_12 ho) h.1 ?_
  replace h := h.2
  refine qX_istore dX3_reachDoor_6 (Nat.le_of_ble_eq_true rfl) rfl ?_
  refine qX_aload_n 0 dX3_reachDoor_8 rfl rfl (shN ho) ?_
  refine qX_iload dX3_reachDoor_9 rfl ?_
  refine qX_aload_n 0 dX3_reachDoor_11 rfl rfl (shN ho) ?_
  refine qX_getS 3 11 _ 10 dX3_reachDoor_12 fs_X3_42 rfl rfl ho rfl ?_
  refine qX_iload_n 3 dX3_reachDoor_15 rfl rfl ?_
  refine qX_iald dX3_reachDoor_16 (ar3_11 ho) h.1 ?_
  replace h := h.2
  obtain ⟨P, hE4, h⟩ := h
  refine qN_callV mX3_setNoUnloading [_, _] _ 3 [] dX3_reachDoor_17 cm_X3_120 ⟨(Nat.le_of_ble_eq_true rfl), (Nat.le_of_ble_eq_true rfl)⟩ rfl rfl ho (Nat.le_of_ble_eq_true rfl) ⟨rfl, rfl⟩ hE4 (fun z1 ρ2 μ3 hz => ?_)
  replace h := h _ _ _ hz
  refine qX_aload_n 0 dX3_reachDoor_20 rfl rfl (shN ho) ?_
  refine qX_aload_n 1 dX3_reachDoor_21 rfl rfl (shN hx1) ?_
  refine qX_aload_n 2 dX3_reachDoor_22 rfl rfl (shN hx2) ?_
  refine qX_iload_n 3 dX3_reachDoor_23 rfl rfl ?_
  obtain ⟨P, hE8, h⟩ := h
  refine qN_callV mX3_unload [_, _, _] _ 3 [] dX3_reachDoor_24 cm_X3_134 ⟨(Nat.le_of_ble_eq_true rfl), (Nat.le_of_ble_eq_true rfl)⟩ rfl rfl ho (Nat.le_of_ble_eq_true rfl) ⟨rfl, rfl⟩ hE8 (fun z5 ρ6 μ7 hz => ?_)
  replace h := h _ _ _ hz
  refine qX_aload_n 0 dX3_reachDoor_27 rfl rfl (shN ho) ?_
  refine qX_getS 3 7 _ 7 dX3_reachDoor_28 fs_X3_33 rfl rfl ho rfl ?_
  refine qX_iload dX3_reachDoor_31 rfl ?_
  refine qX_aload_n 0 dX3_reachDoor_33 rfl rfl (shN ho) ?_
  refine qX_getS 3 5 _ 5 dX3_reachDoor_34 fs_X3_27 rfl rfl ho rfl ?_
  refine qX_iload dX3_reachDoor_37 rfl ?_
  refine qX_iald dX3_reachDoor_39 (ar3_5 ho) h.1 ?_
  replace h := h.2
  refine qX_aload_n 1 dX3_reachDoor_40 rfl rfl (shN hx1) ?_
  refine qX_iload_n 3 dX3_reachDoor_41 rfl rfl ?_
  refine qX_aload_n 2 dX3_reachDoor_42 rfl rfl (shN hx2) ?_
  refine qX_getS 6 1 _ 1 dX3_reachDoor_43 fs_X3_124 rfl rfl hx2 rfl ?_
  refine qX_iload dX3_reachDoor_46 rfl ?_
  refine qX_iald dX3_reachDoor_48 (ar6_1 hx2) h.1 ?_
  replace h := h.2
  refine qX_aload_n 1 dX3_reachDoor_49 rfl rfl (shN hx1) ?_
  refine qX_getS 0 12 _ 12 dX3_reachDoor_50 fs_X3_127 rfl rfl hx1 rfl ?_
  refine qX_iload_n 3 dX3_reachDoor_53 rfl rfl ?_
  refine qX_iald dX3_reachDoor_54 (ar0_12 hx1) h.1 ?_
  replace h := h.2
  obtain ⟨P, hE12, h⟩ := h
  refine qN_callV mX0_walk [_, _, _] _ 0 [_, _, _] dX3_reachDoor_55 cm_X3_130 ⟨(Nat.le_of_ble_eq_true rfl), (Nat.le_of_ble_eq_true rfl)⟩ rfl rfl hx1 (Nat.le_of_ble_eq_true rfl) ⟨rfl, rfl⟩ hE12 (fun z9 ρ10 μ11 hz => ?_)
  replace h := h _ _ _ hz
  refine qR_iadd dX3_reachDoor_58 h.1 ?_
  replace h := h.2
  refine qX_iast dX3_reachDoor_59 (ar3_7 ho) h.1 ?_
  replace h := h.2
  replace h := h _ rfl
  refine qX_aload_n 0 dX3_reachDoor_60 rfl rfl (shN ho) ?_
  refine qX_getS 3 11 _ 10 dX3_reachDoor_61 fs_X3_42 rfl rfl ho rfl ?_
  refine qX_iload_n 3 dX3_reachDoor_64 rfl rfl ?_
  refine qX_aload_n 0 dX3_reachDoor_65 rfl rfl (shN ho) ?_
  refine qX_getS 3 7 _ 7 dX3_reachDoor_66 fs_X3_33 rfl rfl ho rfl ?_
  refine qX_iload dX3_reachDoor_69 rfl ?_
  refine qX_iald dX3_reachDoor_71 (ar3_7 ho) h.1 ?_
  replace h := h.2
  refine qX_iast dX3_reachDoor_72 (ar3_11 ho) h.1 ?_
  replace h := h.2
  replace h := h _ rfl
  refine qX_aload_n 0 dX3_reachDoor_73 rfl rfl (shN ho) ?_
  refine qX_getS 3 10 _ 9 dX3_reachDoor_74 fs_X3_39 rfl rfl ho rfl ?_
  refine qX_iload_n 3 dX3_reachDoor_77 rfl rfl ?_
  refine qX_iconst dX3_reachDoor_78 (i32_of rfl) ?_
  refine qX_iast dX3_reachDoor_79 (ar3_10 ho) h.1 ?_
  replace h := h.2
  replace h := h _ rfl
  exact qX_return rfl dX3_reachDoor_80 rfl ⟨(Nat.le_of_ble_eq_true rfl), (Nat.le_of_ble_eq_true rfl)⟩ h
set_option maxRecDepth 20000 in
theorem e_X3_unload {Post : Int → Rf → Mem → Prop} {ρ : Rf} {μ : Mem} {o : Nat} (ho : isO 3 o) {x1 : Nat} (hx1 : isO 0 x1) {x2 : Nat} (hx2 : isO 6 x2) {x3 : Int}
  (h : (0 ≤ x3 ∧ x3 < 5) ∧ (0 ≤ μ (o + 12) x3 ∧ μ (o + 12) x3 < 20) ∧ ((5 ≤ μ (x2 + 2) (μ (o + 12) x3) → qX mX3_unload GG Post GG (0, 0) 28 [some (qP o), some (qP x1), some (qP x2), some (qI x3), some (qI (μ (o + 12) x3)), some (qI (μ (x2 + 2) (μ (o + 12) x3))), none, none, none, none, none] [qI 1] ρ μ) ∧ (μ (x2 + 2) (μ (o + 12) x3) < 5 → qX mX3_unload GG Post GG (0, 0) 28 [some (qP o), some (qP x1), some (qP x2), some (qI x3), some (qI (μ (o + 12) x3)), some (qI (μ (x2 + 2) (μ (o + 12) x3))), none, none, none, none, none] [qI 0] ρ μ))) : qE mX3_unload GG GG [qP o, qP x1, qP x2, qI x3] ρ μ Post := by
  refine qE_intro pl_X3_unload (Nat.le_of_ble_eq_true rfl) (Nat.le_refl _) ?_
  refine qX_aload_n 0 dX3_unload_0 rfl rfl (shN ho) ?_
  refine qX_getS 3 12 _ 11 dX3_unload_1 fs_X3_45 rfl rfl ho rfl ?_
  refine qX_iload_n 3 dX3_unload_4 rfl rfl ?_
  refine qX_iald dX3_unload_5 (ar3_12 ho) h.1 ?_
  replace h := h.2
  refine qX_istore dX3_unload_6 (Nat.le_of_ble_eq_true rfl) rfl ?_
  refine qX_aload_n 2 dX3_unload_8 rfl rfl (shN hx2) ?_
  refine qX_getS 6 1 _ 1 dX3_unload_9 fs_X3_124 rfl rfl hx2 rfl ?_
  refine qX_iload dX3_unload_12 rfl ?_
  refine qX_iald dX3_unload_14 (ar6_1 hx2) h.1 ?_
  replace h := h.2
  refine qX_istore dX3_unload_15 (Nat.le_of_ble_eq_true rfl) rfl ?_
  refine qX_iload dX3_unload_17 rfl ?_
  refine qX_iconst dX3_unload_19 (i32_of rfl) ?_
  refine qX_icmp_ge 27 dX3_unload_20 rfl (fun hc => ?_) (fun hc => ?_)
  · replace h := h.1 hc
    refine qX_iconst dX3_unload_27 (i32_of rfl) ?_
    exact qX_mask [true, true, true, true, true, true, false, false, false, false, false] h
  · replace h := h.2 hc
    refine qX_iconst dX3_unload_23 (i32_of rfl) ?_
    refine qX_goto 28 dX3_unload_24 rfl ?_
    exact qX_mask [true, true, true, true, true, true, false, false, false, false, false] h
set_option maxRecDepth 20000 in
theorem w_X3_unload_28 {Post : Int → Rf → Mem → Prop} {ρ : Rf} {μ : Mem} {s0 : Int} {o : Nat} (ho : isO 3 o) {x1 : Nat} (hx1 : isO 0 x1) {x2 : Nat} (hx2 : isO 6 x2) {x3 : Int} {x4 : Int} {x5 : Int}
  (h : (0 ≤ x3 ∧ x3 < 5) ∧ (0 ≤ x4 ∧ x4 < 20) ∧ (0 ≤ s0 ∧ s0 < 2) ∧ (0 ≤ x5 ∧ x5 < 10) ∧ (0 ≤ s0 ∧ s0 < 2) ∧ i32 ((μ (x2 + 5) s0) - (max (μ (o + 4) x4) (max (μ (x1 + 2) s0) (μ (o + 13) x5)))) ∧ (0 ≤ x4 ∧ x4 < 20) ∧ ∃ P : Int → Rf → Mem → Prop, qE mX7_wholeParts GG GG [qI (max 0 ((μ (x2 + 5) s0) - (max (μ (o + 4) x4) (max (μ (x1 + 2) s0) (μ (o + 13) x5))))), qI (μ (x1 + 15) x3)] ρ μ P ∧ ∀ (z1 : Int) (ρ2 : Rf) (μ3 : Mem), P z1 ρ2 μ3 → ((min (μ (o + 2) x4) z1 ≠ 0 → (0 ≤ x4 ∧ x4 < 20) ∧ ∀ μ5, μ5 = up2 μ3 (o + 5) x4 (max (μ (o + 4) x4) (max (μ (x1 + 2) s0) (μ (o + 13) x5))) → i32 ((min (μ (o + 2) x4) z1) * (μ (x1 + 15) x3)) ∧ i32 ((max (μ (o + 4) x4) (max (μ (x1 + 2) s0) (μ (o + 13) x5))) + ((min (μ (o + 2) x4) z1) * (μ (x1 + 15) x3))) ∧ (0 ≤ x4 ∧ x4 < 20) ∧ ∀ μ6, μ6 = up2 μ5 (o + 6) x4 ((max (μ (o + 4) x4) (max (μ (x1 + 2) s0) (μ (o + 13) x5))) + ((min (μ (o + 2) x4) z1) * (μ (x1 + 15) x3))) → (0 ≤ x4 ∧ x4 < 20) ∧ ∀ μ7, μ7 = up2 μ6 (o + 7) x4 (min (μ (o + 2) x4) z1) → (0 ≤ x4 ∧ x4 < 20) ∧ (0 ≤ x5 ∧ x5 < 10) ∧ ∀ μ8, μ8 = up2 μ7 (o + 13) x5 (μ7 (o + 6) x4) → i32 ((μ8 o 9) + (min (μ (o + 2) x4) z1)) ∧ ∀ μ9, μ9 = up2 μ8 o 9 ((μ8 o 9) + (min (μ (o + 2) x4) z1)) → Post 0 ρ2 μ9) ∧ (min (μ (o + 2) x4) z1 = 0 → Post 0 ρ2 μ3))) : qX mX3_unload GG Post GG (0, 0) 28 [some (qP o), some (qP x1), some (qP x2), some (qI x3), some (qI x4), some (qI x5), none, none, none, none, none] [qI s0] ρ μ := by
  refine qX_istore dX3_unload_28 (Nat.le_of_ble_eq_true rfl) rfl ?_
  refine qX_aload_n 1 dX3_unload_30 rfl rfl (shN hx1) ?_
  refine qX_getS 0 14 _ 14 dX3_unload_31 fs_X3_137 rfl rfl hx1 rfl ?_
  refine qX_iload_n 3 dX3_unload_34 rfl rfl ?_
  refine qX_iald dX3_unload_35 (ar0_14 hx1) h.1 ?_
  replace h := h.2
  refine qX_istore dX3_unload_36 (Nat.le_of_ble_eq_true rfl) rfl ?_
  refine qX_aload_n 0 dX3_unload_38 rfl rfl (shN ho) ?_
  refine qX_getS 3 3 _ 3 dX3_unload_39 fs_X3_21 rfl rfl ho rfl ?_
  refine qX_iload dX3_unload_42 rfl ?_
  refine qX_iald dX3_unload_44 (ar3_3 ho) h.1 ?_
  replace h := h.2
  refine qX_aload_n 1 dX3_unload_45 rfl rfl (shN hx1) ?_
  refine qX_getS 0 1 _ 1 dX3_unload_46 fs_X3_140 rfl rfl hx1 rfl ?_
  refine qX_iload dX3_unload_49 rfl ?_
  refine qX_iald dX3_unload_51 (ar0_1 hx1) h.1 ?_
  replace h := h.2
  refine qX_aload_n 0 dX3_unload_52 rfl rfl (shN ho) ?_
  refine qX_getS 3 13 _ 12 dX3_unload_53 fs_X3_48 rfl rfl ho rfl ?_
  refine qX_iload dX3_unload_56 rfl ?_
  refine qX_iald dX3_unload_58 (ar3_13 ho) h.1 ?_
  replace h := h.2
  refine qX_max dX3_unload_59 kM_X3_143 ⟨(Nat.le_of_ble_eq_true rfl), (Nat.le_of_ble_eq_true rfl)⟩ (Nat.le_of_ble_eq_true rfl) ⟨(Nat.le_of_ble_eq_true rfl), (Nat.le_of_ble_eq_true rfl)⟩ ?_
  refine qX_max dX3_unload_62 kM_X3_143 ⟨(Nat.le_of_ble_eq_true rfl), (Nat.le_of_ble_eq_true rfl)⟩ (Nat.le_of_ble_eq_true rfl) ⟨(Nat.le_of_ble_eq_true rfl), (Nat.le_of_ble_eq_true rfl)⟩ ?_
  refine qX_istore dX3_unload_65 (Nat.le_of_ble_eq_true rfl) rfl ?_
  refine qX_iconst dX3_unload_67 (i32_of rfl) ?_
  refine qX_aload_n 2 dX3_unload_68 rfl rfl (shN hx2) ?_
  refine qX_getS 6 4 _ 4 dX3_unload_69 fs_X3_146 rfl rfl hx2 rfl ?_
  refine qX_iload dX3_unload_72 rfl ?_
  refine qX_iald dX3_unload_74 (ar6_4 hx2) h.1 ?_
  replace h := h.2
  refine qX_iload dX3_unload_75 rfl ?_
  refine qR_isub dX3_unload_77 h.1 ?_
  replace h := h.2
  refine qX_max dX3_unload_78 kM_X3_143 ⟨(Nat.le_of_ble_eq_true rfl), (Nat.le_of_ble_eq_true rfl)⟩ (Nat.le_of_ble_eq_true rfl) ⟨(Nat.le_of_ble_eq_true rfl), (Nat.le_of_ble_eq_true rfl)⟩ ?_
  refine qX_istore dX3_unload_81 (Nat.le_of_ble_eq_true rfl) rfl ?_
  refine qX_aload_n 0 dX3_unload_83 rfl rfl (shN ho) ?_
  refine qX_getS 3 1 _ 1 dX3_unload_84 fs_X3_15 rfl rfl ho rfl ?_
  refine qX_iload dX3_unload_87 rfl ?_
  refine qX_iald dX3_unload_89 (ar3_1 ho) h.1 ?_
  replace h := h.2
  refine qX_iload dX3_unload_90 rfl ?_
  refine qX_iload dX3_unload_92 rfl ?_
  obtain ⟨P, hE4, h⟩ := h
  refine qN_callSN mX7_wholeParts [_, _] [_] dX3_unload_94 cm_X3_149 ⟨(Nat.le_of_ble_eq_true rfl), (Nat.le_of_ble_eq_true rfl)⟩ rfl rfl (Nat.le_of_ble_eq_true rfl) ⟨rfl, rfl⟩ hE4 (fun z1 ρ2 μ3 hz => ?_)
  replace h := h _ _ _ hz
  refine qX_min dX3_unload_97 kM_X3_112 ⟨(Nat.le_of_ble_eq_true rfl), (Nat.le_of_ble_eq_true rfl)⟩ (Nat.le_of_ble_eq_true rfl) ⟨(Nat.le_of_ble_eq_true rfl), (Nat.le_of_ble_eq_true rfl)⟩ ?_
  refine qX_istore dX3_unload_100 (Nat.le_of_ble_eq_true rfl) rfl ?_
  refine qX_iload dX3_unload_102 rfl ?_
  refine qX_if_ne 108 dX3_unload_104 rfl (fun hc => ?_) (fun hc => ?_)
  · replace h := h.1 hc
    refine qX_aload_n 0 dX3_unload_108 rfl rfl (shN ho) ?_
    refine qX_getS 3 4 _ 4 dX3_unload_109 fs_X3_24 rfl rfl ho rfl ?_
    refine qX_iload dX3_unload_112 rfl ?_
    refine qX_iload dX3_unload_114 rfl ?_
    refine qX_iast dX3_unload_116 (ar3_4 ho) h.1 ?_
    replace h := h.2
    replace h := h _ rfl
    refine qX_aload_n 0 dX3_unload_117 rfl rfl (shN ho) ?_
    refine qX_getS 3 5 _ 5 dX3_unload_118 fs_X3_27 rfl rfl ho rfl ?_
    refine qX_iload dX3_unload_121 rfl ?_
    refine qX_iload dX3_unload_123 rfl ?_
    refine qX_iload dX3_unload_125 rfl ?_
    refine qX_iload dX3_unload_127 rfl ?_
    refine qR_imul dX3_unload_129 h.1 ?_
    replace h := h.2
    refine qR_iadd dX3_unload_130 h.1 ?_
    replace h := h.2
    refine qX_iast dX3_unload_131 (ar3_5 ho) h.1 ?_
    replace h := h.2
    replace h := h _ rfl
    refine qX_aload_n 0 dX3_unload_132 rfl rfl (shN ho) ?_
    refine qX_getS 3 6 _ 6 dX3_unload_133 fs_X3_30 rfl rfl ho rfl ?_
    refine qX_iload dX3_unload_136 rfl ?_
    refine qX_iload dX3_unload_138 rfl ?_
    refine qX_iast dX3_unload_140 (ar3_6 ho) h.1 ?_
    replace h := h.2
    replace h := h _ rfl
    refine qX_aload_n 0 dX3_unload_141 rfl rfl (shN ho) ?_
    refine qX_getS 3 13 _ 12 dX3_unload_142 fs_X3_48 rfl rfl ho rfl ?_
    refine qX_iload dX3_unload_145 rfl ?_
    refine qX_aload_n 0 dX3_unload_147 rfl rfl (shN ho) ?_
    refine qX_getS 3 5 _ 5 dX3_unload_148 fs_X3_27 rfl rfl ho rfl ?_
    refine qX_iload dX3_unload_151 rfl ?_
    refine qX_iald dX3_unload_153 (ar3_5 ho) h.1 ?_
    replace h := h.2
    refine qX_iast dX3_unload_154 (ar3_13 ho) h.1 ?_
    replace h := h.2
    replace h := h _ rfl
    refine qX_aload_n 0 dX3_unload_155 rfl rfl (shN ho) ?_
    refine qX_dup dX3_unload_156 rfl ?_
    refine qX_getI 3 9 _ dX3_unload_157 fs_X3_66 ho ?_
    refine qX_iload dX3_unload_160 rfl ?_
    refine qR_iadd dX3_unload_162 h.1 ?_
    replace h := h.2
    refine qX_putI 3 9 _ dX3_unload_163 fs_X3_66 ho ?_
    replace h := h _ rfl
    exact qX_return rfl dX3_unload_166 rfl ⟨(Nat.le_of_ble_eq_true rfl), (Nat.le_of_ble_eq_true rfl)⟩ h
  · replace h := h.2 hc
    exact qX_return rfl dX3_unload_107 rfl ⟨(Nat.le_of_ble_eq_true rfl), (Nat.le_of_ble_eq_true rfl)⟩ h
set_option maxRecDepth 20000 in
theorem e_X3_bringBack {Post : Int → Rf → Mem → Prop} {ρ : Rf} {μ : Mem} {o : Nat} (ho : isO 3 o) {x1 : Nat} (hx1 : isO 0 x1) {x2 : Nat} (hx2 : isO 6 x2) {x3 : Int}
  (h : (0 ≤ x3 ∧ x3 < 5) ∧ (0 ≤ x3 ∧ x3 < 5) ∧ (0 ≤ μ (o + 12) x3 ∧ μ (o + 12) x3 < 20) ∧ ∃ P : Int → Rf → Mem → Prop, qE mX7_stockIndex GG GG [qI (μ (x1 + 11) x3), qI (μ (x2 + 3) (μ (o + 12) x3))] ρ μ P ∧ ∀ (z1 : Int) (ρ2 : Rf) (μ3 : Mem), P z1 ρ2 μ3 → (0 ≤ z1 ∧ z1 < 12) ∧ (0 ≤ μ (o + 12) x3 ∧ μ (o + 12) x3 < 20) ∧ (0 ≤ μ (o + 12) x3 ∧ μ (o + 12) x3 < 20) ∧ i32 ((μ3 (o + 2) (μ (o + 12) x3)) - (μ3 (o + 7) (μ (o + 12) x3))) ∧ i32 ((μ3 (o + 9) z1) + ((μ3 (o + 2) (μ (o + 12) x3)) - (μ3 (o + 7) (μ (o + 12) x3)))) ∧ (0 ≤ z1 ∧ z1 < 12) ∧ ∀ μ5, μ5 = up2 μ3 (o + 9) z1 ((μ3 (o + 9) z1) + ((μ3 (o + 2) (μ (o + 12) x3)) - (μ3 (o + 7) (μ (o + 12) x3)))) → i32 ((μ (o + 12) x3) + 1) ∧ (0 ≤ μ (o + 12) x3 ∧ μ (o + 12) x3 < 20) ∧ ∃ P : Int → Rf → Mem → Prop, qE mX3_awaitStart GG GG [qP o, qP x2, qI x3, qI ((μ (o + 12) x3) + 1), qI (μ5 (o + 8) (μ (o + 12) x3))] ρ2 μ5 P ∧ ∀ (z6 : Int) (ρ7 : Rf) (μ8 : Mem), P z6 ρ7 μ8 → Post 0 ρ7 μ8) : qE mX3_bringBack GG GG [qP o, qP x1, qP x2, qI x3] ρ μ Post := by
  refine qE_intro pl_X3_bringBack (Nat.le_of_ble_eq_true rfl) (Nat.le_refl _) ?_
  refine qX_aload_n 0 dX3_bringBack_0 rfl rfl (shN ho) ?_
  refine qX_getS 3 12 _ 11 dX3_bringBack_1 fs_X3_45 rfl rfl ho rfl ?_
  refine qX_iload_n 3 dX3_bringBack_4 rfl rfl ?_
  refine qX_iald dX3_bringBack_5 (ar3_12 ho) h.1 ?_
  replace h := h.2
  refine qX_istore dX3_bringBack_6 (Nat.le_of_ble_eq_true rfl) rfl ?_
  refine qX_aload_n 0 dX3_bringBack_8 rfl rfl (shN ho) ?_
  refine qX_getS 3 8 _ 8 dX3_bringBack_9 fs_X3_36 rfl rfl ho rfl ?_
  refine qX_aload_n 1 dX3_bringBack_12 rfl rfl (shN hx1) ?_
  refine qX_getS 0 10 _ 10 dX3_bringBack_13 fs_X3_97 rfl rfl hx1 rfl ?_
  refine qX_iload_n 3 dX3_bringBack_16 rfl rfl ?_
  refine qX_iald dX3_bringBack_17 (ar0_10 hx1) h.1 ?_
  replace h := h.2
  refine qX_aload_n 2 dX3_bringBack_18 rfl rfl (shN hx2) ?_
  refine qX_getS 6 2 _ 2 dX3_bringBack_19 fs_X3_100 rfl rfl hx2 rfl ?_
  refine qX_iload dX3_bringBack_22 rfl ?_
  refine qX_iald dX3_bringBack_24 (ar6_2 hx2) h.1 ?_
  replace h := h.2
  obtain ⟨P, hE4, h⟩ := h
  refine qN_callSN mX7_stockIndex [_, _] [_] dX3_bringBack_25 cm_X3_103 ⟨(Nat.le_of_ble_eq_true rfl), (Nat.le_of_ble_eq_true rfl)⟩ rfl rfl (Nat.le_of_ble_eq_true rfl) ⟨rfl, rfl⟩ hE4 (fun z1 ρ2 μ3 hz => ?_)
  replace h := h _ _ _ hz
  refine qX_dup2 dX3_bringBack_28 rfl rfl ?_
  refine qX_iald dX3_bringBack_29 (ar3_8 ho) h.1 ?_
  replace h := h.2
  refine qX_aload_n 0 dX3_bringBack_30 rfl rfl (shN ho) ?_
  refine qX_getS 3 1 _ 1 dX3_bringBack_31 fs_X3_15 rfl rfl ho rfl ?_
  refine qX_iload dX3_bringBack_34 rfl ?_
  refine qX_iald dX3_bringBack_36 (ar3_1 ho) h.1 ?_
  replace h := h.2
  refine qX_aload_n 0 dX3_bringBack_37 rfl rfl (shN ho) ?_
  refine qX_getS 3 6 _ 6 dX3_bringBack_38 fs_X3_30 rfl rfl ho rfl ?_
  refine qX_iload dX3_bringBack_41 rfl ?_
  refine qX_iald dX3_bringBack_43 (ar3_6 ho) h.1 ?_
  replace h := h.2
  refine qR_isub dX3_bringBack_44 h.1 ?_
  replace h := h.2
  refine qR_iadd dX3_bringBack_45 h.1 ?_
  replace h := h.2
  refine qX_iast dX3_bringBack_46 (ar3_8 ho) h.1 ?_
  replace h := h.2
  replace h := h _ rfl
  refine qX_aload_n 0 dX3_bringBack_47 rfl rfl (shN ho) ?_
  refine qX_aload_n 2 dX3_bringBack_48 rfl rfl (shN hx2) ?_
  refine qX_iload_n 3 dX3_bringBack_49 rfl rfl ?_
  refine qX_iload dX3_bringBack_50 rfl ?_
  refine qX_iconst dX3_bringBack_52 (i32_of rfl) ?_
  refine qR_iadd dX3_bringBack_53 h.1 ?_
  replace h := h.2
  refine qX_aload_n 0 dX3_bringBack_54 rfl rfl (shN ho) ?_
  refine qX_getS 3 7 _ 7 dX3_bringBack_55 fs_X3_33 rfl rfl ho rfl ?_
  refine qX_iload dX3_bringBack_58 rfl ?_
  refine qX_iald dX3_bringBack_60 (ar3_7 ho) h.1 ?_
  replace h := h.2
  obtain ⟨P, hE9, h⟩ := h
  refine qN_callV mX3_awaitStart [_, _, _, _] _ 3 [] dX3_bringBack_61 cm_X3_75 ⟨(Nat.le_of_ble_eq_true rfl), (Nat.le_of_ble_eq_true rfl)⟩ rfl rfl ho (Nat.le_of_ble_eq_true rfl) ⟨rfl, rfl⟩ hE9 (fun z6 ρ7 μ8 hz => ?_)
  replace h := h _ _ _ hz
  exact qX_return rfl dX3_bringBack_64 rfl ⟨(Nat.le_of_ble_eq_true rfl), (Nat.le_of_ble_eq_true rfl)⟩ h
set_option maxRecDepth 20000 in
theorem e_X3_leavesBehind {Post : Int → Rf → Mem → Prop} {ρ : Rf} {μ : Mem} {o : Nat} (ho : isO 3 o) {x1 : Nat} (hx1 : isO 6 x1) {x2 : Int}
  (h : qX mX3_leavesBehind GG Post GG (0, 0) 2 [some (qP o), some (qP x1), some (qI x2), some (qI 0), none] [] ρ μ) : qE mX3_leavesBehind GG GG [qP o, qP x1, qI x2] ρ μ Post := by
  refine qE_intro pl_X3_leavesBehind (Nat.le_of_ble_eq_true rfl) (Nat.le_refl _) ?_
  refine qX_iconst dX3_leavesBehind_0 (i32_of rfl) ?_
  refine qX_istore_n 3 dX3_leavesBehind_1 rfl (Nat.le_of_ble_eq_true rfl) rfl ?_
  exact qX_mask [true, true, true, true, false] h
set_option maxRecDepth 20000 in
theorem w_X3_leavesBehind_2 {Post : Int → Rf → Mem → Prop} {ρ : Rf} {μ : Mem} {o : Nat} (ho : isO 3 o) {x1 : Nat} (hx1 : isO 6 x1) {x2 : Int} {x3 : Int}
  (h : ((μ x1 6 ≤ x3 → Post 0 ρ μ) ∧ (x3 < μ x1 6 → (0 ≤ x3 ∧ x3 < 20) ∧ ((5 ≤ μ (x1 + 2) x3 → qX mX3_leavesBehind GG Post GG (0, 0) 25 [some (qP o), some (qP x1), some (qI x2), some (qI x3), none] [qI 1] ρ μ) ∧ (μ (x1 + 2) x3 < 5 → qX mX3_leavesBehind GG Post GG (0, 0) 25 [some (qP o), some (qP x1), some (qI x2), some (qI x3), none] [qI 0] ρ μ))))) : qX mX3_leavesBehind GG Post GG (0, 0) 2 [some (qP o), some (qP x1), some (qI x2), some (qI x3), none] [] ρ μ := by
  refine qX_iload_n 3 dX3_leavesBehind_2 rfl rfl ?_
  refine qX_aload_n 1 dX3_leavesBehind_3 rfl rfl (shN hx1) ?_
  refine qX_getI 6 6 _ dX3_leavesBehind_4 fs_X3_152 hx1 ?_
  refine qX_icmp_ge 56 dX3_leavesBehind_7 rfl (fun hc => ?_) (fun hc => ?_)
  · replace h := h.1 hc
    refine qX_iconst dX3_leavesBehind_56 (i32_of rfl) ?_
    exact qX_zreturn rfl dX3_leavesBehind_57 rfl ⟨(Nat.le_of_ble_eq_true rfl), (Nat.le_of_ble_eq_true rfl)⟩ (by decide) h
  · replace h := h.2 hc
    refine qX_aload_n 1 dX3_leavesBehind_10 rfl rfl (shN hx1) ?_
    refine qX_getS 6 1 _ 1 dX3_leavesBehind_11 fs_X3_124 rfl rfl hx1 rfl ?_
    refine qX_iload_n 3 dX3_leavesBehind_14 rfl rfl ?_
    refine qX_iald dX3_leavesBehind_15 (ar6_1 hx1) h.1 ?_
    replace h := h.2
    refine qX_iconst dX3_leavesBehind_16 (i32_of rfl) ?_
    refine qX_icmp_ge 24 dX3_leavesBehind_17 rfl (fun hc => ?_) (fun hc => ?_)
    · replace h := h.1 hc
      refine qX_iconst dX3_leavesBehind_24 (i32_of rfl) ?_
      exact qX_mask [true, true, true, true, false] h
    · replace h := h.2 hc
      refine qX_iconst dX3_leavesBehind_20 (i32_of rfl) ?_
      refine qX_goto 25 dX3_leavesBehind_21 rfl ?_
      exact qX_mask [true, true, true, true, false] h
set_option maxRecDepth 20000 in
theorem w_X3_leavesBehind_25 {Post : Int → Rf → Mem → Prop} {ρ : Rf} {μ : Mem} {s0 : Int} {o : Nat} (ho : isO 3 o) {x1 : Nat} (hx1 : isO 6 x1) {x2 : Int} {x3 : Int}
  (h : ((s0 ≠ x2 → qX mX3_leavesBehind GG Post GG (0, 0) 50 [some (qP o), some (qP x1), some (qI x2), some (qI x3), none] [] ρ μ) ∧ (s0 = x2 → (0 ≤ x3 ∧ x3 < 20) ∧ (0 ≤ x3 ∧ x3 < 20) ∧ ((μ (o + 2) x3 ≤ μ (o + 7) x3 → qX mX3_leavesBehind GG Post GG (0, 0) 50 [some (qP o), some (qP x1), some (qI x2), some (qI x3), none] [] ρ μ) ∧ (μ (o + 7) x3 < μ (o + 2) x3 → Post 1 ρ μ))))) : qX mX3_leavesBehind GG Post GG (0, 0) 25 [some (qP o), some (qP x1), some (qI x2), some (qI x3), none] [qI s0] ρ μ := by
  refine qX_istore dX3_leavesBehind_25 (Nat.le_of_ble_eq_true rfl) rfl ?_
  refine qX_iload dX3_leavesBehind_27 rfl ?_
  refine qX_iload_n 2 dX3_leavesBehind_29 rfl rfl ?_
  refine qX_icmp_ne 50 dX3_leavesBehind_30 rfl (fun hc => ?_) (fun hc => ?_)
  · replace h := h.1 hc
    exact qX_mask [true, true, true, true, false] h
  · replace h := h.2 hc
    refine qX_aload_n 0 dX3_leavesBehind_33 rfl rfl (shN ho) ?_
    refine qX_getS 3 6 _ 6 dX3_leavesBehind_34 fs_X3_30 rfl rfl ho rfl ?_
    refine qX_iload_n 3 dX3_leavesBehind_37 rfl rfl ?_
    refine qX_iald dX3_leavesBehind_38 (ar3_6 ho) h.1 ?_
    replace h := h.2
    refine qX_aload_n 0 dX3_leavesBehind_39 rfl rfl (shN ho) ?_
    refine qX_getS 3 1 _ 1 dX3_leavesBehind_40 fs_X3_15 rfl rfl ho rfl ?_
    refine qX_iload_n 3 dX3_leavesBehind_43 rfl rfl ?_
    refine qX_iald dX3_leavesBehind_44 (ar3_1 ho) h.1 ?_
    replace h := h.2
    refine qX_icmp_ge 50 dX3_leavesBehind_45 rfl (fun hc => ?_) (fun hc => ?_)
    · replace h := h.1 hc
      exact qX_mask [true, true, true, true, false] h
    · replace h := h.2 hc
      refine qX_iconst dX3_leavesBehind_48 (i32_of rfl) ?_
      exact qX_zreturn rfl dX3_leavesBehind_49 rfl ⟨(Nat.le_of_ble_eq_true rfl), (Nat.le_of_ble_eq_true rfl)⟩ (by decide) h
set_option maxRecDepth 20000 in
theorem w_X3_leavesBehind_50 {Post : Int → Rf → Mem → Prop} {ρ : Rf} {μ : Mem} {o : Nat} (ho : isO 3 o) {x1 : Nat} (hx1 : isO 6 x1) {x2 : Int} {x3 : Int}
  (h : i32 (x3 + 1) ∧ qX mX3_leavesBehind GG Post GG (0, 0) 2 [some (qP o), some (qP x1), some (qI x2), some (qI (x3 + 1)), none] [] ρ μ) : qX mX3_leavesBehind GG Post GG (0, 0) 50 [some (qP o), some (qP x1), some (qI x2), some (qI x3), none] [] ρ μ := by
  refine qR_iinc dX3_leavesBehind_50 rfl (Nat.le_of_ble_eq_true rfl) rfl h.1 ?_
  replace h := h.2
  refine qX_goto 2 dX3_leavesBehind_53 rfl ?_
  exact qX_mask [true, true, true, true, false] h
set_option maxRecDepth 20000 in
theorem e_X4_clear {Post : Int → Rf → Mem → Prop} {ρ : Rf} {μ : Mem} 
  (h : ∀ μ1, μ1 = up2 μ 151 3 0 → ∀ μ2, μ2 = up2 μ1 151 4 0 → Post 0 ρ μ2) : qE mX4_clear GG GG [qP 151] ρ μ Post := by
  refine qE_intro pl_X4_clear (Nat.le_of_ble_eq_true rfl) (Nat.le_refl _) ?_
  refine qX_aload_n 0 dX4_clear_0 rfl rfl (by decide) ?_
  refine qX_iconst dX4_clear_1 (i32_of rfl) ?_
  refine qX_putI 4 3 _ dX4_clear_2 fs_X4_21 sh151 ?_
  replace h := h _ rfl
  refine qX_aload_n 0 dX4_clear_5 rfl rfl (by decide) ?_
  refine qX_iconst dX4_clear_6 (i32_of rfl) ?_
  refine qX_putI 4 4 _ dX4_clear_7 fs_X4_25 sh151 ?_
  replace h := h _ rfl
  exact qX_return rfl dX4_clear_10 rfl ⟨(Nat.le_of_ble_eq_true rfl), (Nat.le_of_ble_eq_true rfl)⟩ h
set_option maxRecDepth 20000 in
theorem e_X4_addClaim {Post : Int → Rf → Mem → Prop} {ρ : Rf} {μ : Mem} {x1 : Int}
  (h : ((10 ≤ μ 151 3 → Post 0 ρ μ) ∧ (μ 151 3 < 10 → (0 ≤ μ 151 3 ∧ μ 151 3 < 10) ∧ ∀ μ1, μ1 = up2 μ 152 (μ 151 3) x1 → i32 ((μ1 151 4) + x1) ∧ ∀ μ2, μ2 = up2 μ1 151 4 ((μ1 151 4) + x1) → i32 ((μ2 151 3) + 1) ∧ ∀ μ3, μ3 = up2 μ2 151 3 ((μ2 151 3) + 1) → Post 0 ρ μ3))) : qE mX4_addClaim GG GG [qP 151, qI x1] ρ μ Post := by
  refine qE_intro pl_X4_addClaim (Nat.le_of_ble_eq_true rfl) (Nat.le_refl _) ?_
  refine qX_aload_n 0 dX4_addClaim_0 rfl rfl (by decide) ?_
  refine qX_getI 4 3 _ dX4_addClaim_1 fs_X4_21 sh151 ?_
  refine qX_bip dX4_addClaim_4 rfl ?_
  refine qX_icmp_ge 39 dX4_addClaim_6 rfl (fun hc => ?_) (fun hc => ?_)
  · replace h := h.1 hc
    exact qX_return rfl dX4_addClaim_39 rfl ⟨(Nat.le_of_ble_eq_true rfl), (Nat.le_of_ble_eq_true rfl)⟩ h
  · replace h := h.2 hc
    refine qX_aload_n 0 dX4_addClaim_9 rfl rfl (by decide) ?_
    refine qX_getS 4 0 _ 0 dX4_addClaim_10 fs_X4_9 rfl rfl sh151 (x := 152) rfl ?_
    refine qX_aload_n 0 dX4_addClaim_13 rfl rfl (by decide) ?_
    refine qX_getI 4 3 _ dX4_addClaim_14 fs_X4_21 sh151 ?_
    refine qX_iload_n 1 dX4_addClaim_17 rfl rfl ?_
    refine qX_iast dX4_addClaim_18 sh152 h.1 ?_
    replace h := h.2
    replace h := h _ rfl
    refine qX_aload_n 0 dX4_addClaim_19 rfl rfl (by decide) ?_
    refine qX_dup dX4_addClaim_20 rfl ?_
    refine qX_getI 4 4 _ dX4_addClaim_21 fs_X4_25 sh151 ?_
    refine qX_iload_n 1 dX4_addClaim_24 rfl rfl ?_
    refine qR_iadd dX4_addClaim_25 h.1 ?_
    replace h := h.2
    refine qX_putI 4 4 _ dX4_addClaim_26 fs_X4_25 sh151 ?_
    replace h := h _ rfl
    refine qX_aload_n 0 dX4_addClaim_29 rfl rfl (by decide) ?_
    refine qX_dup dX4_addClaim_30 rfl ?_
    refine qX_getI 4 3 _ dX4_addClaim_31 fs_X4_21 sh151 ?_
    refine qX_iconst dX4_addClaim_34 (i32_of rfl) ?_
    refine qR_iadd dX4_addClaim_35 h.1 ?_
    replace h := h.2
    refine qX_putI 4 3 _ dX4_addClaim_36 fs_X4_21 sh151 ?_
    replace h := h _ rfl
    exact qX_return rfl dX4_addClaim_39 rfl ⟨(Nat.le_of_ble_eq_true rfl), (Nat.le_of_ble_eq_true rfl)⟩ h
set_option maxRecDepth 20000 in
theorem e_X4_shareOut {Post : Int → Rf → Mem → Prop} {ρ : Rf} {μ : Mem} {x1 : Int}
  (h : ((x1 < μ 151 4 → qX mX4_shareOut GG Post GG (0, 0) 28 [some (qP 151), some (qI x1), some (qI x1), some (qI 0), none] [] ρ μ) ∧ (μ 151 4 ≤ x1 → ∀ μ1, μ1 = cpyM μ 152 154 10 → Post 0 ρ μ1))) : qE mX4_shareOut GG GG [qP 151, qI x1] ρ μ Post := by
  refine qE_intro pl_X4_shareOut (Nat.le_of_ble_eq_true rfl) (Nat.le_refl _) ?_
  refine qX_iload_n 1 dX4_shareOut_0 rfl rfl ?_
  refine qX_aload_n 0 dX4_shareOut_1 rfl rfl (by decide) ?_
  refine qX_getI 4 4 _ dX4_shareOut_2 fs_X4_25 sh151 ?_
  refine qX_icmp_lt 24 dX4_shareOut_5 rfl (fun hc => ?_) (fun hc => ?_)
  · replace h := h.1 hc
    refine qX_iload_n 1 dX4_shareOut_24 rfl rfl ?_
    refine qX_istore_n 2 dX4_shareOut_25 rfl (Nat.le_of_ble_eq_true rfl) rfl ?_
    refine qX_iconst dX4_shareOut_26 (i32_of rfl) ?_
    refine qX_istore_n 3 dX4_shareOut_27 rfl (Nat.le_of_ble_eq_true rfl) rfl ?_
    exact qX_mask [true, true, true, true, false] h
  · replace h := h.2 hc
    refine qX_aload_n 0 dX4_shareOut_8 rfl rfl (by decide) ?_
    refine qX_getS 4 0 _ 0 dX4_shareOut_9 fs_X4_9 rfl rfl sh151 (x := 152) rfl ?_
    refine qX_iconst dX4_shareOut_12 (i32_of rfl) ?_
    refine qX_aload_n 0 dX4_shareOut_13 rfl rfl (by decide) ?_
    refine qX_getS 4 2 _ 2 dX4_shareOut_14 fs_X4_18 rfl rfl sh151 (x := 154) rfl ?_
    refine qX_iconst dX4_shareOut_17 (i32_of rfl) ?_
    refine qX_bip dX4_shareOut_18 rfl ?_
    refine qX_copy dX4_shareOut_20 kM_X4_28 sh152 sh154 ⟨by decide, by decide, by decide⟩ ⟨(Nat.le_of_ble_eq_true rfl), (Nat.le_of_ble_eq_true rfl)⟩ (Nat.le_of_ble_eq_true rfl) ?_
    replace h := h _ rfl
    exact qX_return rfl dX4_shareOut_23 rfl ⟨(Nat.le_of_ble_eq_true rfl), (Nat.le_of_ble_eq_true rfl)⟩ h
set_option maxRecDepth 20000 in
theorem w_X4_shareOut_28 {Post : Int → Rf → Mem → Prop} {ρ : Rf} {μ : Mem} {x1 : Int} {x2 : Int} {x3 : Int}
  (h : ((μ 151 3 ≤ x3 → qX mX4_shareOut GG Post GG (0, 0) 98 [some (qP 151), none, some (qI x2), some (qI 0), none] [] ρ μ) ∧ (x3 < μ 151 3 → (0 ≤ x3 ∧ x3 < 10) ∧ i32 (x1 * (μ 152 x3)) ∧ ∃ P : Int → Rf → Mem → Prop, qE mX7_wholeParts GG GG [qI (x1 * (μ 152 x3)), qI (μ 151 4)] ρ μ P ∧ ∀ (z1 : Int) (ρ2 : Rf) (μ3 : Mem), P z1 ρ2 μ3 → (0 ≤ x3 ∧ x3 < 10) ∧ ∀ μ5, μ5 = up2 μ3 154 x3 z1 → (0 ≤ x3 ∧ x3 < 10) ∧ i32 ((μ5 154 x3) * (μ5 151 4)) ∧ i32 ((x1 * (μ 152 x3)) - ((μ5 154 x3) * (μ5 151 4))) ∧ (0 ≤ x3 ∧ x3 < 10) ∧ ∀ μ6, μ6 = up2 μ5 153 x3 ((x1 * (μ 152 x3)) - ((μ5 154 x3) * (μ5 151 4))) → (0 ≤ x3 ∧ x3 < 10) ∧ i32 (x2 - (μ6 154 x3)) ∧ i32 (x3 + 1) ∧ qX mX4_shareOut GG Post GG (0, 0) 28 [some (qP 151), some (qI x1), some (qI (x2 - (μ6 154 x3))), some (qI (x3 + 1)), none] [] ρ2 μ6))) : qX mX4_shareOut GG Post GG (0, 0) 28 [some (qP 151), some (qI x1), some (qI x2), some (qI x3), none] [] ρ μ := by
  refine qX_iload_n 3 dX4_shareOut_28 rfl rfl ?_
  refine qX_aload_n 0 dX4_shareOut_29 rfl rfl (by decide) ?_
  refine qX_getI 4 3 _ dX4_shareOut_30 fs_X4_21 sh151 ?_
  refine qX_icmp_ge 96 dX4_shareOut_33 rfl (fun hc => ?_) (fun hc => ?_)
  · replace h := h.1 hc
    refine qX_iconst dX4_shareOut_96 (i32_of rfl) ?_
    refine qX_istore_n 3 dX4_shareOut_97 rfl (Nat.le_of_ble_eq_true rfl) rfl ?_
    exact qX_mask [true, false, true, true, false] h
  · replace h := h.2 hc
    refine qX_iload_n 1 dX4_shareOut_36 rfl rfl ?_
    refine qX_aload_n 0 dX4_shareOut_37 rfl rfl (by decide) ?_
    refine qX_getS 4 0 _ 0 dX4_shareOut_38 fs_X4_9 rfl rfl sh151 (x := 152) rfl ?_
    refine qX_iload_n 3 dX4_shareOut_41 rfl rfl ?_
    refine qX_iald dX4_shareOut_42 sh152 h.1 ?_
    replace h := h.2
    refine qR_imul dX4_shareOut_43 h.1 ?_
    replace h := h.2
    refine qX_istore dX4_shareOut_44 (Nat.le_of_ble_eq_true rfl) rfl ?_
    refine qX_aload_n 0 dX4_shareOut_46 rfl rfl (by decide) ?_
    refine qX_getS 4 2 _ 2 dX4_shareOut_47 fs_X4_18 rfl rfl sh151 (x := 154) rfl ?_
    refine qX_iload_n 3 dX4_shareOut_50 rfl rfl ?_
    refine qX_iload dX4_shareOut_51 rfl ?_
    refine qX_aload_n 0 dX4_shareOut_53 rfl rfl (by decide) ?_
    refine qX_getI 4 4 _ dX4_shareOut_54 fs_X4_25 sh151 ?_
    obtain ⟨P, hE4, h⟩ := h
    refine qN_callSN mX7_wholeParts [_, _] [_, _] dX4_shareOut_57 cm_X4_34 ⟨(Nat.le_of_ble_eq_true rfl), (Nat.le_of_ble_eq_true rfl)⟩ rfl rfl (Nat.le_of_ble_eq_true rfl) ⟨rfl, rfl⟩ hE4 (fun z1 ρ2 μ3 hz => ?_)
    replace h := h _ _ _ hz
    refine qX_iast dX4_shareOut_60 sh154 h.1 ?_
    replace h := h.2
    replace h := h _ rfl
    refine qX_aload_n 0 dX4_shareOut_61 rfl rfl (by decide) ?_
    refine qX_getS 4 1 _ 1 dX4_shareOut_62 fs_X4_15 rfl rfl sh151 (x := 153) rfl ?_
    refine qX_iload_n 3 dX4_shareOut_65 rfl rfl ?_
    refine qX_iload dX4_shareOut_66 rfl ?_
    refine qX_aload_n 0 dX4_shareOut_68 rfl rfl (by decide) ?_
    refine qX_getS 4 2 _ 2 dX4_shareOut_69 fs_X4_18 rfl rfl sh151 (x := 154) rfl ?_
    refine qX_iload_n 3 dX4_shareOut_72 rfl rfl ?_
    refine qX_iald dX4_shareOut_73 sh154 h.1 ?_
    replace h := h.2
    refine qX_aload_n 0 dX4_shareOut_74 rfl rfl (by decide) ?_
    refine qX_getI 4 4 _ dX4_shareOut_75 fs_X4_25 sh151 ?_
    refine qR_imul dX4_shareOut_78 h.1 ?_
    replace h := h.2
    refine qR_isub dX4_shareOut_79 h.1 ?_
    replace h := h.2
    refine qX_iast dX4_shareOut_80 sh153 h.1 ?_
    replace h := h.2
    replace h := h _ rfl
    refine qX_iload_n 2 dX4_shareOut_81 rfl rfl ?_
    refine qX_aload_n 0 dX4_shareOut_82 rfl rfl (by decide) ?_
    refine qX_getS 4 2 _ 2 dX4_shareOut_83 fs_X4_18 rfl rfl sh151 (x := 154) rfl ?_
    refine qX_iload_n 3 dX4_shareOut_86 rfl rfl ?_
    refine qX_iald dX4_shareOut_87 sh154 h.1 ?_
    replace h := h.2
    refine qR_isub dX4_shareOut_88 h.1 ?_
    replace h := h.2
    refine qX_istore_n 2 dX4_shareOut_89 rfl (Nat.le_of_ble_eq_true rfl) rfl ?_
    refine qR_iinc dX4_shareOut_90 rfl (Nat.le_of_ble_eq_true rfl) rfl h.1 ?_
    replace h := h.2
    refine qX_goto 28 dX4_shareOut_93 rfl ?_
    exact qX_mask [true, true, true, true, false] h
set_option maxRecDepth 20000 in
theorem w_X4_shareOut_98 {Post : Int → Rf → Mem → Prop} {ρ : Rf} {μ : Mem} {x2 : Int} {x3 : Int}
  (h : ((x2 ≤ x3 → Post 0 ρ μ) ∧ (x3 < x2 → ∃ P : Int → Rf → Mem → Prop, qE mX4_largestRest GG GG [qP 151] ρ μ P ∧ ∀ (z1 : Int) (ρ2 : Rf) (μ3 : Mem), P z1 ρ2 μ3 → (0 ≤ z1 ∧ z1 < 10) ∧ i32 ((μ3 154 z1) + 1) ∧ (0 ≤ z1 ∧ z1 < 10) ∧ ∀ μ5, μ5 = up2 μ3 154 z1 ((μ3 154 z1) + 1) → (0 ≤ z1 ∧ z1 < 10) ∧ ∀ μ6, μ6 = up2 μ5 153 z1 (-1) → i32 (x3 + 1) ∧ qX mX4_shareOut GG Post GG (0, 0) 98 [some (qP 151), none, some (qI x2), some (qI (x3 + 1)), none] [] ρ2 μ6))) : qX mX4_shareOut GG Post GG (0, 0) 98 [some (qP 151), none, some (qI x2), some (qI x3), none] [] ρ μ := by
  refine qX_iload_n 3 dX4_shareOut_98 rfl rfl ?_
  refine qX_iload_n 2 dX4_shareOut_99 rfl rfl ?_
  refine qX_icmp_ge 134 dX4_shareOut_100 rfl (fun hc => ?_) (fun hc => ?_)
  · replace h := h.1 hc
    exact qX_return rfl dX4_shareOut_134 rfl ⟨(Nat.le_of_ble_eq_true rfl), (Nat.le_of_ble_eq_true rfl)⟩ h
  · replace h := h.2 hc
    refine qX_aload_n 0 dX4_shareOut_103 rfl rfl (by decide) ?_
    obtain ⟨P, hE4, h⟩ := h
    refine qN_callV mX4_largestRest [] _ 4 [] dX4_shareOut_104 cm_X4_38 ⟨(Nat.le_of_ble_eq_true rfl), (Nat.le_of_ble_eq_true rfl)⟩ rfl rfl sh151 (Nat.le_of_ble_eq_true rfl) ⟨rfl, rfl⟩ hE4 (fun z1 ρ2 μ3 hz => ?_)
    replace h := h _ _ _ hz
    refine qX_istore dX4_shareOut_107 (Nat.le_of_ble_eq_true rfl) rfl ?_
    refine qX_aload_n 0 dX4_shareOut_109 rfl rfl (by decide) ?_
    refine qX_getS 4 2 _ 2 dX4_shareOut_110 fs_X4_18 rfl rfl sh151 (x := 154) rfl ?_
    refine qX_iload dX4_shareOut_113 rfl ?_
    refine qX_dup2 dX4_shareOut_115 rfl rfl ?_
    refine qX_iald dX4_shareOut_116 sh154 h.1 ?_
    replace h := h.2
    refine qX_iconst dX4_shareOut_117 (i32_of rfl) ?_
    refine qR_iadd dX4_shareOut_118 h.1 ?_
    replace h := h.2
    refine qX_iast dX4_shareOut_119 sh154 h.1 ?_
    replace h := h.2
    replace h := h _ rfl
    refine qX_aload_n 0 dX4_shareOut_120 rfl rfl (by decide) ?_
    refine qX_getS 4 1 _ 1 dX4_shareOut_121 fs_X4_15 rfl rfl sh151 (x := 153) rfl ?_
    refine qX_iload dX4_shareOut_124 rfl ?_
    refine qX_iconst dX4_shareOut_126 (i32_of rfl) ?_
    refine qX_iast dX4_shareOut_127 sh153 h.1 ?_
    replace h := h.2
    replace h := h _ rfl
    refine qR_iinc dX4_shareOut_128 rfl (Nat.le_of_ble_eq_true rfl) rfl h.1 ?_
    replace h := h.2
    refine qX_goto 98 dX4_shareOut_131 rfl ?_
    exact qX_mask [true, false, true, true, false] h
set_option maxRecDepth 20000 in
theorem e_X4_largestRest {Post : Int → Rf → Mem → Prop} {ρ : Rf} {μ : Mem} 
  (h : qX mX4_largestRest GG Post GG (0, 0) 4 [some (qP 151), some (qI 0), some (qI 1)] [] ρ μ) : qE mX4_largestRest GG GG [qP 151] ρ μ Post := by
  refine qE_intro pl_X4_largestRest (Nat.le_of_ble_eq_true rfl) (Nat.le_refl _) ?_
  refine qX_iconst dX4_largestRest_0 (i32_of rfl) ?_
  refine qX_istore_n 1 dX4_largestRest_1 rfl (Nat.le_of_ble_eq_true rfl) rfl ?_
  refine qX_iconst dX4_largestRest_2 (i32_of rfl) ?_
  refine qX_istore_n 2 dX4_largestRest_3 rfl (Nat.le_of_ble_eq_true rfl) rfl ?_
  exact qX_mask [true, true, true] h
set_option maxRecDepth 20000 in
theorem w_X4_largestRest_4 {Post : Int → Rf → Mem → Prop} {ρ : Rf} {μ : Mem} {x1 : Int} {x2 : Int}
  (h : ((μ 151 3 ≤ x2 → Post x1 ρ μ) ∧ (x2 < μ 151 3 → (0 ≤ x2 ∧ x2 < 10) ∧ (0 ≤ x1 ∧ x1 < 10) ∧ ((μ 153 x2 ≤ μ 153 x1 → i32 (x2 + 1) ∧ qX mX4_largestRest GG Post GG (0, 0) 4 [some (qP 151), some (qI x1), some (qI (x2 + 1))] [] ρ μ) ∧ (μ 153 x1 < μ 153 x2 → i32 (x2 + 1) ∧ qX mX4_largestRest GG Post GG (0, 0) 4 [some (qP 151), some (qI x2), some (qI (x2 + 1))] [] ρ μ))))) : qX mX4_largestRest GG Post GG (0, 0) 4 [some (qP 151), some (qI x1), some (qI x2)] [] ρ μ := by
  refine qX_iload_n 2 dX4_largestRest_4 rfl rfl ?_
  refine qX_aload_n 0 dX4_largestRest_5 rfl rfl (by decide) ?_
  refine qX_getI 4 3 _ dX4_largestRest_6 fs_X4_21 sh151 ?_
  refine qX_icmp_ge 35 dX4_largestRest_9 rfl (fun hc => ?_) (fun hc => ?_)
  · replace h := h.1 hc
    refine qX_iload_n 1 dX4_largestRest_35 rfl rfl ?_
    exact qX_ireturn rfl dX4_largestRest_36 rfl ⟨(Nat.le_of_ble_eq_true rfl), (Nat.le_of_ble_eq_true rfl)⟩ h
  · replace h := h.2 hc
    refine qX_aload_n 0 dX4_largestRest_12 rfl rfl (by decide) ?_
    refine qX_getS 4 1 _ 1 dX4_largestRest_13 fs_X4_15 rfl rfl sh151 (x := 153) rfl ?_
    refine qX_iload_n 2 dX4_largestRest_16 rfl rfl ?_
    refine qX_iald dX4_largestRest_17 sh153 h.1 ?_
    replace h := h.2
    refine qX_aload_n 0 dX4_largestRest_18 rfl rfl (by decide) ?_
    refine qX_getS 4 1 _ 1 dX4_largestRest_19 fs_X4_15 rfl rfl sh151 (x := 153) rfl ?_
    refine qX_iload_n 1 dX4_largestRest_22 rfl rfl ?_
    refine qX_iald dX4_largestRest_23 sh153 h.1 ?_
    replace h := h.2
    refine qX_icmp_le 29 dX4_largestRest_24 rfl (fun hc => ?_) (fun hc => ?_)
    · replace h := h.1 hc
      refine qR_iinc dX4_largestRest_29 rfl (Nat.le_of_ble_eq_true rfl) rfl h.1 ?_
      replace h := h.2
      refine qX_goto 4 dX4_largestRest_32 rfl ?_
      exact qX_mask [true, true, true] h
    · replace h := h.2 hc
      refine qX_iload_n 2 dX4_largestRest_27 rfl rfl ?_
      refine qX_istore_n 1 dX4_largestRest_28 rfl (Nat.le_of_ble_eq_true rfl) rfl ?_
      refine qR_iinc dX4_largestRest_29 rfl (Nat.le_of_ble_eq_true rfl) rfl h.1 ?_
      replace h := h.2
      refine qX_goto 4 dX4_largestRest_32 rfl ?_
      exact qX_mask [true, true, true] h
set_option maxRecDepth 20000 in
theorem e_X5_study {Post : Int → Rf → Mem → Prop} {ρ : Rf} {μ : Mem} {x1 : Nat} (hx1 : isO 0 x1) {x2 : Nat} (hx2 : isO 6 x2) {x3 : Int} {x4 : Int}
  (h : ∀ μ1, μ1 = up2 μ 141 2 0 → qX mX5_study GG Post GG (0, 0) 8 [some (qP 141), some (qP x1), some (qP x2), some (qI x3), some (qI x4), some (qI 0)] [] ρ μ1) : qE mX5_study GG GG [qP 141, qP x1, qP x2, qI x3, qI x4] ρ μ Post := by
  refine qE_intro pl_X5_study (Nat.le_of_ble_eq_true rfl) (Nat.le_refl _) ?_
  refine qX_aload_n 0 dX5_study_0 rfl rfl (by decide) ?_
  refine qX_iconst dX5_study_1 (i32_of rfl) ?_
  refine qX_putI 5 2 _ dX5_study_2 fs_X5_39 sh141 ?_
  replace h := h _ rfl
  refine qX_iconst dX5_study_5 (i32_of rfl) ?_
  refine qX_istore dX5_study_6 (Nat.le_of_ble_eq_true rfl) rfl ?_
  exact qX_mask [true, true, true, true, true, true] h
set_option maxRecDepth 20000 in
theorem w_X5_study_8 {Post : Int → Rf → Mem → Prop} {ρ : Rf} {μ : Mem} {x1 : Nat} (hx1 : isO 0 x1) {x2 : Nat} (hx2 : isO 6 x2) {x3 : Int} {x4 : Int} {x5 : Int}
  (h : ((μ x2 6 ≤ x5 → ∀ μ1, μ1 = up2 μ 150 0 1000000 → qX mX5_study GG Post GG (0, 0) 64 [some (qP 141), none, none, none, none, some (qI 1)] [] ρ μ1) ∧ (x5 < μ x2 6 → ((8 ≤ μ 141 2 → ∀ μ2, μ2 = up2 μ 150 0 1000000 → qX mX5_study GG Post GG (0, 0) 64 [some (qP 141), none, none, none, none, some (qI 1)] [] ρ μ2) ∧ (μ 141 2 < 8 → (0 ≤ x5 ∧ x5 < 20) ∧ ((μ (x2 + 1) x5 ≠ x3 → i32 (x5 + 1) ∧ qX mX5_study GG Post GG (0, 0) 8 [some (qP 141), some (qP x1), some (qP x2), some (qI x3), some (qI x4), some (qI (x5 + 1))] [] ρ μ) ∧ (μ (x2 + 1) x5 = x3 → ∃ P : Int → Rf → Mem → Prop, qE mX5_studyJob GG GG [qP 141, qP x1, qP x2, qI x5, qI x4] ρ μ P ∧ ∀ (z3 : Int) (ρ4 : Rf) (μ5 : Mem), P z3 ρ4 μ5 → i32 (x5 + 1) ∧ qX mX5_study GG Post GG (0, 0) 8 [some (qP 141), some (qP x1), some (qP x2), some (qI x3), some (qI x4), some (qI (x5 + 1))] [] ρ4 μ5))))))) : qX mX5_study GG Post GG (0, 0) 8 [some (qP 141), some (qP x1), some (qP x2), some (qI x3), some (qI x4), some (qI x5)] [] ρ μ := by
  refine qX_iload dX5_study_8 rfl ?_
  refine qX_aload_n 2 dX5_study_10 rfl rfl (shN hx2) ?_
  refine qX_getI 6 6 _ dX5_study_11 fs_X5_43 hx2 ?_
  refine qX_icmp_ge 53 dX5_study_14 rfl (fun hc => ?_) (fun hc => ?_)
  · replace h := h.1 hc
    refine qX_aload_n 0 dX5_study_53 rfl rfl (by decide) ?_
    refine qX_getS 5 11 _ 8 dX5_study_54 fs_X5_36 rfl rfl sh141 (x := 150) rfl ?_
    refine qX_iconst dX5_study_57 (i32_of rfl) ?_
    refine qX_ldc (n := 1000000) dX5_study_58 kK_X5_55 (i32_of rfl) ?_
    refine qX_iast dX5_study_60 sh150 ⟨by decide, by decide⟩ ?_
    replace h := h _ rfl
    refine qX_iconst dX5_study_61 (i32_of rfl) ?_
    refine qX_istore dX5_study_62 (Nat.le_of_ble_eq_true rfl) rfl ?_
    exact qX_mask [true, false, false, false, false, true] h
  · replace h := h.2 hc
    refine qX_aload_n 0 dX5_study_17 rfl rfl (by decide) ?_
    refine qX_getI 5 2 _ dX5_study_18 fs_X5_39 sh141 ?_
    refine qX_bip dX5_study_21 rfl ?_
    refine qX_icmp_ge 53 dX5_study_23 rfl (fun hc => ?_) (fun hc => ?_)
    · replace h := h.1 hc
      refine qX_aload_n 0 dX5_study_53 rfl rfl (by decide) ?_
      refine qX_getS 5 11 _ 8 dX5_study_54 fs_X5_36 rfl rfl sh141 (x := 150) rfl ?_
      refine qX_iconst dX5_study_57 (i32_of rfl) ?_
      refine qX_ldc (n := 1000000) dX5_study_58 kK_X5_55 (i32_of rfl) ?_
      refine qX_iast dX5_study_60 sh150 ⟨by decide, by decide⟩ ?_
      replace h := h _ rfl
      refine qX_iconst dX5_study_61 (i32_of rfl) ?_
      refine qX_istore dX5_study_62 (Nat.le_of_ble_eq_true rfl) rfl ?_
      exact qX_mask [true, false, false, false, false, true] h
    · replace h := h.2 hc
      refine qX_aload_n 2 dX5_study_26 rfl rfl (shN hx2) ?_
      refine qX_getS 6 0 _ 0 dX5_study_27 fs_X5_48 rfl rfl hx2 rfl ?_
      refine qX_iload dX5_study_30 rfl ?_
      refine qX_iald dX5_study_32 (ar6_0 hx2) h.1 ?_
      replace h := h.2
      refine qX_iload_n 3 dX5_study_33 rfl rfl ?_
      refine qX_icmp_ne 47 dX5_study_34 rfl (fun hc => ?_) (fun hc => ?_)
      · replace h := h.1 hc
        refine qR_iinc dX5_study_47 rfl (Nat.le_of_ble_eq_true rfl) rfl h.1 ?_
        replace h := h.2
        refine qX_goto 8 dX5_study_50 rfl ?_
        exact qX_mask [true, true, true, true, true, true] h
      · replace h := h.2 hc
        refine qX_aload_n 0 dX5_study_37 rfl rfl (by decide) ?_
        refine qX_aload_n 1 dX5_study_38 rfl rfl (shN hx1) ?_
        refine qX_aload_n 2 dX5_study_39 rfl rfl (shN hx2) ?_
        refine qX_iload dX5_study_40 rfl ?_
        refine qX_iload dX5_study_42 rfl ?_
        obtain ⟨P, hE6, h⟩ := h
        refine qN_callV mX5_studyJob [_, _, _, _] _ 5 [] dX5_study_44 cm_X5_51 ⟨(Nat.le_of_ble_eq_true rfl), (Nat.le_of_ble_eq_true rfl)⟩ rfl rfl sh141 (Nat.le_of_ble_eq_true rfl) ⟨rfl, rfl⟩ hE6 (fun z3 ρ4 μ5 hz => ?_)
        replace h := h _ _ _ hz
        refine qR_iinc dX5_study_47 rfl (Nat.le_of_ble_eq_true rfl) rfl h.1 ?_
        replace h := h.2
        refine qX_goto 8 dX5_study_50 rfl ?_
        exact qX_mask [true, true, true, true, true, true] h
set_option maxRecDepth 20000 in
theorem w_X5_study_64 {Post : Int → Rf → Mem → Prop} {ρ : Rf} {μ : Mem} {x5 : Int}
  (h : ∃ P : Int → Rf → Mem → Prop, qE mX5_wholeSet GG GG [qP 141] ρ μ P ∧ ∀ (z1 : Int) (ρ2 : Rf) (μ3 : Mem), P z1 ρ2 μ3 → ((z1 < x5 → Post 0 ρ2 μ3) ∧ (x5 ≤ z1 → ∃ P : Int → Rf → Mem → Prop, qE mX5_latestBegin GG GG [qP 141, qI x5] ρ2 μ3 P ∧ ∀ (z5 : Int) (ρ6 : Rf) (μ7 : Mem), P z5 ρ6 μ7 → (0 ≤ x5 ∧ x5 < 256) ∧ ∀ μ9, μ9 = up2 μ7 150 x5 z5 → i32 (x5 + 1) ∧ qX mX5_study GG Post GG (0, 0) 64 [some (qP 141), none, none, none, none, some (qI (x5 + 1))] [] ρ6 μ9))) : qX mX5_study GG Post GG (0, 0) 64 [some (qP 141), none, none, none, none, some (qI x5)] [] ρ μ := by
  refine qX_iload dX5_study_64 rfl ?_
  refine qX_aload_n 0 dX5_study_66 rfl rfl (by decide) ?_
  obtain ⟨P, hE4, h⟩ := h
  refine qN_callV mX5_wholeSet [] _ 5 [_] dX5_study_67 cm_X5_56 ⟨(Nat.le_of_ble_eq_true rfl), (Nat.le_of_ble_eq_true rfl)⟩ rfl rfl sh141 (Nat.le_of_ble_eq_true rfl) ⟨rfl, rfl⟩ hE4 (fun z1 ρ2 μ3 hz => ?_)
  replace h := h _ _ _ hz
  refine qX_icmp_gt 92 dX5_study_70 rfl (fun hc => ?_) (fun hc => ?_)
  · replace h := h.1 hc
    exact qX_return rfl dX5_study_92 rfl ⟨(Nat.le_of_ble_eq_true rfl), (Nat.le_of_ble_eq_true rfl)⟩ h
  · replace h := h.2 hc
    refine qX_aload_n 0 dX5_study_73 rfl rfl (by decide) ?_
    refine qX_getS 5 11 _ 8 dX5_study_74 fs_X5_36 rfl rfl sh141 (x := 150) rfl ?_
    refine qX_iload dX5_study_77 rfl ?_
    refine qX_aload_n 0 dX5_study_79 rfl rfl (by decide) ?_
    refine qX_iload dX5_study_80 rfl ?_
    obtain ⟨P, hE8, h⟩ := h
    refine qN_callV mX5_latestBegin [_] _ 5 [_, _] dX5_study_82 cm_X5_60 ⟨(Nat.le_of_ble_eq_true rfl), (Nat.le_of_ble_eq_true rfl)⟩ rfl rfl sh141 (Nat.le_of_ble_eq_true rfl) ⟨rfl, rfl⟩ hE8 (fun z5 ρ6 μ7 hz => ?_)
    replace h := h _ _ _ hz
    refine qX_iast dX5_study_85 sh150 h.1 ?_
    replace h := h.2
    replace h := h _ rfl
    refine qR_iinc dX5_study_86 rfl (Nat.le_of_ble_eq_true rfl) rfl h.1 ?_
    replace h := h.2
    refine qX_goto 64 dX5_study_89 rfl ?_
    exact qX_mask [true, false, false, false, false, true] h
set_option maxRecDepth 20000 in
theorem e_X5_studyJob {Post : Int → Rf → Mem → Prop} {ρ : Rf} {μ : Mem} {x1 : Nat} (hx1 : isO 0 x1) {x2 : Nat} (hx2 : isO 6 x2) {x3 : Int} {x4 : Int}
  (h : (0 ≤ x3 ∧ x3 < 20) ∧ (0 ≤ x3 ∧ x3 < 20) ∧ ((5 ≤ μ (x2 + 2) x3 → qX mX5_studyJob GG Post GG (0, 0) 27 [some (qP 141), some (qP x1), some (qP x2), some (qI x3), some (qI x4), some (qI (μ (x2 + 1) x3)), some (qI (μ (x2 + 2) x3)), none] [qI 1] ρ μ) ∧ (μ (x2 + 2) x3 < 5 → qX mX5_studyJob GG Post GG (0, 0) 27 [some (qP 141), some (qP x1), some (qP x2), some (qI x3), some (qI x4), some (qI (μ (x2 + 1) x3)), some (qI (μ (x2 + 2) x3)), none] [qI 0] ρ μ))) : qE mX5_studyJob GG GG [qP 141, qP x1, qP x2, qI x3, qI x4] ρ μ Post := by
  refine qE_intro pl_X5_studyJob (Nat.le_of_ble_eq_true rfl) (Nat.le_refl _) ?_
  refine qX_aload_n 2 dX5_studyJob_0 rfl rfl (shN hx2) ?_
  refine qX_getS 6 0 _ 0 dX5_studyJob_1 fs_X5_48 rfl rfl hx2 rfl ?_
  refine qX_iload_n 3 dX5_studyJob_4 rfl rfl ?_
  refine qX_iald dX5_studyJob_5 (ar6_0 hx2) h.1 ?_
  replace h := h.2
  refine qX_istore dX5_studyJob_6 (Nat.le_of_ble_eq_true rfl) rfl ?_
  refine qX_aload_n 2 dX5_studyJob_8 rfl rfl (shN hx2) ?_
  refine qX_getS 6 1 _ 1 dX5_studyJob_9 fs_X5_64 rfl rfl hx2 rfl ?_
  refine qX_iload_n 3 dX5_studyJob_12 rfl rfl ?_
  refine qX_iald dX5_studyJob_13 (ar6_1 hx2) h.1 ?_
  replace h := h.2
  refine qX_istore dX5_studyJob_14 (Nat.le_of_ble_eq_true rfl) rfl ?_
  refine qX_iload dX5_studyJob_16 rfl ?_
  refine qX_iconst dX5_studyJob_18 (i32_of rfl) ?_
  refine qX_icmp_ge 26 dX5_studyJob_19 rfl (fun hc => ?_) (fun hc => ?_)
  · replace h := h.1 hc
    refine qX_iconst dX5_studyJob_26 (i32_of rfl) ?_
    exact qX_mask [true, true, true, true, true, true, true, false] h
  · replace h := h.2 hc
    refine qX_iconst dX5_studyJob_22 (i32_of rfl) ?_
    refine qX_goto 27 dX5_studyJob_23 rfl ?_
    exact qX_mask [true, true, true, true, true, true, true, false] h
set_option maxRecDepth 20000 in
theorem w_X5_studyJob_27 {Post : Int → Rf → Mem → Prop} {ρ : Rf} {μ : Mem} {s0 : Int} {x1 : Nat} (hx1 : isO 0 x1) {x2 : Nat} (hx2 : isO 6 x2) {x3 : Int} {x4 : Int} {x5 : Int} {x6 : Int}
  (h : (0 ≤ μ 141 2 ∧ μ 141 2 < 8) ∧ ∀ μ1, μ1 = up2 μ 142 (μ 141 2) x3 → (0 ≤ x3 ∧ x3 < 20) ∧ ∃ P : Int → Rf → Mem → Prop, qE mX0_mostMeals GG GG [qP x1, qI x5, qI (μ1 (x2 + 4) x3)] ρ μ1 P ∧ ∀ (z2 : Int) (ρ3 : Rf) (μ4 : Mem), P z2 ρ3 μ4 → (0 ≤ μ1 141 2 ∧ μ1 141 2 < 8) ∧ ∀ μ6, μ6 = up2 μ4 144 (μ1 141 2) z2 → ∃ P : Int → Rf → Mem → Prop, qE mX0_walk GG GG [qP x1, qI x5, qI x6, qI x4] ρ3 μ6 P ∧ ∀ (z7 : Int) (ρ8 : Rf) (μ9 : Mem), P z7 ρ8 μ9 → (0 ≤ μ6 141 2 ∧ μ6 141 2 < 8) ∧ ∀ μ11, μ11 = up2 μ9 147 (μ6 141 2) z7 → (0 ≤ μ11 141 2 ∧ μ11 141 2 < 8) ∧ (0 ≤ x5 ∧ x5 < 5) ∧ i32 ((μ11 144 (μ11 141 2)) * (μ11 (x1 + 14) x5)) ∧ (0 ≤ μ11 141 2 ∧ μ11 141 2 < 8) ∧ i32 (((μ11 144 (μ11 141 2)) * (μ11 (x1 + 14) x5)) + (μ11 147 (μ11 141 2))) ∧ (0 ≤ μ11 141 2 ∧ μ11 141 2 < 8) ∧ ∀ μ12, μ12 = up2 μ11 145 (μ11 141 2) (((μ11 144 (μ11 141 2)) * (μ11 (x1 + 14) x5)) + (μ11 147 (μ11 141 2))) → (0 ≤ μ12 141 2 ∧ μ12 141 2 < 8) ∧ (0 ≤ x5 ∧ x5 < 5) ∧ i32 ((μ12 144 (μ12 141 2)) * (μ12 (x1 + 15) x5)) ∧ (0 ≤ μ12 141 2 ∧ μ12 141 2 < 8) ∧ ∀ μ13, μ13 = up2 μ12 146 (μ12 141 2) ((μ12 144 (μ12 141 2)) * (μ12 (x1 + 15) x5)) → (0 ≤ s0 ∧ s0 < 2) ∧ (0 ≤ μ13 141 2 ∧ μ13 141 2 < 8) ∧ ∀ μ14, μ14 = up2 μ13 148 (μ13 141 2) (μ13 (x1 + 2) s0) → (0 ≤ s0 ∧ s0 < 2) ∧ (0 ≤ μ14 141 2 ∧ μ14 141 2 < 8) ∧ ∀ μ15, μ15 = up2 μ14 149 (μ14 141 2) (μ14 (x2 + 5) s0) → i32 ((μ15 141 2) + 1) ∧ ∀ μ16, μ16 = up2 μ15 141 2 ((μ15 141 2) + 1) → Post 0 ρ8 μ16) : qX mX5_studyJob GG Post GG (0, 0) 27 [some (qP 141), some (qP x1), some (qP x2), some (qI x3), some (qI x4), some (qI x5), some (qI x6), none] [qI s0] ρ μ := by
  refine qX_istore dX5_studyJob_27 (Nat.le_of_ble_eq_true rfl) rfl ?_
  refine qX_aload_n 0 dX5_studyJob_29 rfl rfl (by decide) ?_
  refine qX_getS 5 0 _ 0 dX5_studyJob_30 fs_X5_9 rfl rfl sh141 (x := 142) rfl ?_
  refine qX_aload_n 0 dX5_studyJob_33 rfl rfl (by decide) ?_
  refine qX_getI 5 2 _ dX5_studyJob_34 fs_X5_39 sh141 ?_
  refine qX_iload_n 3 dX5_studyJob_37 rfl rfl ?_
  refine qX_iast dX5_studyJob_38 sh142 h.1 ?_
  replace h := h.2
  replace h := h _ rfl
  refine qX_aload_n 0 dX5_studyJob_39 rfl rfl (by decide) ?_
  refine qX_getS 5 5 _ 2 dX5_studyJob_40 fs_X5_18 rfl rfl sh141 (x := 144) rfl ?_
  refine qX_aload_n 0 dX5_studyJob_43 rfl rfl (by decide) ?_
  refine qX_getI 5 2 _ dX5_studyJob_44 fs_X5_39 sh141 ?_
  refine qX_aload_n 1 dX5_studyJob_47 rfl rfl (shN hx1) ?_
  refine qX_iload dX5_studyJob_48 rfl ?_
  refine qX_aload_n 2 dX5_studyJob_50 rfl rfl (shN hx2) ?_
  refine qX_getS 6 3 _ 3 dX5_studyJob_51 fs_X5_67 rfl rfl hx2 rfl ?_
  refine qX_iload_n 3 dX5_studyJob_54 rfl rfl ?_
  refine qX_iald dX5_studyJob_55 (ar6_3 hx2) h.1 ?_
  replace h := h.2
  obtain ⟨P, hE5, h⟩ := h
  refine qN_callV mX0_mostMeals [_, _] _ 0 [_, _] dX5_studyJob_56 cm_X5_70 ⟨(Nat.le_of_ble_eq_true rfl), (Nat.le_of_ble_eq_true rfl)⟩ rfl rfl hx1 (Nat.le_of_ble_eq_true rfl) ⟨rfl, rfl⟩ hE5 (fun z2 ρ3 μ4 hz => ?_)
  replace h := h _ _ _ hz
  refine qX_iast dX5_studyJob_59 sh144 h.1 ?_
  replace h := h.2
  replace h := h _ rfl
  refine qX_aload_n 0 dX5_studyJob_60 rfl rfl (by decide) ?_
  refine qX_getS 5 8 _ 5 dX5_studyJob_61 fs_X5_27 rfl rfl sh141 (x := 147) rfl ?_
  refine qX_aload_n 0 dX5_studyJob_64 rfl rfl (by decide) ?_
  refine qX_getI 5 2 _ dX5_studyJob_65 fs_X5_39 sh141 ?_
  refine qX_aload_n 1 dX5_studyJob_68 rfl rfl (shN hx1) ?_
  refine qX_iload dX5_studyJob_69 rfl ?_
  refine qX_iload dX5_studyJob_71 rfl ?_
  refine qX_iload dX5_studyJob_73 rfl ?_
  obtain ⟨P, hE10, h⟩ := h
  refine qN_callV mX0_walk [_, _, _] _ 0 [_, _] dX5_studyJob_75 cm_X5_76 ⟨(Nat.le_of_ble_eq_true rfl), (Nat.le_of_ble_eq_true rfl)⟩ rfl rfl hx1 (Nat.le_of_ble_eq_true rfl) ⟨rfl, rfl⟩ hE10 (fun z7 ρ8 μ9 hz => ?_)
  replace h := h _ _ _ hz
  refine qX_iast dX5_studyJob_78 sh147 h.1 ?_
  replace h := h.2
  replace h := h _ rfl
  refine qX_aload_n 0 dX5_studyJob_79 rfl rfl (by decide) ?_
  refine qX_getS 5 6 _ 3 dX5_studyJob_80 fs_X5_21 rfl rfl sh141 (x := 145) rfl ?_
  refine qX_aload_n 0 dX5_studyJob_83 rfl rfl (by decide) ?_
  refine qX_getI 5 2 _ dX5_studyJob_84 fs_X5_39 sh141 ?_
  refine qX_aload_n 0 dX5_studyJob_87 rfl rfl (by decide) ?_
  refine qX_getS 5 5 _ 2 dX5_studyJob_88 fs_X5_18 rfl rfl sh141 (x := 144) rfl ?_
  refine qX_aload_n 0 dX5_studyJob_91 rfl rfl (by decide) ?_
  refine qX_getI 5 2 _ dX5_studyJob_92 fs_X5_39 sh141 ?_
  refine qX_iald dX5_studyJob_95 sh144 h.1 ?_
  replace h := h.2
  refine qX_aload_n 1 dX5_studyJob_96 rfl rfl (shN hx1) ?_
  refine qX_getS 0 13 _ 13 dX5_studyJob_97 fs_X5_80 rfl rfl hx1 rfl ?_
  refine qX_iload dX5_studyJob_100 rfl ?_
  refine qX_iald dX5_studyJob_102 (ar0_13 hx1) h.1 ?_
  replace h := h.2
  refine qR_imul dX5_studyJob_103 h.1 ?_
  replace h := h.2
  refine qX_aload_n 0 dX5_studyJob_104 rfl rfl (by decide) ?_
  refine qX_getS 5 8 _ 5 dX5_studyJob_105 fs_X5_27 rfl rfl sh141 (x := 147) rfl ?_
  refine qX_aload_n 0 dX5_studyJob_108 rfl rfl (by decide) ?_
  refine qX_getI 5 2 _ dX5_studyJob_109 fs_X5_39 sh141 ?_
  refine qX_iald dX5_studyJob_112 sh147 h.1 ?_
  replace h := h.2
  refine qR_iadd dX5_studyJob_113 h.1 ?_
  replace h := h.2
  refine qX_iast dX5_studyJob_114 sh145 h.1 ?_
  replace h := h.2
  replace h := h _ rfl
  refine qX_aload_n 0 dX5_studyJob_115 rfl rfl (by decide) ?_
  refine qX_getS 5 7 _ 4 dX5_studyJob_116 fs_X5_24 rfl rfl sh141 (x := 146) rfl ?_
  refine qX_aload_n 0 dX5_studyJob_119 rfl rfl (by decide) ?_
  refine qX_getI 5 2 _ dX5_studyJob_120 fs_X5_39 sh141 ?_
  refine qX_aload_n 0 dX5_studyJob_123 rfl rfl (by decide) ?_
  refine qX_getS 5 5 _ 2 dX5_studyJob_124 fs_X5_18 rfl rfl sh141 (x := 144) rfl ?_
  refine qX_aload_n 0 dX5_studyJob_127 rfl rfl (by decide) ?_
  refine qX_getI 5 2 _ dX5_studyJob_128 fs_X5_39 sh141 ?_
  refine qX_iald dX5_studyJob_131 sh144 h.1 ?_
  replace h := h.2
  refine qX_aload_n 1 dX5_studyJob_132 rfl rfl (shN hx1) ?_
  refine qX_getS 0 14 _ 14 dX5_studyJob_133 fs_X5_83 rfl rfl hx1 rfl ?_
  refine qX_iload dX5_studyJob_136 rfl ?_
  refine qX_iald dX5_studyJob_138 (ar0_14 hx1) h.1 ?_
  replace h := h.2
  refine qR_imul dX5_studyJob_139 h.1 ?_
  replace h := h.2
  refine qX_iast dX5_studyJob_140 sh146 h.1 ?_
  replace h := h.2
  replace h := h _ rfl
  refine qX_aload_n 0 dX5_studyJob_141 rfl rfl (by decide) ?_
  refine qX_getS 5 9 _ 6 dX5_studyJob_142 fs_X5_30 rfl rfl sh141 (x := 148) rfl ?_
  refine qX_aload_n 0 dX5_studyJob_145 rfl rfl (by decide) ?_
  refine qX_getI 5 2 _ dX5_studyJob_146 fs_X5_39 sh141 ?_
  refine qX_aload_n 1 dX5_studyJob_149 rfl rfl (shN hx1) ?_
  refine qX_getS 0 1 _ 1 dX5_studyJob_150 fs_X5_86 rfl rfl hx1 rfl ?_
  refine qX_iload dX5_studyJob_153 rfl ?_
  refine qX_iald dX5_studyJob_155 (ar0_1 hx1) h.1 ?_
  replace h := h.2
  refine qX_iast dX5_studyJob_156 sh148 h.1 ?_
  replace h := h.2
  replace h := h _ rfl
  refine qX_aload_n 0 dX5_studyJob_157 rfl rfl (by decide) ?_
  refine qX_getS 5 10 _ 7 dX5_studyJob_158 fs_X5_33 rfl rfl sh141 (x := 149) rfl ?_
  refine qX_aload_n 0 dX5_studyJob_161 rfl rfl (by decide) ?_
  refine qX_getI 5 2 _ dX5_studyJob_162 fs_X5_39 sh141 ?_
  refine qX_aload_n 2 dX5_studyJob_165 rfl rfl (shN hx2) ?_
  refine qX_getS 6 4 _ 4 dX5_studyJob_166 fs_X5_87 rfl rfl hx2 rfl ?_
  refine qX_iload dX5_studyJob_169 rfl ?_
  refine qX_iald dX5_studyJob_171 (ar6_4 hx2) h.1 ?_
  replace h := h.2
  refine qX_iast dX5_studyJob_172 sh149 h.1 ?_
  replace h := h.2
  replace h := h _ rfl
  refine qX_aload_n 0 dX5_studyJob_173 rfl rfl (by decide) ?_
  refine qX_dup dX5_studyJob_174 rfl ?_
  refine qX_getI 5 2 _ dX5_studyJob_175 fs_X5_39 sh141 ?_
  refine qX_iconst dX5_studyJob_178 (i32_of rfl) ?_
  refine qR_iadd dX5_studyJob_179 h.1 ?_
  replace h := h.2
  refine qX_putI 5 2 _ dX5_studyJob_180 fs_X5_39 sh141 ?_
  replace h := h _ rfl
  exact qX_return rfl dX5_studyJob_183 rfl ⟨(Nat.le_of_ble_eq_true rfl), (Nat.le_of_ble_eq_true rfl)⟩ h
set_option maxRecDepth 20000 in
theorem e_X5_wholeSet {Post : Int → Rf → Mem → Prop} {ρ : Rf} {μ : Mem} 
  (h : i32 ((shl32 1 (μ 141 2)) - 1) ∧ Post ((shl32 1 (μ 141 2)) - 1) ρ μ) : qE mX5_wholeSet GG GG [qP 141] ρ μ Post := by
  refine qE_intro pl_X5_wholeSet (Nat.le_of_ble_eq_true rfl) (Nat.le_refl _) ?_
  refine qX_iconst dX5_wholeSet_0 (i32_of rfl) ?_
  refine qX_aload_n 0 dX5_wholeSet_1 rfl rfl (by decide) ?_
  refine qX_getI 5 2 _ dX5_wholeSet_2 fs_X5_39 sh141 ?_
  refine qX_ishl dX5_wholeSet_5 ?_
  refine qX_iconst dX5_wholeSet_6 (i32_of rfl) ?_
  refine qR_isub dX5_wholeSet_7 h.1 ?_
  replace h := h.2
  exact qX_ireturn rfl dX5_wholeSet_8 rfl ⟨(Nat.le_of_ble_eq_true rfl), (Nat.le_of_ble_eq_true rfl)⟩ h
set_option maxRecDepth 20000 in
theorem e_X5_canDo {Post : Int → Rf → Mem → Prop} {ρ : Rf} {μ : Mem} {x1 : Int}
  (h : (0 ≤ x1 ∧ x1 < 256) ∧ ((μ 150 x1 < 0 → Post 0 ρ μ) ∧ (0 ≤ μ 150 x1 → Post 1 ρ μ))) : qE mX5_canDo GG GG [qP 141, qI x1] ρ μ Post := by
  refine qE_intro pl_X5_canDo (Nat.le_of_ble_eq_true rfl) (Nat.le_refl _) ?_
  refine qX_aload_n 0 dX5_canDo_0 rfl rfl (by decide) ?_
  refine qX_getS 5 11 _ 8 dX5_canDo_1 fs_X5_36 rfl rfl sh141 (x := 150) rfl ?_
  refine qX_iload_n 1 dX5_canDo_4 rfl rfl ?_
  refine qX_iald dX5_canDo_5 sh150 h.1 ?_
  replace h := h.2
  refine qX_if_lt 13 dX5_canDo_6 rfl (fun hc => ?_) (fun hc => ?_)
  · replace h := h.1 hc
    refine qX_iconst dX5_canDo_13 (i32_of rfl) ?_
    exact qX_zreturn rfl dX5_canDo_14 rfl ⟨(Nat.le_of_ble_eq_true rfl), (Nat.le_of_ble_eq_true rfl)⟩ (by decide) h
  · replace h := h.2 hc
    refine qX_iconst dX5_canDo_9 (i32_of rfl) ?_
    refine qX_goto 14 dX5_canDo_10 rfl ?_
    exact qX_zreturn rfl dX5_canDo_14 rfl ⟨(Nat.le_of_ble_eq_true rfl), (Nat.le_of_ble_eq_true rfl)⟩ (by decide) h
set_option maxRecDepth 20000 in
theorem e_X5_mealsOf {Post : Int → Rf → Mem → Prop} {ρ : Rf} {μ : Mem} {x1 : Int}
  (h : qX mX5_mealsOf GG Post GG (0, 0) 4 [some (qP 141), some (qI x1), some (qI 0), some (qI 0)] [] ρ μ) : qE mX5_mealsOf GG GG [qP 141, qI x1] ρ μ Post := by
  refine qE_intro pl_X5_mealsOf (Nat.le_of_ble_eq_true rfl) (Nat.le_refl _) ?_
  refine qX_iconst dX5_mealsOf_0 (i32_of rfl) ?_
  refine qX_istore_n 2 dX5_mealsOf_1 rfl (Nat.le_of_ble_eq_true rfl) rfl ?_
  refine qX_iconst dX5_mealsOf_2 (i32_of rfl) ?_
  refine qX_istore_n 3 dX5_mealsOf_3 rfl (Nat.le_of_ble_eq_true rfl) rfl ?_
  exact qX_mask [true, true, true, true] h
set_option maxRecDepth 20000 in
theorem w_X5_mealsOf_4 {Post : Int → Rf → Mem → Prop} {ρ : Rf} {μ : Mem} {x1 : Int} {x2 : Int} {x3 : Int}
  (h : ((μ 141 2 ≤ x3 → Post x2 ρ μ) ∧ (x3 < μ 141 2 → ((and32 (shr32 x1 x3) 1 ≠ 1 → i32 (x3 + 1) ∧ qX mX5_mealsOf GG Post GG (0, 0) 4 [some (qP 141), some (qI x1), some (qI x2), some (qI (x3 + 1))] [] ρ μ) ∧ (and32 (shr32 x1 x3) 1 = 1 → (0 ≤ x3 ∧ x3 < 8) ∧ i32 (x2 + (μ 144 x3)) ∧ i32 (x3 + 1) ∧ qX mX5_mealsOf GG Post GG (0, 0) 4 [some (qP 141), some (qI x1), some (qI (x2 + (μ 144 x3))), some (qI (x3 + 1))] [] ρ μ))))) : qX mX5_mealsOf GG Post GG (0, 0) 4 [some (qP 141), some (qI x1), some (qI x2), some (qI x3)] [] ρ μ := by
  refine qX_iload_n 3 dX5_mealsOf_4 rfl rfl ?_
  refine qX_aload_n 0 dX5_mealsOf_5 rfl rfl (by decide) ?_
  refine qX_getI 5 2 _ dX5_mealsOf_6 fs_X5_39 sh141 ?_
  refine qX_icmp_ge 36 dX5_mealsOf_9 rfl (fun hc => ?_) (fun hc => ?_)
  · replace h := h.1 hc
    refine qX_iload_n 2 dX5_mealsOf_36 rfl rfl ?_
    exact qX_ireturn rfl dX5_mealsOf_37 rfl ⟨(Nat.le_of_ble_eq_true rfl), (Nat.le_of_ble_eq_true rfl)⟩ h
  · replace h := h.2 hc
    refine qX_iload_n 1 dX5_mealsOf_12 rfl rfl ?_
    refine qX_iload_n 3 dX5_mealsOf_13 rfl rfl ?_
    refine qX_ishr dX5_mealsOf_14 ?_
    refine qX_iconst dX5_mealsOf_15 (i32_of rfl) ?_
    refine qX_iand dX5_mealsOf_16 ?_
    refine qX_iconst dX5_mealsOf_17 (i32_of rfl) ?_
    refine qX_icmp_ne 30 dX5_mealsOf_18 rfl (fun hc => ?_) (fun hc => ?_)
    · replace h := h.1 hc
      refine qR_iinc dX5_mealsOf_30 rfl (Nat.le_of_ble_eq_true rfl) rfl h.1 ?_
      replace h := h.2
      refine qX_goto 4 dX5_mealsOf_33 rfl ?_
      exact qX_mask [true, true, true, true] h
    · replace h := h.2 hc
      refine qX_iload_n 2 dX5_mealsOf_21 rfl rfl ?_
      refine qX_aload_n 0 dX5_mealsOf_22 rfl rfl (by decide) ?_
      refine qX_getS 5 5 _ 2 dX5_mealsOf_23 fs_X5_18 rfl rfl sh141 (x := 144) rfl ?_
      refine qX_iload_n 3 dX5_mealsOf_26 rfl rfl ?_
      refine qX_iald dX5_mealsOf_27 sh144 h.1 ?_
      replace h := h.2
      refine qR_iadd dX5_mealsOf_28 h.1 ?_
      replace h := h.2
      refine qX_istore_n 2 dX5_mealsOf_29 rfl (Nat.le_of_ble_eq_true rfl) rfl ?_
      refine qR_iinc dX5_mealsOf_30 rfl (Nat.le_of_ble_eq_true rfl) rfl h.1 ?_
      replace h := h.2
      refine qX_goto 4 dX5_mealsOf_33 rfl ?_
      exact qX_mask [true, true, true, true] h
set_option maxRecDepth 20000 in
theorem e_X5_latestBegin {Post : Int → Rf → Mem → Prop} {ρ : Rf} {μ : Mem} {x1 : Int}
  (h : qX mX5_latestBegin GG Post GG (0, 0) 4 [some (qP 141), some (qI x1), some (qI (-1)), some (qI 0)] [] ρ μ) : qE mX5_latestBegin GG GG [qP 141, qI x1] ρ μ Post := by
  refine qE_intro pl_X5_latestBegin (Nat.le_of_ble_eq_true rfl) (Nat.le_refl _) ?_
  refine qX_iconst dX5_latestBegin_0 (i32_of rfl) ?_
  refine qX_istore_n 2 dX5_latestBegin_1 rfl (Nat.le_of_ble_eq_true rfl) rfl ?_
  refine qX_iconst dX5_latestBegin_2 (i32_of rfl) ?_
  refine qX_istore_n 3 dX5_latestBegin_3 rfl (Nat.le_of_ble_eq_true rfl) rfl ?_
  exact qX_mask [true, true, true, true] h
set_option maxRecDepth 20000 in
theorem w_X5_latestBegin_4 {Post : Int → Rf → Mem → Prop} {ρ : Rf} {μ : Mem} {x1 : Int} {x2 : Int} {x3 : Int}
  (h : ((μ 141 2 ≤ x3 → Post x2 ρ μ) ∧ (x3 < μ 141 2 → ((and32 (shr32 x1 x3) 1 ≠ 1 → i32 (x3 + 1) ∧ qX mX5_latestBegin GG Post GG (0, 0) 4 [some (qP 141), some (qI x1), some (qI x2), some (qI (x3 + 1))] [] ρ μ) ∧ (and32 (shr32 x1 x3) 1 = 1 → ∃ P : Int → Rf → Mem → Prop, qE mX5_latestBeginWith GG GG [qP 141, qI x3, qI x1] ρ μ P ∧ ∀ (z1 : Int) (ρ2 : Rf) (μ3 : Mem), P z1 ρ2 μ3 → i32 (x3 + 1) ∧ qX mX5_latestBegin GG Post GG (0, 0) 4 [some (qP 141), some (qI x1), some (qI (max x2 z1)), some (qI (x3 + 1))] [] ρ2 μ3))))) : qX mX5_latestBegin GG Post GG (0, 0) 4 [some (qP 141), some (qI x1), some (qI x2), some (qI x3)] [] ρ μ := by
  refine qX_iload_n 3 dX5_latestBegin_4 rfl rfl ?_
  refine qX_aload_n 0 dX5_latestBegin_5 rfl rfl (by decide) ?_
  refine qX_getI 5 2 _ dX5_latestBegin_6 fs_X5_39 sh141 ?_
  refine qX_icmp_ge 38 dX5_latestBegin_9 rfl (fun hc => ?_) (fun hc => ?_)
  · replace h := h.1 hc
    refine qX_iload_n 2 dX5_latestBegin_38 rfl rfl ?_
    exact qX_ireturn rfl dX5_latestBegin_39 rfl ⟨(Nat.le_of_ble_eq_true rfl), (Nat.le_of_ble_eq_true rfl)⟩ h
  · replace h := h.2 hc
    refine qX_iload_n 1 dX5_latestBegin_12 rfl rfl ?_
    refine qX_iload_n 3 dX5_latestBegin_13 rfl rfl ?_
    refine qX_ishr dX5_latestBegin_14 ?_
    refine qX_iconst dX5_latestBegin_15 (i32_of rfl) ?_
    refine qX_iand dX5_latestBegin_16 ?_
    refine qX_iconst dX5_latestBegin_17 (i32_of rfl) ?_
    refine qX_icmp_ne 32 dX5_latestBegin_18 rfl (fun hc => ?_) (fun hc => ?_)
    · replace h := h.1 hc
      refine qR_iinc dX5_latestBegin_32 rfl (Nat.le_of_ble_eq_true rfl) rfl h.1 ?_
      replace h := h.2
      refine qX_goto 4 dX5_latestBegin_35 rfl ?_
      exact qX_mask [true, true, true, true] h
    · replace h := h.2 hc
      refine qX_iload_n 2 dX5_latestBegin_21 rfl rfl ?_
      refine qX_aload_n 0 dX5_latestBegin_22 rfl rfl (by decide) ?_
      refine qX_iload_n 3 dX5_latestBegin_23 rfl rfl ?_
      refine qX_iload_n 1 dX5_latestBegin_24 rfl rfl ?_
      obtain ⟨P, hE4, h⟩ := h
      refine qN_callV mX5_latestBeginWith [_, _] _ 5 [_] dX5_latestBegin_25 cm_X5_88 ⟨(Nat.le_of_ble_eq_true rfl), (Nat.le_of_ble_eq_true rfl)⟩ rfl rfl sh141 (Nat.le_of_ble_eq_true rfl) ⟨rfl, rfl⟩ hE4 (fun z1 ρ2 μ3 hz => ?_)
      replace h := h _ _ _ hz
      refine qX_max dX5_latestBegin_28 kM_X5_91 ⟨(Nat.le_of_ble_eq_true rfl), (Nat.le_of_ble_eq_true rfl)⟩ (Nat.le_of_ble_eq_true rfl) ⟨(Nat.le_of_ble_eq_true rfl), (Nat.le_of_ble_eq_true rfl)⟩ ?_
      refine qX_istore_n 2 dX5_latestBegin_31 rfl (Nat.le_of_ble_eq_true rfl) rfl ?_
      refine qR_iinc dX5_latestBegin_32 rfl (Nat.le_of_ble_eq_true rfl) rfl h.1 ?_
      replace h := h.2
      refine qX_goto 4 dX5_latestBegin_35 rfl ?_
      exact qX_mask [true, true, true, true] h
set_option maxRecDepth 20000 in
theorem e_X5_latestBeginWith {Post : Int → Rf → Mem → Prop} {ρ : Rf} {μ : Mem} {x1 : Int} {x2 : Int}
  (h : (0 ≤ and32 x2 (xor32 (shl32 1 x1) (-1)) ∧ and32 x2 (xor32 (shl32 1 x1) (-1)) < 256) ∧ (0 ≤ x1 ∧ x1 < 8) ∧ (0 ≤ x1 ∧ x1 < 8) ∧ i32 ((μ 150 (and32 x2 (xor32 (shl32 1 x1) (-1)))) - (μ 147 x1)) ∧ (0 ≤ x1 ∧ x1 < 8) ∧ i32 ((min (μ 149 x1) ((μ 150 (and32 x2 (xor32 (shl32 1 x1) (-1)))) - (μ 147 x1))) - (μ 146 x1)) ∧ (0 ≤ x1 ∧ x1 < 8) ∧ ((μ 148 x1 ≤ (min (μ 149 x1) ((μ 150 (and32 x2 (xor32 (shl32 1 x1) (-1)))) - (μ 147 x1))) - (μ 146 x1) → (0 ≤ x1 ∧ x1 < 8) ∧ i32 (((min (μ 149 x1) ((μ 150 (and32 x2 (xor32 (shl32 1 x1) (-1)))) - (μ 147 x1))) - (μ 146 x1)) - (μ 145 x1)) ∧ Post (((min (μ 149 x1) ((μ 150 (and32 x2 (xor32 (shl32 1 x1) (-1)))) - (μ 147 x1))) - (μ 146 x1)) - (μ 145 x1)) ρ μ) ∧ ((min (μ 149 x1) ((μ 150 (and32 x2 (xor32 (shl32 1 x1) (-1)))) - (μ 147 x1))) - (μ 146 x1) < μ 148 x1 → Post (-1) ρ μ))) : qE mX5_latestBeginWith GG GG [qP 141, qI x1, qI x2] ρ μ Post := by
  refine qE_intro pl_X5_latestBeginWith (Nat.le_of_ble_eq_true rfl) (Nat.le_refl _) ?_
  refine qX_aload_n 0 dX5_latestBeginWith_0 rfl rfl (by decide) ?_
  refine qX_getS 5 11 _ 8 dX5_latestBeginWith_1 fs_X5_36 rfl rfl sh141 (x := 150) rfl ?_
  refine qX_iload_n 2 dX5_latestBeginWith_4 rfl rfl ?_
  refine qX_iconst dX5_latestBeginWith_5 (i32_of rfl) ?_
  refine qX_iload_n 1 dX5_latestBeginWith_6 rfl rfl ?_
  refine qX_ishl dX5_latestBeginWith_7 ?_
  refine qX_iconst dX5_latestBeginWith_8 (i32_of rfl) ?_
  refine qX_ixor dX5_latestBeginWith_9 ?_
  refine qX_iand dX5_latestBeginWith_10 ?_
  refine qX_iald dX5_latestBeginWith_11 sh150 h.1 ?_
  replace h := h.2
  refine qX_istore_n 3 dX5_latestBeginWith_12 rfl (Nat.le_of_ble_eq_true rfl) rfl ?_
  refine qX_aload_n 0 dX5_latestBeginWith_13 rfl rfl (by decide) ?_
  refine qX_getS 5 10 _ 7 dX5_latestBeginWith_14 fs_X5_33 rfl rfl sh141 (x := 149) rfl ?_
  refine qX_iload_n 1 dX5_latestBeginWith_17 rfl rfl ?_
  refine qX_iald dX5_latestBeginWith_18 sh149 h.1 ?_
  replace h := h.2
  refine qX_iload_n 3 dX5_latestBeginWith_19 rfl rfl ?_
  refine qX_aload_n 0 dX5_latestBeginWith_20 rfl rfl (by decide) ?_
  refine qX_getS 5 8 _ 5 dX5_latestBeginWith_21 fs_X5_27 rfl rfl sh141 (x := 147) rfl ?_
  refine qX_iload_n 1 dX5_latestBeginWith_24 rfl rfl ?_
  refine qX_iald dX5_latestBeginWith_25 sh147 h.1 ?_
  replace h := h.2
  refine qR_isub dX5_latestBeginWith_26 h.1 ?_
  replace h := h.2
  refine qX_min dX5_latestBeginWith_27 kM_X5_96 ⟨(Nat.le_of_ble_eq_true rfl), (Nat.le_of_ble_eq_true rfl)⟩ (Nat.le_of_ble_eq_true rfl) ⟨(Nat.le_of_ble_eq_true rfl), (Nat.le_of_ble_eq_true rfl)⟩ ?_
  refine qX_aload_n 0 dX5_latestBeginWith_30 rfl rfl (by decide) ?_
  refine qX_getS 5 7 _ 4 dX5_latestBeginWith_31 fs_X5_24 rfl rfl sh141 (x := 146) rfl ?_
  refine qX_iload_n 1 dX5_latestBeginWith_34 rfl rfl ?_
  refine qX_iald dX5_latestBeginWith_35 sh146 h.1 ?_
  replace h := h.2
  refine qR_isub dX5_latestBeginWith_36 h.1 ?_
  replace h := h.2
  refine qX_istore dX5_latestBeginWith_37 (Nat.le_of_ble_eq_true rfl) rfl ?_
  refine qX_iload dX5_latestBeginWith_39 rfl ?_
  refine qX_aload_n 0 dX5_latestBeginWith_41 rfl rfl (by decide) ?_
  refine qX_getS 5 9 _ 6 dX5_latestBeginWith_42 fs_X5_30 rfl rfl sh141 (x := 148) rfl ?_
  refine qX_iload_n 1 dX5_latestBeginWith_45 rfl rfl ?_
  refine qX_iald dX5_latestBeginWith_46 sh148 h.1 ?_
  replace h := h.2
  refine qX_icmp_ge 54 dX5_latestBeginWith_47 rfl (fun hc => ?_) (fun hc => ?_)
  · replace h := h.1 hc
    refine qX_iload dX5_latestBeginWith_54 rfl ?_
    refine qX_aload_n 0 dX5_latestBeginWith_56 rfl rfl (by decide) ?_
    refine qX_getS 5 6 _ 3 dX5_latestBeginWith_57 fs_X5_21 rfl rfl sh141 (x := 145) rfl ?_
    refine qX_iload_n 1 dX5_latestBeginWith_60 rfl rfl ?_
    refine qX_iald dX5_latestBeginWith_61 sh145 h.1 ?_
    replace h := h.2
    refine qR_isub dX5_latestBeginWith_62 h.1 ?_
    replace h := h.2
    exact qX_ireturn rfl dX5_latestBeginWith_63 rfl ⟨(Nat.le_of_ble_eq_true rfl), (Nat.le_of_ble_eq_true rfl)⟩ h
  · replace h := h.2 hc
    refine qX_iconst dX5_latestBeginWith_50 (i32_of rfl) ?_
    refine qX_goto 63 dX5_latestBeginWith_51 rfl ?_
    exact qX_ireturn rfl dX5_latestBeginWith_63 rfl ⟨(Nat.le_of_ble_eq_true rfl), (Nat.le_of_ble_eq_true rfl)⟩ h
set_option maxRecDepth 20000 in
theorem e_X5_chooseBest {Post : Int → Rf → Mem → Prop} {ρ : Rf} {μ : Mem} {x1 : Nat} (hx1 : isO 0 x1) {x2 : Nat} (hx2 : isO 6 x2) {x3 : Int}
  (h : (0 ≤ x3 ∧ x3 < 5) ∧ ∃ P : Int → Rf → Mem → Prop, qE mX5_study GG GG [qP 141, qP x1, qP x2, qI x3, qI (μ (x1 + 13) x3)] ρ μ P ∧ ∀ (z1 : Int) (ρ2 : Rf) (μ3 : Mem), P z1 ρ2 μ3 → ∀ μ5, μ5 = up2 μ3 141 3 0 → qX mX5_chooseBest GG Post GG (0, 0) 24 [some (qP 141), none, none, none, some (qI 0), some (qI 1)] [] ρ2 μ5) : qE mX5_chooseBest GG GG [qP 141, qP x1, qP x2, qI x3] ρ μ Post := by
  refine qE_intro pl_X5_chooseBest (Nat.le_of_ble_eq_true rfl) (Nat.le_refl _) ?_
  refine qX_aload_n 0 dX5_chooseBest_0 rfl rfl (by decide) ?_
  refine qX_aload_n 1 dX5_chooseBest_1 rfl rfl (shN hx1) ?_
  refine qX_aload_n 2 dX5_chooseBest_2 rfl rfl (shN hx2) ?_
  refine qX_iload_n 3 dX5_chooseBest_3 rfl rfl ?_
  refine qX_aload_n 1 dX5_chooseBest_4 rfl rfl (shN hx1) ?_
  refine qX_getS 0 12 _ 12 dX5_chooseBest_5 fs_X5_99 rfl rfl hx1 rfl ?_
  refine qX_iload_n 3 dX5_chooseBest_8 rfl rfl ?_
  refine qX_iald dX5_chooseBest_9 (ar0_12 hx1) h.1 ?_
  replace h := h.2
  obtain ⟨P, hE4, h⟩ := h
  refine qN_callV mX5_study [_, _, _, _] _ 5 [] dX5_chooseBest_10 cm_X5_102 ⟨(Nat.le_of_ble_eq_true rfl), (Nat.le_of_ble_eq_true rfl)⟩ rfl rfl sh141 (Nat.le_of_ble_eq_true rfl) ⟨rfl, rfl⟩ hE4 (fun z1 ρ2 μ3 hz => ?_)
  replace h := h _ _ _ hz
  refine qX_aload_n 0 dX5_chooseBest_13 rfl rfl (by decide) ?_
  refine qX_iconst dX5_chooseBest_14 (i32_of rfl) ?_
  refine qX_putI 5 3 _ dX5_chooseBest_15 fs_X5_105 sh141 ?_
  replace h := h _ rfl
  refine qX_iconst dX5_chooseBest_18 (i32_of rfl) ?_
  refine qX_istore dX5_chooseBest_19 (Nat.le_of_ble_eq_true rfl) rfl ?_
  refine qX_iconst dX5_chooseBest_21 (i32_of rfl) ?_
  refine qX_istore dX5_chooseBest_22 (Nat.le_of_ble_eq_true rfl) rfl ?_
  exact qX_mask [true, false, false, false, true, true] h
set_option maxRecDepth 20000 in
theorem w_X5_chooseBest_24 {Post : Int → Rf → Mem → Prop} {ρ : Rf} {μ : Mem} {x4 : Int} {x5 : Int}
  (h : ∃ P : Int → Rf → Mem → Prop, qE mX5_wholeSet GG GG [qP 141] ρ μ P ∧ ∀ (z1 : Int) (ρ2 : Rf) (μ3 : Mem), P z1 ρ2 μ3 → ((z1 < x5 → ∃ P : Int → Rf → Mem → Prop, qE mX5_layOrder GG GG [qP 141] ρ2 μ3 P ∧ ∀ (z5 : Int) (ρ6 : Rf) (μ7 : Mem), P z5 ρ6 μ7 → Post 0 ρ6 μ7) ∧ (x5 ≤ z1 → ∃ P : Int → Rf → Mem → Prop, qE mX5_canDo GG GG [qP 141, qI x5] ρ2 μ3 P ∧ ∀ (z9 : Int) (ρ10 : Rf) (μ11 : Mem), P z9 ρ10 μ11 → ((z9 = 0 → i32 (x5 + 1) ∧ qX mX5_chooseBest GG Post GG (0, 0) 24 [some (qP 141), none, none, none, some (qI x4), some (qI (x5 + 1))] [] ρ10 μ11) ∧ (z9 ≠ 0 → ∃ P : Int → Rf → Mem → Prop, qE mX5_mealsOf GG GG [qP 141, qI x5] ρ10 μ11 P ∧ ∀ (z13 : Int) (ρ14 : Rf) (μ15 : Mem), P z13 ρ14 μ15 → ((z13 ≤ x4 → i32 (x5 + 1) ∧ qX mX5_chooseBest GG Post GG (0, 0) 24 [some (qP 141), none, none, none, some (qI x4), some (qI (x5 + 1))] [] ρ14 μ15) ∧ (x4 < z13 → ∃ P : Int → Rf → Mem → Prop, qE mX5_mealsOf GG GG [qP 141, qI x5] ρ14 μ15 P ∧ ∀ (z17 : Int) (ρ18 : Rf) (μ19 : Mem), P z17 ρ18 μ19 → ∀ μ21, μ21 = up2 μ19 141 3 x5 → i32 (x5 + 1) ∧ qX mX5_chooseBest GG Post GG (0, 0) 24 [some (qP 141), none, none, none, some (qI z17), some (qI (x5 + 1))] [] ρ18 μ21))))))) : qX mX5_chooseBest GG Post GG (0, 0) 24 [some (qP 141), none, none, none, some (qI x4), some (qI x5)] [] ρ μ := by
  refine qX_iload dX5_chooseBest_24 rfl ?_
  refine qX_aload_n 0 dX5_chooseBest_26 rfl rfl (by decide) ?_
  obtain ⟨P, hE4, h⟩ := h
  refine qN_callV mX5_wholeSet [] _ 5 [_] dX5_chooseBest_27 cm_X5_56 ⟨(Nat.le_of_ble_eq_true rfl), (Nat.le_of_ble_eq_true rfl)⟩ rfl rfl sh141 (Nat.le_of_ble_eq_true rfl) ⟨rfl, rfl⟩ hE4 (fun z1 ρ2 μ3 hz => ?_)
  replace h := h _ _ _ hz
  refine qX_icmp_gt 73 dX5_chooseBest_30 rfl (fun hc => ?_) (fun hc => ?_)
  · replace h := h.1 hc
    refine qX_aload_n 0 dX5_chooseBest_73 rfl rfl (by decide) ?_
    obtain ⟨P, hE8, h⟩ := h
    refine qN_callV mX5_layOrder [] _ 5 [] dX5_chooseBest_74 cm_X5_115 ⟨(Nat.le_of_ble_eq_true rfl), (Nat.le_of_ble_eq_true rfl)⟩ rfl rfl sh141 (Nat.le_of_ble_eq_true rfl) ⟨rfl, rfl⟩ hE8 (fun z5 ρ6 μ7 hz => ?_)
    replace h := h _ _ _ hz
    exact qX_return rfl dX5_chooseBest_77 rfl ⟨(Nat.le_of_ble_eq_true rfl), (Nat.le_of_ble_eq_true rfl)⟩ h
  · replace h := h.2 hc
    refine qX_aload_n 0 dX5_chooseBest_33 rfl rfl (by decide) ?_
    refine qX_iload dX5_chooseBest_34 rfl ?_
    obtain ⟨P, hE12, h⟩ := h
    refine qN_callV mX5_canDo [_] _ 5 [] dX5_chooseBest_36 cm_X5_108 ⟨(Nat.le_of_ble_eq_true rfl), (Nat.le_of_ble_eq_true rfl)⟩ rfl rfl sh141 (Nat.le_of_ble_eq_true rfl) ⟨rfl, rfl⟩ hE12 (fun z9 ρ10 μ11 hz => ?_)
    replace h := h _ _ _ hz
    refine qX_if_eq 67 dX5_chooseBest_39 rfl (fun hc => ?_) (fun hc => ?_)
    · replace h := h.1 hc
      refine qR_iinc dX5_chooseBest_67 rfl (Nat.le_of_ble_eq_true rfl) rfl h.1 ?_
      replace h := h.2
      refine qX_goto 24 dX5_chooseBest_70 rfl ?_
      exact qX_mask [true, false, false, false, true, true] h
    · replace h := h.2 hc
      refine qX_aload_n 0 dX5_chooseBest_42 rfl rfl (by decide) ?_
      refine qX_iload dX5_chooseBest_43 rfl ?_
      obtain ⟨P, hE16, h⟩ := h
      refine qN_callV mX5_mealsOf [_] _ 5 [] dX5_chooseBest_45 cm_X5_112 ⟨(Nat.le_of_ble_eq_true rfl), (Nat.le_of_ble_eq_true rfl)⟩ rfl rfl sh141 (Nat.le_of_ble_eq_true rfl) ⟨rfl, rfl⟩ hE16 (fun z13 ρ14 μ15 hz => ?_)
      replace h := h _ _ _ hz
      refine qX_iload dX5_chooseBest_48 rfl ?_
      refine qX_icmp_le 67 dX5_chooseBest_50 rfl (fun hc => ?_) (fun hc => ?_)
      · replace h := h.1 hc
        refine qR_iinc dX5_chooseBest_67 rfl (Nat.le_of_ble_eq_true rfl) rfl h.1 ?_
        replace h := h.2
        refine qX_goto 24 dX5_chooseBest_70 rfl ?_
        exact qX_mask [true, false, false, false, true, true] h
      · replace h := h.2 hc
        refine qX_aload_n 0 dX5_chooseBest_53 rfl rfl (by decide) ?_
        refine qX_iload dX5_chooseBest_54 rfl ?_
        obtain ⟨P, hE20, h⟩ := h
        refine qN_callV mX5_mealsOf [_] _ 5 [] dX5_chooseBest_56 cm_X5_112 ⟨(Nat.le_of_ble_eq_true rfl), (Nat.le_of_ble_eq_true rfl)⟩ rfl rfl sh141 (Nat.le_of_ble_eq_true rfl) ⟨rfl, rfl⟩ hE20 (fun z17 ρ18 μ19 hz => ?_)
        replace h := h _ _ _ hz
        refine qX_istore dX5_chooseBest_59 (Nat.le_of_ble_eq_true rfl) rfl ?_
        refine qX_aload_n 0 dX5_chooseBest_61 rfl rfl (by decide) ?_
        refine qX_iload dX5_chooseBest_62 rfl ?_
        refine qX_putI 5 3 _ dX5_chooseBest_64 fs_X5_105 sh141 ?_
        replace h := h _ rfl
        refine qR_iinc dX5_chooseBest_67 rfl (Nat.le_of_ble_eq_true rfl) rfl h.1 ?_
        replace h := h.2
        refine qX_goto 24 dX5_chooseBest_70 rfl ?_
        exact qX_mask [true, false, false, false, true, true] h
set_option maxRecDepth 20000 in
theorem e_X5_layOrder {Post : Int → Rf → Mem → Prop} {ρ : Rf} {μ : Mem} 
  (h : ∀ μ1, μ1 = up2 μ 141 4 0 → qX mX5_layOrder GG Post GG (0, 0) 14 [some (qP 141), some (qI (μ1 141 3)), some (qI 0), some (qI 0), none] [] ρ μ1) : qE mX5_layOrder GG GG [qP 141] ρ μ Post := by
  refine qE_intro pl_X5_layOrder (Nat.le_of_ble_eq_true rfl) (Nat.le_refl _) ?_
  refine qX_aload_n 0 dX5_layOrder_0 rfl rfl (by decide) ?_
  refine qX_iconst dX5_layOrder_1 (i32_of rfl) ?_
  refine qX_putI 5 4 _ dX5_layOrder_2 fs_X5_118 sh141 ?_
  replace h := h _ rfl
  refine qX_aload_n 0 dX5_layOrder_5 rfl rfl (by decide) ?_
  refine qX_getI 5 3 _ dX5_layOrder_6 fs_X5_105 sh141 ?_
  refine qX_istore_n 1 dX5_layOrder_9 rfl (Nat.le_of_ble_eq_true rfl) rfl ?_
  refine qX_iconst dX5_layOrder_10 (i32_of rfl) ?_
  refine qX_istore_n 2 dX5_layOrder_11 rfl (Nat.le_of_ble_eq_true rfl) rfl ?_
  refine qX_iconst dX5_layOrder_12 (i32_of rfl) ?_
  refine qX_istore_n 3 dX5_layOrder_13 rfl (Nat.le_of_ble_eq_true rfl) rfl ?_
  exact qX_mask [true, true, true, true, false] h
set_option maxRecDepth 20000 in
theorem w_X5_layOrder_14 {Post : Int → Rf → Mem → Prop} {ρ : Rf} {μ : Mem} {x1 : Int} {x2 : Int} {x3 : Int}
  (h : ((μ 141 2 ≤ x3 → Post 0 ρ μ) ∧ (x3 < μ 141 2 → ((x1 = 0 → Post 0 ρ μ) ∧ (x1 ≠ 0 → ∃ P : Int → Rf → Mem → Prop, qE mX5_firstThatFits GG GG [qP 141, qI x1, qI x2] ρ μ P ∧ ∀ (z1 : Int) (ρ2 : Rf) (μ3 : Mem), P z1 ρ2 μ3 → (0 ≤ z1 ∧ z1 < 8) ∧ (0 ≤ x3 ∧ x3 < 8) ∧ ∀ μ5, μ5 = up2 μ3 143 x3 (μ3 142 z1) → i32 ((μ5 141 4) + 1) ∧ ∀ μ6, μ6 = up2 μ5 141 4 ((μ5 141 4) + 1) → (0 ≤ z1 ∧ z1 < 8) ∧ i32 (x2 + (μ6 145 z1)) ∧ (0 ≤ z1 ∧ z1 < 8) ∧ (0 ≤ z1 ∧ z1 < 8) ∧ i32 ((max (x2 + (μ6 145 z1)) (μ6 148 z1)) + (μ6 146 z1)) ∧ (0 ≤ z1 ∧ z1 < 8) ∧ i32 (((max (x2 + (μ6 145 z1)) (μ6 148 z1)) + (μ6 146 z1)) + (μ6 147 z1)) ∧ i32 (x3 + 1) ∧ qX mX5_layOrder GG Post GG (0, 0) 14 [some (qP 141), some (qI (and32 x1 (xor32 (shl32 1 z1) (-1)))), some (qI (((max (x2 + (μ6 145 z1)) (μ6 148 z1)) + (μ6 146 z1)) + (μ6 147 z1))), some (qI (x3 + 1)), none] [] ρ2 μ6))))) : qX mX5_layOrder GG Post GG (0, 0) 14 [some (qP 141), some (qI x1), some (qI x2), some (qI x3), none] [] ρ μ := by
  refine qX_iload_n 3 dX5_layOrder_14 rfl rfl ?_
  refine qX_aload_n 0 dX5_layOrder_15 rfl rfl (by decide) ?_
  refine qX_getI 5 2 _ dX5_layOrder_16 fs_X5_39 sh141 ?_
  refine qX_icmp_ge 108 dX5_layOrder_19 rfl (fun hc => ?_) (fun hc => ?_)
  · replace h := h.1 hc
    exact qX_return rfl dX5_layOrder_108 rfl ⟨(Nat.le_of_ble_eq_true rfl), (Nat.le_of_ble_eq_true rfl)⟩ h
  · replace h := h.2 hc
    refine qX_iload_n 1 dX5_layOrder_22 rfl rfl ?_
    refine qX_if_eq 108 dX5_layOrder_23 rfl (fun hc => ?_) (fun hc => ?_)
    · replace h := h.1 hc
      exact qX_return rfl dX5_layOrder_108 rfl ⟨(Nat.le_of_ble_eq_true rfl), (Nat.le_of_ble_eq_true rfl)⟩ h
    · replace h := h.2 hc
      refine qX_aload_n 0 dX5_layOrder_26 rfl rfl (by decide) ?_
      refine qX_iload_n 1 dX5_layOrder_27 rfl rfl ?_
      refine qX_iload_n 2 dX5_layOrder_28 rfl rfl ?_
      obtain ⟨P, hE4, h⟩ := h
      refine qN_callV mX5_firstThatFits [_, _] _ 5 [] dX5_layOrder_29 cm_X5_121 ⟨(Nat.le_of_ble_eq_true rfl), (Nat.le_of_ble_eq_true rfl)⟩ rfl rfl sh141 (Nat.le_of_ble_eq_true rfl) ⟨rfl, rfl⟩ hE4 (fun z1 ρ2 μ3 hz => ?_)
      replace h := h _ _ _ hz
      refine qX_istore dX5_layOrder_32 (Nat.le_of_ble_eq_true rfl) rfl ?_
      refine qX_aload_n 0 dX5_layOrder_34 rfl rfl (by decide) ?_
      refine qX_getS 5 1 _ 1 dX5_layOrder_35 fs_X5_15 rfl rfl sh141 (x := 143) rfl ?_
      refine qX_iload_n 3 dX5_layOrder_38 rfl rfl ?_
      refine qX_aload_n 0 dX5_layOrder_39 rfl rfl (by decide) ?_
      refine qX_getS 5 0 _ 0 dX5_layOrder_40 fs_X5_9 rfl rfl sh141 (x := 142) rfl ?_
      refine qX_iload dX5_layOrder_43 rfl ?_
      refine qX_iald dX5_layOrder_45 sh142 h.1 ?_
      replace h := h.2
      refine qX_iast dX5_layOrder_46 sh143 h.1 ?_
      replace h := h.2
      replace h := h _ rfl
      refine qX_aload_n 0 dX5_layOrder_47 rfl rfl (by decide) ?_
      refine qX_dup dX5_layOrder_48 rfl ?_
      refine qX_getI 5 4 _ dX5_layOrder_49 fs_X5_118 sh141 ?_
      refine qX_iconst dX5_layOrder_52 (i32_of rfl) ?_
      refine qR_iadd dX5_layOrder_53 h.1 ?_
      replace h := h.2
      refine qX_putI 5 4 _ dX5_layOrder_54 fs_X5_118 sh141 ?_
      replace h := h _ rfl
      refine qX_iload_n 2 dX5_layOrder_57 rfl rfl ?_
      refine qX_aload_n 0 dX5_layOrder_58 rfl rfl (by decide) ?_
      refine qX_getS 5 6 _ 3 dX5_layOrder_59 fs_X5_21 rfl rfl sh141 (x := 145) rfl ?_
      refine qX_iload dX5_layOrder_62 rfl ?_
      refine qX_iald dX5_layOrder_64 sh145 h.1 ?_
      replace h := h.2
      refine qR_iadd dX5_layOrder_65 h.1 ?_
      replace h := h.2
      refine qX_aload_n 0 dX5_layOrder_66 rfl rfl (by decide) ?_
      refine qX_getS 5 9 _ 6 dX5_layOrder_67 fs_X5_30 rfl rfl sh141 (x := 148) rfl ?_
      refine qX_iload dX5_layOrder_70 rfl ?_
      refine qX_iald dX5_layOrder_72 sh148 h.1 ?_
      replace h := h.2
      refine qX_max dX5_layOrder_73 kM_X5_91 ⟨(Nat.le_of_ble_eq_true rfl), (Nat.le_of_ble_eq_true rfl)⟩ (Nat.le_of_ble_eq_true rfl) ⟨(Nat.le_of_ble_eq_true rfl), (Nat.le_of_ble_eq_true rfl)⟩ ?_
      refine qX_aload_n 0 dX5_layOrder_76 rfl rfl (by decide) ?_
      refine qX_getS 5 7 _ 4 dX5_layOrder_77 fs_X5_24 rfl rfl sh141 (x := 146) rfl ?_
      refine qX_iload dX5_layOrder_80 rfl ?_
      refine qX_iald dX5_layOrder_82 sh146 h.1 ?_
      replace h := h.2
      refine qR_iadd dX5_layOrder_83 h.1 ?_
      replace h := h.2
      refine qX_aload_n 0 dX5_layOrder_84 rfl rfl (by decide) ?_
      refine qX_getS 5 8 _ 5 dX5_layOrder_85 fs_X5_27 rfl rfl sh141 (x := 147) rfl ?_
      refine qX_iload dX5_layOrder_88 rfl ?_
      refine qX_iald dX5_layOrder_90 sh147 h.1 ?_
      replace h := h.2
      refine qR_iadd dX5_layOrder_91 h.1 ?_
      replace h := h.2
      refine qX_istore_n 2 dX5_layOrder_92 rfl (Nat.le_of_ble_eq_true rfl) rfl ?_
      refine qX_iload_n 1 dX5_layOrder_93 rfl rfl ?_
      refine qX_iconst dX5_layOrder_94 (i32_of rfl) ?_
      refine qX_iload dX5_layOrder_95 rfl ?_
      refine qX_ishl dX5_layOrder_97 ?_
      refine qX_iconst dX5_layOrder_98 (i32_of rfl) ?_
      refine qX_ixor dX5_layOrder_99 ?_
      refine qX_iand dX5_layOrder_100 ?_
      refine qX_istore_n 1 dX5_layOrder_101 rfl (Nat.le_of_ble_eq_true rfl) rfl ?_
      refine qR_iinc dX5_layOrder_102 rfl (Nat.le_of_ble_eq_true rfl) rfl h.1 ?_
      replace h := h.2
      refine qX_goto 14 dX5_layOrder_105 rfl ?_
      exact qX_mask [true, true, true, true, false] h
set_option maxRecDepth 20000 in
theorem e_X5_firstThatFits {Post : Int → Rf → Mem → Prop} {ρ : Rf} {μ : Mem} {x1 : Int} {x2 : Int}
  (h : qX mX5_firstThatFits GG Post GG (0, 0) 2 [some (qP 141), some (qI x1), some (qI x2), some (qI 0)] [] ρ μ) : qE mX5_firstThatFits GG GG [qP 141, qI x1, qI x2] ρ μ Post := by
  refine qE_intro pl_X5_firstThatFits (Nat.le_of_ble_eq_true rfl) (Nat.le_refl _) ?_
  refine qX_iconst dX5_firstThatFits_0 (i32_of rfl) ?_
  refine qX_istore_n 3 dX5_firstThatFits_1 rfl (Nat.le_of_ble_eq_true rfl) rfl ?_
  exact qX_mask [true, true, true, true] h
set_option maxRecDepth 20000 in
theorem w_X5_firstThatFits_2 {Post : Int → Rf → Mem → Prop} {ρ : Rf} {μ : Mem} {x1 : Int} {x2 : Int} {x3 : Int}
  (h : ((μ 141 2 ≤ x3 → Post 0 ρ μ) ∧ (x3 < μ 141 2 → ((and32 (shr32 x1 x3) 1 ≠ 1 → i32 (x3 + 1) ∧ qX mX5_firstThatFits GG Post GG (0, 0) 2 [some (qP 141), some (qI x1), some (qI x2), some (qI (x3 + 1))] [] ρ μ) ∧ (and32 (shr32 x1 x3) 1 = 1 → ∃ P : Int → Rf → Mem → Prop, qE mX5_latestBeginWith GG GG [qP 141, qI x3, qI x1] ρ μ P ∧ ∀ (z1 : Int) (ρ2 : Rf) (μ3 : Mem), P z1 ρ2 μ3 → ((z1 < x2 → i32 (x3 + 1) ∧ qX mX5_firstThatFits GG Post GG (0, 0) 2 [some (qP 141), some (qI x1), some (qI x2), some (qI (x3 + 1))] [] ρ2 μ3) ∧ (x2 ≤ z1 → Post x3 ρ2 μ3))))))) : qX mX5_firstThatFits GG Post GG (0, 0) 2 [some (qP 141), some (qI x1), some (qI x2), some (qI x3)] [] ρ μ := by
  refine qX_iload_n 3 dX5_firstThatFits_2 rfl rfl ?_
  refine qX_aload_n 0 dX5_firstThatFits_3 rfl rfl (by decide) ?_
  refine qX_getI 5 2 _ dX5_firstThatFits_4 fs_X5_39 sh141 ?_
  refine qX_icmp_ge 37 dX5_firstThatFits_7 rfl (fun hc => ?_) (fun hc => ?_)
  · replace h := h.1 hc
    refine qX_iconst dX5_firstThatFits_37 (i32_of rfl) ?_
    exact qX_ireturn rfl dX5_firstThatFits_38 rfl ⟨(Nat.le_of_ble_eq_true rfl), (Nat.le_of_ble_eq_true rfl)⟩ h
  · replace h := h.2 hc
    refine qX_iload_n 1 dX5_firstThatFits_10 rfl rfl ?_
    refine qX_iload_n 3 dX5_firstThatFits_11 rfl rfl ?_
    refine qX_ishr dX5_firstThatFits_12 ?_
    refine qX_iconst dX5_firstThatFits_13 (i32_of rfl) ?_
    refine qX_iand dX5_firstThatFits_14 ?_
    refine qX_iconst dX5_firstThatFits_15 (i32_of rfl) ?_
    refine qX_icmp_ne 31 dX5_firstThatFits_16 rfl (fun hc => ?_) (fun hc => ?_)
    · replace h := h.1 hc
      refine qR_iinc dX5_firstThatFits_31 rfl (Nat.le_of_ble_eq_true rfl) rfl h.1 ?_
      replace h := h.2
      refine qX_goto 2 dX5_firstThatFits_34 rfl ?_
      exact qX_mask [true, true, true, true] h
    · replace h := h.2 hc
      refine qX_aload_n 0 dX5_firstThatFits_19 rfl rfl (by decide) ?_
      refine qX_iload_n 3 dX5_firstThatFits_20 rfl rfl ?_
      refine qX_iload_n 1 dX5_firstThatFits_21 rfl rfl ?_
      obtain ⟨P, hE4, h⟩ := h
      refine qN_callV mX5_latestBeginWith [_, _] _ 5 [] dX5_firstThatFits_22 cm_X5_88 ⟨(Nat.le_of_ble_eq_true rfl), (Nat.le_of_ble_eq_true rfl)⟩ rfl rfl sh141 (Nat.le_of_ble_eq_true rfl) ⟨rfl, rfl⟩ hE4 (fun z1 ρ2 μ3 hz => ?_)
      replace h := h _ _ _ hz
      refine qX_iload_n 2 dX5_firstThatFits_25 rfl rfl ?_
      refine qX_icmp_lt 31 dX5_firstThatFits_26 rfl (fun hc => ?_) (fun hc => ?_)
      · replace h := h.1 hc
        refine qR_iinc dX5_firstThatFits_31 rfl (Nat.le_of_ble_eq_true rfl) rfl h.1 ?_
        replace h := h.2
        refine qX_goto 2 dX5_firstThatFits_34 rfl ?_
        exact qX_mask [true, true, true, true] h
      · replace h := h.2 hc
        refine qX_iload_n 3 dX5_firstThatFits_29 rfl rfl ?_
        exact qX_ireturn rfl dX5_firstThatFits_30 rfl ⟨(Nat.le_of_ble_eq_true rfl), (Nat.le_of_ble_eq_true rfl)⟩ h
set_option maxRecDepth 20000 in
theorem e_X6_clear {Post : Int → Rf → Mem → Prop} {ρ : Rf} {μ : Mem} {o : Nat} (ho : isO 6 o)
  (h : ∀ μ1, μ1 = up2 μ o 6 0 → ∃ P : Int → Rf → Mem → Prop, qE mJ7_fill_53178 GG GG [qP (o + 6), qI 0] ρ μ1 P ∧ ∀ (z2 : Int) (ρ3 : Rf) (μ4 : Mem), P z2 ρ3 μ4 → Post 0 ρ3 μ4) : qE mX6_clear GG GG [qP o] ρ μ Post := by
  refine qE_intro pl_X6_clear (Nat.le_of_ble_eq_true rfl) (Nat.le_refl _) ?_
  refine qX_aload_n 0 dX6_clear_0 rfl rfl (shN ho) ?_
  refine qX_iconst dX6_clear_1 (i32_of rfl) ?_
  refine qX_putI 6 6 _ dX6_clear_2 fs_X6_30 ho ?_
  replace h := h _ rfl
  refine qX_aload_n 0 dX6_clear_5 rfl rfl (shN ho) ?_
  refine qX_getS 6 5 _ 5 dX6_clear_6 fs_X6_27 rfl rfl ho rfl ?_
  refine qX_iconst dX6_clear_9 (i32_of rfl) ?_
  obtain ⟨P, hE5, h⟩ := h
  refine qN_callS mJ7_fill_53178 [_, _] [] dX6_clear_10 cm_X6_34 ⟨(Nat.le_of_ble_eq_true rfl), (Nat.le_of_ble_eq_true rfl)⟩ rfl rfl (Nat.le_of_ble_eq_true rfl) ⟨rfl, rfl⟩ hE5 (fun z2 ρ3 μ4 hz => ?_)
  replace h := h _ _ _ hz
  exact qX_return rfl dX6_clear_13 rfl ⟨(Nat.le_of_ble_eq_true rfl), (Nat.le_of_ble_eq_true rfl)⟩ h
set_option maxRecDepth 20000 in
theorem e_X6_copyFrom {Post : Int → Rf → Mem → Prop} {ρ : Rf} {μ : Mem} {o : Nat} (ho : isO 6 o) {x1 : Nat} (hx1 : isO 6 x1)
  (h : ∀ μ1, μ1 = cpyM μ (x1 + 1) (o + 1) 20 → ∀ μ2, μ2 = cpyM μ1 (x1 + 2) (o + 2) 20 → ∀ μ3, μ3 = cpyM μ2 (x1 + 3) (o + 3) 20 → ∀ μ4, μ4 = cpyM μ3 (x1 + 4) (o + 4) 20 → ∀ μ5, μ5 = cpyM μ4 (x1 + 5) (o + 5) 2 → ∀ μ6, μ6 = cpyM μ5 (x1 + 6) (o + 6) 12 → ∀ μ7, μ7 = up2 μ6 o 6 (μ6 x1 6) → Post 0 ρ μ7) : qE mX6_copyFrom GG GG [qP o, qP x1] ρ μ Post := by
  refine qE_intro pl_X6_copyFrom (Nat.le_of_ble_eq_true rfl) (Nat.le_refl _) ?_
  refine qX_aload_n 1 dX6_copyFrom_0 rfl rfl (shN hx1) ?_
  refine qX_getS 6 0 _ 0 dX6_copyFrom_1 fs_X6_9 rfl rfl hx1 rfl ?_
  refine qX_iconst dX6_copyFrom_4 (i32_of rfl) ?_
  refine qX_aload_n 0 dX6_copyFrom_5 rfl rfl (shN ho) ?_
  refine qX_getS 6 0 _ 0 dX6_copyFrom_6 fs_X6_9 rfl rfl ho rfl ?_
  refine qX_iconst dX6_copyFrom_9 (i32_of rfl) ?_
  refine qX_bip dX6_copyFrom_10 rfl ?_
  refine qX_copy dX6_copyFrom_12 kM_X6_40 (ar6_0 hx1) (ar6_0 ho) ⟨by decide, by decide, by decide⟩ ⟨(Nat.le_of_ble_eq_true rfl), (Nat.le_of_ble_eq_true rfl)⟩ (Nat.le_of_ble_eq_true rfl) ?_
  replace h := h _ rfl
  refine qX_aload_n 1 dX6_copyFrom_15 rfl rfl (shN hx1) ?_
  refine qX_getS 6 1 _ 1 dX6_copyFrom_16 fs_X6_15 rfl rfl hx1 rfl ?_
  refine qX_iconst dX6_copyFrom_19 (i32_of rfl) ?_
  refine qX_aload_n 0 dX6_copyFrom_20 rfl rfl (shN ho) ?_
  refine qX_getS 6 1 _ 1 dX6_copyFrom_21 fs_X6_15 rfl rfl ho rfl ?_
  refine qX_iconst dX6_copyFrom_24 (i32_of rfl) ?_
  refine qX_bip dX6_copyFrom_25 rfl ?_
  refine qX_copy dX6_copyFrom_27 kM_X6_40 (ar6_1 hx1) (ar6_1 ho) ⟨by decide, by decide, by decide⟩ ⟨(Nat.le_of_ble_eq_true rfl), (Nat.le_of_ble_eq_true rfl)⟩ (Nat.le_of_ble_eq_true rfl) ?_
  replace h := h _ rfl
  refine qX_aload_n 1 dX6_copyFrom_30 rfl rfl (shN hx1) ?_
  refine qX_getS 6 2 _ 2 dX6_copyFrom_31 fs_X6_18 rfl rfl hx1 rfl ?_
  refine qX_iconst dX6_copyFrom_34 (i32_of rfl) ?_
  refine qX_aload_n 0 dX6_copyFrom_35 rfl rfl (shN ho) ?_
  refine qX_getS 6 2 _ 2 dX6_copyFrom_36 fs_X6_18 rfl rfl ho rfl ?_
  refine qX_iconst dX6_copyFrom_39 (i32_of rfl) ?_
  refine qX_bip dX6_copyFrom_40 rfl ?_
  refine qX_copy dX6_copyFrom_42 kM_X6_40 (ar6_2 hx1) (ar6_2 ho) ⟨by decide, by decide, by decide⟩ ⟨(Nat.le_of_ble_eq_true rfl), (Nat.le_of_ble_eq_true rfl)⟩ (Nat.le_of_ble_eq_true rfl) ?_
  replace h := h _ rfl
  refine qX_aload_n 1 dX6_copyFrom_45 rfl rfl (shN hx1) ?_
  refine qX_getS 6 3 _ 3 dX6_copyFrom_46 fs_X6_21 rfl rfl hx1 rfl ?_
  refine qX_iconst dX6_copyFrom_49 (i32_of rfl) ?_
  refine qX_aload_n 0 dX6_copyFrom_50 rfl rfl (shN ho) ?_
  refine qX_getS 6 3 _ 3 dX6_copyFrom_51 fs_X6_21 rfl rfl ho rfl ?_
  refine qX_iconst dX6_copyFrom_54 (i32_of rfl) ?_
  refine qX_bip dX6_copyFrom_55 rfl ?_
  refine qX_copy dX6_copyFrom_57 kM_X6_40 (ar6_3 hx1) (ar6_3 ho) ⟨by decide, by decide, by decide⟩ ⟨(Nat.le_of_ble_eq_true rfl), (Nat.le_of_ble_eq_true rfl)⟩ (Nat.le_of_ble_eq_true rfl) ?_
  replace h := h _ rfl
  refine qX_aload_n 1 dX6_copyFrom_60 rfl rfl (shN hx1) ?_
  refine qX_getS 6 4 _ 4 dX6_copyFrom_61 fs_X6_24 rfl rfl hx1 rfl ?_
  refine qX_iconst dX6_copyFrom_64 (i32_of rfl) ?_
  refine qX_aload_n 0 dX6_copyFrom_65 rfl rfl (shN ho) ?_
  refine qX_getS 6 4 _ 4 dX6_copyFrom_66 fs_X6_24 rfl rfl ho rfl ?_
  refine qX_iconst dX6_copyFrom_69 (i32_of rfl) ?_
  refine qX_iconst dX6_copyFrom_70 (i32_of rfl) ?_
  refine qX_copy dX6_copyFrom_71 kM_X6_40 (ar6_4 hx1) (ar6_4 ho) ⟨by decide, by decide, by decide⟩ ⟨(Nat.le_of_ble_eq_true rfl), (Nat.le_of_ble_eq_true rfl)⟩ (Nat.le_of_ble_eq_true rfl) ?_
  replace h := h _ rfl
  refine qX_aload_n 1 dX6_copyFrom_74 rfl rfl (shN hx1) ?_
  refine qX_getS 6 5 _ 5 dX6_copyFrom_75 fs_X6_27 rfl rfl hx1 rfl ?_
  refine qX_iconst dX6_copyFrom_78 (i32_of rfl) ?_
  refine qX_aload_n 0 dX6_copyFrom_79 rfl rfl (shN ho) ?_
  refine qX_getS 6 5 _ 5 dX6_copyFrom_80 fs_X6_27 rfl rfl ho rfl ?_
  refine qX_iconst dX6_copyFrom_83 (i32_of rfl) ?_
  refine qX_bip dX6_copyFrom_84 rfl ?_
  refine qX_copy dX6_copyFrom_86 kM_X6_40 (ar6_5 hx1) (ar6_5 ho) ⟨by decide, by decide, by decide⟩ ⟨(Nat.le_of_ble_eq_true rfl), (Nat.le_of_ble_eq_true rfl)⟩ (Nat.le_of_ble_eq_true rfl) ?_
  replace h := h _ rfl
  refine qX_aload_n 0 dX6_copyFrom_89 rfl rfl (shN ho) ?_
  refine qX_aload_n 1 dX6_copyFrom_90 rfl rfl (shN hx1) ?_
  refine qX_getI 6 6 _ dX6_copyFrom_91 fs_X6_30 hx1 ?_
  refine qX_putI 6 6 _ dX6_copyFrom_94 fs_X6_30 ho ?_
  replace h := h _ rfl
  exact qX_return rfl dX6_copyFrom_97 rfl ⟨(Nat.le_of_ble_eq_true rfl), (Nat.le_of_ble_eq_true rfl)⟩ h
set_option maxRecDepth 20000 in
theorem e_X6_addLast {Post : Int → Rf → Mem → Prop} {ρ : Rf} {μ : Mem} {o : Nat} (ho : isO 6 o) {x1 : Int} {x2 : Int} {x3 : Int} {x4 : Int}
  (h : ((μ o 6 < 20 → (0 ≤ μ o 6 ∧ μ o 6 < 20) ∧ ∀ μ1, μ1 = up2 μ (o + 1) (μ o 6) x1 → (0 ≤ μ1 o 6 ∧ μ1 o 6 < 20) ∧ ∀ μ2, μ2 = up2 μ1 (o + 2) (μ1 o 6) x2 → (0 ≤ μ2 o 6 ∧ μ2 o 6 < 20) ∧ ∀ μ3, μ3 = up2 μ2 (o + 3) (μ2 o 6) x3 → (0 ≤ μ3 o 6 ∧ μ3 o 6 < 20) ∧ ∀ μ4, μ4 = up2 μ3 (o + 4) (μ3 o 6) x4 → i32 ((μ4 o 6) + 1) ∧ ∀ μ5, μ5 = up2 μ4 o 6 ((μ4 o 6) + 1) → Post 0 ρ μ5) ∧ (20 ≤ μ o 6 → Post 0 ρ μ))) : qE mX6_addLast GG GG [qP o, qI x1, qI x2, qI x3, qI x4] ρ μ Post := by
  refine qE_intro pl_X6_addLast (Nat.le_of_ble_eq_true rfl) (Nat.le_refl _) ?_
  refine qX_aload_n 0 dX6_addLast_0 rfl rfl (shN ho) ?_
  refine qX_getI 6 6 _ dX6_addLast_1 fs_X6_30 ho ?_
  refine qX_bip dX6_addLast_4 rfl ?_
  refine qX_icmp_lt 10 dX6_addLast_6 rfl (fun hc => ?_) (fun hc => ?_)
  · replace h := h.1 hc
    refine qX_aload_n 0 dX6_addLast_10 rfl rfl (shN ho) ?_
    refine qX_getS 6 0 _ 0 dX6_addLast_11 fs_X6_9 rfl rfl ho rfl ?_
    refine qX_aload_n 0 dX6_addLast_14 rfl rfl (shN ho) ?_
    refine qX_getI 6 6 _ dX6_addLast_15 fs_X6_30 ho ?_
    refine qX_iload_n 1 dX6_addLast_18 rfl rfl ?_
    refine qX_iast dX6_addLast_19 (ar6_0 ho) h.1 ?_
    replace h := h.2
    replace h := h _ rfl
    refine qX_aload_n 0 dX6_addLast_20 rfl rfl (shN ho) ?_
    refine qX_getS 6 1 _ 1 dX6_addLast_21 fs_X6_15 rfl rfl ho rfl ?_
    refine qX_aload_n 0 dX6_addLast_24 rfl rfl (shN ho) ?_
    refine qX_getI 6 6 _ dX6_addLast_25 fs_X6_30 ho ?_
    refine qX_iload_n 2 dX6_addLast_28 rfl rfl ?_
    refine qX_iast dX6_addLast_29 (ar6_1 ho) h.1 ?_
    replace h := h.2
    replace h := h _ rfl
    refine qX_aload_n 0 dX6_addLast_30 rfl rfl (shN ho) ?_
    refine qX_getS 6 2 _ 2 dX6_addLast_31 fs_X6_18 rfl rfl ho rfl ?_
    refine qX_aload_n 0 dX6_addLast_34 rfl rfl (shN ho) ?_
    refine qX_getI 6 6 _ dX6_addLast_35 fs_X6_30 ho ?_
    refine qX_iload_n 3 dX6_addLast_38 rfl rfl ?_
    refine qX_iast dX6_addLast_39 (ar6_2 ho) h.1 ?_
    replace h := h.2
    replace h := h _ rfl
    refine qX_aload_n 0 dX6_addLast_40 rfl rfl (shN ho) ?_
    refine qX_getS 6 3 _ 3 dX6_addLast_41 fs_X6_21 rfl rfl ho rfl ?_
    refine qX_aload_n 0 dX6_addLast_44 rfl rfl (shN ho) ?_
    refine qX_getI 6 6 _ dX6_addLast_45 fs_X6_30 ho ?_
    refine qX_iload dX6_addLast_48 rfl ?_
    refine qX_iast dX6_addLast_50 (ar6_3 ho) h.1 ?_
    replace h := h.2
    replace h := h _ rfl
    refine qX_aload_n 0 dX6_addLast_51 rfl rfl (shN ho) ?_
    refine qX_dup dX6_addLast_52 rfl ?_
    refine qX_getI 6 6 _ dX6_addLast_53 fs_X6_30 ho ?_
    refine qX_iconst dX6_addLast_56 (i32_of rfl) ?_
    refine qR_iadd dX6_addLast_57 h.1 ?_
    replace h := h.2
    refine qX_putI 6 6 _ dX6_addLast_58 fs_X6_30 ho ?_
    replace h := h _ rfl
    exact qX_return rfl dX6_addLast_61 rfl ⟨(Nat.le_of_ble_eq_true rfl), (Nat.le_of_ble_eq_true rfl)⟩ h
  · replace h := h.2 hc
    exact qX_return rfl dX6_addLast_9 rfl ⟨(Nat.le_of_ble_eq_true rfl), (Nat.le_of_ble_eq_true rfl)⟩ h
set_option maxRecDepth 20000 in
theorem e_X6_takeJob {Post : Int → Rf → Mem → Prop} {ρ : Rf} {μ : Mem} {o : Nat} (ho : isO 6 o) {x1 : Nat} (hx1 : isO 6 x1) {x2 : Int} {x3 : Int}
  (h : (0 ≤ x2 ∧ x2 < 20) ∧ (0 ≤ x3 ∧ x3 < 20) ∧ ∀ μ1, μ1 = up2 μ (o + 1) x3 (μ (x1 + 1) x2) → (0 ≤ x2 ∧ x2 < 20) ∧ (0 ≤ x3 ∧ x3 < 20) ∧ ∀ μ2, μ2 = up2 μ1 (o + 2) x3 (μ1 (x1 + 2) x2) → (0 ≤ x2 ∧ x2 < 20) ∧ (0 ≤ x3 ∧ x3 < 20) ∧ ∀ μ3, μ3 = up2 μ2 (o + 3) x3 (μ2 (x1 + 3) x2) → (0 ≤ x2 ∧ x2 < 20) ∧ (0 ≤ x3 ∧ x3 < 20) ∧ ∀ μ4, μ4 = up2 μ3 (o + 4) x3 (μ3 (x1 + 4) x2) → Post 0 ρ μ4) : qE mX6_takeJob GG GG [qP o, qP x1, qI x2, qI x3] ρ μ Post := by
  refine qE_intro pl_X6_takeJob (Nat.le_of_ble_eq_true rfl) (Nat.le_refl _) ?_
  refine qX_aload_n 0 dX6_takeJob_0 rfl rfl (shN ho) ?_
  refine qX_getS 6 0 _ 0 dX6_takeJob_1 fs_X6_9 rfl rfl ho rfl ?_
  refine qX_iload_n 3 dX6_takeJob_4 rfl rfl ?_
  refine qX_aload_n 1 dX6_takeJob_5 rfl rfl (shN hx1) ?_
  refine qX_getS 6 0 _ 0 dX6_takeJob_6 fs_X6_9 rfl rfl hx1 rfl ?_
  refine qX_iload_n 2 dX6_takeJob_9 rfl rfl ?_
  refine qX_iald dX6_takeJob_10 (ar6_0 hx1) h.1 ?_
  replace h := h.2
  refine qX_iast dX6_takeJob_11 (ar6_0 ho) h.1 ?_
  replace h := h.2
  replace h := h _ rfl
  refine qX_aload_n 0 dX6_takeJob_12 rfl rfl (shN ho) ?_
  refine qX_getS 6 1 _ 1 dX6_takeJob_13 fs_X6_15 rfl rfl ho rfl ?_
  refine qX_iload_n 3 dX6_takeJob_16 rfl rfl ?_
  refine qX_aload_n 1 dX6_takeJob_17 rfl rfl (shN hx1) ?_
  refine qX_getS 6 1 _ 1 dX6_takeJob_18 fs_X6_15 rfl rfl hx1 rfl ?_
  refine qX_iload_n 2 dX6_takeJob_21 rfl rfl ?_
  refine qX_iald dX6_takeJob_22 (ar6_1 hx1) h.1 ?_
  replace h := h.2
  refine qX_iast dX6_takeJob_23 (ar6_1 ho) h.1 ?_
  replace h := h.2
  replace h := h _ rfl
  refine qX_aload_n 0 dX6_takeJob_24 rfl rfl (shN ho) ?_
  refine qX_getS 6 2 _ 2 dX6_takeJob_25 fs_X6_18 rfl rfl ho rfl ?_
  refine qX_iload_n 3 dX6_takeJob_28 rfl rfl ?_
  refine qX_aload_n 1 dX6_takeJob_29 rfl rfl (shN hx1) ?_
  refine qX_getS 6 2 _ 2 dX6_takeJob_30 fs_X6_18 rfl rfl hx1 rfl ?_
  refine qX_iload_n 2 dX6_takeJob_33 rfl rfl ?_
  refine qX_iald dX6_takeJob_34 (ar6_2 hx1) h.1 ?_
  replace h := h.2
  refine qX_iast dX6_takeJob_35 (ar6_2 ho) h.1 ?_
  replace h := h.2
  replace h := h _ rfl
  refine qX_aload_n 0 dX6_takeJob_36 rfl rfl (shN ho) ?_
  refine qX_getS 6 3 _ 3 dX6_takeJob_37 fs_X6_21 rfl rfl ho rfl ?_
  refine qX_iload_n 3 dX6_takeJob_40 rfl rfl ?_
  refine qX_aload_n 1 dX6_takeJob_41 rfl rfl (shN hx1) ?_
  refine qX_getS 6 3 _ 3 dX6_takeJob_42 fs_X6_21 rfl rfl hx1 rfl ?_
  refine qX_iload_n 2 dX6_takeJob_45 rfl rfl ?_
  refine qX_iald dX6_takeJob_46 (ar6_3 hx1) h.1 ?_
  replace h := h.2
  refine qX_iast dX6_takeJob_47 (ar6_3 ho) h.1 ?_
  replace h := h.2
  replace h := h _ rfl
  exact qX_return rfl dX6_takeJob_48 rfl ⟨(Nat.le_of_ble_eq_true rfl), (Nat.le_of_ble_eq_true rfl)⟩ h
set_option maxRecDepth 20000 in
theorem e_X6_removeAt {Post : Int → Rf → Mem → Prop} {ρ : Rf} {μ : Mem} {o : Nat} (ho : isO 6 o) {x1 : Int}
  (h : i32 (x1 + 1) ∧ qX mX6_removeAt GG Post GG (0, 0) 4 [some (qP o), none, some (qI (x1 + 1))] [] ρ μ) : qE mX6_removeAt GG GG [qP o, qI x1] ρ μ Post := by
  refine qE_intro pl_X6_removeAt (Nat.le_of_ble_eq_true rfl) (Nat.le_refl _) ?_
  refine qX_iload_n 1 dX6_removeAt_0 rfl rfl ?_
  refine qX_iconst dX6_removeAt_1 (i32_of rfl) ?_
  refine qR_iadd dX6_removeAt_2 h.1 ?_
  replace h := h.2
  refine qX_istore_n 2 dX6_removeAt_3 rfl (Nat.le_of_ble_eq_true rfl) rfl ?_
  exact qX_mask [true, false, true] h
set_option maxRecDepth 20000 in
theorem w_X6_removeAt_4 {Post : Int → Rf → Mem → Prop} {ρ : Rf} {μ : Mem} {o : Nat} (ho : isO 6 o) {x2 : Int}
  (h : ((μ o 6 ≤ x2 → i32 ((μ o 6) - 1) ∧ ∀ μ1, μ1 = up2 μ o 6 ((μ o 6) - 1) → Post 0 ρ μ1) ∧ (x2 < μ o 6 → i32 (x2 - 1) ∧ ∃ P : Int → Rf → Mem → Prop, qE mX6_takeJob GG GG [qP o, qP o, qI x2, qI (x2 - 1)] ρ μ P ∧ ∀ (z2 : Int) (ρ3 : Rf) (μ4 : Mem), P z2 ρ3 μ4 → i32 (x2 + 1) ∧ qX mX6_removeAt GG Post GG (0, 0) 4 [some (qP o), none, some (qI (x2 + 1))] [] ρ3 μ4))) : qX mX6_removeAt GG Post GG (0, 0) 4 [some (qP o), none, some (qI x2)] [] ρ μ := by
  refine qX_iload_n 2 dX6_removeAt_4 rfl rfl ?_
  refine qX_aload_n 0 dX6_removeAt_5 rfl rfl (shN ho) ?_
  refine qX_getI 6 6 _ dX6_removeAt_6 fs_X6_30 ho ?_
  refine qX_icmp_ge 27 dX6_removeAt_9 rfl (fun hc => ?_) (fun hc => ?_)
  · replace h := h.1 hc
    refine qX_aload_n 0 dX6_removeAt_27 rfl rfl (shN ho) ?_
    refine qX_dup dX6_removeAt_28 rfl ?_
    refine qX_getI 6 6 _ dX6_removeAt_29 fs_X6_30 ho ?_
    refine qX_iconst dX6_removeAt_32 (i32_of rfl) ?_
    refine qR_isub dX6_removeAt_33 h.1 ?_
    replace h := h.2
    refine qX_putI 6 6 _ dX6_removeAt_34 fs_X6_30 ho ?_
    replace h := h _ rfl
    exact qX_return rfl dX6_removeAt_37 rfl ⟨(Nat.le_of_ble_eq_true rfl), (Nat.le_of_ble_eq_true rfl)⟩ h
  · replace h := h.2 hc
    refine qX_aload_n 0 dX6_removeAt_12 rfl rfl (shN ho) ?_
    refine qX_aload_n 0 dX6_removeAt_13 rfl rfl (shN ho) ?_
    refine qX_iload_n 2 dX6_removeAt_14 rfl rfl ?_
    refine qX_iload_n 2 dX6_removeAt_15 rfl rfl ?_
    refine qX_iconst dX6_removeAt_16 (i32_of rfl) ?_
    refine qR_isub dX6_removeAt_17 h.1 ?_
    replace h := h.2
    obtain ⟨P, hE5, h⟩ := h
    refine qN_callV mX6_takeJob [_, _, _] _ 6 [] dX6_removeAt_18 cm_X6_46 ⟨(Nat.le_of_ble_eq_true rfl), (Nat.le_of_ble_eq_true rfl)⟩ rfl rfl ho (Nat.le_of_ble_eq_true rfl) ⟨rfl, rfl⟩ hE5 (fun z2 ρ3 μ4 hz => ?_)
    replace h := h _ _ _ hz
    refine qR_iinc dX6_removeAt_21 rfl (Nat.le_of_ble_eq_true rfl) rfl h.1 ?_
    replace h := h.2
    refine qX_goto 4 dX6_removeAt_24 rfl ?_
    exact qX_mask [true, false, true] h
set_option maxRecDepth 20000 in
theorem e_X6_exchange {Post : Int → Rf → Mem → Prop} {ρ : Rf} {μ : Mem} {o : Nat} (ho : isO 6 o) {x1 : Int} {x2 : Int}
  (h : ∃ P : Int → Rf → Mem → Prop, qE mX6_exchangeIn GG GG [qP (o + 1), qI x1, qI x2] ρ μ P ∧ ∀ (z1 : Int) (ρ2 : Rf) (μ3 : Mem), P z1 ρ2 μ3 → ∃ P : Int → Rf → Mem → Prop, qE mX6_exchangeIn GG GG [qP (o + 2), qI x1, qI x2] ρ2 μ3 P ∧ ∀ (z5 : Int) (ρ6 : Rf) (μ7 : Mem), P z5 ρ6 μ7 → ∃ P : Int → Rf → Mem → Prop, qE mX6_exchangeIn GG GG [qP (o + 3), qI x1, qI x2] ρ6 μ7 P ∧ ∀ (z9 : Int) (ρ10 : Rf) (μ11 : Mem), P z9 ρ10 μ11 → ∃ P : Int → Rf → Mem → Prop, qE mX6_exchangeIn GG GG [qP (o + 4), qI x1, qI x2] ρ10 μ11 P ∧ ∀ (z13 : Int) (ρ14 : Rf) (μ15 : Mem), P z13 ρ14 μ15 → Post 0 ρ14 μ15) : qE mX6_exchange GG GG [qP o, qI x1, qI x2] ρ μ Post := by
  refine qE_intro pl_X6_exchange (Nat.le_of_ble_eq_true rfl) (Nat.le_refl _) ?_
  refine qX_aload_n 0 dX6_exchange_0 rfl rfl (shN ho) ?_
  refine qX_getS 6 0 _ 0 dX6_exchange_1 fs_X6_9 rfl rfl ho rfl ?_
  refine qX_iload_n 1 dX6_exchange_4 rfl rfl ?_
  refine qX_iload_n 2 dX6_exchange_5 rfl rfl ?_
  obtain ⟨P, hE4, h⟩ := h
  refine qN_callS mX6_exchangeIn [_, _, _] [] dX6_exchange_6 cm_X6_50 ⟨(Nat.le_of_ble_eq_true rfl), (Nat.le_of_ble_eq_true rfl)⟩ rfl rfl (Nat.le_of_ble_eq_true rfl) ⟨rfl, rfl⟩ hE4 (fun z1 ρ2 μ3 hz => ?_)
  replace h := h _ _ _ hz
  refine qX_aload_n 0 dX6_exchange_9 rfl rfl (shN ho) ?_
  refine qX_getS 6 1 _ 1 dX6_exchange_10 fs_X6_15 rfl rfl ho rfl ?_
  refine qX_iload_n 1 dX6_exchange_13 rfl rfl ?_
  refine qX_iload_n 2 dX6_exchange_14 rfl rfl ?_
  obtain ⟨P, hE8, h⟩ := h
  refine qN_callS mX6_exchangeIn [_, _, _] [] dX6_exchange_15 cm_X6_50 ⟨(Nat.le_of_ble_eq_true rfl), (Nat.le_of_ble_eq_true rfl)⟩ rfl rfl (Nat.le_of_ble_eq_true rfl) ⟨rfl, rfl⟩ hE8 (fun z5 ρ6 μ7 hz => ?_)
  replace h := h _ _ _ hz
  refine qX_aload_n 0 dX6_exchange_18 rfl rfl (shN ho) ?_
  refine qX_getS 6 2 _ 2 dX6_exchange_19 fs_X6_18 rfl rfl ho rfl ?_
  refine qX_iload_n 1 dX6_exchange_22 rfl rfl ?_
  refine qX_iload_n 2 dX6_exchange_23 rfl rfl ?_
  obtain ⟨P, hE12, h⟩ := h
  refine qN_callS mX6_exchangeIn [_, _, _] [] dX6_exchange_24 cm_X6_50 ⟨(Nat.le_of_ble_eq_true rfl), (Nat.le_of_ble_eq_true rfl)⟩ rfl rfl (Nat.le_of_ble_eq_true rfl) ⟨rfl, rfl⟩ hE12 (fun z9 ρ10 μ11 hz => ?_)
  replace h := h _ _ _ hz
  refine qX_aload_n 0 dX6_exchange_27 rfl rfl (shN ho) ?_
  refine qX_getS 6 3 _ 3 dX6_exchange_28 fs_X6_21 rfl rfl ho rfl ?_
  refine qX_iload_n 1 dX6_exchange_31 rfl rfl ?_
  refine qX_iload_n 2 dX6_exchange_32 rfl rfl ?_
  obtain ⟨P, hE16, h⟩ := h
  refine qN_callS mX6_exchangeIn [_, _, _] [] dX6_exchange_33 cm_X6_50 ⟨(Nat.le_of_ble_eq_true rfl), (Nat.le_of_ble_eq_true rfl)⟩ rfl rfl (Nat.le_of_ble_eq_true rfl) ⟨rfl, rfl⟩ hE16 (fun z13 ρ14 μ15 hz => ?_)
  replace h := h _ _ _ hz
  exact qX_return rfl dX6_exchange_36 rfl ⟨(Nat.le_of_ble_eq_true rfl), (Nat.le_of_ble_eq_true rfl)⟩ h
set_option maxRecDepth 20000 in
theorem e_X6_exchangeIn {Post : Int → Rf → Mem → Prop} {ρ : Rf} {μ : Mem} {x0 nx0 : Nat} (hx0 : GG.2[x0]? = some (10, nx0)) {x1 : Int} {x2 : Int}
  (h : (0 ≤ x1 ∧ x1 < nx0) ∧ (0 ≤ x2 ∧ x2 < nx0) ∧ (0 ≤ x1 ∧ x1 < nx0) ∧ ∀ μ1, μ1 = up2 μ x0 x1 (μ x0 x2) → (0 ≤ x2 ∧ x2 < nx0) ∧ ∀ μ2, μ2 = up2 μ1 x0 x2 (μ x0 x1) → Post 0 ρ μ2) : qE mX6_exchangeIn GG GG [qP x0, qI x1, qI x2] ρ μ Post := by
  refine qE_intro pl_X6_exchangeIn (Nat.le_of_ble_eq_true rfl) (Nat.le_refl _) ?_
  refine qX_aload_n 0 dX6_exchangeIn_0 rfl rfl (shN hx0) ?_
  refine qX_iload_n 1 dX6_exchangeIn_1 rfl rfl ?_
  refine qX_iald dX6_exchangeIn_2 hx0 h.1 ?_
  replace h := h.2
  refine qX_istore_n 3 dX6_exchangeIn_3 rfl (Nat.le_of_ble_eq_true rfl) rfl ?_
  refine qX_aload_n 0 dX6_exchangeIn_4 rfl rfl (shN hx0) ?_
  refine qX_iload_n 1 dX6_exchangeIn_5 rfl rfl ?_
  refine qX_aload_n 0 dX6_exchangeIn_6 rfl rfl (shN hx0) ?_
  refine qX_iload_n 2 dX6_exchangeIn_7 rfl rfl ?_
  refine qX_iald dX6_exchangeIn_8 hx0 h.1 ?_
  replace h := h.2
  refine qX_iast dX6_exchangeIn_9 hx0 h.1 ?_
  replace h := h.2
  replace h := h _ rfl
  refine qX_aload_n 0 dX6_exchangeIn_10 rfl rfl (shN hx0) ?_
  refine qX_iload_n 2 dX6_exchangeIn_11 rfl rfl ?_
  refine qX_iload_n 3 dX6_exchangeIn_12 rfl rfl ?_
  refine qX_iast dX6_exchangeIn_13 hx0 h.1 ?_
  replace h := h.2
  replace h := h _ rfl
  exact qX_return rfl dX6_exchangeIn_14 rfl ⟨(Nat.le_of_ble_eq_true rfl), (Nat.le_of_ble_eq_true rfl)⟩ h
set_option maxRecDepth 20000 in
theorem e_X6_jobsOf {Post : Int → Rf → Mem → Prop} {ρ : Rf} {μ : Mem} {o : Nat} (ho : isO 6 o) {x1 : Int}
  (h : qX mX6_jobsOf GG Post GG (0, 0) 4 [some (qP o), some (qI x1), some (qI 0), some (qI 0)] [] ρ μ) : qE mX6_jobsOf GG GG [qP o, qI x1] ρ μ Post := by
  refine qE_intro pl_X6_jobsOf (Nat.le_of_ble_eq_true rfl) (Nat.le_refl _) ?_
  refine qX_iconst dX6_jobsOf_0 (i32_of rfl) ?_
  refine qX_istore_n 2 dX6_jobsOf_1 rfl (Nat.le_of_ble_eq_true rfl) rfl ?_
  refine qX_iconst dX6_jobsOf_2 (i32_of rfl) ?_
  refine qX_istore_n 3 dX6_jobsOf_3 rfl (Nat.le_of_ble_eq_true rfl) rfl ?_
  exact qX_mask [true, true, true, true] h
set_option maxRecDepth 20000 in
theorem w_X6_jobsOf_4 {Post : Int → Rf → Mem → Prop} {ρ : Rf} {μ : Mem} {o : Nat} (ho : isO 6 o) {x1 : Int} {x2 : Int} {x3 : Int}
  (h : ((μ o 6 ≤ x3 → Post x2 ρ μ) ∧ (x3 < μ o 6 → (0 ≤ x3 ∧ x3 < 20) ∧ ((μ (o + 1) x3 ≠ x1 → i32 (x3 + 1) ∧ qX mX6_jobsOf GG Post GG (0, 0) 4 [some (qP o), some (qI x1), some (qI x2), some (qI (x3 + 1))] [] ρ μ) ∧ (μ (o + 1) x3 = x1 → i32 (x2 + 1) ∧ i32 (x3 + 1) ∧ qX mX6_jobsOf GG Post GG (0, 0) 4 [some (qP o), some (qI x1), some (qI (x2 + 1)), some (qI (x3 + 1))] [] ρ μ))))) : qX mX6_jobsOf GG Post GG (0, 0) 4 [some (qP o), some (qI x1), some (qI x2), some (qI x3)] [] ρ μ := by
  refine qX_iload_n 3 dX6_jobsOf_4 rfl rfl ?_
  refine qX_aload_n 0 dX6_jobsOf_5 rfl rfl (shN ho) ?_
  refine qX_getI 6 6 _ dX6_jobsOf_6 fs_X6_30 ho ?_
  refine qX_icmp_ge 31 dX6_jobsOf_9 rfl (fun hc => ?_) (fun hc => ?_)
  · replace h := h.1 hc
    refine qX_iload_n 2 dX6_jobsOf_31 rfl rfl ?_
    exact qX_ireturn rfl dX6_jobsOf_32 rfl ⟨(Nat.le_of_ble_eq_true rfl), (Nat.le_of_ble_eq_true rfl)⟩ h
  · replace h := h.2 hc
    refine qX_aload_n 0 dX6_jobsOf_12 rfl rfl (shN ho) ?_
    refine qX_getS 6 0 _ 0 dX6_jobsOf_13 fs_X6_9 rfl rfl ho rfl ?_
    refine qX_iload_n 3 dX6_jobsOf_16 rfl rfl ?_
    refine qX_iald dX6_jobsOf_17 (ar6_0 ho) h.1 ?_
    replace h := h.2
    refine qX_iload_n 1 dX6_jobsOf_18 rfl rfl ?_
    refine qX_icmp_ne 25 dX6_jobsOf_19 rfl (fun hc => ?_) (fun hc => ?_)
    · replace h := h.1 hc
      refine qR_iinc dX6_jobsOf_25 rfl (Nat.le_of_ble_eq_true rfl) rfl h.1 ?_
      replace h := h.2
      refine qX_goto 4 dX6_jobsOf_28 rfl ?_
      exact qX_mask [true, true, true, true] h
    · replace h := h.2 hc
      refine qR_iinc dX6_jobsOf_22 rfl (Nat.le_of_ble_eq_true rfl) rfl h.1 ?_
      replace h := h.2
      refine qR_iinc dX6_jobsOf_25 rfl (Nat.le_of_ble_eq_true rfl) rfl h.1 ?_
      replace h := h.2
      refine qX_goto 4 dX6_jobsOf_28 rfl ?_
      exact qX_mask [true, true, true, true] h
set_option maxRecDepth 20000 in
theorem e_X6_jobFrom {Post : Int → Rf → Mem → Prop} {ρ : Rf} {μ : Mem} {o : Nat} (ho : isO 6 o) {x1 : Int} {x2 : Int}
  (h : qX mX6_jobFrom GG Post GG (0, 0) 2 [some (qP o), some (qI x1), none, some (qI x2)] [] ρ μ) : qE mX6_jobFrom GG GG [qP o, qI x1, qI x2] ρ μ Post := by
  refine qE_intro pl_X6_jobFrom (Nat.le_of_ble_eq_true rfl) (Nat.le_refl _) ?_
  refine qX_iload_n 2 dX6_jobFrom_0 rfl rfl ?_
  refine qX_istore_n 3 dX6_jobFrom_1 rfl (Nat.le_of_ble_eq_true rfl) rfl ?_
  exact qX_mask [true, true, false, true] h
set_option maxRecDepth 20000 in
theorem w_X6_jobFrom_2 {Post : Int → Rf → Mem → Prop} {ρ : Rf} {μ : Mem} {o : Nat} (ho : isO 6 o) {x1 : Int} {x3 : Int}
  (h : ((μ o 6 ≤ x3 → Post (-1) ρ μ) ∧ (x3 < μ o 6 → (0 ≤ x3 ∧ x3 < 20) ∧ ((μ (o + 1) x3 ≠ x1 → i32 (x3 + 1) ∧ qX mX6_jobFrom GG Post GG (0, 0) 2 [some (qP o), some (qI x1), none, some (qI (x3 + 1))] [] ρ μ) ∧ (μ (o + 1) x3 = x1 → Post x3 ρ μ))))) : qX mX6_jobFrom GG Post GG (0, 0) 2 [some (qP o), some (qI x1), none, some (qI x3)] [] ρ μ := by
  refine qX_iload_n 3 dX6_jobFrom_2 rfl rfl ?_
  refine qX_aload_n 0 dX6_jobFrom_3 rfl rfl (shN ho) ?_
  refine qX_getI 6 6 _ dX6_jobFrom_4 fs_X6_30 ho ?_
  refine qX_icmp_ge 28 dX6_jobFrom_7 rfl (fun hc => ?_) (fun hc => ?_)
  · replace h := h.1 hc
    refine qX_iconst dX6_jobFrom_28 (i32_of rfl) ?_
    exact qX_ireturn rfl dX6_jobFrom_29 rfl ⟨(Nat.le_of_ble_eq_true rfl), (Nat.le_of_ble_eq_true rfl)⟩ h
  · replace h := h.2 hc
    refine qX_aload_n 0 dX6_jobFrom_10 rfl rfl (shN ho) ?_
    refine qX_getS 6 0 _ 0 dX6_jobFrom_11 fs_X6_9 rfl rfl ho rfl ?_
    refine qX_iload_n 3 dX6_jobFrom_14 rfl rfl ?_
    refine qX_iald dX6_jobFrom_15 (ar6_0 ho) h.1 ?_
    replace h := h.2
    refine qX_iload_n 1 dX6_jobFrom_16 rfl rfl ?_
    refine qX_icmp_ne 22 dX6_jobFrom_17 rfl (fun hc => ?_) (fun hc => ?_)
    · replace h := h.1 hc
      refine qR_iinc dX6_jobFrom_22 rfl (Nat.le_of_ble_eq_true rfl) rfl h.1 ?_
      replace h := h.2
      refine qX_goto 2 dX6_jobFrom_25 rfl ?_
      exact qX_mask [true, true, false, true] h
    · replace h := h.2 hc
      refine qX_iload_n 3 dX6_jobFrom_20 rfl rfl ?_
      exact qX_ireturn rfl dX6_jobFrom_21 rfl ⟨(Nat.le_of_ble_eq_true rfl), (Nat.le_of_ble_eq_true rfl)⟩ h
set_option maxRecDepth 20000 in
theorem e_X7_append {Post : Int → Rf → Mem → Prop} {ρ : Rf} {μ : Mem} {x1 : Int} {x2 : Int} {x3 : Int} {x4 : Int} {x5 : Int}
  (h : i32 ((μ 1 2) + 20) ∧ (((μ 1 2) + 20 ≤ 900 → ∃ P : Int → Rf → Mem → Prop, qE mX2_putFour GG GG [qP 1, qI x1] ρ μ P ∧ ∀ (z1 : Int) (ρ2 : Rf) (μ3 : Mem), P z1 ρ2 μ3 → ∃ P : Int → Rf → Mem → Prop, qE mX2_putFour GG GG [qP 1, qI x2] ρ2 μ3 P ∧ ∀ (z5 : Int) (ρ6 : Rf) (μ7 : Mem), P z5 ρ6 μ7 → ∃ P : Int → Rf → Mem → Prop, qE mX2_putFour GG GG [qP 1, qI x3] ρ6 μ7 P ∧ ∀ (z9 : Int) (ρ10 : Rf) (μ11 : Mem), P z9 ρ10 μ11 → ∃ P : Int → Rf → Mem → Prop, qE mX2_putFour GG GG [qP 1, qI x4] ρ10 μ11 P ∧ ∀ (z13 : Int) (ρ14 : Rf) (μ15 : Mem), P z13 ρ14 μ15 → ∃ P : Int → Rf → Mem → Prop, qE mX2_putFour GG GG [qP 1, qI x5] ρ14 μ15 P ∧ ∀ (z17 : Int) (ρ18 : Rf) (μ19 : Mem), P z17 ρ18 μ19 → Post (μ19 1 2) ρ18 μ19) ∧ (900 < (μ 1 2) + 20 → Post (-2147483648) ρ μ))) : qE mX7_append GG GG [qP 0, qI x1, qI x2, qI x3, qI x4, qI x5] ρ μ Post := by
  refine qE_intro pl_X7_append (Nat.le_of_ble_eq_true rfl) (Nat.le_refl _) ?_
  refine qX_aload_n 0 dX7_append_0 rfl rfl (by decide) ?_
  refine qX_getS 7 0 _ 0 dX7_append_1 fs_X7_12 rfl rfl sh0 (x := 1) rfl ?_
  refine qX_getI 2 2 _ dX7_append_4 fs_X7_67 sh1 ?_
  refine qX_bip dX7_append_7 rfl ?_
  refine qR_iadd dX7_append_9 h.1 ?_
  replace h := h.2
  refine qX_sip dX7_append_10 rfl ?_
  refine qX_icmp_le 19 dX7_append_13 rfl (fun hc => ?_) (fun hc => ?_)
  · replace h := h.1 hc
    refine qX_aload_n 0 dX7_append_19 rfl rfl (by decide) ?_
    refine qX_getS 7 0 _ 0 dX7_append_20 fs_X7_12 rfl rfl sh0 (x := 1) rfl ?_
    refine qX_iload_n 1 dX7_append_23 rfl rfl ?_
    obtain ⟨P, hE4, h⟩ := h
    refine qN_callV mX2_putFour [_] _ 2 [] dX7_append_24 cm_X7_72 ⟨(Nat.le_of_ble_eq_true rfl), (Nat.le_of_ble_eq_true rfl)⟩ rfl rfl sh1 (Nat.le_of_ble_eq_true rfl) ⟨rfl, rfl⟩ hE4 (fun z1 ρ2 μ3 hz => ?_)
    replace h := h _ _ _ hz
    refine qX_aload_n 0 dX7_append_27 rfl rfl (by decide) ?_
    refine qX_getS 7 0 _ 0 dX7_append_28 fs_X7_12 rfl rfl sh0 (x := 1) rfl ?_
    refine qX_iload_n 2 dX7_append_31 rfl rfl ?_
    obtain ⟨P, hE8, h⟩ := h
    refine qN_callV mX2_putFour [_] _ 2 [] dX7_append_32 cm_X7_72 ⟨(Nat.le_of_ble_eq_true rfl), (Nat.le_of_ble_eq_true rfl)⟩ rfl rfl sh1 (Nat.le_of_ble_eq_true rfl) ⟨rfl, rfl⟩ hE8 (fun z5 ρ6 μ7 hz => ?_)
    replace h := h _ _ _ hz
    refine qX_aload_n 0 dX7_append_35 rfl rfl (by decide) ?_
    refine qX_getS 7 0 _ 0 dX7_append_36 fs_X7_12 rfl rfl sh0 (x := 1) rfl ?_
    refine qX_iload_n 3 dX7_append_39 rfl rfl ?_
    obtain ⟨P, hE12, h⟩ := h
    refine qN_callV mX2_putFour [_] _ 2 [] dX7_append_40 cm_X7_72 ⟨(Nat.le_of_ble_eq_true rfl), (Nat.le_of_ble_eq_true rfl)⟩ rfl rfl sh1 (Nat.le_of_ble_eq_true rfl) ⟨rfl, rfl⟩ hE12 (fun z9 ρ10 μ11 hz => ?_)
    replace h := h _ _ _ hz
    refine qX_aload_n 0 dX7_append_43 rfl rfl (by decide) ?_
    refine qX_getS 7 0 _ 0 dX7_append_44 fs_X7_12 rfl rfl sh0 (x := 1) rfl ?_
    refine qX_iload dX7_append_47 rfl ?_
    obtain ⟨P, hE16, h⟩ := h
    refine qN_callV mX2_putFour [_] _ 2 [] dX7_append_49 cm_X7_72 ⟨(Nat.le_of_ble_eq_true rfl), (Nat.le_of_ble_eq_true rfl)⟩ rfl rfl sh1 (Nat.le_of_ble_eq_true rfl) ⟨rfl, rfl⟩ hE16 (fun z13 ρ14 μ15 hz => ?_)
    replace h := h _ _ _ hz
    refine qX_aload_n 0 dX7_append_52 rfl rfl (by decide) ?_
    refine qX_getS 7 0 _ 0 dX7_append_53 fs_X7_12 rfl rfl sh0 (x := 1) rfl ?_
    refine qX_iload dX7_append_56 rfl ?_
    obtain ⟨P, hE20, h⟩ := h
    refine qN_callV mX2_putFour [_] _ 2 [] dX7_append_58 cm_X7_72 ⟨(Nat.le_of_ble_eq_true rfl), (Nat.le_of_ble_eq_true rfl)⟩ rfl rfl sh1 (Nat.le_of_ble_eq_true rfl) ⟨rfl, rfl⟩ hE20 (fun z17 ρ18 μ19 hz => ?_)
    replace h := h _ _ _ hz
    refine qX_aload_n 0 dX7_append_61 rfl rfl (by decide) ?_
    refine qX_getS 7 0 _ 0 dX7_append_62 fs_X7_12 rfl rfl sh0 (x := 1) rfl ?_
    refine qX_getI 2 2 _ dX7_append_65 fs_X7_67 sh1 ?_
    exact qX_ireturn rfl dX7_append_68 rfl ⟨(Nat.le_of_ble_eq_true rfl), (Nat.le_of_ble_eq_true rfl)⟩ h
  · replace h := h.2 hc
    refine qX_ldc (n := (-2147483648)) dX7_append_16 kK_X7_71 (i32_of rfl) ?_
    exact qX_ireturn rfl dX7_append_18 rfl ⟨(Nat.le_of_ble_eq_true rfl), (Nat.le_of_ble_eq_true rfl)⟩ h
