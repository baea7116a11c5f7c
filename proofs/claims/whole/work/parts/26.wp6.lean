/-! ===== conditions of the methods, from cut to cut (generated, part 6) ===== -/
set_option maxRecDepth 20000 in
theorem e_X8_layShares {Post : Int → Rf → Mem → Prop} {ρ : Rf} {μ : Mem} {x1 : Int} {x2 : Int}
  (h : ∃ P : Int → Rf → Mem → Prop, qE mX8_deliveredToTrain GG GG [qP 178, qI x1, qI x2] ρ μ P ∧ ∀ (z1 : Int) (ρ2 : Rf) (μ3 : Mem), P z1 ρ2 μ3 → ∃ P : Int → Rf → Mem → Prop, qE mX8_demandOfTrain GG GG [qP 178, qI x1, qI x2] ρ2 μ3 P ∧ ∀ (z5 : Int) (ρ6 : Rf) (μ7 : Mem), P z5 ρ6 μ7 → qX mX8_layShares GG Post GG (0, 0) 21 [some (qP 178), some (qI x1), some (qI x2), some (qI z1), some (qI z5), some (qI z1), some (qI 0), none] [] ρ6 μ7) : qE mX8_layShares GG GG [qP 178, qI x1, qI x2] ρ μ Post := by
  refine qE_intro pl_X8_layShares (Nat.le_of_ble_eq_true rfl) (Nat.le_refl _) ?_
  refine qX_aload_n 0 dX8_layShares_0 rfl rfl (by decide) ?_
  refine qX_iload_n 1 dX8_layShares_1 rfl rfl ?_
  refine qX_iload_n 2 dX8_layShares_2 rfl rfl ?_
  obtain ⟨P, hE4, h⟩ := h
  refine qN_callV mX8_deliveredToTrain [_, _] _ 8 [] dX8_layShares_3 cm_X8_346 ⟨(Nat.le_of_ble_eq_true rfl), (Nat.le_of_ble_eq_true rfl)⟩ rfl rfl sh178 (Nat.le_of_ble_eq_true rfl) ⟨rfl, rfl⟩ hE4 (fun z1 ρ2 μ3 hz => ?_)
  replace h := h _ _ _ hz
  refine qX_istore_n 3 dX8_layShares_6 rfl (Nat.le_of_ble_eq_true rfl) rfl ?_
  refine qX_aload_n 0 dX8_layShares_7 rfl rfl (by decide) ?_
  refine qX_iload_n 1 dX8_layShares_8 rfl rfl ?_
  refine qX_iload_n 2 dX8_layShares_9 rfl rfl ?_
  obtain ⟨P, hE8, h⟩ := h
  refine qN_callV mX8_demandOfTrain [_, _] _ 8 [] dX8_layShares_10 cm_X8_349 ⟨(Nat.le_of_ble_eq_true rfl), (Nat.le_of_ble_eq_true rfl)⟩ rfl rfl sh178 (Nat.le_of_ble_eq_true rfl) ⟨rfl, rfl⟩ hE8 (fun z5 ρ6 μ7 hz => ?_)
  replace h := h _ _ _ hz
  refine qX_istore dX8_layShares_13 (Nat.le_of_ble_eq_true rfl) rfl ?_
  refine qX_iload_n 3 dX8_layShares_15 rfl rfl ?_
  refine qX_istore dX8_layShares_16 (Nat.le_of_ble_eq_true rfl) rfl ?_
  refine qX_iconst dX8_layShares_18 (i32_of rfl) ?_
  refine qX_istore dX8_layShares_19 (Nat.le_of_ble_eq_true rfl) rfl ?_
  exact qX_mask [true, true, true, true, true, true, true, false] h
set_option maxRecDepth 20000 in
theorem w_X8_layShares_21 {Post : Int → Rf → Mem → Prop} {ρ : Rf} {μ : Mem} {x1 : Int} {x2 : Int} {x3 : Int} {x4 : Int} {x5 : Int} {x6 : Int}
  (h : i32 (4 + x1) ∧ (0 ≤ 4 + x1 ∧ 4 + x1 < 188) ∧ ((μ 180 (4 + x1) ≤ x6 → ((x3 < x4 → qX mX8_layShares GG Post GG (0, 0) 118 [some (qP 178), some (qI x1), none, none, none, some (qI x5), none, none] [] ρ μ) ∧ (x4 ≤ x3 → Post 0 ρ μ))) ∧ (x6 < μ 180 (4 + x1) → ∃ P : Int → Rf → Mem → Prop, qE mX8_demandOf GG GG [qP 178, qI x1, qI x6, qI x2] ρ μ P ∧ ∀ (z1 : Int) (ρ2 : Rf) (μ3 : Mem), P z1 ρ2 μ3 → ((x3 < x4 → i32 (x3 * z1) ∧ (0 ≤ x3 * z1 ∧ 0 < x4) ∧ qX mX8_layShares GG Post GG (0, 0) 68 [some (qP 178), some (qI x1), some (qI x2), some (qI x3), some (qI x4), some (qI x5), some (qI x6), some (qI z1)] [qI ((x3 * z1) / x4), qI x6, qP 203] ρ2 μ3) ∧ (x4 ≤ x3 → qX mX8_layShares GG Post GG (0, 0) 68 [some (qP 178), some (qI x1), some (qI x2), some (qI x3), some (qI x4), some (qI x5), some (qI x6), some (qI z1)] [qI z1, qI x6, qP 203] ρ2 μ3))))) : qX mX8_layShares GG Post GG (0, 0) 21 [some (qP 178), some (qI x1), some (qI x2), some (qI x3), some (qI x4), some (qI x5), some (qI x6), none] [] ρ μ := by
  refine qX_iload dX8_layShares_21 rfl ?_
  refine qX_aload_n 0 dX8_layShares_23 rfl rfl (by decide) ?_
  refine qX_getS 8 12 _ 1 dX8_layShares_24 fs_X8_17 rfl rfl sh178 (x := 180) rfl ?_
  refine qX_iconst dX8_layShares_27 (i32_of rfl) ?_
  refine qX_iload_n 1 dX8_layShares_28 rfl rfl ?_
  refine qR_iadd dX8_layShares_29 h.1 ?_
  replace h := h.2
  refine qX_iald dX8_layShares_30 sh180 h.1 ?_
  replace h := h.2
  refine qX_icmp_ge 111 dX8_layShares_31 rfl (fun hc => ?_) (fun hc => ?_)
  · replace h := h.1 hc
    refine qX_iload_n 3 dX8_layShares_111 rfl rfl ?_
    refine qX_iload dX8_layShares_112 rfl ?_
    refine qX_icmp_lt 118 dX8_layShares_114 rfl (fun hc => ?_) (fun hc => ?_)
    · replace h := h.1 hc
      exact qX_mask [true, true, false, false, false, true, false, false] h
    · replace h := h.2 hc
      exact qX_return rfl dX8_layShares_117 rfl ⟨Nat.le_refl _, Nat.le_refl _⟩ h
  · replace h := h.2 hc
    refine qX_aload_n 0 dX8_layShares_34 rfl rfl (by decide) ?_
    refine qX_iload_n 1 dX8_layShares_35 rfl rfl ?_
    refine qX_iload dX8_layShares_36 rfl ?_
    refine qX_iload_n 2 dX8_layShares_38 rfl rfl ?_
    obtain ⟨P, hE4, h⟩ := h
    refine qN_callV mX8_demandOf [_, _, _] _ 8 [] dX8_layShares_39 cm_X8_263 ⟨(Nat.le_of_ble_eq_true rfl), (Nat.le_of_ble_eq_true rfl)⟩ rfl rfl sh178 (Nat.le_of_ble_eq_true rfl) ⟨rfl, rfl⟩ hE4 (fun z1 ρ2 μ3 hz => ?_)
    replace h := h _ _ _ hz
    refine qX_istore dX8_layShares_42 (Nat.le_of_ble_eq_true rfl) rfl ?_
    refine qX_aload_n 0 dX8_layShares_44 rfl rfl (by decide) ?_
    refine qX_getS 8 40 _ 24 dX8_layShares_45 fs_X8_88 rfl rfl sh178 (x := 203) rfl ?_
    refine qX_iload dX8_layShares_48 rfl ?_
    refine qX_iload_n 3 dX8_layShares_50 rfl rfl ?_
    refine qX_iload dX8_layShares_51 rfl ?_
    refine qX_icmp_lt 61 dX8_layShares_53 rfl (fun hc => ?_) (fun hc => ?_)
    · replace h := h.1 hc
      refine qX_iload_n 3 dX8_layShares_61 rfl rfl ?_
      refine qX_iload dX8_layShares_62 rfl ?_
      refine qR_imul dX8_layShares_64 h.1 ?_
      replace h := h.2
      refine qX_iload dX8_layShares_65 rfl ?_
      refine qR_idiv dX8_layShares_67 h.1 ?_
      replace h := h.2
      exact qX_mask [true, true, true, true, true, true, true, true] h
    · replace h := h.2 hc
      refine qX_iload dX8_layShares_56 rfl ?_
      refine qX_goto 68 dX8_layShares_58 rfl ?_
      exact qX_mask [true, true, true, true, true, true, true, true] h
set_option maxRecDepth 20000 in
theorem w_X8_layShares_118 {Post : Int → Rf → Mem → Prop} {ρ : Rf} {μ : Mem} {x1 : Int} {x5 : Int}
  (h : ((x5 ≤ 0 → Post 0 ρ μ) ∧ (0 < x5 → qX mX8_layShares GG Post GG (0, 0) 129 [some (qP 178), some (qI x1), none, none, none, some (qI x5), some (qI 0), some (qI 1)] [] ρ μ))) : qX mX8_layShares GG Post GG (0, 0) 118 [some (qP 178), some (qI x1), none, none, none, some (qI x5), none, none] [] ρ μ := by
  refine qX_iload dX8_layShares_118 rfl ?_
  refine qX_if_le 199 dX8_layShares_120 rfl (fun hc => ?_) (fun hc => ?_)
  · replace h := h.1 hc
    exact qX_return rfl dX8_layShares_199 rfl ⟨Nat.le_refl _, Nat.le_refl _⟩ h
  · replace h := h.2 hc
    refine qX_iconst dX8_layShares_123 (i32_of rfl) ?_
    refine qX_istore dX8_layShares_124 (Nat.le_of_ble_eq_true rfl) rfl ?_
    refine qX_iconst dX8_layShares_126 (i32_of rfl) ?_
    refine qX_istore dX8_layShares_127 (Nat.le_of_ble_eq_true rfl) rfl ?_
    exact qX_mask [true, true, false, false, false, true, true, true] h
set_option maxRecDepth 20000 in
theorem w_X8_layShares_68 {Post : Int → Rf → Mem → Prop} {ρ : Rf} {μ : Mem} {s1 : Int} {s2 : Int} {x1 : Int} {x2 : Int} {x3 : Int} {x4 : Int} {x5 : Int} {x6 : Int} {x7 : Int}
  (h : (0 ≤ s1 ∧ s1 < 5) ∧ ∀ μ1, μ1 = up2 μ 203 s1 s2 → ((x3 < x4 → i32 (x3 * x7) ∧ (0 ≤ x3 * x7 ∧ 0 < x4) ∧ qX mX8_layShares GG Post GG (0, 0) 92 [some (qP 178), some (qI x1), some (qI x2), some (qI x3), some (qI x4), some (qI x5), some (qI x6), none] [qI ((x3 * x7) % x4), qI x6, qP 204] ρ μ1) ∧ (x4 ≤ x3 → qX mX8_layShares GG Post GG (0, 0) 92 [some (qP 178), some (qI x1), some (qI x2), some (qI x3), some (qI x4), some (qI x5), some (qI x6), none] [qI 0, qI x6, qP 204] ρ μ1))) : qX mX8_layShares GG Post GG (0, 0) 68 [some (qP 178), some (qI x1), some (qI x2), some (qI x3), some (qI x4), some (qI x5), some (qI x6), some (qI x7)] [qI s2, qI s1, qP 203] ρ μ := by
  refine qX_iast dX8_layShares_68 sh203 h.1 ?_
  replace h := h.2
  replace h := h _ rfl
  refine qX_aload_n 0 dX8_layShares_69 rfl rfl (by decide) ?_
  refine qX_getS 8 41 _ 25 dX8_layShares_70 fs_X8_91 rfl rfl sh178 (x := 204) rfl ?_
  refine qX_iload dX8_layShares_73 rfl ?_
  refine qX_iload_n 3 dX8_layShares_75 rfl rfl ?_
  refine qX_iload dX8_layShares_76 rfl ?_
  refine qX_icmp_lt 85 dX8_layShares_78 rfl (fun hc => ?_) (fun hc => ?_)
  · replace h := h.1 hc
    refine qX_iload_n 3 dX8_layShares_85 rfl rfl ?_
    refine qX_iload dX8_layShares_86 rfl ?_
    refine qR_imul dX8_layShares_88 h.1 ?_
    replace h := h.2
    refine qX_iload dX8_layShares_89 rfl ?_
    refine qR_irem dX8_layShares_91 h.1 ?_
    replace h := h.2
    exact qX_mask [true, true, true, true, true, true, true, false] h
  · replace h := h.2 hc
    refine qX_iconst dX8_layShares_81 (i32_of rfl) ?_
    refine qX_goto 92 dX8_layShares_82 rfl ?_
    exact qX_mask [true, true, true, true, true, true, true, false] h
set_option maxRecDepth 20000 in
theorem w_X8_layShares_129 {Post : Int → Rf → Mem → Prop} {ρ : Rf} {μ : Mem} {x1 : Int} {x5 : Int} {x6 : Int} {x7 : Int}
  (h : i32 (4 + x1) ∧ (0 ≤ 4 + x1 ∧ 4 + x1 < 188) ∧ ((μ 180 (4 + x1) ≤ x7 → (0 ≤ x6 ∧ x6 < 5) ∧ i32 ((μ 203 x6) + 1) ∧ (0 ≤ x6 ∧ x6 < 5) ∧ ∀ μ1, μ1 = up2 μ 203 x6 ((μ 203 x6) + 1) → (0 ≤ x6 ∧ x6 < 5) ∧ ∀ μ2, μ2 = up2 μ1 204 x6 (-1) → i32 (x5 + (-1)) ∧ qX mX8_layShares GG Post GG (0, 0) 118 [some (qP 178), some (qI x1), none, none, none, some (qI (x5 + (-1))), none, none] [] ρ μ2) ∧ (x7 < μ 180 (4 + x1) → (0 ≤ x7 ∧ x7 < 5) ∧ (0 ≤ x6 ∧ x6 < 5) ∧ ((μ 204 x7 ≤ μ 204 x6 → qX mX8_layShares GG Post GG (0, 0) 166 [some (qP 178), some (qI x1), none, none, none, some (qI x5), none, some (qI x7)] [qI x6] ρ μ) ∧ (μ 204 x6 < μ 204 x7 → qX mX8_layShares GG Post GG (0, 0) 166 [some (qP 178), some (qI x1), none, none, none, some (qI x5), none, some (qI x7)] [qI x7] ρ μ))))) : qX mX8_layShares GG Post GG (0, 0) 129 [some (qP 178), some (qI x1), none, none, none, some (qI x5), some (qI x6), some (qI x7)] [] ρ μ := by
  refine qX_iload dX8_layShares_129 rfl ?_
  refine qX_aload_n 0 dX8_layShares_131 rfl rfl (by decide) ?_
  refine qX_getS 8 12 _ 1 dX8_layShares_132 fs_X8_17 rfl rfl sh178 (x := 180) rfl ?_
  refine qX_iconst dX8_layShares_135 (i32_of rfl) ?_
  refine qX_iload_n 1 dX8_layShares_136 rfl rfl ?_
  refine qR_iadd dX8_layShares_137 h.1 ?_
  replace h := h.2
  refine qX_iald dX8_layShares_138 sh180 h.1 ?_
  replace h := h.2
  refine qX_icmp_ge 174 dX8_layShares_139 rfl (fun hc => ?_) (fun hc => ?_)
  · replace h := h.1 hc
    refine qX_aload_n 0 dX8_layShares_174 rfl rfl (by decide) ?_
    refine qX_getS 8 40 _ 24 dX8_layShares_175 fs_X8_88 rfl rfl sh178 (x := 203) rfl ?_
    refine qX_iload dX8_layShares_178 rfl ?_
    refine qX_dup2 dX8_layShares_180 rfl rfl ?_
    refine qX_iald dX8_layShares_181 sh203 h.1 ?_
    replace h := h.2
    refine qX_iconst dX8_layShares_182 (i32_of rfl) ?_
    refine qR_iadd dX8_layShares_183 h.1 ?_
    replace h := h.2
    refine qX_iast dX8_layShares_184 sh203 h.1 ?_
    replace h := h.2
    replace h := h _ rfl
    refine qX_aload_n 0 dX8_layShares_185 rfl rfl (by decide) ?_
    refine qX_getS 8 41 _ 25 dX8_layShares_186 fs_X8_91 rfl rfl sh178 (x := 204) rfl ?_
    refine qX_iload dX8_layShares_189 rfl ?_
    refine qX_iconst dX8_layShares_191 (i32_of rfl) ?_
    refine qX_iast dX8_layShares_192 sh204 h.1 ?_
    replace h := h.2
    replace h := h _ rfl
    refine qR_iinc dX8_layShares_193 rfl (Nat.le_of_ble_eq_true rfl) rfl h.1 ?_
    replace h := h.2
    refine qX_goto 118 dX8_layShares_196 rfl ?_
    exact qX_mask [true, true, false, false, false, true, false, false] h
  · replace h := h.2 hc
    refine qX_aload_n 0 dX8_layShares_142 rfl rfl (by decide) ?_
    refine qX_getS 8 41 _ 25 dX8_layShares_143 fs_X8_91 rfl rfl sh178 (x := 204) rfl ?_
    refine qX_iload dX8_layShares_146 rfl ?_
    refine qX_iald dX8_layShares_148 sh204 h.1 ?_
    replace h := h.2
    refine qX_aload_n 0 dX8_layShares_149 rfl rfl (by decide) ?_
    refine qX_getS 8 41 _ 25 dX8_layShares_150 fs_X8_91 rfl rfl sh178 (x := 204) rfl ?_
    refine qX_iload dX8_layShares_153 rfl ?_
    refine qX_iald dX8_layShares_155 sh204 h.1 ?_
    replace h := h.2
    refine qX_icmp_le 164 dX8_layShares_156 rfl (fun hc => ?_) (fun hc => ?_)
    · replace h := h.1 hc
      refine qX_iload dX8_layShares_164 rfl ?_
      exact qX_mask [true, true, false, false, false, true, false, true] h
    · replace h := h.2 hc
      refine qX_iload dX8_layShares_159 rfl ?_
      refine qX_goto 166 dX8_layShares_161 rfl ?_
      exact qX_mask [true, true, false, false, false, true, false, true] h
set_option maxRecDepth 20000 in
theorem w_X8_layShares_92 {Post : Int → Rf → Mem → Prop} {ρ : Rf} {μ : Mem} {s1 : Int} {s2 : Int} {x1 : Int} {x2 : Int} {x3 : Int} {x4 : Int} {x5 : Int} {x6 : Int}
  (h : (0 ≤ s1 ∧ s1 < 5) ∧ ∀ μ1, μ1 = up2 μ 204 s1 s2 → (0 ≤ x6 ∧ x6 < 5) ∧ i32 (x5 - (μ1 203 x6)) ∧ i32 (x6 + 1) ∧ qX mX8_layShares GG Post GG (0, 0) 21 [some (qP 178), some (qI x1), some (qI x2), some (qI x3), some (qI x4), some (qI (x5 - (μ1 203 x6))), some (qI (x6 + 1)), none] [] ρ μ1) : qX mX8_layShares GG Post GG (0, 0) 92 [some (qP 178), some (qI x1), some (qI x2), some (qI x3), some (qI x4), some (qI x5), some (qI x6), none] [qI s2, qI s1, qP 204] ρ μ := by
  refine qX_iast dX8_layShares_92 sh204 h.1 ?_
  replace h := h.2
  replace h := h _ rfl
  refine qX_iload dX8_layShares_93 rfl ?_
  refine qX_aload_n 0 dX8_layShares_95 rfl rfl (by decide) ?_
  refine qX_getS 8 40 _ 24 dX8_layShares_96 fs_X8_88 rfl rfl sh178 (x := 203) rfl ?_
  refine qX_iload dX8_layShares_99 rfl ?_
  refine qX_iald dX8_layShares_101 sh203 h.1 ?_
  replace h := h.2
  refine qR_isub dX8_layShares_102 h.1 ?_
  replace h := h.2
  refine qX_istore dX8_layShares_103 (Nat.le_of_ble_eq_true rfl) rfl ?_
  refine qR_iinc dX8_layShares_105 rfl (Nat.le_of_ble_eq_true rfl) rfl h.1 ?_
  replace h := h.2
  refine qX_goto 21 dX8_layShares_108 rfl ?_
  exact qX_mask [true, true, true, true, true, true, true, false] h
set_option maxRecDepth 20000 in
theorem w_X8_layShares_166 {Post : Int → Rf → Mem → Prop} {ρ : Rf} {μ : Mem} {s0 : Int} {x1 : Int} {x5 : Int} {x7 : Int}
  (h : i32 (x7 + 1) ∧ qX mX8_layShares GG Post GG (0, 0) 129 [some (qP 178), some (qI x1), none, none, none, some (qI x5), some (qI s0), some (qI (x7 + 1))] [] ρ μ) : qX mX8_layShares GG Post GG (0, 0) 166 [some (qP 178), some (qI x1), none, none, none, some (qI x5), none, some (qI x7)] [qI s0] ρ μ := by
  refine qX_istore dX8_layShares_166 (Nat.le_of_ble_eq_true rfl) rfl ?_
  refine qR_iinc dX8_layShares_168 rfl (Nat.le_of_ble_eq_true rfl) rfl h.1 ?_
  replace h := h.2
  refine qX_goto 129 dX8_layShares_171 rfl ?_
  exact qX_mask [true, true, false, false, false, true, true, true] h
set_option maxRecDepth 20000 in
theorem e_X8_share {Post : Int → Rf → Mem → Prop} {ρ : Rf} {μ : Mem} {x1 : Int} {x2 : Int} {x3 : Int}
  (h : ∃ P : Int → Rf → Mem → Prop, qE mX8_isCar GG GG [qP 178, qI x1, qI x2] ρ μ P ∧ ∀ (z1 : Int) (ρ2 : Rf) (μ3 : Mem), P z1 ρ2 μ3 → ((z1 = 0 → qX mX8_share GG Post GG (0, 0) 22 [some (qP 178), some (qI x1), some (qI x2), some (qI x3)] [qP 178] ρ2 μ3) ∧ (z1 ≠ 0 → ∃ P : Int → Rf → Mem → Prop, qE mX8_isMeal GG GG [qP 178, qI x3] ρ2 μ3 P ∧ ∀ (z5 : Int) (ρ6 : Rf) (μ7 : Mem), P z5 ρ6 μ7 → ((z5 = 0 → qX mX8_share GG Post GG (0, 0) 22 [some (qP 178), some (qI x1), some (qI x2), some (qI x3)] [qP 178] ρ6 μ7) ∧ (z5 ≠ 0 → qX mX8_share GG Post GG (0, 0) 23 [some (qP 178), some (qI x1), some (qI x2), some (qI x3)] [qI 1, qP 178] ρ6 μ7))))) : qE mX8_share GG GG [qP 178, qI x1, qI x2, qI x3] ρ μ Post := by
  refine qE_intro pl_X8_share (Nat.le_of_ble_eq_true rfl) (Nat.le_refl _) ?_
  refine qX_aload_n 0 dX8_share_0 rfl rfl (by decide) ?_
  refine qX_aload_n 0 dX8_share_1 rfl rfl (by decide) ?_
  refine qX_iload_n 1 dX8_share_2 rfl rfl ?_
  refine qX_iload_n 2 dX8_share_3 rfl rfl ?_
  obtain ⟨P, hE4, h⟩ := h
  refine qN_callV mX8_isCar [_, _] _ 8 [_] dX8_share_4 cm_X8_267 ⟨(Nat.le_of_ble_eq_true rfl), (Nat.le_of_ble_eq_true rfl)⟩ rfl rfl sh178 (Nat.le_of_ble_eq_true rfl) ⟨rfl, rfl⟩ hE4 (fun z1 ρ2 μ3 hz => ?_)
  replace h := h _ _ _ hz
  refine qX_if_eq 22 dX8_share_7 rfl (fun hc => ?_) (fun hc => ?_)
  · replace h := h.1 hc
    exact qX_mask [true, true, true, true] h
  · replace h := h.2 hc
    refine qX_aload_n 0 dX8_share_10 rfl rfl (by decide) ?_
    refine qX_iload_n 3 dX8_share_11 rfl rfl ?_
    obtain ⟨P, hE8, h⟩ := h
    refine qN_callV mX8_isMeal [_] _ 8 [_] dX8_share_12 cm_X8_260 ⟨(Nat.le_of_ble_eq_true rfl), (Nat.le_of_ble_eq_true rfl)⟩ rfl rfl sh178 (Nat.le_of_ble_eq_true rfl) ⟨rfl, rfl⟩ hE8 (fun z5 ρ6 μ7 hz => ?_)
    replace h := h _ _ _ hz
    refine qX_if_eq 22 dX8_share_15 rfl (fun hc => ?_) (fun hc => ?_)
    · replace h := h.1 hc
      exact qX_mask [true, true, true, true] h
    · replace h := h.2 hc
      refine qX_iconst dX8_share_18 (i32_of rfl) ?_
      refine qX_goto 23 dX8_share_19 rfl ?_
      exact qX_mask [true, true, true, true] h
set_option maxRecDepth 20000 in
theorem w_X8_share_22 {Post : Int → Rf → Mem → Prop} {ρ : Rf} {μ : Mem} {x1 : Int} {x2 : Int} {x3 : Int}
  (h : qX mX8_share GG Post GG (0, 0) 23 [some (qP 178), some (qI x1), some (qI x2), some (qI x3)] [qI 0, qP 178] ρ μ) : qX mX8_share GG Post GG (0, 0) 22 [some (qP 178), some (qI x1), some (qI x2), some (qI x3)] [qP 178] ρ μ := by
  refine qX_iconst dX8_share_22 (i32_of rfl) ?_
  exact qX_mask [true, true, true, true] h
set_option maxRecDepth 20000 in
theorem w_X8_share_23 {Post : Int → Rf → Mem → Prop} {ρ : Rf} {μ : Mem} {s1 : Int} {x1 : Int} {x2 : Int} {x3 : Int}
  (h : ∃ P : Int → Rf → Mem → Prop, qE mX8_goesFor GG GG [qP 178, qI s1] ρ μ P ∧ ∀ (z1 : Int) (ρ2 : Rf) (μ3 : Mem), P z1 ρ2 μ3 → ((z1 ≠ 0 → ∃ P : Int → Rf → Mem → Prop, qE mX8_layShares GG GG [qP 178, qI x1, qI x3] ρ2 μ3 P ∧ ∀ (z5 : Int) (ρ6 : Rf) (μ7 : Mem), P z5 ρ6 μ7 → (0 ≤ x2 ∧ x2 < 5) ∧ ∃ P : Int → Rf → Mem → Prop, qE mX8_done GG GG [qP 178, qI (μ7 203 x2)] ρ6 μ7 P ∧ ∀ (z9 : Int) (ρ10 : Rf) (μ11 : Mem), P z9 ρ10 μ11 → Post z9 ρ10 μ11) ∧ (z1 = 0 → ∃ P : Int → Rf → Mem → Prop, qE mX8_failed GG GG [qP 178, qI 1] ρ2 μ3 P ∧ ∀ (z13 : Int) (ρ14 : Rf) (μ15 : Mem), P z13 ρ14 μ15 → Post z13 ρ14 μ15))) : qX mX8_share GG Post GG (0, 0) 23 [some (qP 178), some (qI x1), some (qI x2), some (qI x3)] [qI s1, qP 178] ρ μ := by
  obtain ⟨P, hE4, h⟩ := h
  refine qN_callV mX8_goesFor [_] _ 8 [] dX8_share_23 cm_X8_320 ⟨(Nat.le_of_ble_eq_true rfl), (Nat.le_of_ble_eq_true rfl)⟩ rfl rfl sh178 (Nat.le_of_ble_eq_true rfl) ⟨rfl, rfl⟩ hE4 (fun z1 ρ2 μ3 hz => ?_)
  replace h := h _ _ _ hz
  refine qX_if_ne 35 dX8_share_26 rfl (fun hc => ?_) (fun hc => ?_)
  · replace h := h.1 hc
    refine qX_aload_n 0 dX8_share_35 rfl rfl (by decide) ?_
    refine qX_iload_n 1 dX8_share_36 rfl rfl ?_
    refine qX_iload_n 3 dX8_share_37 rfl rfl ?_
    obtain ⟨P, hE8, h⟩ := h
    refine qN_callV mX8_layShares [_, _] _ 8 [] dX8_share_38 cm_X8_355 ⟨(Nat.le_of_ble_eq_true rfl), (Nat.le_of_ble_eq_true rfl)⟩ rfl rfl sh178 (Nat.le_of_ble_eq_true rfl) ⟨rfl, rfl⟩ hE8 (fun z5 ρ6 μ7 hz => ?_)
    replace h := h _ _ _ hz
    refine qX_aload_n 0 dX8_share_41 rfl rfl (by decide) ?_
    refine qX_aload_n 0 dX8_share_42 rfl rfl (by decide) ?_
    refine qX_getS 8 40 _ 24 dX8_share_43 fs_X8_88 rfl rfl sh178 (x := 203) rfl ?_
    refine qX_iload_n 2 dX8_share_46 rfl rfl ?_
    refine qX_iald dX8_share_47 sh203 h.1 ?_
    replace h := h.2
    obtain ⟨P, hE12, h⟩ := h
    refine qN_callV mX8_done [_] _ 8 [] dX8_share_48 cm_X8_246 ⟨(Nat.le_of_ble_eq_true rfl), (Nat.le_of_ble_eq_true rfl)⟩ rfl rfl sh178 (Nat.le_of_ble_eq_true rfl) ⟨rfl, rfl⟩ hE12 (fun z9 ρ10 μ11 hz => ?_)
    replace h := h _ _ _ hz
    exact qX_ireturn rfl dX8_share_51 rfl ⟨Nat.le_refl _, Nat.le_refl _⟩ h
  · replace h := h.2 hc
    refine qX_aload_n 0 dX8_share_29 rfl rfl (by decide) ?_
    refine qX_iconst dX8_share_30 (i32_of rfl) ?_
    obtain ⟨P, hE16, h⟩ := h
    refine qN_callV mX8_failed [_] _ 8 [] dX8_share_31 cm_X8_226 ⟨(Nat.le_of_ble_eq_true rfl), (Nat.le_of_ble_eq_true rfl)⟩ rfl rfl sh178 (Nat.le_of_ble_eq_true rfl) ⟨rfl, rfl⟩ hE16 (fun z13 ρ14 μ15 hz => ?_)
    replace h := h _ _ _ hz
    exact qX_ireturn rfl dX8_share_34 rfl ⟨Nat.le_refl _, Nat.le_refl _⟩ h
set_option maxRecDepth 20000 in
theorem e_X8_carried {Post : Int → Rf → Mem → Prop} {ρ : Rf} {μ : Mem} {x1 : Int} {x2 : Int}
  (h : ∃ P : Int → Rf → Mem → Prop, qE mX8_isTrainNow GG GG [qP 178, qI x1] ρ μ P ∧ ∀ (z1 : Int) (ρ2 : Rf) (μ3 : Mem), P z1 ρ2 μ3 → ((z1 = 0 → qX mX8_carried GG Post GG (0, 0) 21 [some (qP 178), some (qI x1), some (qI x2), none, none] [qP 178] ρ2 μ3) ∧ (z1 ≠ 0 → ∃ P : Int → Rf → Mem → Prop, qE mX8_isMeal GG GG [qP 178, qI x2] ρ2 μ3 P ∧ ∀ (z5 : Int) (ρ6 : Rf) (μ7 : Mem), P z5 ρ6 μ7 → ((z5 = 0 → qX mX8_carried GG Post GG (0, 0) 21 [some (qP 178), some (qI x1), some (qI x2), none, none] [qP 178] ρ6 μ7) ∧ (z5 ≠ 0 → qX mX8_carried GG Post GG (0, 0) 22 [some (qP 178), some (qI x1), some (qI x2), none, none] [qI 1, qP 178] ρ6 μ7))))) : qE mX8_carried GG GG [qP 178, qI x1, qI x2] ρ μ Post := by
  refine qE_intro pl_X8_carried (Nat.le_of_ble_eq_true rfl) (Nat.le_refl _) ?_
  refine qX_aload_n 0 dX8_carried_0 rfl rfl (by decide) ?_
  refine qX_aload_n 0 dX8_carried_1 rfl rfl (by decide) ?_
  refine qX_iload_n 1 dX8_carried_2 rfl rfl ?_
  obtain ⟨P, hE4, h⟩ := h
  refine qN_callV mX8_isTrainNow [_] _ 8 [_] dX8_carried_3 cm_X8_249 ⟨(Nat.le_of_ble_eq_true rfl), (Nat.le_of_ble_eq_true rfl)⟩ rfl rfl sh178 (Nat.le_of_ble_eq_true rfl) ⟨rfl, rfl⟩ hE4 (fun z1 ρ2 μ3 hz => ?_)
  replace h := h _ _ _ hz
  refine qX_if_eq 21 dX8_carried_6 rfl (fun hc => ?_) (fun hc => ?_)
  · replace h := h.1 hc
    exact qX_mask [true, true, true, false, false] h
  · replace h := h.2 hc
    refine qX_aload_n 0 dX8_carried_9 rfl rfl (by decide) ?_
    refine qX_iload_n 2 dX8_carried_10 rfl rfl ?_
    obtain ⟨P, hE8, h⟩ := h
    refine qN_callV mX8_isMeal [_] _ 8 [_] dX8_carried_11 cm_X8_260 ⟨(Nat.le_of_ble_eq_true rfl), (Nat.le_of_ble_eq_true rfl)⟩ rfl rfl sh178 (Nat.le_of_ble_eq_true rfl) ⟨rfl, rfl⟩ hE8 (fun z5 ρ6 μ7 hz => ?_)
    replace h := h _ _ _ hz
    refine qX_if_eq 21 dX8_carried_14 rfl (fun hc => ?_) (fun hc => ?_)
    · replace h := h.1 hc
      exact qX_mask [true, true, true, false, false] h
    · replace h := h.2 hc
      refine qX_iconst dX8_carried_17 (i32_of rfl) ?_
      refine qX_goto 22 dX8_carried_18 rfl ?_
      exact qX_mask [true, true, true, false, false] h
set_option maxRecDepth 20000 in
theorem w_X8_carried_21 {Post : Int → Rf → Mem → Prop} {ρ : Rf} {μ : Mem} {x1 : Int} {x2 : Int}
  (h : qX mX8_carried GG Post GG (0, 0) 22 [some (qP 178), some (qI x1), some (qI x2), none, none] [qI 0, qP 178] ρ μ) : qX mX8_carried GG Post GG (0, 0) 21 [some (qP 178), some (qI x1), some (qI x2), none, none] [qP 178] ρ μ := by
  refine qX_iconst dX8_carried_21 (i32_of rfl) ?_
  exact qX_mask [true, true, true, false, false] h
set_option maxRecDepth 20000 in
theorem w_X8_carried_22 {Post : Int → Rf → Mem → Prop} {ρ : Rf} {μ : Mem} {s1 : Int} {x1 : Int} {x2 : Int}
  (h : ∃ P : Int → Rf → Mem → Prop, qE mX8_goesFor GG GG [qP 178, qI s1] ρ μ P ∧ ∀ (z1 : Int) (ρ2 : Rf) (μ3 : Mem), P z1 ρ2 μ3 → ((z1 ≠ 0 → ∃ P : Int → Rf → Mem → Prop, qE mX8_layShares GG GG [qP 178, qI x1, qI x2] ρ2 μ3 P ∧ ∀ (z5 : Int) (ρ6 : Rf) (μ7 : Mem), P z5 ρ6 μ7 → qX mX8_carried GG Post GG (0, 0) 45 [some (qP 178), some (qI x1), some (qI x2), some (qI 0), some (qI 0)] [] ρ6 μ7) ∧ (z1 = 0 → ∃ P : Int → Rf → Mem → Prop, qE mX8_failed GG GG [qP 178, qI 1] ρ2 μ3 P ∧ ∀ (z9 : Int) (ρ10 : Rf) (μ11 : Mem), P z9 ρ10 μ11 → Post z9 ρ10 μ11))) : qX mX8_carried GG Post GG (0, 0) 22 [some (qP 178), some (qI x1), some (qI x2), none, none] [qI s1, qP 178] ρ μ := by
  obtain ⟨P, hE4, h⟩ := h
  refine qN_callV mX8_goesFor [_] _ 8 [] dX8_carried_22 cm_X8_320 ⟨(Nat.le_of_ble_eq_true rfl), (Nat.le_of_ble_eq_true rfl)⟩ rfl rfl sh178 (Nat.le_of_ble_eq_true rfl) ⟨rfl, rfl⟩ hE4 (fun z1 ρ2 μ3 hz => ?_)
  replace h := h _ _ _ hz
  refine qX_if_ne 34 dX8_carried_25 rfl (fun hc => ?_) (fun hc => ?_)
  · replace h := h.1 hc
    refine qX_aload_n 0 dX8_carried_34 rfl rfl (by decide) ?_
    refine qX_iload_n 1 dX8_carried_35 rfl rfl ?_
    refine qX_iload_n 2 dX8_carried_36 rfl rfl ?_
    obtain ⟨P, hE8, h⟩ := h
    refine qN_callV mX8_layShares [_, _] _ 8 [] dX8_carried_37 cm_X8_355 ⟨(Nat.le_of_ble_eq_true rfl), (Nat.le_of_ble_eq_true rfl)⟩ rfl rfl sh178 (Nat.le_of_ble_eq_true rfl) ⟨rfl, rfl⟩ hE8 (fun z5 ρ6 μ7 hz => ?_)
    replace h := h _ _ _ hz
    refine qX_iconst dX8_carried_40 (i32_of rfl) ?_
    refine qX_istore_n 3 dX8_carried_41 rfl (Nat.le_of_ble_eq_true rfl) rfl ?_
    refine qX_iconst dX8_carried_42 (i32_of rfl) ?_
    refine qX_istore dX8_carried_43 (Nat.le_of_ble_eq_true rfl) rfl ?_
    exact qX_mask [true, true, true, true, true] h
  · replace h := h.2 hc
    refine qX_aload_n 0 dX8_carried_28 rfl rfl (by decide) ?_
    refine qX_iconst dX8_carried_29 (i32_of rfl) ?_
    obtain ⟨P, hE12, h⟩ := h
    refine qN_callV mX8_failed [_] _ 8 [] dX8_carried_30 cm_X8_226 ⟨(Nat.le_of_ble_eq_true rfl), (Nat.le_of_ble_eq_true rfl)⟩ rfl rfl sh178 (Nat.le_of_ble_eq_true rfl) ⟨rfl, rfl⟩ hE12 (fun z9 ρ10 μ11 hz => ?_)
    replace h := h _ _ _ hz
    exact qX_ireturn rfl dX8_carried_33 rfl ⟨Nat.le_refl _, Nat.le_refl _⟩ h
set_option maxRecDepth 20000 in
theorem w_X8_carried_45 {Post : Int → Rf → Mem → Prop} {ρ : Rf} {μ : Mem} {x1 : Int} {x2 : Int} {x3 : Int} {x4 : Int}
  (h : i32 (4 + x1) ∧ (0 ≤ 4 + x1 ∧ 4 + x1 < 188) ∧ ((μ 180 (4 + x1) ≤ x4 → ∃ P : Int → Rf → Mem → Prop, qE mX8_done GG GG [qP 178, qI x3] ρ μ P ∧ ∀ (z1 : Int) (ρ2 : Rf) (μ3 : Mem), P z1 ρ2 μ3 → Post z1 ρ2 μ3) ∧ (x4 < μ 180 (4 + x1) → (0 ≤ x4 ∧ x4 < 5) ∧ ∃ P : Int → Rf → Mem → Prop, qE mX8_deliveredTo GG GG [qP 178, qI x1, qI x4, qI x2] ρ μ P ∧ ∀ (z5 : Int) (ρ6 : Rf) (μ7 : Mem), P z5 ρ6 μ7 → i32 ((μ 203 x4) - z5) ∧ i32 (x3 + (max 0 ((μ 203 x4) - z5))) ∧ i32 (x4 + 1) ∧ qX mX8_carried GG Post GG (0, 0) 45 [some (qP 178), some (qI x1), some (qI x2), some (qI (x3 + (max 0 ((μ 203 x4) - z5)))), some (qI (x4 + 1))] [] ρ6 μ7))) : qX mX8_carried GG Post GG (0, 0) 45 [some (qP 178), some (qI x1), some (qI x2), some (qI x3), some (qI x4)] [] ρ μ := by
  refine qX_iload dX8_carried_45 rfl ?_
  refine qX_aload_n 0 dX8_carried_47 rfl rfl (by decide) ?_
  refine qX_getS 8 12 _ 1 dX8_carried_48 fs_X8_17 rfl rfl sh178 (x := 180) rfl ?_
  refine qX_iconst dX8_carried_51 (i32_of rfl) ?_
  refine qX_iload_n 1 dX8_carried_52 rfl rfl ?_
  refine qR_iadd dX8_carried_53 h.1 ?_
  replace h := h.2
  refine qX_iald dX8_carried_54 sh180 h.1 ?_
  replace h := h.2
  refine qX_icmp_ge 87 dX8_carried_55 rfl (fun hc => ?_) (fun hc => ?_)
  · replace h := h.1 hc
    refine qX_aload_n 0 dX8_carried_87 rfl rfl (by decide) ?_
    refine qX_iload_n 3 dX8_carried_88 rfl rfl ?_
    obtain ⟨P, hE4, h⟩ := h
    refine qN_callV mX8_done [_] _ 8 [] dX8_carried_89 cm_X8_246 ⟨(Nat.le_of_ble_eq_true rfl), (Nat.le_of_ble_eq_true rfl)⟩ rfl rfl sh178 (Nat.le_of_ble_eq_true rfl) ⟨rfl, rfl⟩ hE4 (fun z1 ρ2 μ3 hz => ?_)
    replace h := h _ _ _ hz
    exact qX_ireturn rfl dX8_carried_92 rfl ⟨Nat.le_refl _, Nat.le_refl _⟩ h
  · replace h := h.2 hc
    refine qX_iload_n 3 dX8_carried_58 rfl rfl ?_
    refine qX_iconst dX8_carried_59 (i32_of rfl) ?_
    refine qX_aload_n 0 dX8_carried_60 rfl rfl (by decide) ?_
    refine qX_getS 8 40 _ 24 dX8_carried_61 fs_X8_88 rfl rfl sh178 (x := 203) rfl ?_
    refine qX_iload dX8_carried_64 rfl ?_
    refine qX_iald dX8_carried_66 sh203 h.1 ?_
    replace h := h.2
    refine qX_aload_n 0 dX8_carried_67 rfl rfl (by decide) ?_
    refine qX_iload_n 1 dX8_carried_68 rfl rfl ?_
    refine qX_iload dX8_carried_69 rfl ?_
    refine qX_iload_n 2 dX8_carried_71 rfl rfl ?_
    obtain ⟨P, hE8, h⟩ := h
    refine qN_callV mX8_deliveredTo [_, _, _] _ 8 [_, _, _] dX8_carried_72 cm_X8_324 ⟨(Nat.le_of_ble_eq_true rfl), (Nat.le_of_ble_eq_true rfl)⟩ rfl rfl sh178 (Nat.le_of_ble_eq_true rfl) ⟨rfl, rfl⟩ hE8 (fun z5 ρ6 μ7 hz => ?_)
    replace h := h _ _ _ hz
    refine qR_isub dX8_carried_75 h.1 ?_
    replace h := h.2
    refine qX_max dX8_carried_76 kM_X8_297 ⟨(Nat.le_of_ble_eq_true rfl), (Nat.le_of_ble_eq_true rfl)⟩ (Nat.le_of_ble_eq_true rfl) ⟨Nat.zero_le _, Nat.zero_le _⟩ ?_
    refine qR_iadd dX8_carried_79 h.1 ?_
    replace h := h.2
    refine qX_istore_n 3 dX8_carried_80 rfl (Nat.le_of_ble_eq_true rfl) rfl ?_
    refine qR_iinc dX8_carried_81 rfl (Nat.le_of_ble_eq_true rfl) rfl h.1 ?_
    replace h := h.2
    refine qX_goto 45 dX8_carried_84 rfl ?_
    exact qX_mask [true, true, true, true, true] h
set_option maxRecDepth 20000 in
theorem e_X8_layCoverage {Post : Int → Rf → Mem → Prop} {ρ : Rf} {μ : Mem} {x1 : Int} {x2 : Int}
  (h : ∃ P : Int → Rf → Mem → Prop, qE mX8_demandOfTrain GG GG [qP 178, qI x1, qI x2] ρ μ P ∧ ∀ (z1 : Int) (ρ2 : Rf) (μ3 : Mem), P z1 ρ2 μ3 → ((z1 ≠ 0 → ∃ P : Int → Rf → Mem → Prop, qE mX8_deliveredToTrain GG GG [qP 178, qI x1, qI x2] ρ2 μ3 P ∧ ∀ (z5 : Int) (ρ6 : Rf) (μ7 : Mem), P z5 ρ6 μ7 → qX mX8_layCoverage GG Post GG (0, 0) 26 [some (qP 178), none, none, some (qI z1), none, none, none] [qI (min z1 z5), qP 178] ρ6 μ7) ∧ (z1 = 0 → qX mX8_layCoverage GG Post GG (0, 0) 26 [some (qP 178), none, none, some (qI z1), none, none, none] [qI 1, qP 178] ρ2 μ3))) : qE mX8_layCoverage GG GG [qP 178, qI x1, qI x2] ρ μ Post := by
  refine qE_intro pl_X8_layCoverage (Nat.le_of_ble_eq_true rfl) (Nat.le_refl _) ?_
  refine qX_aload_n 0 dX8_layCoverage_0 rfl rfl (by decide) ?_
  refine qX_iload_n 1 dX8_layCoverage_1 rfl rfl ?_
  refine qX_iload_n 2 dX8_layCoverage_2 rfl rfl ?_
  obtain ⟨P, hE4, h⟩ := h
  refine qN_callV mX8_demandOfTrain [_, _] _ 8 [] dX8_layCoverage_3 cm_X8_349 ⟨(Nat.le_of_ble_eq_true rfl), (Nat.le_of_ble_eq_true rfl)⟩ rfl rfl sh178 (Nat.le_of_ble_eq_true rfl) ⟨rfl, rfl⟩ hE4 (fun z1 ρ2 μ3 hz => ?_)
  replace h := h _ _ _ hz
  refine qX_istore_n 3 dX8_layCoverage_6 rfl (Nat.le_of_ble_eq_true rfl) rfl ?_
  refine qX_aload_n 0 dX8_layCoverage_7 rfl rfl (by decide) ?_
  refine qX_iload_n 3 dX8_layCoverage_8 rfl rfl ?_
  refine qX_if_ne 16 dX8_layCoverage_9 rfl (fun hc => ?_) (fun hc => ?_)
  · replace h := h.1 hc
    refine qX_iload_n 3 dX8_layCoverage_16 rfl rfl ?_
    refine qX_aload_n 0 dX8_layCoverage_17 rfl rfl (by decide) ?_
    refine qX_iload_n 1 dX8_layCoverage_18 rfl rfl ?_
    refine qX_iload_n 2 dX8_layCoverage_19 rfl rfl ?_
    obtain ⟨P, hE8, h⟩ := h
    refine qN_callV mX8_deliveredToTrain [_, _] _ 8 [_, _] dX8_layCoverage_20 cm_X8_346 ⟨(Nat.le_of_ble_eq_true rfl), (Nat.le_of_ble_eq_true rfl)⟩ rfl rfl sh178 (Nat.le_of_ble_eq_true rfl) ⟨rfl, rfl⟩ hE8 (fun z5 ρ6 μ7 hz => ?_)
    replace h := h _ _ _ hz
    refine qX_min dX8_layCoverage_23 kM_X8_288 ⟨(Nat.le_of_ble_eq_true rfl), (Nat.le_of_ble_eq_true rfl)⟩ (Nat.le_of_ble_eq_true rfl) ⟨Nat.zero_le _, Nat.zero_le _⟩ ?_
    exact qX_mask [true, false, false, true, false, false, false] h
  · replace h := h.2 hc
    refine qX_iconst dX8_layCoverage_12 (i32_of rfl) ?_
    refine qX_goto 26 dX8_layCoverage_13 rfl ?_
    exact qX_mask [true, false, false, true, false, false, false] h
set_option maxRecDepth 20000 in
theorem w_X8_layCoverage_26 {Post : Int → Rf → Mem → Prop} {ρ : Rf} {μ : Mem} {s1 : Int} {x3 : Int}
  (h : ∀ μ1, μ1 = up2 μ 178 42 s1 → ((x3 ≠ 0 → qX mX8_layCoverage GG Post GG (0, 0) 39 [some (qP 178), none, none, none, none, none, none] [qI x3, qP 178] ρ μ1) ∧ (x3 = 0 → qX mX8_layCoverage GG Post GG (0, 0) 39 [some (qP 178), none, none, none, none, none, none] [qI 1, qP 178] ρ μ1))) : qX mX8_layCoverage GG Post GG (0, 0) 26 [some (qP 178), none, none, some (qI x3), none, none, none] [qI s1, qP 178] ρ μ := by
  refine qX_putI 8 42 _ dX8_layCoverage_26 fs_X8_358 sh178 ?_
  replace h := h _ rfl
  refine qX_aload_n 0 dX8_layCoverage_29 rfl rfl (by decide) ?_
  refine qX_iload_n 3 dX8_layCoverage_30 rfl rfl ?_
  refine qX_if_ne 38 dX8_layCoverage_31 rfl (fun hc => ?_) (fun hc => ?_)
  · replace h := h.1 hc
    refine qX_iload_n 3 dX8_layCoverage_38 rfl rfl ?_
    exact qX_mask [true, false, false, false, false, false, false] h
  · replace h := h.2 hc
    refine qX_iconst dX8_layCoverage_34 (i32_of rfl) ?_
    refine qX_goto 39 dX8_layCoverage_35 rfl ?_
    exact qX_mask [true, false, false, false, false, false, false] h
set_option maxRecDepth 20000 in
theorem w_X8_layCoverage_39 {Post : Int → Rf → Mem → Prop} {ρ : Rf} {μ : Mem} {s1 : Int}
  (h : ∀ μ1, μ1 = up2 μ 178 43 s1 → qX mX8_layCoverage GG Post GG (0, 0) 54 [some (qP 178), none, none, none, some (qI (μ1 178 42)), some (qI (μ1 178 43)), none] [] ρ μ1) : qX mX8_layCoverage GG Post GG (0, 0) 39 [some (qP 178), none, none, none, none, none, none] [qI s1, qP 178] ρ μ := by
  refine qX_putI 8 43 _ dX8_layCoverage_39 fs_X8_361 sh178 ?_
  replace h := h _ rfl
  refine qX_aload_n 0 dX8_layCoverage_42 rfl rfl (by decide) ?_
  refine qX_getI 8 42 _ dX8_layCoverage_43 fs_X8_358 sh178 ?_
  refine qX_istore dX8_layCoverage_46 (Nat.le_of_ble_eq_true rfl) rfl ?_
  refine qX_aload_n 0 dX8_layCoverage_48 rfl rfl (by decide) ?_
  refine qX_getI 8 43 _ dX8_layCoverage_49 fs_X8_361 sh178 ?_
  refine qX_istore dX8_layCoverage_52 (Nat.le_of_ble_eq_true rfl) rfl ?_
  exact qX_mask [true, false, false, false, true, true, false] h
set_option maxRecDepth 20000 in
theorem w_X8_layCoverage_54 {Post : Int → Rf → Mem → Prop} {ρ : Rf} {μ : Mem} {x4 : Int} {x5 : Int}
  (h : ((x5 = 0 → (0 ≤ μ 178 42 ∧ 0 < x4) ∧ ∀ μ1, μ1 = up2 μ 178 42 ((μ 178 42) / x4) → (0 ≤ μ1 178 43 ∧ 0 < x4) ∧ ∀ μ2, μ2 = up2 μ1 178 43 ((μ1 178 43) / x4) → Post 0 ρ μ2) ∧ (x5 ≠ 0 → (0 ≤ x4 ∧ 0 < x5) ∧ qX mX8_layCoverage GG Post GG (0, 0) 54 [some (qP 178), none, none, none, some (qI x5), some (qI (x4 % x5)), none] [] ρ μ))) : qX mX8_layCoverage GG Post GG (0, 0) 54 [some (qP 178), none, none, none, some (qI x4), some (qI x5), none] [] ρ μ := by
  refine qX_iload dX8_layCoverage_54 rfl ?_
  refine qX_if_eq 77 dX8_layCoverage_56 rfl (fun hc => ?_) (fun hc => ?_)
  · replace h := h.1 hc
    refine qX_aload_n 0 dX8_layCoverage_77 rfl rfl (by decide) ?_
    refine qX_dup dX8_layCoverage_78 rfl ?_
    refine qX_getI 8 42 _ dX8_layCoverage_79 fs_X8_358 sh178 ?_
    refine qX_iload dX8_layCoverage_82 rfl ?_
    refine qR_idiv dX8_layCoverage_84 h.1 ?_
    replace h := h.2
    refine qX_putI 8 42 _ dX8_layCoverage_85 fs_X8_358 sh178 ?_
    replace h := h _ rfl
    refine qX_aload_n 0 dX8_layCoverage_88 rfl rfl (by decide) ?_
    refine qX_dup dX8_layCoverage_89 rfl ?_
    refine qX_getI 8 43 _ dX8_layCoverage_90 fs_X8_361 sh178 ?_
    refine qX_iload dX8_layCoverage_93 rfl ?_
    refine qR_idiv dX8_layCoverage_95 h.1 ?_
    replace h := h.2
    refine qX_putI 8 43 _ dX8_layCoverage_96 fs_X8_361 sh178 ?_
    replace h := h _ rfl
    exact qX_return rfl dX8_layCoverage_99 rfl ⟨Nat.le_refl _, Nat.le_refl _⟩ h
  · replace h := h.2 hc
    refine qX_iload dX8_layCoverage_59 rfl ?_
    refine qX_iload dX8_layCoverage_61 rfl ?_
    refine qR_irem dX8_layCoverage_63 h.1 ?_
    replace h := h.2
    refine qX_istore dX8_layCoverage_64 (Nat.le_of_ble_eq_true rfl) rfl ?_
    refine qX_iload dX8_layCoverage_66 rfl ?_
    refine qX_istore dX8_layCoverage_68 (Nat.le_of_ble_eq_true rfl) rfl ?_
    refine qX_iload dX8_layCoverage_70 rfl ?_
    refine qX_istore dX8_layCoverage_72 (Nat.le_of_ble_eq_true rfl) rfl ?_
    refine qX_goto 54 dX8_layCoverage_74 rfl ?_
    exact qX_mask [true, false, false, false, true, true, false] h
set_option maxRecDepth 20000 in
theorem e_X8_coverage {Post : Int → Rf → Mem → Prop} {ρ : Rf} {μ : Mem} {x1 : Int} {x2 : Int} {x3 : Int}
  (h : ∃ P : Int → Rf → Mem → Prop, qE mX8_isTrainNow GG GG [qP 178, qI x1] ρ μ P ∧ ∀ (z1 : Int) (ρ2 : Rf) (μ3 : Mem), P z1 ρ2 μ3 → ((z1 = 0 → qX mX8_coverage GG Post GG (0, 0) 21 [some (qP 178), some (qI x1), some (qI x2), some (qI x3)] [qP 178] ρ2 μ3) ∧ (z1 ≠ 0 → ∃ P : Int → Rf → Mem → Prop, qE mX8_isMeal GG GG [qP 178, qI x2] ρ2 μ3 P ∧ ∀ (z5 : Int) (ρ6 : Rf) (μ7 : Mem), P z5 ρ6 μ7 → ((z5 = 0 → qX mX8_coverage GG Post GG (0, 0) 21 [some (qP 178), some (qI x1), some (qI x2), some (qI x3)] [qP 178] ρ6 μ7) ∧ (z5 ≠ 0 → qX mX8_coverage GG Post GG (0, 0) 22 [some (qP 178), some (qI x1), some (qI x2), some (qI x3)] [qI 1, qP 178] ρ6 μ7))))) : qE mX8_coverage GG GG [qP 178, qI x1, qI x2, qI x3] ρ μ Post := by
  refine qE_intro pl_X8_coverage (Nat.le_of_ble_eq_true rfl) (Nat.le_refl _) ?_
  refine qX_aload_n 0 dX8_coverage_0 rfl rfl (by decide) ?_
  refine qX_aload_n 0 dX8_coverage_1 rfl rfl (by decide) ?_
  refine qX_iload_n 1 dX8_coverage_2 rfl rfl ?_
  obtain ⟨P, hE4, h⟩ := h
  refine qN_callV mX8_isTrainNow [_] _ 8 [_] dX8_coverage_3 cm_X8_249 ⟨(Nat.le_of_ble_eq_true rfl), (Nat.le_of_ble_eq_true rfl)⟩ rfl rfl sh178 (Nat.le_of_ble_eq_true rfl) ⟨rfl, rfl⟩ hE4 (fun z1 ρ2 μ3 hz => ?_)
  replace h := h _ _ _ hz
  refine qX_if_eq 21 dX8_coverage_6 rfl (fun hc => ?_) (fun hc => ?_)
  · replace h := h.1 hc
    exact qX_mask [true, true, true, true] h
  · replace h := h.2 hc
    refine qX_aload_n 0 dX8_coverage_9 rfl rfl (by decide) ?_
    refine qX_iload_n 2 dX8_coverage_10 rfl rfl ?_
    obtain ⟨P, hE8, h⟩ := h
    refine qN_callV mX8_isMeal [_] _ 8 [_] dX8_coverage_11 cm_X8_260 ⟨(Nat.le_of_ble_eq_true rfl), (Nat.le_of_ble_eq_true rfl)⟩ rfl rfl sh178 (Nat.le_of_ble_eq_true rfl) ⟨rfl, rfl⟩ hE8 (fun z5 ρ6 μ7 hz => ?_)
    replace h := h _ _ _ hz
    refine qX_if_eq 21 dX8_coverage_14 rfl (fun hc => ?_) (fun hc => ?_)
    · replace h := h.1 hc
      exact qX_mask [true, true, true, true] h
    · replace h := h.2 hc
      refine qX_iconst dX8_coverage_17 (i32_of rfl) ?_
      refine qX_goto 22 dX8_coverage_18 rfl ?_
      exact qX_mask [true, true, true, true] h
set_option maxRecDepth 20000 in
theorem w_X8_coverage_21 {Post : Int → Rf → Mem → Prop} {ρ : Rf} {μ : Mem} {x1 : Int} {x2 : Int} {x3 : Int}
  (h : qX mX8_coverage GG Post GG (0, 0) 22 [some (qP 178), some (qI x1), some (qI x2), some (qI x3)] [qI 0, qP 178] ρ μ) : qX mX8_coverage GG Post GG (0, 0) 21 [some (qP 178), some (qI x1), some (qI x2), some (qI x3)] [qP 178] ρ μ := by
  refine qX_iconst dX8_coverage_21 (i32_of rfl) ?_
  exact qX_mask [true, true, true, true] h
set_option maxRecDepth 20000 in
theorem w_X8_coverage_22 {Post : Int → Rf → Mem → Prop} {ρ : Rf} {μ : Mem} {s1 : Int} {x1 : Int} {x2 : Int} {x3 : Int}
  (h : ∃ P : Int → Rf → Mem → Prop, qE mX8_goesFor GG GG [qP 178, qI s1] ρ μ P ∧ ∀ (z1 : Int) (ρ2 : Rf) (μ3 : Mem), P z1 ρ2 μ3 → ((z1 ≠ 0 → ∃ P : Int → Rf → Mem → Prop, qE mX8_layCoverage GG GG [qP 178, qI x1, qI x2] ρ2 μ3 P ∧ ∀ (z5 : Int) (ρ6 : Rf) (μ7 : Mem), P z5 ρ6 μ7 → ((x3 = 0 → ∃ P : Int → Rf → Mem → Prop, qE mX8_done GG GG [qP 178, qI (μ7 178 42)] ρ6 μ7 P ∧ ∀ (z9 : Int) (ρ10 : Rf) (μ11 : Mem), P z9 ρ10 μ11 → Post z9 ρ10 μ11) ∧ (x3 ≠ 0 → ∃ P : Int → Rf → Mem → Prop, qE mX8_done GG GG [qP 178, qI (μ7 178 43)] ρ6 μ7 P ∧ ∀ (z13 : Int) (ρ14 : Rf) (μ15 : Mem), P z13 ρ14 μ15 → Post z13 ρ14 μ15))) ∧ (z1 = 0 → ∃ P : Int → Rf → Mem → Prop, qE mX8_failedLong GG GG [qP 178, qI 1] ρ2 μ3 P ∧ ∀ (z17 : Int) (ρ18 : Rf) (μ19 : Mem), P z17 ρ18 μ19 → Post z17 ρ18 μ19))) : qX mX8_coverage GG Post GG (0, 0) 22 [some (qP 178), some (qI x1), some (qI x2), some (qI x3)] [qI s1, qP 178] ρ μ := by
  obtain ⟨P, hE4, h⟩ := h
  refine qN_callV mX8_goesFor [_] _ 8 [] dX8_coverage_22 cm_X8_320 ⟨(Nat.le_of_ble_eq_true rfl), (Nat.le_of_ble_eq_true rfl)⟩ rfl rfl sh178 (Nat.le_of_ble_eq_true rfl) ⟨rfl, rfl⟩ hE4 (fun z1 ρ2 μ3 hz => ?_)
  replace h := h _ _ _ hz
  refine qX_if_ne 34 dX8_coverage_25 rfl (fun hc => ?_) (fun hc => ?_)
  · replace h := h.1 hc
    refine qX_aload_n 0 dX8_coverage_34 rfl rfl (by decide) ?_
    refine qX_iload_n 1 dX8_coverage_35 rfl rfl ?_
    refine qX_iload_n 2 dX8_coverage_36 rfl rfl ?_
    obtain ⟨P, hE8, h⟩ := h
    refine qN_callV mX8_layCoverage [_, _] _ 8 [] dX8_coverage_37 cm_X8_368 ⟨(Nat.le_of_ble_eq_true rfl), (Nat.le_of_ble_eq_true rfl)⟩ rfl rfl sh178 (Nat.le_of_ble_eq_true rfl) ⟨rfl, rfl⟩ hE8 (fun z5 ρ6 μ7 hz => ?_)
    replace h := h _ _ _ hz
    refine qX_aload_n 0 dX8_coverage_40 rfl rfl (by decide) ?_
    refine qX_iload_n 3 dX8_coverage_41 rfl rfl ?_
    refine qX_if_eq 52 dX8_coverage_42 rfl (fun hc => ?_) (fun hc => ?_)
    · replace h := h.1 hc
      refine qX_aload_n 0 dX8_coverage_52 rfl rfl (by decide) ?_
      refine qX_getI 8 42 _ dX8_coverage_53 fs_X8_358 sh178 ?_
      obtain ⟨P, hE12, h⟩ := h
      refine qN_callV mX8_done [_] _ 8 [] dX8_coverage_56 cm_X8_246 ⟨(Nat.le_of_ble_eq_true rfl), (Nat.le_of_ble_eq_true rfl)⟩ rfl rfl sh178 (Nat.le_of_ble_eq_true rfl) ⟨rfl, rfl⟩ hE12 (fun z9 ρ10 μ11 hz => ?_)
      replace h := h _ _ _ hz
      refine qX_i2l dX8_coverage_59 ?_
      exact qX_lreturn rfl dX8_coverage_60 rfl ⟨Nat.le_refl _, Nat.le_refl _⟩ h
    · replace h := h.2 hc
      refine qX_aload_n 0 dX8_coverage_45 rfl rfl (by decide) ?_
      refine qX_getI 8 43 _ dX8_coverage_46 fs_X8_361 sh178 ?_
      refine qX_goto 56 dX8_coverage_49 rfl ?_
      obtain ⟨P, hE16, h⟩ := h
      refine qN_callV mX8_done [_] _ 8 [] dX8_coverage_56 cm_X8_246 ⟨(Nat.le_of_ble_eq_true rfl), (Nat.le_of_ble_eq_true rfl)⟩ rfl rfl sh178 (Nat.le_of_ble_eq_true rfl) ⟨rfl, rfl⟩ hE16 (fun z13 ρ14 μ15 hz => ?_)
      replace h := h _ _ _ hz
      refine qX_i2l dX8_coverage_59 ?_
      exact qX_lreturn rfl dX8_coverage_60 rfl ⟨Nat.le_refl _, Nat.le_refl _⟩ h
  · replace h := h.2 hc
    refine qX_aload_n 0 dX8_coverage_28 rfl rfl (by decide) ?_
    refine qX_iconst dX8_coverage_29 (i32_of rfl) ?_
    obtain ⟨P, hE20, h⟩ := h
    refine qN_callV mX8_failedLong [_] _ 8 [] dX8_coverage_30 cm_X8_364 ⟨(Nat.le_of_ble_eq_true rfl), (Nat.le_of_ble_eq_true rfl)⟩ rfl rfl sh178 (Nat.le_of_ble_eq_true rfl) ⟨rfl, rfl⟩ hE20 (fun z17 ρ18 μ19 hz => ?_)
    replace h := h _ _ _ hz
    exact qX_lreturn rfl dX8_coverage_33 rfl ⟨Nat.le_refl _, Nat.le_refl _⟩ h
set_option maxRecDepth 20000 in
theorem e_X8_leastCoverage {Post : Int → Rf → Mem → Prop} {ρ : Rf} {μ : Mem} {x1 : Int} {x2 : Int}
  (h : ∃ P : Int → Rf → Mem → Prop, qE mX8_isTrainNow GG GG [qP 178, qI x1] ρ μ P ∧ ∀ (z1 : Int) (ρ2 : Rf) (μ3 : Mem), P z1 ρ2 μ3 → ∃ P : Int → Rf → Mem → Prop, qE mX8_goesFor GG GG [qP 178, qI z1] ρ2 μ3 P ∧ ∀ (z5 : Int) (ρ6 : Rf) (μ7 : Mem), P z5 ρ6 μ7 → ((z5 ≠ 0 → qX mX8_leastCoverage GG Post GG (0, 0) 26 [some (qP 178), some (qI x1), some (qI x2), some (qI 1), some (qI 1), some (qI 0)] [] ρ6 μ7) ∧ (z5 = 0 → ∃ P : Int → Rf → Mem → Prop, qE mX8_failedLong GG GG [qP 178, qI 1] ρ6 μ7 P ∧ ∀ (z9 : Int) (ρ10 : Rf) (μ11 : Mem), P z9 ρ10 μ11 → Post z9 ρ10 μ11))) : qE mX8_leastCoverage GG GG [qP 178, qI x1, qI x2] ρ μ Post := by
  refine qE_intro pl_X8_leastCoverage (Nat.le_of_ble_eq_true rfl) (Nat.le_refl _) ?_
  refine qX_aload_n 0 dX8_leastCoverage_0 rfl rfl (by decide) ?_
  refine qX_aload_n 0 dX8_leastCoverage_1 rfl rfl (by decide) ?_
  refine qX_iload_n 1 dX8_leastCoverage_2 rfl rfl ?_
  obtain ⟨P, hE4, h⟩ := h
  refine qN_callV mX8_isTrainNow [_] _ 8 [_] dX8_leastCoverage_3 cm_X8_249 ⟨(Nat.le_of_ble_eq_true rfl), (Nat.le_of_ble_eq_true rfl)⟩ rfl rfl sh178 (Nat.le_of_ble_eq_true rfl) ⟨rfl, rfl⟩ hE4 (fun z1 ρ2 μ3 hz => ?_)
  replace h := h _ _ _ hz
  obtain ⟨P, hE8, h⟩ := h
  refine qN_callV mX8_goesFor [_] _ 8 [] dX8_leastCoverage_6 cm_X8_320 ⟨(Nat.le_of_ble_eq_true rfl), (Nat.le_of_ble_eq_true rfl)⟩ rfl rfl sh178 (Nat.le_of_ble_eq_true rfl) ⟨rfl, rfl⟩ hE8 (fun z5 ρ6 μ7 hz => ?_)
  replace h := h _ _ _ hz
  refine qX_if_ne 18 dX8_leastCoverage_9 rfl (fun hc => ?_) (fun hc => ?_)
  · replace h := h.1 hc
    refine qX_iconst dX8_leastCoverage_18 (i32_of rfl) ?_
    refine qX_istore_n 3 dX8_leastCoverage_19 rfl (Nat.le_of_ble_eq_true rfl) rfl ?_
    refine qX_iconst dX8_leastCoverage_20 (i32_of rfl) ?_
    refine qX_istore dX8_leastCoverage_21 (Nat.le_of_ble_eq_true rfl) rfl ?_
    refine qX_iconst dX8_leastCoverage_23 (i32_of rfl) ?_
    refine qX_istore dX8_leastCoverage_24 (Nat.le_of_ble_eq_true rfl) rfl ?_
    exact qX_mask [true, true, true, true, true, true] h
  · replace h := h.2 hc
    refine qX_aload_n 0 dX8_leastCoverage_12 rfl rfl (by decide) ?_
    refine qX_iconst dX8_leastCoverage_13 (i32_of rfl) ?_
    obtain ⟨P, hE12, h⟩ := h
    refine qN_callV mX8_failedLong [_] _ 8 [] dX8_leastCoverage_14 cm_X8_364 ⟨(Nat.le_of_ble_eq_true rfl), (Nat.le_of_ble_eq_true rfl)⟩ rfl rfl sh178 (Nat.le_of_ble_eq_true rfl) ⟨rfl, rfl⟩ hE12 (fun z9 ρ10 μ11 hz => ?_)
    replace h := h _ _ _ hz
    exact qX_lreturn rfl dX8_leastCoverage_17 rfl ⟨Nat.le_refl _, Nat.le_refl _⟩ h
set_option maxRecDepth 20000 in
theorem w_X8_leastCoverage_26 {Post : Int → Rf → Mem → Prop} {ρ : Rf} {μ : Mem} {x1 : Int} {x2 : Int} {x3 : Int} {x4 : Int} {x5 : Int}
  (h : ((μ 180 36 ≤ x5 → ((x2 = 0 → ∃ P : Int → Rf → Mem → Prop, qE mX8_done GG GG [qP 178, qI x3] ρ μ P ∧ ∀ (z1 : Int) (ρ2 : Rf) (μ3 : Mem), P z1 ρ2 μ3 → Post z1 ρ2 μ3) ∧ (x2 ≠ 0 → ∃ P : Int → Rf → Mem → Prop, qE mX8_done GG GG [qP 178, qI x4] ρ μ P ∧ ∀ (z5 : Int) (ρ6 : Rf) (μ7 : Mem), P z5 ρ6 μ7 → Post z5 ρ6 μ7))) ∧ (x5 < μ 180 36 → ∃ P : Int → Rf → Mem → Prop, qE mX8_layCoverage GG GG [qP 178, qI x1, qI x5] ρ μ P ∧ ∀ (z9 : Int) (ρ10 : Rf) (μ11 : Mem), P z9 ρ10 μ11 → i32 ((μ11 178 42) * x4) ∧ i32 (x3 * (μ11 178 43)) ∧ (((μ11 178 42) * x4 < x3 * (μ11 178 43) → i32 (x5 + 1) ∧ qX mX8_leastCoverage GG Post GG (0, 0) 26 [some (qP 178), some (qI x1), some (qI x2), some (qI (μ11 178 42)), some (qI (μ11 178 43)), some (qI (x5 + 1))] [] ρ10 μ11) ∧ (x3 * (μ11 178 43) ≤ (μ11 178 42) * x4 → i32 (x5 + 1) ∧ qX mX8_leastCoverage GG Post GG (0, 0) 26 [some (qP 178), some (qI x1), some (qI x2), some (qI x3), some (qI x4), some (qI (x5 + 1))] [] ρ10 μ11))))) : qX mX8_leastCoverage GG Post GG (0, 0) 26 [some (qP 178), some (qI x1), some (qI x2), some (qI x3), some (qI x4), some (qI x5)] [] ρ μ := by
  refine qX_iload dX8_leastCoverage_26 rfl ?_
  refine qX_aload_n 0 dX8_leastCoverage_28 rfl rfl (by decide) ?_
  refine qX_getS 8 12 _ 1 dX8_leastCoverage_29 fs_X8_17 rfl rfl sh178 (x := 180) rfl ?_
  refine qX_bip dX8_leastCoverage_32 rfl ?_
  refine qX_iald dX8_leastCoverage_34 sh180 ⟨by decide, by decide⟩ ?_
  refine qX_icmp_ge 81 dX8_leastCoverage_35 rfl (fun hc => ?_) (fun hc => ?_)
  · replace h := h.1 hc
    refine qX_aload_n 0 dX8_leastCoverage_81 rfl rfl (by decide) ?_
    refine qX_iload_n 2 dX8_leastCoverage_82 rfl rfl ?_
    refine qX_if_eq 91 dX8_leastCoverage_83 rfl (fun hc => ?_) (fun hc => ?_)
    · replace h := h.1 hc
      refine qX_iload_n 3 dX8_leastCoverage_91 rfl rfl ?_
      obtain ⟨P, hE4, h⟩ := h
      refine qN_callV mX8_done [_] _ 8 [] dX8_leastCoverage_92 cm_X8_246 ⟨(Nat.le_of_ble_eq_true rfl), (Nat.le_of_ble_eq_true rfl)⟩ rfl rfl sh178 (Nat.le_of_ble_eq_true rfl) ⟨rfl, rfl⟩ hE4 (fun z1 ρ2 μ3 hz => ?_)
      replace h := h _ _ _ hz
      refine qX_i2l dX8_leastCoverage_95 ?_
      exact qX_lreturn rfl dX8_leastCoverage_96 rfl ⟨Nat.le_refl _, Nat.le_refl _⟩ h
    · replace h := h.2 hc
      refine qX_iload dX8_leastCoverage_86 rfl ?_
      refine qX_goto 92 dX8_leastCoverage_88 rfl ?_
      obtain ⟨P, hE8, h⟩ := h
      refine qN_callV mX8_done [_] _ 8 [] dX8_leastCoverage_92 cm_X8_246 ⟨(Nat.le_of_ble_eq_true rfl), (Nat.le_of_ble_eq_true rfl)⟩ rfl rfl sh178 (Nat.le_of_ble_eq_true rfl) ⟨rfl, rfl⟩ hE8 (fun z5 ρ6 μ7 hz => ?_)
      replace h := h _ _ _ hz
      refine qX_i2l dX8_leastCoverage_95 ?_
      exact qX_lreturn rfl dX8_leastCoverage_96 rfl ⟨Nat.le_refl _, Nat.le_refl _⟩ h
  · replace h := h.2 hc
    refine qX_aload_n 0 dX8_leastCoverage_38 rfl rfl (by decide) ?_
    refine qX_iload_n 1 dX8_leastCoverage_39 rfl rfl ?_
    refine qX_iload dX8_leastCoverage_40 rfl ?_
    obtain ⟨P, hE12, h⟩ := h
    refine qN_callV mX8_layCoverage [_, _] _ 8 [] dX8_leastCoverage_42 cm_X8_368 ⟨(Nat.le_of_ble_eq_true rfl), (Nat.le_of_ble_eq_true rfl)⟩ rfl rfl sh178 (Nat.le_of_ble_eq_true rfl) ⟨rfl, rfl⟩ hE12 (fun z9 ρ10 μ11 hz => ?_)
    replace h := h _ _ _ hz
    refine qX_aload_n 0 dX8_leastCoverage_45 rfl rfl (by decide) ?_
    refine qX_getI 8 42 _ dX8_leastCoverage_46 fs_X8_358 sh178 ?_
    refine qX_iload dX8_leastCoverage_49 rfl ?_
    refine qR_imul dX8_leastCoverage_51 h.1 ?_
    replace h := h.2
    refine qX_iload_n 3 dX8_leastCoverage_52 rfl rfl ?_
    refine qX_aload_n 0 dX8_leastCoverage_53 rfl rfl (by decide) ?_
    refine qX_getI 8 43 _ dX8_leastCoverage_54 fs_X8_361 sh178 ?_
    refine qR_imul dX8_leastCoverage_57 h.1 ?_
    replace h := h.2
    refine qX_icmp_lt 64 dX8_leastCoverage_58 rfl (fun hc => ?_) (fun hc => ?_)
    · replace h := h.1 hc
      refine qX_aload_n 0 dX8_leastCoverage_64 rfl rfl (by decide) ?_
      refine qX_getI 8 42 _ dX8_leastCoverage_65 fs_X8_358 sh178 ?_
      refine qX_istore_n 3 dX8_leastCoverage_68 rfl (Nat.le_of_ble_eq_true rfl) rfl ?_
      refine qX_aload_n 0 dX8_leastCoverage_69 rfl rfl (by decide) ?_
      refine qX_getI 8 43 _ dX8_leastCoverage_70 fs_X8_361 sh178 ?_
      refine qX_istore dX8_leastCoverage_73 (Nat.le_of_ble_eq_true rfl) rfl ?_
      refine qR_iinc dX8_leastCoverage_75 rfl (Nat.le_of_ble_eq_true rfl) rfl h.1 ?_
      replace h := h.2
      refine qX_goto 26 dX8_leastCoverage_78 rfl ?_
      exact qX_mask [true, true, true, true, true, true] h
    · replace h := h.2 hc
      refine qX_goto 75 dX8_leastCoverage_61 rfl ?_
      refine qR_iinc dX8_leastCoverage_75 rfl (Nat.le_of_ble_eq_true rfl) rfl h.1 ?_
      replace h := h.2
      refine qX_goto 26 dX8_leastCoverage_78 rfl ?_
      exact qX_mask [true, true, true, true, true, true] h
set_option maxRecDepth 20000 in
theorem e_X8_betterServed {Post : Int → Rf → Mem → Prop} {ρ : Rf} {μ : Mem} {x1 : Int}
  (h : ∃ P : Int → Rf → Mem → Prop, qE mX8_isMeal GG GG [qP 178, qI x1] ρ μ P ∧ ∀ (z1 : Int) (ρ2 : Rf) (μ3 : Mem), P z1 ρ2 μ3 → ∃ P : Int → Rf → Mem → Prop, qE mX8_goesFor GG GG [qP 178, qI z1] ρ2 μ3 P ∧ ∀ (z5 : Int) (ρ6 : Rf) (μ7 : Mem), P z5 ρ6 μ7 → ((z5 ≠ 0 → ∃ P : Int → Rf → Mem → Prop, qE mX8_layCoverage GG GG [qP 178, qI 0, qI x1] ρ6 μ7 P ∧ ∀ (z9 : Int) (ρ10 : Rf) (μ11 : Mem), P z9 ρ10 μ11 → ∃ P : Int → Rf → Mem → Prop, qE mX8_layCoverage GG GG [qP 178, qI 1, qI x1] ρ10 μ11 P ∧ ∀ (z13 : Int) (ρ14 : Rf) (μ15 : Mem), P z13 ρ14 μ15 → i32 ((μ11 178 42) * (μ15 178 43)) ∧ i32 ((μ15 178 42) * (μ11 178 43)) ∧ (((μ11 178 42) * (μ15 178 43) ≠ (μ15 178 42) * (μ11 178 43) → i32 ((μ11 178 42) * (μ15 178 43)) ∧ i32 ((μ15 178 42) * (μ11 178 43)) ∧ (((μ11 178 42) * (μ15 178 43) ≤ (μ15 178 42) * (μ11 178 43) → ∃ P : Int → Rf → Mem → Prop, qE mX8_done GG GG [qP 178, qI 1] ρ14 μ15 P ∧ ∀ (z17 : Int) (ρ18 : Rf) (μ19 : Mem), P z17 ρ18 μ19 → Post z17 ρ18 μ19) ∧ ((μ15 178 42) * (μ11 178 43) < (μ11 178 42) * (μ15 178 43) → ∃ P : Int → Rf → Mem → Prop, qE mX8_done GG GG [qP 178, qI 0] ρ14 μ15 P ∧ ∀ (z21 : Int) (ρ22 : Rf) (μ23 : Mem), P z21 ρ22 μ23 → Post z21 ρ22 μ23))) ∧ ((μ11 178 42) * (μ15 178 43) = (μ15 178 42) * (μ11 178 43) → ∃ P : Int → Rf → Mem → Prop, qE mX8_done GG GG [qP 178, qI (-1)] ρ14 μ15 P ∧ ∀ (z25 : Int) (ρ26 : Rf) (μ27 : Mem), P z25 ρ26 μ27 → Post z25 ρ26 μ27))) ∧ (z5 = 0 → ∃ P : Int → Rf → Mem → Prop, qE mX8_failed GG GG [qP 178, qI 1] ρ6 μ7 P ∧ ∀ (z29 : Int) (ρ30 : Rf) (μ31 : Mem), P z29 ρ30 μ31 → Post z29 ρ30 μ31))) : qE mX8_betterServed GG GG [qP 178, qI x1] ρ μ Post := by
  refine qE_intro pl_X8_betterServed (Nat.le_of_ble_eq_true rfl) (Nat.le_refl _) ?_
  refine qX_aload_n 0 dX8_betterServed_0 rfl rfl (by decide) ?_
  refine qX_aload_n 0 dX8_betterServed_1 rfl rfl (by decide) ?_
  refine qX_iload_n 1 dX8_betterServed_2 rfl rfl ?_
  obtain ⟨P, hE4, h⟩ := h
  refine qN_callV mX8_isMeal [_] _ 8 [_] dX8_betterServed_3 cm_X8_260 ⟨(Nat.le_of_ble_eq_true rfl), (Nat.le_of_ble_eq_true rfl)⟩ rfl rfl sh178 (Nat.le_of_ble_eq_true rfl) ⟨rfl, rfl⟩ hE4 (fun z1 ρ2 μ3 hz => ?_)
  replace h := h _ _ _ hz
  obtain ⟨P, hE8, h⟩ := h
  refine qN_callV mX8_goesFor [_] _ 8 [] dX8_betterServed_6 cm_X8_320 ⟨(Nat.le_of_ble_eq_true rfl), (Nat.le_of_ble_eq_true rfl)⟩ rfl rfl sh178 (Nat.le_of_ble_eq_true rfl) ⟨rfl, rfl⟩ hE8 (fun z5 ρ6 μ7 hz => ?_)
  replace h := h _ _ _ hz
  refine qX_if_ne 18 dX8_betterServed_9 rfl (fun hc => ?_) (fun hc => ?_)
  · replace h := h.1 hc
    refine qX_aload_n 0 dX8_betterServed_18 rfl rfl (by decide) ?_
    refine qX_iconst dX8_betterServed_19 (i32_of rfl) ?_
    refine qX_iload_n 1 dX8_betterServed_20 rfl rfl ?_
    obtain ⟨P, hE12, h⟩ := h
    refine qN_callV mX8_layCoverage [_, _] _ 8 [] dX8_betterServed_21 cm_X8_368 ⟨(Nat.le_of_ble_eq_true rfl), (Nat.le_of_ble_eq_true rfl)⟩ rfl rfl sh178 (Nat.le_of_ble_eq_true rfl) ⟨rfl, rfl⟩ hE12 (fun z9 ρ10 μ11 hz => ?_)
    replace h := h _ _ _ hz
    refine qX_aload_n 0 dX8_betterServed_24 rfl rfl (by decide) ?_
    refine qX_getI 8 42 _ dX8_betterServed_25 fs_X8_358 sh178 ?_
    refine qX_istore_n 2 dX8_betterServed_28 rfl (Nat.le_of_ble_eq_true rfl) rfl ?_
    refine qX_aload_n 0 dX8_betterServed_29 rfl rfl (by decide) ?_
    refine qX_getI 8 43 _ dX8_betterServed_30 fs_X8_361 sh178 ?_
    refine qX_istore_n 3 dX8_betterServed_33 rfl (Nat.le_of_ble_eq_true rfl) rfl ?_
    refine qX_aload_n 0 dX8_betterServed_34 rfl rfl (by decide) ?_
    refine qX_iconst dX8_betterServed_35 (i32_of rfl) ?_
    refine qX_iload_n 1 dX8_betterServed_36 rfl rfl ?_
    obtain ⟨P, hE16, h⟩ := h
    refine qN_callV mX8_layCoverage [_, _] _ 8 [] dX8_betterServed_37 cm_X8_368 ⟨(Nat.le_of_ble_eq_true rfl), (Nat.le_of_ble_eq_true rfl)⟩ rfl rfl sh178 (Nat.le_of_ble_eq_true rfl) ⟨rfl, rfl⟩ hE16 (fun z13 ρ14 μ15 hz => ?_)
    replace h := h _ _ _ hz
    refine qX_aload_n 0 dX8_betterServed_40 rfl rfl (by decide) ?_
    refine qX_iload_n 2 dX8_betterServed_41 rfl rfl ?_
    refine qX_aload_n 0 dX8_betterServed_42 rfl rfl (by decide) ?_
    refine qX_getI 8 43 _ dX8_betterServed_43 fs_X8_361 sh178 ?_
    refine qR_imul dX8_betterServed_46 h.1 ?_
    replace h := h.2
    refine qX_aload_n 0 dX8_betterServed_47 rfl rfl (by decide) ?_
    refine qX_getI 8 42 _ dX8_betterServed_48 fs_X8_358 sh178 ?_
    refine qX_iload_n 3 dX8_betterServed_51 rfl rfl ?_
    refine qR_imul dX8_betterServed_52 h.1 ?_
    replace h := h.2
    refine qX_icmp_ne 60 dX8_betterServed_53 rfl (fun hc => ?_) (fun hc => ?_)
    · replace h := h.1 hc
      refine qX_iload_n 2 dX8_betterServed_60 rfl rfl ?_
      refine qX_aload_n 0 dX8_betterServed_61 rfl rfl (by decide) ?_
      refine qX_getI 8 43 _ dX8_betterServed_62 fs_X8_361 sh178 ?_
      refine qR_imul dX8_betterServed_65 h.1 ?_
      replace h := h.2
      refine qX_aload_n 0 dX8_betterServed_66 rfl rfl (by decide) ?_
      refine qX_getI 8 42 _ dX8_betterServed_67 fs_X8_358 sh178 ?_
      refine qX_iload_n 3 dX8_betterServed_70 rfl rfl ?_
      refine qR_imul dX8_betterServed_71 h.1 ?_
      replace h := h.2
      refine qX_icmp_le 79 dX8_betterServed_72 rfl (fun hc => ?_) (fun hc => ?_)
      · replace h := h.1 hc
        refine qX_iconst dX8_betterServed_79 (i32_of rfl) ?_
        obtain ⟨P, hE20, h⟩ := h
        refine qN_callV mX8_done [_] _ 8 [] dX8_betterServed_80 cm_X8_246 ⟨(Nat.le_of_ble_eq_true rfl), (Nat.le_of_ble_eq_true rfl)⟩ rfl rfl sh178 (Nat.le_of_ble_eq_true rfl) ⟨rfl, rfl⟩ hE20 (fun z17 ρ18 μ19 hz => ?_)
        replace h := h _ _ _ hz
        exact qX_ireturn rfl dX8_betterServed_83 rfl ⟨Nat.le_refl _, Nat.le_refl _⟩ h
      · replace h := h.2 hc
        refine qX_iconst dX8_betterServed_75 (i32_of rfl) ?_
        refine qX_goto 80 dX8_betterServed_76 rfl ?_
        obtain ⟨P, hE24, h⟩ := h
        refine qN_callV mX8_done [_] _ 8 [] dX8_betterServed_80 cm_X8_246 ⟨(Nat.le_of_ble_eq_true rfl), (Nat.le_of_ble_eq_true rfl)⟩ rfl rfl sh178 (Nat.le_of_ble_eq_true rfl) ⟨rfl, rfl⟩ hE24 (fun z21 ρ22 μ23 hz => ?_)
        replace h := h _ _ _ hz
        exact qX_ireturn rfl dX8_betterServed_83 rfl ⟨Nat.le_refl _, Nat.le_refl _⟩ h
    · replace h := h.2 hc
      refine qX_iconst dX8_betterServed_56 (i32_of rfl) ?_
      refine qX_goto 80 dX8_betterServed_57 rfl ?_
      obtain ⟨P, hE28, h⟩ := h
      refine qN_callV mX8_done [_] _ 8 [] dX8_betterServed_80 cm_X8_246 ⟨(Nat.le_of_ble_eq_true rfl), (Nat.le_of_ble_eq_true rfl)⟩ rfl rfl sh178 (Nat.le_of_ble_eq_true rfl) ⟨rfl, rfl⟩ hE28 (fun z25 ρ26 μ27 hz => ?_)
      replace h := h _ _ _ hz
      exact qX_ireturn rfl dX8_betterServed_83 rfl ⟨Nat.le_refl _, Nat.le_refl _⟩ h
  · replace h := h.2 hc
    refine qX_aload_n 0 dX8_betterServed_12 rfl rfl (by decide) ?_
    refine qX_iconst dX8_betterServed_13 (i32_of rfl) ?_
    obtain ⟨P, hE32, h⟩ := h
    refine qN_callV mX8_failed [_] _ 8 [] dX8_betterServed_14 cm_X8_226 ⟨(Nat.le_of_ble_eq_true rfl), (Nat.le_of_ble_eq_true rfl)⟩ rfl rfl sh178 (Nat.le_of_ble_eq_true rfl) ⟨rfl, rfl⟩ hE32 (fun z29 ρ30 μ31 hz => ?_)
    replace h := h _ _ _ hz
    exact qX_ireturn rfl dX8_betterServed_17 rfl ⟨Nat.le_refl _, Nat.le_refl _⟩ h
set_option maxRecDepth 20000 in
theorem e_X8_carriedBy {Post : Int → Rf → Mem → Prop} {ρ : Rf} {μ : Mem} {x1 : Int}
  (h : ∃ P : Int → Rf → Mem → Prop, qE mX8_job GG GG [qP 178, qI x1, qI 4] ρ μ P ∧ ∀ (z1 : Int) (ρ2 : Rf) (μ3 : Mem), P z1 ρ2 μ3 → ∃ P : Int → Rf → Mem → Prop, qE mX8_job GG GG [qP 178, qI x1, qI 0] ρ2 μ3 P ∧ ∀ (z5 : Int) (ρ6 : Rf) (μ7 : Mem), P z5 ρ6 μ7 → ∃ P : Int → Rf → Mem → Prop, qE mX8_trolley GG GG [qP 178, qI z5, qI 1] ρ6 μ7 P ∧ ∀ (z9 : Int) (ρ10 : Rf) (μ11 : Mem), P z9 ρ10 μ11 → Post (min z1 z9) ρ10 μ11) : qE mX8_carriedBy GG GG [qP 178, qI x1] ρ μ Post := by
  refine qE_intro pl_X8_carriedBy (Nat.le_of_ble_eq_true rfl) (Nat.le_refl _) ?_
  refine qX_aload_n 0 dX8_carriedBy_0 rfl rfl (by decide) ?_
  refine qX_iload_n 1 dX8_carriedBy_1 rfl rfl ?_
  refine qX_iconst dX8_carriedBy_2 (i32_of rfl) ?_
  obtain ⟨P, hE4, h⟩ := h
  refine qN_callV mX8_job [_, _] _ 8 [] dX8_carriedBy_3 cm_X8_274 ⟨(Nat.le_of_ble_eq_true rfl), (Nat.le_of_ble_eq_true rfl)⟩ rfl rfl sh178 (Nat.le_of_ble_eq_true rfl) ⟨rfl, rfl⟩ hE4 (fun z1 ρ2 μ3 hz => ?_)
  replace h := h _ _ _ hz
  refine qX_aload_n 0 dX8_carriedBy_6 rfl rfl (by decide) ?_
  refine qX_aload_n 0 dX8_carriedBy_7 rfl rfl (by decide) ?_
  refine qX_iload_n 1 dX8_carriedBy_8 rfl rfl ?_
  refine qX_iconst dX8_carriedBy_9 (i32_of rfl) ?_
  obtain ⟨P, hE8, h⟩ := h
  refine qN_callV mX8_job [_, _] _ 8 [_, _] dX8_carriedBy_10 cm_X8_274 ⟨(Nat.le_of_ble_eq_true rfl), (Nat.le_of_ble_eq_true rfl)⟩ rfl rfl sh178 (Nat.le_of_ble_eq_true rfl) ⟨rfl, rfl⟩ hE8 (fun z5 ρ6 μ7 hz => ?_)
  replace h := h _ _ _ hz
  refine qX_iconst dX8_carriedBy_13 (i32_of rfl) ?_
  obtain ⟨P, hE12, h⟩ := h
  refine qN_callV mX8_trolley [_, _] _ 8 [_] dX8_carriedBy_14 cm_X8_277 ⟨(Nat.le_of_ble_eq_true rfl), (Nat.le_of_ble_eq_true rfl)⟩ rfl rfl sh178 (Nat.le_of_ble_eq_true rfl) ⟨rfl, rfl⟩ hE12 (fun z9 ρ10 μ11 hz => ?_)
  replace h := h _ _ _ hz
  refine qX_min dX8_carriedBy_17 kM_X8_288 ⟨(Nat.le_of_ble_eq_true rfl), (Nat.le_of_ble_eq_true rfl)⟩ (Nat.le_of_ble_eq_true rfl) ⟨Nat.zero_le _, Nat.zero_le _⟩ ?_
  exact qX_ireturn rfl dX8_carriedBy_20 rfl ⟨Nat.le_refl _, Nat.le_refl _⟩ h
set_option maxRecDepth 20000 in
theorem e_X8_endOf {Post : Int → Rf → Mem → Prop} {ρ : Rf} {μ : Mem} {x1 : Int} {x2 : Int}
  (h : ∃ P : Int → Rf → Mem → Prop, qE mX8_job GG GG [qP 178, qI x2, qI 0] ρ μ P ∧ ∀ (z1 : Int) (ρ2 : Rf) (μ3 : Mem), P z1 ρ2 μ3 → ∃ P : Int → Rf → Mem → Prop, qE mX8_carriedBy GG GG [qP 178, qI x2] ρ2 μ3 P ∧ ∀ (z5 : Int) (ρ6 : Rf) (μ7 : Mem), P z5 ρ6 μ7 → ∃ P : Int → Rf → Mem → Prop, qE mX8_trolley GG GG [qP 178, qI z1, qI 3] ρ6 μ7 P ∧ ∀ (z9 : Int) (ρ10 : Rf) (μ11 : Mem), P z9 ρ10 μ11 → i32 (z5 * z9) ∧ i32 (x1 + (z5 * z9)) ∧ ∃ P : Int → Rf → Mem → Prop, qE mX8_walkOf GG GG [qP 178, qI x2] ρ10 μ11 P ∧ ∀ (z13 : Int) (ρ14 : Rf) (μ15 : Mem), P z13 ρ14 μ15 → i32 ((x1 + (z5 * z9)) + z13) ∧ ∃ P : Int → Rf → Mem → Prop, qE mX8_job GG GG [qP 178, qI x2, qI 1] ρ14 μ15 P ∧ ∀ (z17 : Int) (ρ18 : Rf) (μ19 : Mem), P z17 ρ18 μ19 → i32 (0 + z17) ∧ (0 ≤ 0 + z17 ∧ 0 + z17 < 188) ∧ ∃ P : Int → Rf → Mem → Prop, qE mX8_trolley GG GG [qP 178, qI z1, qI 4] ρ18 μ19 P ∧ ∀ (z21 : Int) (ρ22 : Rf) (μ23 : Mem), P z21 ρ22 μ23 → i32 (z5 * z21) ∧ i32 ((max ((x1 + (z5 * z9)) + z13) (μ19 180 (0 + z17))) + (z5 * z21)) ∧ ∃ P : Int → Rf → Mem → Prop, qE mX8_job GG GG [qP 178, qI x2, qI 1] ρ22 μ23 P ∧ ∀ (z25 : Int) (ρ26 : Rf) (μ27 : Mem), P z25 ρ26 μ27 → i32 (2 + z25) ∧ (0 ≤ 2 + z25 ∧ 2 + z25 < 188) ∧ (((max ((x1 + (z5 * z9)) + z13) (μ19 180 (0 + z17))) + (z5 * z21) ≤ μ27 180 (2 + z25) → ∃ P : Int → Rf → Mem → Prop, qE mX8_walkOf GG GG [qP 178, qI x2] ρ26 μ27 P ∧ ∀ (z29 : Int) (ρ30 : Rf) (μ31 : Mem), P z29 ρ30 μ31 → i32 (((max ((x1 + (z5 * z9)) + z13) (μ19 180 (0 + z17))) + (z5 * z21)) + z29) ∧ Post (((max ((x1 + (z5 * z9)) + z13) (μ19 180 (0 + z17))) + (z5 * z21)) + z29) ρ30 μ31) ∧ (μ27 180 (2 + z25) < (max ((x1 + (z5 * z9)) + z13) (μ19 180 (0 + z17))) + (z5 * z21) → Post 1000000 ρ26 μ27))) : qE mX8_endOf GG GG [qP 178, qI x1, qI x2] ρ μ Post := by
  refine qE_intro pl_X8_endOf (Nat.le_of_ble_eq_true rfl) (Nat.le_refl _) ?_
  refine qX_aload_n 0 dX8_endOf_0 rfl rfl (by decide) ?_
  refine qX_iload_n 2 dX8_endOf_1 rfl rfl ?_
  refine qX_iconst dX8_endOf_2 (i32_of rfl) ?_
  obtain ⟨P, hE4, h⟩ := h
  refine qN_callV mX8_job [_, _] _ 8 [] dX8_endOf_3 cm_X8_274 ⟨(Nat.le_of_ble_eq_true rfl), (Nat.le_of_ble_eq_true rfl)⟩ rfl rfl sh178 (Nat.le_of_ble_eq_true rfl) ⟨rfl, rfl⟩ hE4 (fun z1 ρ2 μ3 hz => ?_)
  replace h := h _ _ _ hz
  refine qX_istore_n 3 dX8_endOf_6 rfl (Nat.le_of_ble_eq_true rfl) rfl ?_
  refine qX_aload_n 0 dX8_endOf_7 rfl rfl (by decide) ?_
  refine qX_iload_n 2 dX8_endOf_8 rfl rfl ?_
  obtain ⟨P, hE8, h⟩ := h
  refine qN_callV mX8_carriedBy [_] _ 8 [] dX8_endOf_9 cm_X8_371 ⟨(Nat.le_of_ble_eq_true rfl), (Nat.le_of_ble_eq_true rfl)⟩ rfl rfl sh178 (Nat.le_of_ble_eq_true rfl) ⟨rfl, rfl⟩ hE8 (fun z5 ρ6 μ7 hz => ?_)
  replace h := h _ _ _ hz
  refine qX_istore dX8_endOf_12 (Nat.le_of_ble_eq_true rfl) rfl ?_
  refine qX_iload_n 1 dX8_endOf_14 rfl rfl ?_
  refine qX_iload dX8_endOf_15 rfl ?_
  refine qX_aload_n 0 dX8_endOf_17 rfl rfl (by decide) ?_
  refine qX_iload_n 3 dX8_endOf_18 rfl rfl ?_
  refine qX_iconst dX8_endOf_19 (i32_of rfl) ?_
  obtain ⟨P, hE12, h⟩ := h
  refine qN_callV mX8_trolley [_, _] _ 8 [_, _] dX8_endOf_20 cm_X8_277 ⟨(Nat.le_of_ble_eq_true rfl), (Nat.le_of_ble_eq_true rfl)⟩ rfl rfl sh178 (Nat.le_of_ble_eq_true rfl) ⟨rfl, rfl⟩ hE12 (fun z9 ρ10 μ11 hz => ?_)
  replace h := h _ _ _ hz
  refine qR_imul dX8_endOf_23 h.1 ?_
  replace h := h.2
  refine qR_iadd dX8_endOf_24 h.1 ?_
  replace h := h.2
  refine qX_aload_n 0 dX8_endOf_25 rfl rfl (by decide) ?_
  refine qX_iload_n 2 dX8_endOf_26 rfl rfl ?_
  obtain ⟨P, hE16, h⟩ := h
  refine qN_callV mX8_walkOf [_] _ 8 [_] dX8_endOf_27 cm_X8_294 ⟨(Nat.le_of_ble_eq_true rfl), (Nat.le_of_ble_eq_true rfl)⟩ rfl rfl sh178 (Nat.le_of_ble_eq_true rfl) ⟨rfl, rfl⟩ hE16 (fun z13 ρ14 μ15 hz => ?_)
  replace h := h _ _ _ hz
  refine qR_iadd dX8_endOf_30 h.1 ?_
  replace h := h.2
  refine qX_istore dX8_endOf_31 (Nat.le_of_ble_eq_true rfl) rfl ?_
  refine qX_iload dX8_endOf_33 rfl ?_
  refine qX_aload_n 0 dX8_endOf_35 rfl rfl (by decide) ?_
  refine qX_getS 8 12 _ 1 dX8_endOf_36 fs_X8_17 rfl rfl sh178 (x := 180) rfl ?_
  refine qX_iconst dX8_endOf_39 (i32_of rfl) ?_
  refine qX_aload_n 0 dX8_endOf_40 rfl rfl (by decide) ?_
  refine qX_iload_n 2 dX8_endOf_41 rfl rfl ?_
  refine qX_iconst dX8_endOf_42 (i32_of rfl) ?_
  obtain ⟨P, hE20, h⟩ := h
  refine qN_callV mX8_job [_, _] _ 8 [_, _, _] dX8_endOf_43 cm_X8_274 ⟨(Nat.le_of_ble_eq_true rfl), (Nat.le_of_ble_eq_true rfl)⟩ rfl rfl sh178 (Nat.le_of_ble_eq_true rfl) ⟨rfl, rfl⟩ hE20 (fun z17 ρ18 μ19 hz => ?_)
  replace h := h _ _ _ hz
  refine qR_iadd dX8_endOf_46 h.1 ?_
  replace h := h.2
  refine qX_iald dX8_endOf_47 sh180 h.1 ?_
  replace h := h.2
  refine qX_max dX8_endOf_48 kM_X8_297 ⟨(Nat.le_of_ble_eq_true rfl), (Nat.le_of_ble_eq_true rfl)⟩ (Nat.le_of_ble_eq_true rfl) ⟨Nat.zero_le _, Nat.zero_le _⟩ ?_
  refine qX_iload dX8_endOf_51 rfl ?_
  refine qX_aload_n 0 dX8_endOf_53 rfl rfl (by decide) ?_
  refine qX_iload_n 3 dX8_endOf_54 rfl rfl ?_
  refine qX_iconst dX8_endOf_55 (i32_of rfl) ?_
  obtain ⟨P, hE24, h⟩ := h
  refine qN_callV mX8_trolley [_, _] _ 8 [_, _] dX8_endOf_56 cm_X8_277 ⟨(Nat.le_of_ble_eq_true rfl), (Nat.le_of_ble_eq_true rfl)⟩ rfl rfl sh178 (Nat.le_of_ble_eq_true rfl) ⟨rfl, rfl⟩ hE24 (fun z21 ρ22 μ23 hz => ?_)
  replace h := h _ _ _ hz
  refine qR_imul dX8_endOf_59 h.1 ?_
  replace h := h.2
  refine qR_iadd dX8_endOf_60 h.1 ?_
  replace h := h.2
  refine qX_istore dX8_endOf_61 (Nat.le_of_ble_eq_true rfl) rfl ?_
  refine qX_iload dX8_endOf_63 rfl ?_
  refine qX_aload_n 0 dX8_endOf_65 rfl rfl (by decide) ?_
  refine qX_getS 8 12 _ 1 dX8_endOf_66 fs_X8_17 rfl rfl sh178 (x := 180) rfl ?_
  refine qX_iconst dX8_endOf_69 (i32_of rfl) ?_
  refine qX_aload_n 0 dX8_endOf_70 rfl rfl (by decide) ?_
  refine qX_iload_n 2 dX8_endOf_71 rfl rfl ?_
  refine qX_iconst dX8_endOf_72 (i32_of rfl) ?_
  obtain ⟨P, hE28, h⟩ := h
  refine qN_callV mX8_job [_, _] _ 8 [_, _, _] dX8_endOf_73 cm_X8_274 ⟨(Nat.le_of_ble_eq_true rfl), (Nat.le_of_ble_eq_true rfl)⟩ rfl rfl sh178 (Nat.le_of_ble_eq_true rfl) ⟨rfl, rfl⟩ hE28 (fun z25 ρ26 μ27 hz => ?_)
  replace h := h _ _ _ hz
  refine qR_iadd dX8_endOf_76 h.1 ?_
  replace h := h.2
  refine qX_iald dX8_endOf_77 sh180 h.1 ?_
  replace h := h.2
  refine qX_icmp_le 87 dX8_endOf_78 rfl (fun hc => ?_) (fun hc => ?_)
  · replace h := h.1 hc
    refine qX_iload dX8_endOf_87 rfl ?_
    refine qX_aload_n 0 dX8_endOf_89 rfl rfl (by decide) ?_
    refine qX_iload_n 2 dX8_endOf_90 rfl rfl ?_
    obtain ⟨P, hE32, h⟩ := h
    refine qN_callV mX8_walkOf [_] _ 8 [_] dX8_endOf_91 cm_X8_294 ⟨(Nat.le_of_ble_eq_true rfl), (Nat.le_of_ble_eq_true rfl)⟩ rfl rfl sh178 (Nat.le_of_ble_eq_true rfl) ⟨rfl, rfl⟩ hE32 (fun z29 ρ30 μ31 hz => ?_)
    replace h := h _ _ _ hz
    refine qR_iadd dX8_endOf_94 h.1 ?_
    replace h := h.2
    exact qX_ireturn rfl dX8_endOf_95 rfl ⟨Nat.le_refl _, Nat.le_refl _⟩ h
  · replace h := h.2 hc
    refine qX_ldcw (n := 1000000) dX8_endOf_81 kK_X8_313 (i32_of rfl) ?_
    refine qX_goto 95 dX8_endOf_84 rfl ?_
    exact qX_ireturn rfl dX8_endOf_95 rfl ⟨Nat.le_refl _, Nat.le_refl _⟩ h
set_option maxRecDepth 20000 in
theorem e_X8_layOwn {Post : Int → Rf → Mem → Prop} {ρ : Rf} {μ : Mem} {x1 : Int}
  (h : ∀ μ1, μ1 = up2 μ 178 47 0 → qX mX8_layOwn GG Post GG (0, 0) 7 [some (qP 178), some (qI x1), some (qI 0)] [] ρ μ1) : qE mX8_layOwn GG GG [qP 178, qI x1] ρ μ Post := by
  refine qE_intro pl_X8_layOwn (Nat.le_of_ble_eq_true rfl) (Nat.le_refl _) ?_
  refine qX_aload_n 0 dX8_layOwn_0 rfl rfl (by decide) ?_
  refine qX_iconst dX8_layOwn_1 (i32_of rfl) ?_
  refine qX_putI 8 47 _ dX8_layOwn_2 fs_X8_374 sh178 ?_
  replace h := h _ rfl
  refine qX_iconst dX8_layOwn_5 (i32_of rfl) ?_
  refine qX_istore_n 2 dX8_layOwn_6 rfl (Nat.le_of_ble_eq_true rfl) rfl ?_
  exact qX_mask [true, true, true] h
set_option maxRecDepth 20000 in
theorem w_X8_layOwn_7 {Post : Int → Rf → Mem → Prop} {ρ : Rf} {μ : Mem} {x1 : Int} {x2 : Int}
  (h : ((μ 180 87 ≤ x2 → Post 0 ρ μ) ∧ (x2 < μ 180 87 → ∃ P : Int → Rf → Mem → Prop, qE mX8_job GG GG [qP 178, qI x2, qI 0] ρ μ P ∧ ∀ (z1 : Int) (ρ2 : Rf) (μ3 : Mem), P z1 ρ2 μ3 → ((z1 = x1 → (0 ≤ μ3 178 47 ∧ μ3 178 47 < 8) ∧ ∀ μ5, μ5 = up2 μ3 205 (μ3 178 47) x2 → i32 ((μ5 178 47) + 1) ∧ ∀ μ6, μ6 = up2 μ5 178 47 ((μ5 178 47) + 1) → i32 (x2 + 1) ∧ qX mX8_layOwn GG Post GG (0, 0) 7 [some (qP 178), some (qI x1), some (qI (x2 + 1))] [] ρ2 μ6) ∧ (z1 ≠ x1 → i32 (x2 + 1) ∧ qX mX8_layOwn GG Post GG (0, 0) 7 [some (qP 178), some (qI x1), some (qI (x2 + 1))] [] ρ2 μ3))))) : qX mX8_layOwn GG Post GG (0, 0) 7 [some (qP 178), some (qI x1), some (qI x2)] [] ρ μ := by
  refine qX_iload_n 2 dX8_layOwn_7 rfl rfl ?_
  refine qX_aload_n 0 dX8_layOwn_8 rfl rfl (by decide) ?_
  refine qX_getS 8 12 _ 1 dX8_layOwn_9 fs_X8_17 rfl rfl sh178 (x := 180) rfl ?_
  refine qX_bip dX8_layOwn_12 rfl ?_
  refine qX_iald dX8_layOwn_14 sh180 ⟨by decide, by decide⟩ ?_
  refine qX_icmp_ge 57 dX8_layOwn_15 rfl (fun hc => ?_) (fun hc => ?_)
  · replace h := h.1 hc
    exact qX_return rfl dX8_layOwn_57 rfl ⟨Nat.le_refl _, Nat.le_refl _⟩ h
  · replace h := h.2 hc
    refine qX_aload_n 0 dX8_layOwn_18 rfl rfl (by decide) ?_
    refine qX_iload_n 2 dX8_layOwn_19 rfl rfl ?_
    refine qX_iconst dX8_layOwn_20 (i32_of rfl) ?_
    obtain ⟨P, hE4, h⟩ := h
    refine qN_callV mX8_job [_, _] _ 8 [] dX8_layOwn_21 cm_X8_274 ⟨(Nat.le_of_ble_eq_true rfl), (Nat.le_of_ble_eq_true rfl)⟩ rfl rfl sh178 (Nat.le_of_ble_eq_true rfl) ⟨rfl, rfl⟩ hE4 (fun z1 ρ2 μ3 hz => ?_)
    replace h := h _ _ _ hz
    refine qX_iload_n 1 dX8_layOwn_24 rfl rfl ?_
    refine qX_icmp_eq 31 dX8_layOwn_25 rfl (fun hc => ?_) (fun hc => ?_)
    · replace h := h.1 hc
      refine qX_aload_n 0 dX8_layOwn_31 rfl rfl (by decide) ?_
      refine qX_getS 8 44 _ 26 dX8_layOwn_32 fs_X8_94 rfl rfl sh178 (x := 205) rfl ?_
      refine qX_aload_n 0 dX8_layOwn_35 rfl rfl (by decide) ?_
      refine qX_getI 8 47 _ dX8_layOwn_36 fs_X8_374 sh178 ?_
      refine qX_iload_n 2 dX8_layOwn_39 rfl rfl ?_
      refine qX_iast dX8_layOwn_40 sh205 h.1 ?_
      replace h := h.2
      replace h := h _ rfl
      refine qX_aload_n 0 dX8_layOwn_41 rfl rfl (by decide) ?_
      refine qX_dup dX8_layOwn_42 rfl ?_
      refine qX_getI 8 47 _ dX8_layOwn_43 fs_X8_374 sh178 ?_
      refine qX_iconst dX8_layOwn_46 (i32_of rfl) ?_
      refine qR_iadd dX8_layOwn_47 h.1 ?_
      replace h := h.2
      refine qX_putI 8 47 _ dX8_layOwn_48 fs_X8_374 sh178 ?_
      replace h := h _ rfl
      refine qR_iinc dX8_layOwn_51 rfl (Nat.le_of_ble_eq_true rfl) rfl h.1 ?_
      replace h := h.2
      refine qX_goto 7 dX8_layOwn_54 rfl ?_
      exact qX_mask [true, true, true] h
    · replace h := h.2 hc
      refine qX_goto 51 dX8_layOwn_28 rfl ?_
      refine qR_iinc dX8_layOwn_51 rfl (Nat.le_of_ble_eq_true rfl) rfl h.1 ?_
      replace h := h.2
      refine qX_goto 7 dX8_layOwn_54 rfl ?_
      exact qX_mask [true, true, true] h
set_option maxRecDepth 20000 in
theorem e_X8_layEnds {Post : Int → Rf → Mem → Prop} {ρ : Rf} {μ : Mem} {x1 : Int}
  (h : ∀ μ1, μ1 = up2 μ 206 0 x1 → qX mX8_layEnds GG Post GG (0, 0) 9 [some (qP 178), none, some (qI 1), none] [] ρ μ1) : qE mX8_layEnds GG GG [qP 178, qI x1] ρ μ Post := by
  refine qE_intro pl_X8_layEnds (Nat.le_of_ble_eq_true rfl) (Nat.le_refl _) ?_
  refine qX_aload_n 0 dX8_layEnds_0 rfl rfl (by decide) ?_
  refine qX_getS 8 45 _ 27 dX8_layEnds_1 fs_X8_97 rfl rfl sh178 (x := 206) rfl ?_
  refine qX_iconst dX8_layEnds_4 (i32_of rfl) ?_
  refine qX_iload_n 1 dX8_layEnds_5 rfl rfl ?_
  refine qX_iast dX8_layEnds_6 sh206 ⟨by decide, by decide⟩ ?_
  replace h := h _ rfl
  refine qX_iconst dX8_layEnds_7 (i32_of rfl) ?_
  refine qX_istore_n 2 dX8_layEnds_8 rfl (Nat.le_of_ble_eq_true rfl) rfl ?_
  exact qX_mask [true, false, true, false] h
set_option maxRecDepth 20000 in
theorem w_X8_layEnds_9 {Post : Int → Rf → Mem → Prop} {ρ : Rf} {μ : Mem} {x2 : Int}
  (h : ((shl32 1 (μ 178 47) ≤ x2 → Post 0 ρ μ) ∧ (x2 < shl32 1 (μ 178 47) → (0 ≤ x2 ∧ x2 < 256) ∧ ∀ μ1, μ1 = up2 μ 206 x2 1000000 → qX mX8_layEnds GG Post GG (0, 0) 30 [some (qP 178), none, some (qI x2), some (qI 0)] [] ρ μ1))) : qX mX8_layEnds GG Post GG (0, 0) 9 [some (qP 178), none, some (qI x2), none] [] ρ μ := by
  refine qX_iload_n 2 dX8_layEnds_9 rfl rfl ?_
  refine qX_iconst dX8_layEnds_10 (i32_of rfl) ?_
  refine qX_aload_n 0 dX8_layEnds_11 rfl rfl (by decide) ?_
  refine qX_getI 8 47 _ dX8_layEnds_12 fs_X8_374 sh178 ?_
  refine qX_ishl dX8_layEnds_15 ?_
  refine qX_icmp_ge 112 dX8_layEnds_16 rfl (fun hc => ?_) (fun hc => ?_)
  · replace h := h.1 hc
    exact qX_return rfl dX8_layEnds_112 rfl ⟨Nat.le_refl _, Nat.le_refl _⟩ h
  · replace h := h.2 hc
    refine qX_aload_n 0 dX8_layEnds_19 rfl rfl (by decide) ?_
    refine qX_getS 8 45 _ 27 dX8_layEnds_20 fs_X8_97 rfl rfl sh178 (x := 206) rfl ?_
    refine qX_iload_n 2 dX8_layEnds_23 rfl rfl ?_
    refine qX_ldcw (n := 1000000) dX8_layEnds_24 kK_X8_313 (i32_of rfl) ?_
    refine qX_iast dX8_layEnds_27 sh206 h.1 ?_
    replace h := h.2
    replace h := h _ rfl
    refine qX_iconst dX8_layEnds_28 (i32_of rfl) ?_
    refine qX_istore_n 3 dX8_layEnds_29 rfl (Nat.le_of_ble_eq_true rfl) rfl ?_
    exact qX_mask [true, false, true, true] h
set_option maxRecDepth 20000 in
theorem w_X8_layEnds_30 {Post : Int → Rf → Mem → Prop} {ρ : Rf} {μ : Mem} {x2 : Int} {x3 : Int}
  (h : ((μ 178 47 ≤ x3 → i32 (x2 + 1) ∧ qX mX8_layEnds GG Post GG (0, 0) 9 [some (qP 178), none, some (qI (x2 + 1)), none] [] ρ μ) ∧ (x3 < μ 178 47 → ((and32 (shr32 x2 x3) 1 = 0 → qX mX8_layEnds GG Post GG (0, 0) 100 [some (qP 178), none, some (qI x2), some (qI x3)] [] ρ μ) ∧ (and32 (shr32 x2 x3) 1 ≠ 0 → (0 ≤ xor32 x2 (shl32 1 x3) ∧ xor32 x2 (shl32 1 x3) < 256) ∧ ((μ 206 (xor32 x2 (shl32 1 x3)) ≠ 1000000 → (0 ≤ x2 ∧ x2 < 256) ∧ (0 ≤ xor32 x2 (shl32 1 x3) ∧ xor32 x2 (shl32 1 x3) < 256) ∧ (0 ≤ x3 ∧ x3 < 8) ∧ ∃ P : Int → Rf → Mem → Prop, qE mX8_endOf GG GG [qP 178, qI (μ 206 (xor32 x2 (shl32 1 x3))), qI (μ 205 x3)] ρ μ P ∧ ∀ (z1 : Int) (ρ2 : Rf) (μ3 : Mem), P z1 ρ2 μ3 → (0 ≤ x2 ∧ x2 < 256) ∧ ∀ μ5, μ5 = up2 μ3 206 x2 (min (μ 206 x2) z1) → qX mX8_layEnds GG Post GG (0, 0) 100 [some (qP 178), none, some (qI x2), some (qI x3)] [] ρ2 μ5) ∧ (μ 206 (xor32 x2 (shl32 1 x3)) = 1000000 → qX mX8_layEnds GG Post GG (0, 0) 100 [some (qP 178), none, some (qI x2), some (qI x3)] [] ρ μ))))))) : qX mX8_layEnds GG Post GG (0, 0) 30 [some (qP 178), none, some (qI x2), some (qI x3)] [] ρ μ := by
  refine qX_iload_n 3 dX8_layEnds_30 rfl rfl ?_
  refine qX_aload_n 0 dX8_layEnds_31 rfl rfl (by decide) ?_
  refine qX_getI 8 47 _ dX8_layEnds_32 fs_X8_374 sh178 ?_
  refine qX_icmp_ge 106 dX8_layEnds_35 rfl (fun hc => ?_) (fun hc => ?_)
  · replace h := h.1 hc
    refine qR_iinc dX8_layEnds_106 rfl (Nat.le_of_ble_eq_true rfl) rfl h.1 ?_
    replace h := h.2
    refine qX_goto 9 dX8_layEnds_109 rfl ?_
    exact qX_mask [true, false, true, false] h
  · replace h := h.2 hc
    refine qX_iload_n 2 dX8_layEnds_38 rfl rfl ?_
    refine qX_iload_n 3 dX8_layEnds_39 rfl rfl ?_
    refine qX_ishr dX8_layEnds_40 ?_
    refine qX_iconst dX8_layEnds_41 (i32_of rfl) ?_
    refine qX_iand dX8_layEnds_42 ?_
    refine qX_if_eq 100 dX8_layEnds_43 rfl (fun hc => ?_) (fun hc => ?_)
    · replace h := h.1 hc
      exact qX_mask [true, false, true, true] h
    · replace h := h.2 hc
      refine qX_aload_n 0 dX8_layEnds_46 rfl rfl (by decide) ?_
      refine qX_getS 8 45 _ 27 dX8_layEnds_47 fs_X8_97 rfl rfl sh178 (x := 206) rfl ?_
      refine qX_iload_n 2 dX8_layEnds_50 rfl rfl ?_
      refine qX_iconst dX8_layEnds_51 (i32_of rfl) ?_
      refine qX_iload_n 3 dX8_layEnds_52 rfl rfl ?_
      refine qX_ishl dX8_layEnds_53 ?_
      refine qX_ixor dX8_layEnds_54 ?_
      refine qX_iald dX8_layEnds_55 sh206 h.1 ?_
      replace h := h.2
      refine qX_ldcw (n := 1000000) dX8_layEnds_56 kK_X8_313 (i32_of rfl) ?_
      refine qX_icmp_ne 65 dX8_layEnds_59 rfl (fun hc => ?_) (fun hc => ?_)
      · replace h := h.1 hc
        refine qX_aload_n 0 dX8_layEnds_65 rfl rfl (by decide) ?_
        refine qX_getS 8 45 _ 27 dX8_layEnds_66 fs_X8_97 rfl rfl sh178 (x := 206) rfl ?_
        refine qX_iload_n 2 dX8_layEnds_69 rfl rfl ?_
        refine qX_aload_n 0 dX8_layEnds_70 rfl rfl (by decide) ?_
        refine qX_getS 8 45 _ 27 dX8_layEnds_71 fs_X8_97 rfl rfl sh178 (x := 206) rfl ?_
        refine qX_iload_n 2 dX8_layEnds_74 rfl rfl ?_
        refine qX_iald dX8_layEnds_75 sh206 h.1 ?_
        replace h := h.2
        refine qX_aload_n 0 dX8_layEnds_76 rfl rfl (by decide) ?_
        refine qX_aload_n 0 dX8_layEnds_77 rfl rfl (by decide) ?_
        refine qX_getS 8 45 _ 27 dX8_layEnds_78 fs_X8_97 rfl rfl sh178 (x := 206) rfl ?_
        refine qX_iload_n 2 dX8_layEnds_81 rfl rfl ?_
        refine qX_iconst dX8_layEnds_82 (i32_of rfl) ?_
        refine qX_iload_n 3 dX8_layEnds_83 rfl rfl ?_
        refine qX_ishl dX8_layEnds_84 ?_
        refine qX_ixor dX8_layEnds_85 ?_
        refine qX_iald dX8_layEnds_86 sh206 h.1 ?_
        replace h := h.2
        refine qX_aload_n 0 dX8_layEnds_87 rfl rfl (by decide) ?_
        refine qX_getS 8 44 _ 26 dX8_layEnds_88 fs_X8_94 rfl rfl sh178 (x := 205) rfl ?_
        refine qX_iload_n 3 dX8_layEnds_91 rfl rfl ?_
        refine qX_iald dX8_layEnds_92 sh205 h.1 ?_
        replace h := h.2
        obtain ⟨P, hE4, h⟩ := h
        refine qN_callV mX8_endOf [_, _] _ 8 [_, _, _] dX8_layEnds_93 cm_X8_377 ⟨(Nat.le_of_ble_eq_true rfl), (Nat.le_of_ble_eq_true rfl)⟩ rfl rfl sh178 (Nat.le_of_ble_eq_true rfl) ⟨rfl, rfl⟩ hE4 (fun z1 ρ2 μ3 hz => ?_)
        replace h := h _ _ _ hz
        refine qX_min dX8_layEnds_96 kM_X8_288 ⟨(Nat.le_of_ble_eq_true rfl), (Nat.le_of_ble_eq_true rfl)⟩ (Nat.le_of_ble_eq_true rfl) ⟨Nat.zero_le _, Nat.zero_le _⟩ ?_
        refine qX_iast dX8_layEnds_99 sh206 h.1 ?_
        replace h := h.2
        replace h := h _ rfl
        exact qX_mask [true, false, true, true] h
      · replace h := h.2 hc
        refine qX_goto 100 dX8_layEnds_62 rfl ?_
        exact qX_mask [true, false, true, true] h
set_option maxRecDepth 20000 in
theorem w_X8_layEnds_100 {Post : Int → Rf → Mem → Prop} {ρ : Rf} {μ : Mem} {x2 : Int} {x3 : Int}
  (h : i32 (x3 + 1) ∧ qX mX8_layEnds GG Post GG (0, 0) 30 [some (qP 178), none, some (qI x2), some (qI (x3 + 1))] [] ρ μ) : qX mX8_layEnds GG Post GG (0, 0) 100 [some (qP 178), none, some (qI x2), some (qI x3)] [] ρ μ := by
  refine qR_iinc dX8_layEnds_100 rfl (Nat.le_of_ble_eq_true rfl) rfl h.1 ?_
  replace h := h.2
  refine qX_goto 30 dX8_layEnds_103 rfl ?_
  exact qX_mask [true, false, true, true] h
set_option maxRecDepth 20000 in
theorem e_X8_bestOf {Post : Int → Rf → Mem → Prop} {ρ : Rf} {μ : Mem} {x1 : Int}
  (h : ∃ P : Int → Rf → Mem → Prop, qE mX8_layOwn GG GG [qP 178, qI x1] ρ μ P ∧ ∀ (z1 : Int) (ρ2 : Rf) (μ3 : Mem), P z1 ρ2 μ3 → ∃ P : Int → Rf → Mem → Prop, qE mX8_layEnds GG GG [qP 178, qI 0] ρ2 μ3 P ∧ ∀ (z5 : Int) (ρ6 : Rf) (μ7 : Mem), P z5 ρ6 μ7 → ∀ μ9, μ9 = up2 μ7 178 49 0 → qX mX8_bestOf GG Post GG (0, 0) 19 [some (qP 178), none, some (qI 0), some (qI 1), none, none] [] ρ6 μ9) : qE mX8_bestOf GG GG [qP 178, qI x1] ρ μ Post := by
  refine qE_intro pl_X8_bestOf (Nat.le_of_ble_eq_true rfl) (Nat.le_refl _) ?_
  refine qX_aload_n 0 dX8_bestOf_0 rfl rfl (by decide) ?_
  refine qX_iload_n 1 dX8_bestOf_1 rfl rfl ?_
  obtain ⟨P, hE4, h⟩ := h
  refine qN_callV mX8_layOwn [_] _ 8 [] dX8_bestOf_2 cm_X8_380 ⟨(Nat.le_of_ble_eq_true rfl), (Nat.le_of_ble_eq_true rfl)⟩ rfl rfl sh178 (Nat.le_of_ble_eq_true rfl) ⟨rfl, rfl⟩ hE4 (fun z1 ρ2 μ3 hz => ?_)
  replace h := h _ _ _ hz
  refine qX_aload_n 0 dX8_bestOf_5 rfl rfl (by decide) ?_
  refine qX_iconst dX8_bestOf_6 (i32_of rfl) ?_
  obtain ⟨P, hE8, h⟩ := h
  refine qN_callV mX8_layEnds [_] _ 8 [] dX8_bestOf_7 cm_X8_383 ⟨(Nat.le_of_ble_eq_true rfl), (Nat.le_of_ble_eq_true rfl)⟩ rfl rfl sh178 (Nat.le_of_ble_eq_true rfl) ⟨rfl, rfl⟩ hE8 (fun z5 ρ6 μ7 hz => ?_)
  replace h := h _ _ _ hz
  refine qX_iconst dX8_bestOf_10 (i32_of rfl) ?_
  refine qX_istore_n 2 dX8_bestOf_11 rfl (Nat.le_of_ble_eq_true rfl) rfl ?_
  refine qX_aload_n 0 dX8_bestOf_12 rfl rfl (by decide) ?_
  refine qX_iconst dX8_bestOf_13 (i32_of rfl) ?_
  refine qX_putI 8 49 _ dX8_bestOf_14 fs_X8_386 sh178 ?_
  replace h := h _ rfl
  refine qX_iconst dX8_bestOf_17 (i32_of rfl) ?_
  refine qX_istore_n 3 dX8_bestOf_18 rfl (Nat.le_of_ble_eq_true rfl) rfl ?_
  exact qX_mask [true, false, true, true, false, false] h
set_option maxRecDepth 20000 in
theorem w_X8_bestOf_19 {Post : Int → Rf → Mem → Prop} {ρ : Rf} {μ : Mem} {x2 : Int} {x3 : Int}
  (h : ((shl32 1 (μ 178 47) ≤ x3 → Post x2 ρ μ) ∧ (x3 < shl32 1 (μ 178 47) → (0 ≤ x3 ∧ x3 < 256) ∧ ((μ 206 x3 ≠ 1000000 → qX mX8_bestOf GG Post GG (0, 0) 50 [some (qP 178), none, some (qI x2), some (qI x3), some (qI 0), some (qI 0)] [] ρ μ) ∧ (μ 206 x3 = 1000000 → i32 (x3 + 1) ∧ qX mX8_bestOf GG Post GG (0, 0) 19 [some (qP 178), none, some (qI x2), some (qI (x3 + 1)), none, none] [] ρ μ))))) : qX mX8_bestOf GG Post GG (0, 0) 19 [some (qP 178), none, some (qI x2), some (qI x3), none, none] [] ρ μ := by
  refine qX_iload_n 3 dX8_bestOf_19 rfl rfl ?_
  refine qX_iconst dX8_bestOf_20 (i32_of rfl) ?_
  refine qX_aload_n 0 dX8_bestOf_21 rfl rfl (by decide) ?_
  refine qX_getI 8 47 _ dX8_bestOf_22 fs_X8_374 sh178 ?_
  refine qX_ishl dX8_bestOf_25 ?_
  refine qX_icmp_ge 114 dX8_bestOf_26 rfl (fun hc => ?_) (fun hc => ?_)
  · replace h := h.1 hc
    refine qX_iload_n 2 dX8_bestOf_114 rfl rfl ?_
    exact qX_ireturn rfl dX8_bestOf_115 rfl ⟨Nat.le_refl _, Nat.le_refl _⟩ h
  · replace h := h.2 hc
    refine qX_aload_n 0 dX8_bestOf_29 rfl rfl (by decide) ?_
    refine qX_getS 8 45 _ 27 dX8_bestOf_30 fs_X8_97 rfl rfl sh178 (x := 206) rfl ?_
    refine qX_iload_n 3 dX8_bestOf_33 rfl rfl ?_
    refine qX_iald dX8_bestOf_34 sh206 h.1 ?_
    replace h := h.2
    refine qX_ldcw (n := 1000000) dX8_bestOf_35 kK_X8_313 (i32_of rfl) ?_
    refine qX_icmp_ne 44 dX8_bestOf_38 rfl (fun hc => ?_) (fun hc => ?_)
    · replace h := h.1 hc
      refine qX_iconst dX8_bestOf_44 (i32_of rfl) ?_
      refine qX_istore dX8_bestOf_45 (Nat.le_of_ble_eq_true rfl) rfl ?_
      refine qX_iconst dX8_bestOf_47 (i32_of rfl) ?_
      refine qX_istore dX8_bestOf_48 (Nat.le_of_ble_eq_true rfl) rfl ?_
      exact qX_mask [true, false, true, true, true, true] h
    · replace h := h.2 hc
      refine qX_goto 108 dX8_bestOf_41 rfl ?_
      refine qR_iinc dX8_bestOf_108 rfl (Nat.le_of_ble_eq_true rfl) rfl h.1 ?_
      replace h := h.2
      refine qX_goto 19 dX8_bestOf_111 rfl ?_
      exact qX_mask [true, false, true, true, false, false] h
set_option maxRecDepth 20000 in
theorem w_X8_bestOf_50 {Post : Int → Rf → Mem → Prop} {ρ : Rf} {μ : Mem} {x2 : Int} {x3 : Int} {x4 : Int} {x5 : Int}
  (h : ((μ 178 47 ≤ x5 → ((μ 178 49 < x4 → ∀ μ1, μ1 = up2 μ 178 49 x4 → i32 (x3 + 1) ∧ qX mX8_bestOf GG Post GG (0, 0) 19 [some (qP 178), none, some (qI x3), some (qI (x3 + 1)), none, none] [] ρ μ1) ∧ (x4 ≤ μ 178 49 → i32 (x3 + 1) ∧ qX mX8_bestOf GG Post GG (0, 0) 19 [some (qP 178), none, some (qI x2), some (qI (x3 + 1)), none, none] [] ρ μ))) ∧ (x5 < μ 178 47 → (0 ≤ x5 ∧ x5 < 8) ∧ ∃ P : Int → Rf → Mem → Prop, qE mX8_carriedBy GG GG [qP 178, qI (μ 205 x5)] ρ μ P ∧ ∀ (z2 : Int) (ρ3 : Rf) (μ4 : Mem), P z2 ρ3 μ4 → i32 ((and32 (shr32 x3 x5) 1) * z2) ∧ i32 (x4 + ((and32 (shr32 x3 x5) 1) * z2)) ∧ i32 (x5 + 1) ∧ qX mX8_bestOf GG Post GG (0, 0) 50 [some (qP 178), none, some (qI x2), some (qI x3), some (qI (x4 + ((and32 (shr32 x3 x5) 1) * z2))), some (qI (x5 + 1))] [] ρ3 μ4))) : qX mX8_bestOf GG Post GG (0, 0) 50 [some (qP 178), none, some (qI x2), some (qI x3), some (qI x4), some (qI x5)] [] ρ μ := by
  refine qX_iload dX8_bestOf_50 rfl ?_
  refine qX_aload_n 0 dX8_bestOf_52 rfl rfl (by decide) ?_
  refine qX_getI 8 47 _ dX8_bestOf_53 fs_X8_374 sh178 ?_
  refine qX_icmp_ge 88 dX8_bestOf_56 rfl (fun hc => ?_) (fun hc => ?_)
  · replace h := h.1 hc
    refine qX_iload dX8_bestOf_88 rfl ?_
    refine qX_aload_n 0 dX8_bestOf_90 rfl rfl (by decide) ?_
    refine qX_getI 8 49 _ dX8_bestOf_91 fs_X8_386 sh178 ?_
    refine qX_icmp_gt 100 dX8_bestOf_94 rfl (fun hc => ?_) (fun hc => ?_)
    · replace h := h.1 hc
      refine qX_iload_n 3 dX8_bestOf_100 rfl rfl ?_
      refine qX_istore_n 2 dX8_bestOf_101 rfl (Nat.le_of_ble_eq_true rfl) rfl ?_
      refine qX_aload_n 0 dX8_bestOf_102 rfl rfl (by decide) ?_
      refine qX_iload dX8_bestOf_103 rfl ?_
      refine qX_putI 8 49 _ dX8_bestOf_105 fs_X8_386 sh178 ?_
      replace h := h _ rfl
      refine qR_iinc dX8_bestOf_108 rfl (Nat.le_of_ble_eq_true rfl) rfl h.1 ?_
      replace h := h.2
      refine qX_goto 19 dX8_bestOf_111 rfl ?_
      exact qX_mask [true, false, true, true, false, false] h
    · replace h := h.2 hc
      refine qX_goto 108 dX8_bestOf_97 rfl ?_
      refine qR_iinc dX8_bestOf_108 rfl (Nat.le_of_ble_eq_true rfl) rfl h.1 ?_
      replace h := h.2
      refine qX_goto 19 dX8_bestOf_111 rfl ?_
      exact qX_mask [true, false, true, true, false, false] h
  · replace h := h.2 hc
    refine qX_iload dX8_bestOf_59 rfl ?_
    refine qX_iload_n 3 dX8_bestOf_61 rfl rfl ?_
    refine qX_iload dX8_bestOf_62 rfl ?_
    refine qX_ishr dX8_bestOf_64 ?_
    refine qX_iconst dX8_bestOf_65 (i32_of rfl) ?_
    refine qX_iand dX8_bestOf_66 ?_
    refine qX_aload_n 0 dX8_bestOf_67 rfl rfl (by decide) ?_
    refine qX_aload_n 0 dX8_bestOf_68 rfl rfl (by decide) ?_
    refine qX_getS 8 44 _ 26 dX8_bestOf_69 fs_X8_94 rfl rfl sh178 (x := 205) rfl ?_
    refine qX_iload dX8_bestOf_72 rfl ?_
    refine qX_iald dX8_bestOf_74 sh205 h.1 ?_
    replace h := h.2
    obtain ⟨P, hE5, h⟩ := h
    refine qN_callV mX8_carriedBy [_] _ 8 [_, _] dX8_bestOf_75 cm_X8_371 ⟨(Nat.le_of_ble_eq_true rfl), (Nat.le_of_ble_eq_true rfl)⟩ rfl rfl sh178 (Nat.le_of_ble_eq_true rfl) ⟨rfl, rfl⟩ hE5 (fun z2 ρ3 μ4 hz => ?_)
    replace h := h _ _ _ hz
    refine qR_imul dX8_bestOf_78 h.1 ?_
    replace h := h.2
    refine qR_iadd dX8_bestOf_79 h.1 ?_
    replace h := h.2
    refine qX_istore dX8_bestOf_80 (Nat.le_of_ble_eq_true rfl) rfl ?_
    refine qR_iinc dX8_bestOf_82 rfl (Nat.le_of_ble_eq_true rfl) rfl h.1 ?_
    replace h := h.2
    refine qX_goto 50 dX8_bestOf_85 rfl ?_
    exact qX_mask [true, false, true, true, true, true] h
set_option maxRecDepth 20000 in
theorem e_X8_layOrder {Post : Int → Rf → Mem → Prop} {ρ : Rf} {μ : Mem} {x1 : Int}
  (h : ∃ P : Int → Rf → Mem → Prop, qE mX8_bestOf GG GG [qP 178, qI x1] ρ μ P ∧ ∀ (z1 : Int) (ρ2 : Rf) (μ3 : Mem), P z1 ρ2 μ3 → ∀ μ5, μ5 = up2 μ3 178 48 0 → qX mX8_layOrder GG Post GG (0, 0) 13 [some (qP 178), none, some (qI z1), some (qI 0), none, none, none] [] ρ2 μ5) : qE mX8_layOrder GG GG [qP 178, qI x1] ρ μ Post := by
  refine qE_intro pl_X8_layOrder (Nat.le_of_ble_eq_true rfl) (Nat.le_refl _) ?_
  refine qX_aload_n 0 dX8_layOrder_0 rfl rfl (by decide) ?_
  refine qX_iload_n 1 dX8_layOrder_1 rfl rfl ?_
  obtain ⟨P, hE4, h⟩ := h
  refine qN_callV mX8_bestOf [_] _ 8 [] dX8_layOrder_2 cm_X8_389 ⟨(Nat.le_of_ble_eq_true rfl), (Nat.le_of_ble_eq_true rfl)⟩ rfl rfl sh178 (Nat.le_of_ble_eq_true rfl) ⟨rfl, rfl⟩ hE4 (fun z1 ρ2 μ3 hz => ?_)
  replace h := h _ _ _ hz
  refine qX_istore_n 2 dX8_layOrder_5 rfl (Nat.le_of_ble_eq_true rfl) rfl ?_
  refine qX_iconst dX8_layOrder_6 (i32_of rfl) ?_
  refine qX_istore_n 3 dX8_layOrder_7 rfl (Nat.le_of_ble_eq_true rfl) rfl ?_
  refine qX_aload_n 0 dX8_layOrder_8 rfl rfl (by decide) ?_
  refine qX_iconst dX8_layOrder_9 (i32_of rfl) ?_
  refine qX_putI 8 48 _ dX8_layOrder_10 fs_X8_392 sh178 ?_
  replace h := h _ rfl
  exact qX_mask [true, false, true, true, false, false, false] h
set_option maxRecDepth 20000 in
theorem w_X8_layOrder_13 {Post : Int → Rf → Mem → Prop} {ρ : Rf} {μ : Mem} {x2 : Int} {x3 : Int}
  (h : ((x2 = 0 → Post 0 ρ μ) ∧ (x2 ≠ 0 → qX mX8_layOrder GG Post GG (0, 0) 23 [some (qP 178), none, some (qI x2), some (qI x3), some (qI 0), some (qI 0), none] [] ρ μ))) : qX mX8_layOrder GG Post GG (0, 0) 13 [some (qP 178), none, some (qI x2), some (qI x3), none, none, none] [] ρ μ := by
  refine qX_iload_n 2 dX8_layOrder_13 rfl rfl ?_
  refine qX_if_eq 156 dX8_layOrder_14 rfl (fun hc => ?_) (fun hc => ?_)
  · replace h := h.1 hc
    exact qX_return rfl dX8_layOrder_156 rfl ⟨Nat.le_refl _, Nat.le_refl _⟩ h
  · replace h := h.2 hc
    refine qX_iconst dX8_layOrder_17 (i32_of rfl) ?_
    refine qX_istore dX8_layOrder_18 (Nat.le_of_ble_eq_true rfl) rfl ?_
    refine qX_iconst dX8_layOrder_20 (i32_of rfl) ?_
    refine qX_istore dX8_layOrder_21 (Nat.le_of_ble_eq_true rfl) rfl ?_
    exact qX_mask [true, false, true, true, true, true, false] h
set_option maxRecDepth 20000 in
theorem w_X8_layOrder_23 {Post : Int → Rf → Mem → Prop} {ρ : Rf} {μ : Mem} {x2 : Int} {x3 : Int} {x4 : Int} {x5 : Int}
  (h : ((x5 ≠ 0 → (0 ≤ x4 ∧ x4 < 8) ∧ ∃ P : Int → Rf → Mem → Prop, qE mX8_endOf GG GG [qP 178, qI x3, qI (μ 205 x4)] ρ μ P ∧ ∀ (z1 : Int) (ρ2 : Rf) (μ3 : Mem), P z1 ρ2 μ3 → (0 ≤ x4 ∧ x4 < 8) ∧ (0 ≤ μ3 178 48 ∧ μ3 178 48 < 8) ∧ ∀ μ5, μ5 = up2 μ3 207 (μ3 178 48) (μ3 205 x4) → i32 ((μ5 178 48) + 1) ∧ ∀ μ6, μ6 = up2 μ5 178 48 ((μ5 178 48) + 1) → qX mX8_layOrder GG Post GG (0, 0) 13 [some (qP 178), none, some (qI (xor32 x2 (shl32 1 x4))), some (qI z1), none, none, none] [] ρ2 μ6) ∧ (x5 = 0 → ((and32 (shr32 x2 x4) 1 ≠ 1 → qX mX8_layOrder GG Post GG (0, 0) 56 [some (qP 178), none, some (qI x2), some (qI x3), some (qI x4), some (qI x5), none] [qI 1000000] ρ μ) ∧ (and32 (shr32 x2 x4) 1 = 1 → (0 ≤ x4 ∧ x4 < 8) ∧ ∃ P : Int → Rf → Mem → Prop, qE mX8_endOf GG GG [qP 178, qI x3, qI (μ 205 x4)] ρ μ P ∧ ∀ (z7 : Int) (ρ8 : Rf) (μ9 : Mem), P z7 ρ8 μ9 → qX mX8_layOrder GG Post GG (0, 0) 56 [some (qP 178), none, some (qI x2), some (qI x3), some (qI x4), some (qI x5), none] [qI z7] ρ8 μ9))))) : qX mX8_layOrder GG Post GG (0, 0) 23 [some (qP 178), none, some (qI x2), some (qI x3), some (qI x4), some (qI x5), none] [] ρ μ := by
  refine qX_iload dX8_layOrder_23 rfl ?_
  refine qX_if_ne 107 dX8_layOrder_25 rfl (fun hc => ?_) (fun hc => ?_)
  · replace h := h.1 hc
    refine qX_aload_n 0 dX8_layOrder_107 rfl rfl (by decide) ?_
    refine qX_iload_n 3 dX8_layOrder_108 rfl rfl ?_
    refine qX_aload_n 0 dX8_layOrder_109 rfl rfl (by decide) ?_
    refine qX_getS 8 44 _ 26 dX8_layOrder_110 fs_X8_94 rfl rfl sh178 (x := 205) rfl ?_
    refine qX_iload dX8_layOrder_113 rfl ?_
    refine qX_iald dX8_layOrder_115 sh205 h.1 ?_
    replace h := h.2
    obtain ⟨P, hE4, h⟩ := h
    refine qN_callV mX8_endOf [_, _] _ 8 [] dX8_layOrder_116 cm_X8_377 ⟨(Nat.le_of_ble_eq_true rfl), (Nat.le_of_ble_eq_true rfl)⟩ rfl rfl sh178 (Nat.le_of_ble_eq_true rfl) ⟨rfl, rfl⟩ hE4 (fun z1 ρ2 μ3 hz => ?_)
    replace h := h _ _ _ hz
    refine qX_istore_n 3 dX8_layOrder_119 rfl (Nat.le_of_ble_eq_true rfl) rfl ?_
    refine qX_iload_n 2 dX8_layOrder_120 rfl rfl ?_
    refine qX_iconst dX8_layOrder_121 (i32_of rfl) ?_
    refine qX_iload dX8_layOrder_122 rfl ?_
    refine qX_ishl dX8_layOrder_124 ?_
    refine qX_ixor dX8_layOrder_125 ?_
    refine qX_istore_n 2 dX8_layOrder_126 rfl (Nat.le_of_ble_eq_true rfl) rfl ?_
    refine qX_aload_n 0 dX8_layOrder_127 rfl rfl (by decide) ?_
    refine qX_getS 8 46 _ 28 dX8_layOrder_128 fs_X8_100 rfl rfl sh178 (x := 207) rfl ?_
    refine qX_aload_n 0 dX8_layOrder_131 rfl rfl (by decide) ?_
    refine qX_getI 8 48 _ dX8_layOrder_132 fs_X8_392 sh178 ?_
    refine qX_aload_n 0 dX8_layOrder_135 rfl rfl (by decide) ?_
    refine qX_getS 8 44 _ 26 dX8_layOrder_136 fs_X8_94 rfl rfl sh178 (x := 205) rfl ?_
    refine qX_iload dX8_layOrder_139 rfl ?_
    refine qX_iald dX8_layOrder_141 sh205 h.1 ?_
    replace h := h.2
    refine qX_iast dX8_layOrder_142 sh207 h.1 ?_
    replace h := h.2
    replace h := h _ rfl
    refine qX_aload_n 0 dX8_layOrder_143 rfl rfl (by decide) ?_
    refine qX_dup dX8_layOrder_144 rfl ?_
    refine qX_getI 8 48 _ dX8_layOrder_145 fs_X8_392 sh178 ?_
    refine qX_iconst dX8_layOrder_148 (i32_of rfl) ?_
    refine qR_iadd dX8_layOrder_149 h.1 ?_
    replace h := h.2
    refine qX_putI 8 48 _ dX8_layOrder_150 fs_X8_392 sh178 ?_
    replace h := h _ rfl
    refine qX_goto 13 dX8_layOrder_153 rfl ?_
    exact qX_mask [true, false, true, true, false, false, false] h
  · replace h := h.2 hc
    refine qX_iload_n 2 dX8_layOrder_28 rfl rfl ?_
    refine qX_iload dX8_layOrder_29 rfl ?_
    refine qX_ishr dX8_layOrder_31 ?_
    refine qX_iconst dX8_layOrder_32 (i32_of rfl) ?_
    refine qX_iand dX8_layOrder_33 ?_
    refine qX_iconst dX8_layOrder_34 (i32_of rfl) ?_
    refine qX_icmp_ne 53 dX8_layOrder_35 rfl (fun hc => ?_) (fun hc => ?_)
    · replace h := h.1 hc
      refine qX_ldcw (n := 1000000) dX8_layOrder_53 kK_X8_313 (i32_of rfl) ?_
      exact qX_mask [true, false, true, true, true, true, false] h
    · replace h := h.2 hc
      refine qX_aload_n 0 dX8_layOrder_38 rfl rfl (by decide) ?_
      refine qX_iload_n 3 dX8_layOrder_39 rfl rfl ?_
      refine qX_aload_n 0 dX8_layOrder_40 rfl rfl (by decide) ?_
      refine qX_getS 8 44 _ 26 dX8_layOrder_41 fs_X8_94 rfl rfl sh178 (x := 205) rfl ?_
      refine qX_iload dX8_layOrder_44 rfl ?_
      refine qX_iald dX8_layOrder_46 sh205 h.1 ?_
      replace h := h.2
      obtain ⟨P, hE10, h⟩ := h
      refine qN_callV mX8_endOf [_, _] _ 8 [] dX8_layOrder_47 cm_X8_377 ⟨(Nat.le_of_ble_eq_true rfl), (Nat.le_of_ble_eq_true rfl)⟩ rfl rfl sh178 (Nat.le_of_ble_eq_true rfl) ⟨rfl, rfl⟩ hE10 (fun z7 ρ8 μ9 hz => ?_)
      replace h := h _ _ _ hz
      refine qX_goto 56 dX8_layOrder_50 rfl ?_
      exact qX_mask [true, false, true, true, true, true, false] h
set_option maxRecDepth 20000 in
theorem w_X8_layOrder_56 {Post : Int → Rf → Mem → Prop} {ρ : Rf} {μ : Mem} {s0 : Int} {x2 : Int} {x3 : Int} {x4 : Int} {x5 : Int}
  (h : ((1000000 ≤ s0 → qX mX8_layOrder GG Post GG (0, 0) 96 [some (qP 178), none, some (qI x2), some (qI x3), some (qI x4), some (qI x5), none] [] ρ μ) ∧ (s0 < 1000000 → ∃ P : Int → Rf → Mem → Prop, qE mX8_layEnds GG GG [qP 178, qI s0] ρ μ P ∧ ∀ (z1 : Int) (ρ2 : Rf) (μ3 : Mem), P z1 ρ2 μ3 → (0 ≤ xor32 x2 (shl32 1 x4) ∧ xor32 x2 (shl32 1 x4) < 256) ∧ ((1000000 ≤ μ3 206 (xor32 x2 (shl32 1 x4)) → qX mX8_layOrder GG Post GG (0, 0) 94 [some (qP 178), none, some (qI x2), some (qI x3), some (qI x4), none, none] [qI 0] ρ2 μ3) ∧ (μ3 206 (xor32 x2 (shl32 1 x4)) < 1000000 → qX mX8_layOrder GG Post GG (0, 0) 94 [some (qP 178), none, some (qI x2), some (qI x3), some (qI x4), none, none] [qI 1] ρ2 μ3))))) : qX mX8_layOrder GG Post GG (0, 0) 56 [some (qP 178), none, some (qI x2), some (qI x3), some (qI x4), some (qI x5), none] [qI s0] ρ μ := by
  refine qX_istore dX8_layOrder_56 (Nat.le_of_ble_eq_true rfl) rfl ?_
  refine qX_iload dX8_layOrder_58 rfl ?_
  refine qX_ldcw (n := 1000000) dX8_layOrder_60 kK_X8_313 (i32_of rfl) ?_
  refine qX_icmp_ge 96 dX8_layOrder_63 rfl (fun hc => ?_) (fun hc => ?_)
  · replace h := h.1 hc
    exact qX_mask [true, false, true, true, true, true, false] h
  · replace h := h.2 hc
    refine qX_aload_n 0 dX8_layOrder_66 rfl rfl (by decide) ?_
    refine qX_iload dX8_layOrder_67 rfl ?_
    obtain ⟨P, hE4, h⟩ := h
    refine qN_callV mX8_layEnds [_] _ 8 [] dX8_layOrder_69 cm_X8_383 ⟨(Nat.le_of_ble_eq_true rfl), (Nat.le_of_ble_eq_true rfl)⟩ rfl rfl sh178 (Nat.le_of_ble_eq_true rfl) ⟨rfl, rfl⟩ hE4 (fun z1 ρ2 μ3 hz => ?_)
    replace h := h _ _ _ hz
    refine qX_aload_n 0 dX8_layOrder_72 rfl rfl (by decide) ?_
    refine qX_getS 8 45 _ 27 dX8_layOrder_73 fs_X8_97 rfl rfl sh178 (x := 206) rfl ?_
    refine qX_iload_n 2 dX8_layOrder_76 rfl rfl ?_
    refine qX_iconst dX8_layOrder_77 (i32_of rfl) ?_
    refine qX_iload dX8_layOrder_78 rfl ?_
    refine qX_ishl dX8_layOrder_80 ?_
    refine qX_ixor dX8_layOrder_81 ?_
    refine qX_iald dX8_layOrder_82 sh206 h.1 ?_
    replace h := h.2
    refine qX_ldcw (n := 1000000) dX8_layOrder_83 kK_X8_313 (i32_of rfl) ?_
    refine qX_icmp_ge 93 dX8_layOrder_86 rfl (fun hc => ?_) (fun hc => ?_)
    · replace h := h.1 hc
      refine qX_iconst dX8_layOrder_93 (i32_of rfl) ?_
      exact qX_mask [true, false, true, true, true, false, false] h
    · replace h := h.2 hc
      refine qX_iconst dX8_layOrder_89 (i32_of rfl) ?_
      refine qX_goto 94 dX8_layOrder_90 rfl ?_
      exact qX_mask [true, false, true, true, true, false, false] h
set_option maxRecDepth 20000 in
theorem w_X8_layOrder_96 {Post : Int → Rf → Mem → Prop} {ρ : Rf} {μ : Mem} {x2 : Int} {x3 : Int} {x4 : Int} {x5 : Int}
  (h : ((x5 ≠ 0 → qX mX8_layOrder GG Post GG (0, 0) 104 [some (qP 178), none, some (qI x2), some (qI x3), some (qI x4), some (qI x5), none] [] ρ μ) ∧ (x5 = 0 → i32 (x4 + 1) ∧ qX mX8_layOrder GG Post GG (0, 0) 104 [some (qP 178), none, some (qI x2), some (qI x3), some (qI (x4 + 1)), some (qI x5), none] [] ρ μ))) : qX mX8_layOrder GG Post GG (0, 0) 96 [some (qP 178), none, some (qI x2), some (qI x3), some (qI x4), some (qI x5), none] [] ρ μ := by
  refine qX_iload dX8_layOrder_96 rfl ?_
  refine qX_if_ne 104 dX8_layOrder_98 rfl (fun hc => ?_) (fun hc => ?_)
  · replace h := h.1 hc
    exact qX_mask [true, false, true, true, true, true, false] h
  · replace h := h.2 hc
    refine qR_iinc dX8_layOrder_101 rfl (Nat.le_of_ble_eq_true rfl) rfl h.1 ?_
    replace h := h.2
    exact qX_mask [true, false, true, true, true, true, false] h
set_option maxRecDepth 20000 in
theorem w_X8_layOrder_94 {Post : Int → Rf → Mem → Prop} {ρ : Rf} {μ : Mem} {s0 : Int} {x2 : Int} {x3 : Int} {x4 : Int}
  (h : qX mX8_layOrder GG Post GG (0, 0) 96 [some (qP 178), none, some (qI x2), some (qI x3), some (qI x4), some (qI s0), none] [] ρ μ) : qX mX8_layOrder GG Post GG (0, 0) 94 [some (qP 178), none, some (qI x2), some (qI x3), some (qI x4), none, none] [qI s0] ρ μ := by
  refine qX_istore dX8_layOrder_94 (Nat.le_of_ble_eq_true rfl) rfl ?_
  exact qX_mask [true, false, true, true, true, true, false] h
set_option maxRecDepth 20000 in
theorem w_X8_layOrder_104 {Post : Int → Rf → Mem → Prop} {ρ : Rf} {μ : Mem} {x2 : Int} {x3 : Int} {x4 : Int} {x5 : Int}
  (h : qX mX8_layOrder GG Post GG (0, 0) 23 [some (qP 178), none, some (qI x2), some (qI x3), some (qI x4), some (qI x5), none] [] ρ μ) : qX mX8_layOrder GG Post GG (0, 0) 104 [some (qP 178), none, some (qI x2), some (qI x3), some (qI x4), some (qI x5), none] [] ρ μ := by
  refine qX_goto 23 dX8_layOrder_104 rfl ?_
  exact qX_mask [true, false, true, true, true, true, false] h
set_option maxRecDepth 20000 in
theorem e_X8_bestSet {Post : Int → Rf → Mem → Prop} {ρ : Rf} {μ : Mem} {x1 : Int}
  (h : ∀ μ1, μ1 = up2 μ 178 0 0 → ∃ P : Int → Rf → Mem → Prop, qE mX8_isTrolley GG GG [qP 178, qI x1] ρ μ1 P ∧ ∀ (z2 : Int) (ρ3 : Rf) (μ4 : Mem), P z2 ρ3 μ4 → ((z2 = 0 → ∃ P : Int → Rf → Mem → Prop, qE mX8_failed GG GG [qP 178, qI 1] ρ3 μ4 P ∧ ∀ (z6 : Int) (ρ7 : Rf) (μ8 : Mem), P z6 ρ7 μ8 → Post z6 ρ7 μ8) ∧ (z2 ≠ 0 → ∃ P : Int → Rf → Mem → Prop, qE mX8_bestOf GG GG [qP 178, qI x1] ρ3 μ4 P ∧ ∀ (z10 : Int) (ρ11 : Rf) (μ12 : Mem), P z10 ρ11 μ12 → ∃ P : Int → Rf → Mem → Prop, qE mX8_done GG GG [qP 178, qI z10] ρ11 μ12 P ∧ ∀ (z14 : Int) (ρ15 : Rf) (μ16 : Mem), P z14 ρ15 μ16 → Post z14 ρ15 μ16))) : qE mX8_bestSet GG GG [qP 178, qI x1] ρ μ Post := by
  refine qE_intro pl_X8_bestSet (Nat.le_of_ble_eq_true rfl) (Nat.le_refl _) ?_
  refine qX_aload_n 0 dX8_bestSet_0 rfl rfl (by decide) ?_
  refine qX_iconst dX8_bestSet_1 (i32_of rfl) ?_
  refine qX_putI 8 0 _ dX8_bestSet_2 fs_X8_103 sh178 ?_
  replace h := h _ rfl
  refine qX_aload_n 0 dX8_bestSet_5 rfl rfl (by decide) ?_
  refine qX_iload_n 1 dX8_bestSet_6 rfl rfl ?_
  obtain ⟨P, hE5, h⟩ := h
  refine qN_callV mX8_isTrolley [_] _ 8 [] dX8_bestSet_7 cm_X8_330 ⟨(Nat.le_of_ble_eq_true rfl), (Nat.le_of_ble_eq_true rfl)⟩ rfl rfl sh178 (Nat.le_of_ble_eq_true rfl) ⟨rfl, rfl⟩ hE5 (fun z2 ρ3 μ4 hz => ?_)
  replace h := h _ _ _ hz
  refine qX_if_eq 25 dX8_bestSet_10 rfl (fun hc => ?_) (fun hc => ?_)
  · replace h := h.1 hc
    refine qX_aload_n 0 dX8_bestSet_25 rfl rfl (by decide) ?_
    refine qX_iconst dX8_bestSet_26 (i32_of rfl) ?_
    obtain ⟨P, hE9, h⟩ := h
    refine qN_callV mX8_failed [_] _ 8 [] dX8_bestSet_27 cm_X8_226 ⟨(Nat.le_of_ble_eq_true rfl), (Nat.le_of_ble_eq_true rfl)⟩ rfl rfl sh178 (Nat.le_of_ble_eq_true rfl) ⟨rfl, rfl⟩ hE9 (fun z6 ρ7 μ8 hz => ?_)
    replace h := h _ _ _ hz
    exact qX_ireturn rfl dX8_bestSet_30 rfl ⟨Nat.le_refl _, Nat.le_refl _⟩ h
  · replace h := h.2 hc
    refine qX_aload_n 0 dX8_bestSet_13 rfl rfl (by decide) ?_
    refine qX_aload_n 0 dX8_bestSet_14 rfl rfl (by decide) ?_
    refine qX_iload_n 1 dX8_bestSet_15 rfl rfl ?_
    obtain ⟨P, hE13, h⟩ := h
    refine qN_callV mX8_bestOf [_] _ 8 [_] dX8_bestSet_16 cm_X8_389 ⟨(Nat.le_of_ble_eq_true rfl), (Nat.le_of_ble_eq_true rfl)⟩ rfl rfl sh178 (Nat.le_of_ble_eq_true rfl) ⟨rfl, rfl⟩ hE13 (fun z10 ρ11 μ12 hz => ?_)
    replace h := h _ _ _ hz
    obtain ⟨P, hE17, h⟩ := h
    refine qN_callV mX8_done [_] _ 8 [] dX8_bestSet_19 cm_X8_246 ⟨(Nat.le_of_ble_eq_true rfl), (Nat.le_of_ble_eq_true rfl)⟩ rfl rfl sh178 (Nat.le_of_ble_eq_true rfl) ⟨rfl, rfl⟩ hE17 (fun z14 ρ15 μ16 hz => ?_)
    replace h := h _ _ _ hz
    refine qX_goto 30 dX8_bestSet_22 rfl ?_
    exact qX_ireturn rfl dX8_bestSet_30 rfl ⟨Nat.le_refl _, Nat.le_refl _⟩ h
set_option maxRecDepth 20000 in
theorem e_X8_bestMeals {Post : Int → Rf → Mem → Prop} {ρ : Rf} {μ : Mem} {x1 : Int}
  (h : ∀ μ1, μ1 = up2 μ 178 0 0 → ∃ P : Int → Rf → Mem → Prop, qE mX8_isTrolley GG GG [qP 178, qI x1] ρ μ1 P ∧ ∀ (z2 : Int) (ρ3 : Rf) (μ4 : Mem), P z2 ρ3 μ4 → ((z2 ≠ 0 → ∃ P : Int → Rf → Mem → Prop, qE mX8_bestOf GG GG [qP 178, qI x1] ρ3 μ4 P ∧ ∀ (z6 : Int) (ρ7 : Rf) (μ8 : Mem), P z6 ρ7 μ8 → ((z6 ≠ 0 → ∃ P : Int → Rf → Mem → Prop, qE mX8_done GG GG [qP 178, qI (μ8 178 49)] ρ7 μ8 P ∧ ∀ (z10 : Int) (ρ11 : Rf) (μ12 : Mem), P z10 ρ11 μ12 → Post z10 ρ11 μ12) ∧ (z6 = 0 → ∃ P : Int → Rf → Mem → Prop, qE mX8_done GG GG [qP 178, qI 0] ρ7 μ8 P ∧ ∀ (z14 : Int) (ρ15 : Rf) (μ16 : Mem), P z14 ρ15 μ16 → Post z14 ρ15 μ16))) ∧ (z2 = 0 → ∃ P : Int → Rf → Mem → Prop, qE mX8_failed GG GG [qP 178, qI 1] ρ3 μ4 P ∧ ∀ (z18 : Int) (ρ19 : Rf) (μ20 : Mem), P z18 ρ19 μ20 → Post z18 ρ19 μ20))) : qE mX8_bestMeals GG GG [qP 178, qI x1] ρ μ Post := by
  refine qE_intro pl_X8_bestMeals (Nat.le_of_ble_eq_true rfl) (Nat.le_refl _) ?_
  refine qX_aload_n 0 dX8_bestMeals_0 rfl rfl (by decide) ?_
  refine qX_iconst dX8_bestMeals_1 (i32_of rfl) ?_
  refine qX_putI 8 0 _ dX8_bestMeals_2 fs_X8_103 sh178 ?_
  replace h := h _ rfl
  refine qX_aload_n 0 dX8_bestMeals_5 rfl rfl (by decide) ?_
  refine qX_iload_n 1 dX8_bestMeals_6 rfl rfl ?_
  obtain ⟨P, hE5, h⟩ := h
  refine qN_callV mX8_isTrolley [_] _ 8 [] dX8_bestMeals_7 cm_X8_330 ⟨(Nat.le_of_ble_eq_true rfl), (Nat.le_of_ble_eq_true rfl)⟩ rfl rfl sh178 (Nat.le_of_ble_eq_true rfl) ⟨rfl, rfl⟩ hE5 (fun z2 ρ3 μ4 hz => ?_)
  replace h := h _ _ _ hz
  refine qX_if_ne 19 dX8_bestMeals_10 rfl (fun hc => ?_) (fun hc => ?_)
  · replace h := h.1 hc
    refine qX_aload_n 0 dX8_bestMeals_19 rfl rfl (by decide) ?_
    refine qX_iload_n 1 dX8_bestMeals_20 rfl rfl ?_
    obtain ⟨P, hE9, h⟩ := h
    refine qN_callV mX8_bestOf [_] _ 8 [] dX8_bestMeals_21 cm_X8_389 ⟨(Nat.le_of_ble_eq_true rfl), (Nat.le_of_ble_eq_true rfl)⟩ rfl rfl sh178 (Nat.le_of_ble_eq_true rfl) ⟨rfl, rfl⟩ hE9 (fun z6 ρ7 μ8 hz => ?_)
    replace h := h _ _ _ hz
    refine qX_istore_n 2 dX8_bestMeals_24 rfl (Nat.le_of_ble_eq_true rfl) rfl ?_
    refine qX_aload_n 0 dX8_bestMeals_25 rfl rfl (by decide) ?_
    refine qX_iload_n 2 dX8_bestMeals_26 rfl rfl ?_
    refine qX_if_ne 34 dX8_bestMeals_27 rfl (fun hc => ?_) (fun hc => ?_)
    · replace h := h.1 hc
      refine qX_aload_n 0 dX8_bestMeals_34 rfl rfl (by decide) ?_
      refine qX_getI 8 49 _ dX8_bestMeals_35 fs_X8_386 sh178 ?_
      obtain ⟨P, hE13, h⟩ := h
      refine qN_callV mX8_done [_] _ 8 [] dX8_bestMeals_38 cm_X8_246 ⟨(Nat.le_of_ble_eq_true rfl), (Nat.le_of_ble_eq_true rfl)⟩ rfl rfl sh178 (Nat.le_of_ble_eq_true rfl) ⟨rfl, rfl⟩ hE13 (fun z10 ρ11 μ12 hz => ?_)
      replace h := h _ _ _ hz
      exact qX_ireturn rfl dX8_bestMeals_41 rfl ⟨Nat.le_refl _, Nat.le_refl _⟩ h
    · replace h := h.2 hc
      refine qX_iconst dX8_bestMeals_30 (i32_of rfl) ?_
      refine qX_goto 38 dX8_bestMeals_31 rfl ?_
      obtain ⟨P, hE17, h⟩ := h
      refine qN_callV mX8_done [_] _ 8 [] dX8_bestMeals_38 cm_X8_246 ⟨(Nat.le_of_ble_eq_true rfl), (Nat.le_of_ble_eq_true rfl)⟩ rfl rfl sh178 (Nat.le_of_ble_eq_true rfl) ⟨rfl, rfl⟩ hE17 (fun z14 ρ15 μ16 hz => ?_)
      replace h := h _ _ _ hz
      exact qX_ireturn rfl dX8_bestMeals_41 rfl ⟨Nat.le_refl _, Nat.le_refl _⟩ h
  · replace h := h.2 hc
    refine qX_aload_n 0 dX8_bestMeals_13 rfl rfl (by decide) ?_
    refine qX_iconst dX8_bestMeals_14 (i32_of rfl) ?_
    obtain ⟨P, hE21, h⟩ := h
    refine qN_callV mX8_failed [_] _ 8 [] dX8_bestMeals_15 cm_X8_226 ⟨(Nat.le_of_ble_eq_true rfl), (Nat.le_of_ble_eq_true rfl)⟩ rfl rfl sh178 (Nat.le_of_ble_eq_true rfl) ⟨rfl, rfl⟩ hE21 (fun z18 ρ19 μ20 hz => ?_)
    replace h := h _ _ _ hz
    exact qX_ireturn rfl dX8_bestMeals_18 rfl ⟨Nat.le_refl _, Nat.le_refl _⟩ h
set_option maxRecDepth 20000 in
theorem e_X8_bestOrder {Post : Int → Rf → Mem → Prop} {ρ : Rf} {μ : Mem} {x1 : Int} {x2 : Int}
  (h : ∀ μ1, μ1 = up2 μ 178 0 0 → ∃ P : Int → Rf → Mem → Prop, qE mX8_isTrolley GG GG [qP 178, qI x1] ρ μ1 P ∧ ∀ (z2 : Int) (ρ3 : Rf) (μ4 : Mem), P z2 ρ3 μ4 → ((z2 ≠ 0 → ∃ P : Int → Rf → Mem → Prop, qE mX8_layOrder GG GG [qP 178, qI x1] ρ3 μ4 P ∧ ∀ (z6 : Int) (ρ7 : Rf) (μ8 : Mem), P z6 ρ7 μ8 → i32 ((μ8 178 48) - 1) ∧ ∃ P : Int → Rf → Mem → Prop, qE mX8_in GG GG [qI x2, qI 0, qI ((μ8 178 48) - 1)] ρ7 μ8 P ∧ ∀ (z10 : Int) (ρ11 : Rf) (μ12 : Mem), P z10 ρ11 μ12 → ((z10 = 0 → ∃ P : Int → Rf → Mem → Prop, qE mX8_failed GG GG [qP 178, qI 6] ρ11 μ12 P ∧ ∀ (z14 : Int) (ρ15 : Rf) (μ16 : Mem), P z14 ρ15 μ16 → Post z14 ρ15 μ16) ∧ (z10 ≠ 0 → (0 ≤ x2 ∧ x2 < 8) ∧ ∃ P : Int → Rf → Mem → Prop, qE mX8_done GG GG [qP 178, qI (μ12 207 x2)] ρ11 μ12 P ∧ ∀ (z18 : Int) (ρ19 : Rf) (μ20 : Mem), P z18 ρ19 μ20 → Post z18 ρ19 μ20))) ∧ (z2 = 0 → ∃ P : Int → Rf → Mem → Prop, qE mX8_failed GG GG [qP 178, qI 1] ρ3 μ4 P ∧ ∀ (z22 : Int) (ρ23 : Rf) (μ24 : Mem), P z22 ρ23 μ24 → Post z22 ρ23 μ24))) : qE mX8_bestOrder GG GG [qP 178, qI x1, qI x2] ρ μ Post := by
  refine qE_intro pl_X8_bestOrder (Nat.le_of_ble_eq_true rfl) (Nat.le_refl _) ?_
  refine qX_aload_n 0 dX8_bestOrder_0 rfl rfl (by decide) ?_
  refine qX_iconst dX8_bestOrder_1 (i32_of rfl) ?_
  refine qX_putI 8 0 _ dX8_bestOrder_2 fs_X8_103 sh178 ?_
  replace h := h _ rfl
  refine qX_aload_n 0 dX8_bestOrder_5 rfl rfl (by decide) ?_
  refine qX_iload_n 1 dX8_bestOrder_6 rfl rfl ?_
  obtain ⟨P, hE5, h⟩ := h
  refine qN_callV mX8_isTrolley [_] _ 8 [] dX8_bestOrder_7 cm_X8_330 ⟨(Nat.le_of_ble_eq_true rfl), (Nat.le_of_ble_eq_true rfl)⟩ rfl rfl sh178 (Nat.le_of_ble_eq_true rfl) ⟨rfl, rfl⟩ hE5 (fun z2 ρ3 μ4 hz => ?_)
  replace h := h _ _ _ hz
  refine qX_if_ne 19 dX8_bestOrder_10 rfl (fun hc => ?_) (fun hc => ?_)
  · replace h := h.1 hc
    refine qX_aload_n 0 dX8_bestOrder_19 rfl rfl (by decide) ?_
    refine qX_iload_n 1 dX8_bestOrder_20 rfl rfl ?_
    obtain ⟨P, hE9, h⟩ := h
    refine qN_callV mX8_layOrder [_] _ 8 [] dX8_bestOrder_21 cm_X8_395 ⟨(Nat.le_of_ble_eq_true rfl), (Nat.le_of_ble_eq_true rfl)⟩ rfl rfl sh178 (Nat.le_of_ble_eq_true rfl) ⟨rfl, rfl⟩ hE9 (fun z6 ρ7 μ8 hz => ?_)
    replace h := h _ _ _ hz
    refine qX_iload_n 2 dX8_bestOrder_24 rfl rfl ?_
    refine qX_iconst dX8_bestOrder_25 (i32_of rfl) ?_
    refine qX_aload_n 0 dX8_bestOrder_26 rfl rfl (by decide) ?_
    refine qX_getI 8 48 _ dX8_bestOrder_27 fs_X8_392 sh178 ?_
    refine qX_iconst dX8_bestOrder_30 (i32_of rfl) ?_
    refine qR_isub dX8_bestOrder_31 h.1 ?_
    replace h := h.2
    obtain ⟨P, hE13, h⟩ := h
    refine qN_callS mX8_in [_, _, _] [] dX8_bestOrder_32 cm_X8_142 ⟨(Nat.le_of_ble_eq_true rfl), (Nat.le_of_ble_eq_true rfl)⟩ rfl rfl (Nat.le_of_ble_eq_true rfl) ⟨rfl, rfl⟩ hE13 (fun z10 ρ11 μ12 hz => ?_)
    replace h := h _ _ _ hz
    refine qX_if_eq 51 dX8_bestOrder_35 rfl (fun hc => ?_) (fun hc => ?_)
    · replace h := h.1 hc
      refine qX_aload_n 0 dX8_bestOrder_51 rfl rfl (by decide) ?_
      refine qX_bip dX8_bestOrder_52 rfl ?_
      obtain ⟨P, hE17, h⟩ := h
      refine qN_callV mX8_failed [_] _ 8 [] dX8_bestOrder_54 cm_X8_226 ⟨(Nat.le_of_ble_eq_true rfl), (Nat.le_of_ble_eq_true rfl)⟩ rfl rfl sh178 (Nat.le_of_ble_eq_true rfl) ⟨rfl, rfl⟩ hE17 (fun z14 ρ15 μ16 hz => ?_)
      replace h := h _ _ _ hz
      exact qX_ireturn rfl dX8_bestOrder_57 rfl ⟨Nat.le_refl _, Nat.le_refl _⟩ h
    · replace h := h.2 hc
      refine qX_aload_n 0 dX8_bestOrder_38 rfl rfl (by decide) ?_
      refine qX_aload_n 0 dX8_bestOrder_39 rfl rfl (by decide) ?_
      refine qX_getS 8 46 _ 28 dX8_bestOrder_40 fs_X8_100 rfl rfl sh178 (x := 207) rfl ?_
      refine qX_iload_n 2 dX8_bestOrder_43 rfl rfl ?_
      refine qX_iald dX8_bestOrder_44 sh207 h.1 ?_
      replace h := h.2
      obtain ⟨P, hE21, h⟩ := h
      refine qN_callV mX8_done [_] _ 8 [] dX8_bestOrder_45 cm_X8_246 ⟨(Nat.le_of_ble_eq_true rfl), (Nat.le_of_ble_eq_true rfl)⟩ rfl rfl sh178 (Nat.le_of_ble_eq_true rfl) ⟨rfl, rfl⟩ hE21 (fun z18 ρ19 μ20 hz => ?_)
      replace h := h _ _ _ hz
      refine qX_goto 57 dX8_bestOrder_48 rfl ?_
      exact qX_ireturn rfl dX8_bestOrder_57 rfl ⟨Nat.le_refl _, Nat.le_refl _⟩ h
  · replace h := h.2 hc
    refine qX_aload_n 0 dX8_bestOrder_13 rfl rfl (by decide) ?_
    refine qX_iconst dX8_bestOrder_14 (i32_of rfl) ?_
    obtain ⟨P, hE25, h⟩ := h
    refine qN_callV mX8_failed [_] _ 8 [] dX8_bestOrder_15 cm_X8_226 ⟨(Nat.le_of_ble_eq_true rfl), (Nat.le_of_ble_eq_true rfl)⟩ rfl rfl sh178 (Nat.le_of_ble_eq_true rfl) ⟨rfl, rfl⟩ hE25 (fun z22 ρ23 μ24 hz => ?_)
    replace h := h _ _ _ hz
    exact qX_ireturn rfl dX8_bestOrder_18 rfl ⟨Nat.le_refl _, Nat.le_refl _⟩ h
set_option maxRecDepth 20000 in
theorem e_X8_leastSpeed {Post : Int → Rf → Mem → Prop} {ρ : Rf} {μ : Mem} {x1 : Int}
  (h : ∀ μ1, μ1 = up2 μ 178 0 0 → ∃ P : Int → Rf → Mem → Prop, qE mX8_isTrolley GG GG [qP 178, qI x1] ρ μ1 P ∧ ∀ (z2 : Int) (ρ3 : Rf) (μ4 : Mem), P z2 ρ3 μ4 → ((z2 ≠ 0 → i32 (5 * x1) ∧ i32 (62 + (5 * x1)) ∧ i32 ((62 + (5 * x1)) + 2) ∧ (0 ≤ (62 + (5 * x1)) + 2 ∧ (62 + (5 * x1)) + 2 < 188) ∧ ∃ P : Int → Rf → Mem → Prop, qE mX8_layOwn GG GG [qP 178, qI x1] ρ3 μ4 P ∧ ∀ (z6 : Int) (ρ7 : Rf) (μ8 : Mem), P z6 ρ7 μ8 → qX mX8_leastSpeed GG Post GG (0, 0) 46 [some (qP 178), none, some (qI ((62 + (5 * x1)) + 2)), some (qI (μ4 180 ((62 + (5 * x1)) + 2))), some (qI (-1)), some (qI 1)] [] ρ7 μ8) ∧ (z2 = 0 → ∃ P : Int → Rf → Mem → Prop, qE mX8_failed GG GG [qP 178, qI 1] ρ3 μ4 P ∧ ∀ (z10 : Int) (ρ11 : Rf) (μ12 : Mem), P z10 ρ11 μ12 → Post z10 ρ11 μ12))) : qE mX8_leastSpeed GG GG [qP 178, qI x1] ρ μ Post := by
  refine qE_intro pl_X8_leastSpeed (Nat.le_of_ble_eq_true rfl) (Nat.le_refl _) ?_
  refine qX_aload_n 0 dX8_leastSpeed_0 rfl rfl (by decide) ?_
  refine qX_iconst dX8_leastSpeed_1 (i32_of rfl) ?_
  refine qX_putI 8 0 _ dX8_leastSpeed_2 fs_X8_103 sh178 ?_
  replace h := h _ rfl
  refine qX_aload_n 0 dX8_leastSpeed_5 rfl rfl (by decide) ?_
  refine qX_iload_n 1 dX8_leastSpeed_6 rfl rfl ?_
  obtain ⟨P, hE5, h⟩ := h
  refine qN_callV mX8_isTrolley [_] _ 8 [] dX8_leastSpeed_7 cm_X8_330 ⟨(Nat.le_of_ble_eq_true rfl), (Nat.le_of_ble_eq_true rfl)⟩ rfl rfl sh178 (Nat.le_of_ble_eq_true rfl) ⟨rfl, rfl⟩ hE5 (fun z2 ρ3 μ4 hz => ?_)
  replace h := h _ _ _ hz
  refine qX_if_ne 19 dX8_leastSpeed_10 rfl (fun hc => ?_) (fun hc => ?_)
  · replace h := h.1 hc
    refine qX_bip dX8_leastSpeed_19 rfl ?_
    refine qX_iconst dX8_leastSpeed_21 (i32_of rfl) ?_
    refine qX_iload_n 1 dX8_leastSpeed_22 rfl rfl ?_
    refine qR_imul dX8_leastSpeed_23 h.1 ?_
    replace h := h.2
    refine qR_iadd dX8_leastSpeed_24 h.1 ?_
    replace h := h.2
    refine qX_iconst dX8_leastSpeed_25 (i32_of rfl) ?_
    refine qR_iadd dX8_leastSpeed_26 h.1 ?_
    replace h := h.2
    refine qX_istore_n 2 dX8_leastSpeed_27 rfl (Nat.le_of_ble_eq_true rfl) rfl ?_
    refine qX_aload_n 0 dX8_leastSpeed_28 rfl rfl (by decide) ?_
    refine qX_getS 8 12 _ 1 dX8_leastSpeed_29 fs_X8_17 rfl rfl sh178 (x := 180) rfl ?_
    refine qX_iload_n 2 dX8_leastSpeed_32 rfl rfl ?_
    refine qX_iald dX8_leastSpeed_33 sh180 h.1 ?_
    replace h := h.2
    refine qX_istore_n 3 dX8_leastSpeed_34 rfl (Nat.le_of_ble_eq_true rfl) rfl ?_
    refine qX_iconst dX8_leastSpeed_35 (i32_of rfl) ?_
    refine qX_istore dX8_leastSpeed_36 (Nat.le_of_ble_eq_true rfl) rfl ?_
    refine qX_aload_n 0 dX8_leastSpeed_38 rfl rfl (by decide) ?_
    refine qX_iload_n 1 dX8_leastSpeed_39 rfl rfl ?_
    obtain ⟨P, hE9, h⟩ := h
    refine qN_callV mX8_layOwn [_] _ 8 [] dX8_leastSpeed_40 cm_X8_380 ⟨(Nat.le_of_ble_eq_true rfl), (Nat.le_of_ble_eq_true rfl)⟩ rfl rfl sh178 (Nat.le_of_ble_eq_true rfl) ⟨rfl, rfl⟩ hE9 (fun z6 ρ7 μ8 hz => ?_)
    replace h := h _ _ _ hz
    refine qX_iconst dX8_leastSpeed_43 (i32_of rfl) ?_
    refine qX_istore dX8_leastSpeed_44 (Nat.le_of_ble_eq_true rfl) rfl ?_
    exact qX_mask [true, false, true, true, true, true] h
  · replace h := h.2 hc
    refine qX_aload_n 0 dX8_leastSpeed_13 rfl rfl (by decide) ?_
    refine qX_iconst dX8_leastSpeed_14 (i32_of rfl) ?_
    obtain ⟨P, hE13, h⟩ := h
    refine qN_callV mX8_failed [_] _ 8 [] dX8_leastSpeed_15 cm_X8_226 ⟨(Nat.le_of_ble_eq_true rfl), (Nat.le_of_ble_eq_true rfl)⟩ rfl rfl sh178 (Nat.le_of_ble_eq_true rfl) ⟨rfl, rfl⟩ hE13 (fun z10 ρ11 μ12 hz => ?_)
    replace h := h _ _ _ hz
    exact qX_ireturn rfl dX8_leastSpeed_18 rfl ⟨Nat.le_refl _, Nat.le_refl _⟩ h
set_option maxRecDepth 20000 in
theorem w_X8_leastSpeed_46 {Post : Int → Rf → Mem → Prop} {ρ : Rf} {μ : Mem} {x2 : Int} {x3 : Int} {x4 : Int} {x5 : Int}
  (h : ((9 < x5 → qX mX8_leastSpeed GG Post GG (0, 0) 104 [some (qP 178), none, some (qI x2), some (qI x3), some (qI x4), none] [] ρ μ) ∧ (x5 ≤ 9 → ((0 ≤ x4 → qX mX8_leastSpeed GG Post GG (0, 0) 104 [some (qP 178), none, some (qI x2), some (qI x3), some (qI x4), none] [] ρ μ) ∧ (x4 < 0 → (0 ≤ x2 ∧ x2 < 188) ∧ ∀ μ1, μ1 = up2 μ 180 x2 x5 → ∃ P : Int → Rf → Mem → Prop, qE mX8_layEnds GG GG [qP 178, qI 0] ρ μ1 P ∧ ∀ (z2 : Int) (ρ3 : Rf) (μ4 : Mem), P z2 ρ3 μ4 → i32 ((shl32 1 (μ4 178 47)) - 1) ∧ (0 ≤ (shl32 1 (μ4 178 47)) - 1 ∧ (shl32 1 (μ4 178 47)) - 1 < 256) ∧ ((1000000 ≤ μ4 206 ((shl32 1 (μ4 178 47)) - 1) → qX mX8_leastSpeed GG Post GG (0, 0) 96 [some (qP 178), none, some (qI x2), some (qI x3), none, some (qI x5)] [qI (-1)] ρ3 μ4) ∧ (μ4 206 ((shl32 1 (μ4 178 47)) - 1) < 1000000 → qX mX8_leastSpeed GG Post GG (0, 0) 96 [some (qP 178), none, some (qI x2), some (qI x3), none, some (qI x5)] [qI x5] ρ3 μ4))))))) : qX mX8_leastSpeed GG Post GG (0, 0) 46 [some (qP 178), none, some (qI x2), some (qI x3), some (qI x4), some (qI x5)] [] ρ μ := by
  refine qX_iload dX8_leastSpeed_46 rfl ?_
  refine qX_bip dX8_leastSpeed_48 rfl ?_
  refine qX_icmp_gt 104 dX8_leastSpeed_50 rfl (fun hc => ?_) (fun hc => ?_)
  · replace h := h.1 hc
    exact qX_mask [true, false, true, true, true, false] h
  · replace h := h.2 hc
    refine qX_iload dX8_leastSpeed_53 rfl ?_
    refine qX_if_ge 104 dX8_leastSpeed_55 rfl (fun hc => ?_) (fun hc => ?_)
    · replace h := h.1 hc
      exact qX_mask [true, false, true, true, true, false] h
    · replace h := h.2 hc
      refine qX_aload_n 0 dX8_leastSpeed_58 rfl rfl (by decide) ?_
      refine qX_getS 8 12 _ 1 dX8_leastSpeed_59 fs_X8_17 rfl rfl sh178 (x := 180) rfl ?_
      refine qX_iload_n 2 dX8_leastSpeed_62 rfl rfl ?_
      refine qX_iload dX8_leastSpeed_63 rfl ?_
      refine qX_iast dX8_leastSpeed_65 sh180 h.1 ?_
      replace h := h.2
      replace h := h _ rfl
      refine qX_aload_n 0 dX8_leastSpeed_66 rfl rfl (by decide) ?_
      refine qX_iconst dX8_leastSpeed_67 (i32_of rfl) ?_
      obtain ⟨P, hE5, h⟩ := h
      refine qN_callV mX8_layEnds [_] _ 8 [] dX8_leastSpeed_68 cm_X8_383 ⟨(Nat.le_of_ble_eq_true rfl), (Nat.le_of_ble_eq_true rfl)⟩ rfl rfl sh178 (Nat.le_of_ble_eq_true rfl) ⟨rfl, rfl⟩ hE5 (fun z2 ρ3 μ4 hz => ?_)
      replace h := h _ _ _ hz
      refine qX_aload_n 0 dX8_leastSpeed_71 rfl rfl (by decide) ?_
      refine qX_getS 8 45 _ 27 dX8_leastSpeed_72 fs_X8_97 rfl rfl sh178 (x := 206) rfl ?_
      refine qX_iconst dX8_leastSpeed_75 (i32_of rfl) ?_
      refine qX_aload_n 0 dX8_leastSpeed_76 rfl rfl (by decide) ?_
      refine qX_getI 8 47 _ dX8_leastSpeed_77 fs_X8_374 sh178 ?_
      refine qX_ishl dX8_leastSpeed_80 ?_
      refine qX_iconst dX8_leastSpeed_81 (i32_of rfl) ?_
      refine qR_isub dX8_leastSpeed_82 h.1 ?_
      replace h := h.2
      refine qX_iald dX8_leastSpeed_83 sh206 h.1 ?_
      replace h := h.2
      refine qX_ldcw (n := 1000000) dX8_leastSpeed_84 kK_X8_313 (i32_of rfl) ?_
      refine qX_icmp_ge 95 dX8_leastSpeed_87 rfl (fun hc => ?_) (fun hc => ?_)
      · replace h := h.1 hc
        refine qX_iconst dX8_leastSpeed_95 (i32_of rfl) ?_
        exact qX_mask [true, false, true, true, false, true] h
      · replace h := h.2 hc
        refine qX_iload dX8_leastSpeed_90 rfl ?_
        refine qX_goto 96 dX8_leastSpeed_92 rfl ?_
        exact qX_mask [true, false, true, true, false, true] h
set_option maxRecDepth 20000 in
theorem w_X8_leastSpeed_104 {Post : Int → Rf → Mem → Prop} {ρ : Rf} {μ : Mem} {x2 : Int} {x3 : Int} {x4 : Int}
  (h : (0 ≤ x2 ∧ x2 < 188) ∧ ∀ μ1, μ1 = up2 μ 180 x2 x3 → ((0 ≤ x4 → ∃ P : Int → Rf → Mem → Prop, qE mX8_done GG GG [qP 178, qI x4] ρ μ1 P ∧ ∀ (z2 : Int) (ρ3 : Rf) (μ4 : Mem), P z2 ρ3 μ4 → Post z2 ρ3 μ4) ∧ (x4 < 0 → ∃ P : Int → Rf → Mem → Prop, qE mX8_failed GG GG [qP 178, qI 6] ρ μ1 P ∧ ∀ (z6 : Int) (ρ7 : Rf) (μ8 : Mem), P z6 ρ7 μ8 → Post z6 ρ7 μ8))) : qX mX8_leastSpeed GG Post GG (0, 0) 104 [some (qP 178), none, some (qI x2), some (qI x3), some (qI x4), none] [] ρ μ := by
  refine qX_aload_n 0 dX8_leastSpeed_104 rfl rfl (by decide) ?_
  refine qX_getS 8 12 _ 1 dX8_leastSpeed_105 fs_X8_17 rfl rfl sh178 (x := 180) rfl ?_
  refine qX_iload_n 2 dX8_leastSpeed_108 rfl rfl ?_
  refine qX_iload_n 3 dX8_leastSpeed_109 rfl rfl ?_
  refine qX_iast dX8_leastSpeed_110 sh180 h.1 ?_
  replace h := h.2
  replace h := h _ rfl
  refine qX_iload dX8_leastSpeed_111 rfl ?_
  refine qX_if_ge 125 dX8_leastSpeed_113 rfl (fun hc => ?_) (fun hc => ?_)
  · replace h := h.1 hc
    refine qX_aload_n 0 dX8_leastSpeed_125 rfl rfl (by decide) ?_
    refine qX_iload dX8_leastSpeed_126 rfl ?_
    obtain ⟨P, hE5, h⟩ := h
    refine qN_callV mX8_done [_] _ 8 [] dX8_leastSpeed_128 cm_X8_246 ⟨(Nat.le_of_ble_eq_true rfl), (Nat.le_of_ble_eq_true rfl)⟩ rfl rfl sh178 (Nat.le_of_ble_eq_true rfl) ⟨rfl, rfl⟩ hE5 (fun z2 ρ3 μ4 hz => ?_)
    replace h := h _ _ _ hz
    exact qX_ireturn rfl dX8_leastSpeed_131 rfl ⟨Nat.le_refl _, Nat.le_refl _⟩ h
  · replace h := h.2 hc
    refine qX_aload_n 0 dX8_leastSpeed_116 rfl rfl (by decide) ?_
    refine qX_bip dX8_leastSpeed_117 rfl ?_
    obtain ⟨P, hE9, h⟩ := h
    refine qN_callV mX8_failed [_] _ 8 [] dX8_leastSpeed_119 cm_X8_226 ⟨(Nat.le_of_ble_eq_true rfl), (Nat.le_of_ble_eq_true rfl)⟩ rfl rfl sh178 (Nat.le_of_ble_eq_true rfl) ⟨rfl, rfl⟩ hE9 (fun z6 ρ7 μ8 hz => ?_)
    replace h := h _ _ _ hz
    refine qX_goto 131 dX8_leastSpeed_122 rfl ?_
    exact qX_ireturn rfl dX8_leastSpeed_131 rfl ⟨Nat.le_refl _, Nat.le_refl _⟩ h
set_option maxRecDepth 20000 in
theorem w_X8_leastSpeed_96 {Post : Int → Rf → Mem → Prop} {ρ : Rf} {μ : Mem} {s0 : Int} {x2 : Int} {x3 : Int} {x5 : Int}
  (h : i32 (x5 + 1) ∧ qX mX8_leastSpeed GG Post GG (0, 0) 46 [some (qP 178), none, some (qI x2), some (qI x3), some (qI s0), some (qI (x5 + 1))] [] ρ μ) : qX mX8_leastSpeed GG Post GG (0, 0) 96 [some (qP 178), none, some (qI x2), some (qI x3), none, some (qI x5)] [qI s0] ρ μ := by
  refine qX_istore dX8_leastSpeed_96 (Nat.le_of_ble_eq_true rfl) rfl ?_
  refine qR_iinc dX8_leastSpeed_98 rfl (Nat.le_of_ble_eq_true rfl) rfl h.1 ?_
  replace h := h.2
  refine qX_goto 46 dX8_leastSpeed_101 rfl ?_
  exact qX_mask [true, false, true, true, true, true] h
set_option maxRecDepth 20000 in
theorem e_X8_leavesNone {Post : Int → Rf → Mem → Prop} {ρ : Rf} {μ : Mem} {x1 : Int}
  (h : qX mX8_leavesNone GG Post GG (0, 0) 2 [some (qP 178), some (qI x1), some (qI 0)] [] ρ μ) : qE mX8_leavesNone GG GG [qP 178, qI x1] ρ μ Post := by
  refine qE_intro pl_X8_leavesNone (Nat.le_of_ble_eq_true rfl) (Nat.le_refl _) ?_
  refine qX_iconst dX8_leavesNone_0 (i32_of rfl) ?_
  refine qX_istore_n 2 dX8_leavesNone_1 rfl (Nat.le_of_ble_eq_true rfl) rfl ?_
  exact qX_mask [true, true, true] h
set_option maxRecDepth 20000 in
theorem w_X8_leavesNone_2 {Post : Int → Rf → Mem → Prop} {ρ : Rf} {μ : Mem} {x1 : Int} {x2 : Int}
  (h : ((μ 180 87 ≤ x2 → Post 1 ρ μ) ∧ (x2 < μ 180 87 → ∃ P : Int → Rf → Mem → Prop, qE mX8_job GG GG [qP 178, qI x2, qI 1] ρ μ P ∧ ∀ (z1 : Int) (ρ2 : Rf) (μ3 : Mem), P z1 ρ2 μ3 → ((z1 ≠ x1 → i32 (x2 + 1) ∧ qX mX8_leavesNone GG Post GG (0, 0) 2 [some (qP 178), some (qI x1), some (qI (x2 + 1))] [] ρ2 μ3) ∧ (z1 = x1 → (0 ≤ x2 ∧ x2 < 20) ∧ (0 ≤ x2 ∧ x2 < 20) ∧ ((μ3 196 x2 ≤ μ3 199 x2 → i32 (x2 + 1) ∧ qX mX8_leavesNone GG Post GG (0, 0) 2 [some (qP 178), some (qI x1), some (qI (x2 + 1))] [] ρ2 μ3) ∧ (μ3 199 x2 < μ3 196 x2 → Post 0 ρ2 μ3))))))) : qX mX8_leavesNone GG Post GG (0, 0) 2 [some (qP 178), some (qI x1), some (qI x2)] [] ρ μ := by
  refine qX_iload_n 2 dX8_leavesNone_2 rfl rfl ?_
  refine qX_aload_n 0 dX8_leavesNone_3 rfl rfl (by decide) ?_
  refine qX_getS 8 12 _ 1 dX8_leavesNone_4 fs_X8_17 rfl rfl sh178 (x := 180) rfl ?_
  refine qX_bip dX8_leavesNone_7 rfl ?_
  refine qX_iald dX8_leavesNone_9 sh180 ⟨by decide, by decide⟩ ?_
  refine qX_icmp_ge 46 dX8_leavesNone_10 rfl (fun hc => ?_) (fun hc => ?_)
  · replace h := h.1 hc
    refine qX_iconst dX8_leavesNone_46 (i32_of rfl) ?_
    exact qX_zreturn rfl dX8_leavesNone_47 rfl ⟨Nat.le_refl _, Nat.le_refl _⟩ (by decide) h
  · replace h := h.2 hc
    refine qX_aload_n 0 dX8_leavesNone_13 rfl rfl (by decide) ?_
    refine qX_iload_n 2 dX8_leavesNone_14 rfl rfl ?_
    refine qX_iconst dX8_leavesNone_15 (i32_of rfl) ?_
    obtain ⟨P, hE4, h⟩ := h
    refine qN_callV mX8_job [_, _] _ 8 [] dX8_leavesNone_16 cm_X8_274 ⟨(Nat.le_of_ble_eq_true rfl), (Nat.le_of_ble_eq_true rfl)⟩ rfl rfl sh178 (Nat.le_of_ble_eq_true rfl) ⟨rfl, rfl⟩ hE4 (fun z1 ρ2 μ3 hz => ?_)
    replace h := h _ _ _ hz
    refine qX_iload_n 1 dX8_leavesNone_19 rfl rfl ?_
    refine qX_icmp_ne 40 dX8_leavesNone_20 rfl (fun hc => ?_) (fun hc => ?_)
    · replace h := h.1 hc
      refine qR_iinc dX8_leavesNone_40 rfl (Nat.le_of_ble_eq_true rfl) rfl h.1 ?_
      replace h := h.2
      refine qX_goto 2 dX8_leavesNone_43 rfl ?_
      exact qX_mask [true, true, true] h
    · replace h := h.2 hc
      refine qX_aload_n 0 dX8_leavesNone_23 rfl rfl (by decide) ?_
      refine qX_getS 8 31 _ 17 dX8_leavesNone_24 fs_X8_67 rfl rfl sh178 (x := 196) rfl ?_
      refine qX_iload_n 2 dX8_leavesNone_27 rfl rfl ?_
      refine qX_iald dX8_leavesNone_28 sh196 h.1 ?_
      replace h := h.2
      refine qX_aload_n 0 dX8_leavesNone_29 rfl rfl (by decide) ?_
      refine qX_getS 8 34 _ 20 dX8_leavesNone_30 fs_X8_76 rfl rfl sh178 (x := 199) rfl ?_
      refine qX_iload_n 2 dX8_leavesNone_33 rfl rfl ?_
      refine qX_iald dX8_leavesNone_34 sh199 h.1 ?_
      replace h := h.2
      refine qX_icmp_le 40 dX8_leavesNone_35 rfl (fun hc => ?_) (fun hc => ?_)
      · replace h := h.1 hc
        refine qR_iinc dX8_leavesNone_40 rfl (Nat.le_of_ble_eq_true rfl) rfl h.1 ?_
        replace h := h.2
        refine qX_goto 2 dX8_leavesNone_43 rfl ?_
        exact qX_mask [true, true, true] h
      · replace h := h.2 hc
        refine qX_iconst dX8_leavesNone_38 (i32_of rfl) ?_
        exact qX_zreturn rfl dX8_leavesNone_39 rfl ⟨Nat.le_refl _, Nat.le_refl _⟩ (by decide) h
set_option maxRecDepth 20000 in
theorem e_X8_neededDelay {Post : Int → Rf → Mem → Prop} {ρ : Rf} {μ : Mem} {x1 : Int}
  (h : ∀ μ1, μ1 = up2 μ 178 0 0 → ∃ P : Int → Rf → Mem → Prop, qE mX8_isTrainNow GG GG [qP 178, qI x1] ρ μ1 P ∧ ∀ (z2 : Int) (ρ3 : Rf) (μ4 : Mem), P z2 ρ3 μ4 → ((z2 ≠ 0 → i32 (2 + x1) ∧ (0 ≤ 2 + x1 ∧ 2 + x1 < 188) ∧ qX mX8_neededDelay GG Post GG (0, 0) 33 [some (qP 178), some (qI x1), some (qI (μ4 180 (2 + x1))), some (qI (-1)), some (qI 0)] [] ρ3 μ4) ∧ (z2 = 0 → ∃ P : Int → Rf → Mem → Prop, qE mX8_failed GG GG [qP 178, qI 1] ρ3 μ4 P ∧ ∀ (z6 : Int) (ρ7 : Rf) (μ8 : Mem), P z6 ρ7 μ8 → Post z6 ρ7 μ8))) : qE mX8_neededDelay GG GG [qP 178, qI x1] ρ μ Post := by
  refine qE_intro pl_X8_neededDelay (Nat.le_of_ble_eq_true rfl) (Nat.le_refl _) ?_
  refine qX_aload_n 0 dX8_neededDelay_0 rfl rfl (by decide) ?_
  refine qX_iconst dX8_neededDelay_1 (i32_of rfl) ?_
  refine qX_putI 8 0 _ dX8_neededDelay_2 fs_X8_103 sh178 ?_
  replace h := h _ rfl
  refine qX_aload_n 0 dX8_neededDelay_5 rfl rfl (by decide) ?_
  refine qX_iload_n 1 dX8_neededDelay_6 rfl rfl ?_
  obtain ⟨P, hE5, h⟩ := h
  refine qN_callV mX8_isTrainNow [_] _ 8 [] dX8_neededDelay_7 cm_X8_249 ⟨(Nat.le_of_ble_eq_true rfl), (Nat.le_of_ble_eq_true rfl)⟩ rfl rfl sh178 (Nat.le_of_ble_eq_true rfl) ⟨rfl, rfl⟩ hE5 (fun z2 ρ3 μ4 hz => ?_)
  replace h := h _ _ _ hz
  refine qX_if_ne 19 dX8_neededDelay_10 rfl (fun hc => ?_) (fun hc => ?_)
  · replace h := h.1 hc
    refine qX_aload_n 0 dX8_neededDelay_19 rfl rfl (by decide) ?_
    refine qX_getS 8 12 _ 1 dX8_neededDelay_20 fs_X8_17 rfl rfl sh178 (x := 180) rfl ?_
    refine qX_iconst dX8_neededDelay_23 (i32_of rfl) ?_
    refine qX_iload_n 1 dX8_neededDelay_24 rfl rfl ?_
    refine qR_iadd dX8_neededDelay_25 h.1 ?_
    replace h := h.2
    refine qX_iald dX8_neededDelay_26 sh180 h.1 ?_
    replace h := h.2
    refine qX_istore_n 2 dX8_neededDelay_27 rfl (Nat.le_of_ble_eq_true rfl) rfl ?_
    refine qX_iconst dX8_neededDelay_28 (i32_of rfl) ?_
    refine qX_istore_n 3 dX8_neededDelay_29 rfl (Nat.le_of_ble_eq_true rfl) rfl ?_
    refine qX_iconst dX8_neededDelay_30 (i32_of rfl) ?_
    refine qX_istore dX8_neededDelay_31 (Nat.le_of_ble_eq_true rfl) rfl ?_
    exact qX_mask [true, true, true, true, true] h
  · replace h := h.2 hc
    refine qX_aload_n 0 dX8_neededDelay_13 rfl rfl (by decide) ?_
    refine qX_iconst dX8_neededDelay_14 (i32_of rfl) ?_
    obtain ⟨P, hE9, h⟩ := h
    refine qN_callV mX8_failed [_] _ 8 [] dX8_neededDelay_15 cm_X8_226 ⟨(Nat.le_of_ble_eq_true rfl), (Nat.le_of_ble_eq_true rfl)⟩ rfl rfl sh178 (Nat.le_of_ble_eq_true rfl) ⟨rfl, rfl⟩ hE9 (fun z6 ρ7 μ8 hz => ?_)
    replace h := h _ _ _ hz
    exact qX_ireturn rfl dX8_neededDelay_18 rfl ⟨Nat.le_refl _, Nat.le_refl _⟩ h
set_option maxRecDepth 20000 in
theorem w_X8_neededDelay_33 {Post : Int → Rf → Mem → Prop} {ρ : Rf} {μ : Mem} {x1 : Int} {x2 : Int} {x3 : Int} {x4 : Int}
  (h : ((60 < x4 → qX mX8_neededDelay GG Post GG (0, 0) 81 [some (qP 178), some (qI x1), some (qI x2), some (qI x3), none] [] ρ μ) ∧ (x4 ≤ 60 → ((0 ≤ x3 → qX mX8_neededDelay GG Post GG (0, 0) 81 [some (qP 178), some (qI x1), some (qI x2), some (qI x3), none] [] ρ μ) ∧ (x3 < 0 → i32 (2 + x1) ∧ i32 (x2 + x4) ∧ (0 ≤ 2 + x1 ∧ 2 + x1 < 188) ∧ ∀ μ1, μ1 = up2 μ 180 (2 + x1) (x2 + x4) → ∃ P : Int → Rf → Mem → Prop, qE mX8_goAll GG GG [qP 178] ρ μ1 P ∧ ∀ (z2 : Int) (ρ3 : Rf) (μ4 : Mem), P z2 ρ3 μ4 → ∃ P : Int → Rf → Mem → Prop, qE mX8_leavesNone GG GG [qP 178, qI x1] ρ3 μ4 P ∧ ∀ (z6 : Int) (ρ7 : Rf) (μ8 : Mem), P z6 ρ7 μ8 → ((z6 = 0 → qX mX8_neededDelay GG Post GG (0, 0) 74 [some (qP 178), some (qI x1), some (qI x2), none, some (qI x4)] [qI (-1)] ρ7 μ8) ∧ (z6 ≠ 0 → qX mX8_neededDelay GG Post GG (0, 0) 74 [some (qP 178), some (qI x1), some (qI x2), none, some (qI x4)] [qI x4] ρ7 μ8))))))) : qX mX8_neededDelay GG Post GG (0, 0) 33 [some (qP 178), some (qI x1), some (qI x2), some (qI x3), some (qI x4)] [] ρ μ := by
  refine qX_iload dX8_neededDelay_33 rfl ?_
  refine qX_bip dX8_neededDelay_35 rfl ?_
  refine qX_icmp_gt 81 dX8_neededDelay_37 rfl (fun hc => ?_) (fun hc => ?_)
  · replace h := h.1 hc
    exact qX_mask [true, true, true, true, false] h
  · replace h := h.2 hc
    refine qX_iload_n 3 dX8_neededDelay_40 rfl rfl ?_
    refine qX_if_ge 81 dX8_neededDelay_41 rfl (fun hc => ?_) (fun hc => ?_)
    · replace h := h.1 hc
      exact qX_mask [true, true, true, true, false] h
    · replace h := h.2 hc
      refine qX_aload_n 0 dX8_neededDelay_44 rfl rfl (by decide) ?_
      refine qX_getS 8 12 _ 1 dX8_neededDelay_45 fs_X8_17 rfl rfl sh178 (x := 180) rfl ?_
      refine qX_iconst dX8_neededDelay_48 (i32_of rfl) ?_
      refine qX_iload_n 1 dX8_neededDelay_49 rfl rfl ?_
      refine qR_iadd dX8_neededDelay_50 h.1 ?_
      replace h := h.2
      refine qX_iload_n 2 dX8_neededDelay_51 rfl rfl ?_
      refine qX_iload dX8_neededDelay_52 rfl ?_
      refine qR_iadd dX8_neededDelay_54 h.1 ?_
      replace h := h.2
      refine qX_iast dX8_neededDelay_55 sh180 h.1 ?_
      replace h := h.2
      replace h := h _ rfl
      refine qX_aload_n 0 dX8_neededDelay_56 rfl rfl (by decide) ?_
      obtain ⟨P, hE5, h⟩ := h
      refine qN_callV mX8_goAll [] _ 8 [] dX8_neededDelay_57 cm_X8_317 ⟨(Nat.le_of_ble_eq_true rfl), (Nat.le_of_ble_eq_true rfl)⟩ rfl rfl sh178 (Nat.le_of_ble_eq_true rfl) ⟨rfl, rfl⟩ hE5 (fun z2 ρ3 μ4 hz => ?_)
      replace h := h _ _ _ hz
      refine qX_aload_n 0 dX8_neededDelay_60 rfl rfl (by decide) ?_
      refine qX_iload_n 1 dX8_neededDelay_61 rfl rfl ?_
      obtain ⟨P, hE9, h⟩ := h
      refine qN_callV mX8_leavesNone [_] _ 8 [] dX8_neededDelay_62 cm_X8_398 ⟨(Nat.le_of_ble_eq_true rfl), (Nat.le_of_ble_eq_true rfl)⟩ rfl rfl sh178 (Nat.le_of_ble_eq_true rfl) ⟨rfl, rfl⟩ hE9 (fun z6 ρ7 μ8 hz => ?_)
      replace h := h _ _ _ hz
      refine qX_if_eq 73 dX8_neededDelay_65 rfl (fun hc => ?_) (fun hc => ?_)
      · replace h := h.1 hc
        refine qX_iconst dX8_neededDelay_73 (i32_of rfl) ?_
        exact qX_mask [true, true, true, false, true] h
      · replace h := h.2 hc
        refine qX_iload dX8_neededDelay_68 rfl ?_
        refine qX_goto 74 dX8_neededDelay_70 rfl ?_
        exact qX_mask [true, true, true, false, true] h
set_option maxRecDepth 20000 in
theorem w_X8_neededDelay_81 {Post : Int → Rf → Mem → Prop} {ρ : Rf} {μ : Mem} {x1 : Int} {x2 : Int} {x3 : Int}
  (h : i32 (2 + x1) ∧ (0 ≤ 2 + x1 ∧ 2 + x1 < 188) ∧ ∀ μ1, μ1 = up2 μ 180 (2 + x1) x2 → ((0 ≤ x3 → ∃ P : Int → Rf → Mem → Prop, qE mX8_done GG GG [qP 178, qI x3] ρ μ1 P ∧ ∀ (z2 : Int) (ρ3 : Rf) (μ4 : Mem), P z2 ρ3 μ4 → Post z2 ρ3 μ4) ∧ (x3 < 0 → ∃ P : Int → Rf → Mem → Prop, qE mX8_failed GG GG [qP 178, qI 6] ρ μ1 P ∧ ∀ (z6 : Int) (ρ7 : Rf) (μ8 : Mem), P z6 ρ7 μ8 → Post z6 ρ7 μ8))) : qX mX8_neededDelay GG Post GG (0, 0) 81 [some (qP 178), some (qI x1), some (qI x2), some (qI x3), none] [] ρ μ := by
  refine qX_aload_n 0 dX8_neededDelay_81 rfl rfl (by decide) ?_
  refine qX_getS 8 12 _ 1 dX8_neededDelay_82 fs_X8_17 rfl rfl sh178 (x := 180) rfl ?_
  refine qX_iconst dX8_neededDelay_85 (i32_of rfl) ?_
  refine qX_iload_n 1 dX8_neededDelay_86 rfl rfl ?_
  refine qR_iadd dX8_neededDelay_87 h.1 ?_
  replace h := h.2
  refine qX_iload_n 2 dX8_neededDelay_88 rfl rfl ?_
  refine qX_iast dX8_neededDelay_89 sh180 h.1 ?_
  replace h := h.2
  replace h := h _ rfl
  refine qX_iload_n 3 dX8_neededDelay_90 rfl rfl ?_
  refine qX_if_ge 103 dX8_neededDelay_91 rfl (fun hc => ?_) (fun hc => ?_)
  · replace h := h.1 hc
    refine qX_aload_n 0 dX8_neededDelay_103 rfl rfl (by decide) ?_
    refine qX_iload_n 3 dX8_neededDelay_104 rfl rfl ?_
    obtain ⟨P, hE5, h⟩ := h
    refine qN_callV mX8_done [_] _ 8 [] dX8_neededDelay_105 cm_X8_246 ⟨(Nat.le_of_ble_eq_true rfl), (Nat.le_of_ble_eq_true rfl)⟩ rfl rfl sh178 (Nat.le_of_ble_eq_true rfl) ⟨rfl, rfl⟩ hE5 (fun z2 ρ3 μ4 hz => ?_)
    replace h := h _ _ _ hz
    exact qX_ireturn rfl dX8_neededDelay_108 rfl ⟨Nat.le_refl _, Nat.le_refl _⟩ h
  · replace h := h.2 hc
    refine qX_aload_n 0 dX8_neededDelay_94 rfl rfl (by decide) ?_
    refine qX_bip dX8_neededDelay_95 rfl ?_
    obtain ⟨P, hE9, h⟩ := h
    refine qN_callV mX8_failed [_] _ 8 [] dX8_neededDelay_97 cm_X8_226 ⟨(Nat.le_of_ble_eq_true rfl), (Nat.le_of_ble_eq_true rfl)⟩ rfl rfl sh178 (Nat.le_of_ble_eq_true rfl) ⟨rfl, rfl⟩ hE9 (fun z6 ρ7 μ8 hz => ?_)
    replace h := h _ _ _ hz
    refine qX_goto 108 dX8_neededDelay_100 rfl ?_
    exact qX_ireturn rfl dX8_neededDelay_108 rfl ⟨Nat.le_refl _, Nat.le_refl _⟩ h
set_option maxRecDepth 20000 in
theorem w_X8_neededDelay_74 {Post : Int → Rf → Mem → Prop} {ρ : Rf} {μ : Mem} {s0 : Int} {x1 : Int} {x2 : Int} {x4 : Int}
  (h : i32 (x4 + 1) ∧ qX mX8_neededDelay GG Post GG (0, 0) 33 [some (qP 178), some (qI x1), some (qI x2), some (qI s0), some (qI (x4 + 1))] [] ρ μ) : qX mX8_neededDelay GG Post GG (0, 0) 74 [some (qP 178), some (qI x1), some (qI x2), none, some (qI x4)] [qI s0] ρ μ := by
  refine qX_istore_n 3 dX8_neededDelay_74 rfl (Nat.le_of_ble_eq_true rfl) rfl ?_
  refine qR_iinc dX8_neededDelay_75 rfl (Nat.le_of_ble_eq_true rfl) rfl h.1 ?_
  replace h := h.2
  refine qX_goto 33 dX8_neededDelay_78 rfl ?_
  exact qX_mask [true, true, true, true, true] h
set_option maxRecDepth 20000 in
theorem e_X8_deliveredWithout {Post : Int → Rf → Mem → Prop} {ρ : Rf} {μ : Mem} {x1 : Int}
  (h : ∀ μ1, μ1 = up2 μ 178 0 0 → ∃ P : Int → Rf → Mem → Prop, qE mX8_isTrolley GG GG [qP 178, qI x1] ρ μ1 P ∧ ∀ (z2 : Int) (ρ3 : Rf) (μ4 : Mem), P z2 ρ3 μ4 → ((z2 ≠ 0 → ∃ P : Int → Rf → Mem → Prop, qE mX8_go GG GG [qP 178, qI x1, qI (-1)] ρ3 μ4 P ∧ ∀ (z6 : Int) (ρ7 : Rf) (μ8 : Mem), P z6 ρ7 μ8 → ∃ P : Int → Rf → Mem → Prop, qE mX8_total GG GG [qP 178] ρ7 μ8 P ∧ ∀ (z10 : Int) (ρ11 : Rf) (μ12 : Mem), P z10 ρ11 μ12 → ∃ P : Int → Rf → Mem → Prop, qE mX8_done GG GG [qP 178, qI z10] ρ11 μ12 P ∧ ∀ (z14 : Int) (ρ15 : Rf) (μ16 : Mem), P z14 ρ15 μ16 → Post z14 ρ15 μ16) ∧ (z2 = 0 → ∃ P : Int → Rf → Mem → Prop, qE mX8_failed GG GG [qP 178, qI 1] ρ3 μ4 P ∧ ∀ (z18 : Int) (ρ19 : Rf) (μ20 : Mem), P z18 ρ19 μ20 → Post z18 ρ19 μ20))) : qE mX8_deliveredWithout GG GG [qP 178, qI x1] ρ μ Post := by
  refine qE_intro pl_X8_deliveredWithout (Nat.le_of_ble_eq_true rfl) (Nat.le_refl _) ?_
  refine qX_aload_n 0 dX8_deliveredWithout_0 rfl rfl (by decide) ?_
  refine qX_iconst dX8_deliveredWithout_1 (i32_of rfl) ?_
  refine qX_putI 8 0 _ dX8_deliveredWithout_2 fs_X8_103 sh178 ?_
  replace h := h _ rfl
  refine qX_aload_n 0 dX8_deliveredWithout_5 rfl rfl (by decide) ?_
  refine qX_iload_n 1 dX8_deliveredWithout_6 rfl rfl ?_
  obtain ⟨P, hE5, h⟩ := h
  refine qN_callV mX8_isTrolley [_] _ 8 [] dX8_deliveredWithout_7 cm_X8_330 ⟨(Nat.le_of_ble_eq_true rfl), (Nat.le_of_ble_eq_true rfl)⟩ rfl rfl sh178 (Nat.le_of_ble_eq_true rfl) ⟨rfl, rfl⟩ hE5 (fun z2 ρ3 μ4 hz => ?_)
  replace h := h _ _ _ hz
  refine qX_if_ne 19 dX8_deliveredWithout_10 rfl (fun hc => ?_) (fun hc => ?_)
  · replace h := h.1 hc
    refine qX_aload_n 0 dX8_deliveredWithout_19 rfl rfl (by decide) ?_
    refine qX_iload_n 1 dX8_deliveredWithout_20 rfl rfl ?_
    refine qX_iconst dX8_deliveredWithout_21 (i32_of rfl) ?_
    obtain ⟨P, hE9, h⟩ := h
    refine qN_callV mX8_go [_, _] _ 8 [] dX8_deliveredWithout_22 cm_X8_314 ⟨(Nat.le_of_ble_eq_true rfl), (Nat.le_of_ble_eq_true rfl)⟩ rfl rfl sh178 (Nat.le_of_ble_eq_true rfl) ⟨rfl, rfl⟩ hE9 (fun z6 ρ7 μ8 hz => ?_)
    replace h := h _ _ _ hz
    refine qX_aload_n 0 dX8_deliveredWithout_25 rfl rfl (by decide) ?_
    refine qX_aload_n 0 dX8_deliveredWithout_26 rfl rfl (by decide) ?_
    obtain ⟨P, hE13, h⟩ := h
    refine qN_callV mX8_total [] _ 8 [_] dX8_deliveredWithout_27 cm_X8_327 ⟨(Nat.le_of_ble_eq_true rfl), (Nat.le_of_ble_eq_true rfl)⟩ rfl rfl sh178 (Nat.le_of_ble_eq_true rfl) ⟨rfl, rfl⟩ hE13 (fun z10 ρ11 μ12 hz => ?_)
    replace h := h _ _ _ hz
    obtain ⟨P, hE17, h⟩ := h
    refine qN_callV mX8_done [_] _ 8 [] dX8_deliveredWithout_30 cm_X8_246 ⟨(Nat.le_of_ble_eq_true rfl), (Nat.le_of_ble_eq_true rfl)⟩ rfl rfl sh178 (Nat.le_of_ble_eq_true rfl) ⟨rfl, rfl⟩ hE17 (fun z14 ρ15 μ16 hz => ?_)
    replace h := h _ _ _ hz
    exact qX_ireturn rfl dX8_deliveredWithout_33 rfl ⟨Nat.le_refl _, Nat.le_refl _⟩ h
  · replace h := h.2 hc
    refine qX_aload_n 0 dX8_deliveredWithout_13 rfl rfl (by decide) ?_
    refine qX_iconst dX8_deliveredWithout_14 (i32_of rfl) ?_
    obtain ⟨P, hE21, h⟩ := h
    refine qN_callV mX8_failed [_] _ 8 [] dX8_deliveredWithout_15 cm_X8_226 ⟨(Nat.le_of_ble_eq_true rfl), (Nat.le_of_ble_eq_true rfl)⟩ rfl rfl sh178 (Nat.le_of_ble_eq_true rfl) ⟨rfl, rfl⟩ hE21 (fun z18 ρ19 μ20 hz => ?_)
    replace h := h _ _ _ hz
    exact qX_ireturn rfl dX8_deliveredWithout_18 rfl ⟨Nat.le_refl _, Nat.le_refl _⟩ h
set_option maxRecDepth 20000 in
theorem e_X8_worstJob {Post : Int → Rf → Mem → Prop} {ρ : Rf} {μ : Mem} 
  (h : ∃ P : Int → Rf → Mem → Prop, qE mX8_goesFor GG GG [qP 178, qI (μ 178 20)] ρ μ P ∧ ∀ (z1 : Int) (ρ2 : Rf) (μ3 : Mem), P z1 ρ2 μ3 → ((z1 ≠ 0 → ∃ P : Int → Rf → Mem → Prop, qE mX8_total GG GG [qP 178] ρ2 μ3 P ∧ ∀ (z5 : Int) (ρ6 : Rf) (μ7 : Mem), P z5 ρ6 μ7 → qX mX8_worstJob GG Post GG (0, 0) 26 [some (qP 178), some (qI z5), some (qI (-1)), some (qI 0)] [] ρ6 μ7) ∧ (z1 = 0 → ∃ P : Int → Rf → Mem → Prop, qE mX8_failed GG GG [qP 178, qI 1] ρ2 μ3 P ∧ ∀ (z9 : Int) (ρ10 : Rf) (μ11 : Mem), P z9 ρ10 μ11 → Post z9 ρ10 μ11))) : qE mX8_worstJob GG GG [qP 178] ρ μ Post := by
  refine qE_intro pl_X8_worstJob (Nat.le_of_ble_eq_true rfl) (Nat.le_refl _) ?_
  refine qX_aload_n 0 dX8_worstJob_0 rfl rfl (by decide) ?_
  refine qX_aload_n 0 dX8_worstJob_1 rfl rfl (by decide) ?_
  refine qX_getI 8 20 _ dX8_worstJob_2 fs_X8_236 sh178 ?_
  obtain ⟨P, hE4, h⟩ := h
  refine qN_callV mX8_goesFor [_] _ 8 [] dX8_worstJob_5 cm_X8_320 ⟨(Nat.le_of_ble_eq_true rfl), (Nat.le_of_ble_eq_true rfl)⟩ rfl rfl sh178 (Nat.le_of_ble_eq_true rfl) ⟨rfl, rfl⟩ hE4 (fun z1 ρ2 μ3 hz => ?_)
  replace h := h _ _ _ hz
  refine qX_if_ne 17 dX8_worstJob_8 rfl (fun hc => ?_) (fun hc => ?_)
  · replace h := h.1 hc
    refine qX_aload_n 0 dX8_worstJob_17 rfl rfl (by decide) ?_
    obtain ⟨P, hE8, h⟩ := h
    refine qN_callV mX8_total [] _ 8 [] dX8_worstJob_18 cm_X8_327 ⟨(Nat.le_of_ble_eq_true rfl), (Nat.le_of_ble_eq_true rfl)⟩ rfl rfl sh178 (Nat.le_of_ble_eq_true rfl) ⟨rfl, rfl⟩ hE8 (fun z5 ρ6 μ7 hz => ?_)
    replace h := h _ _ _ hz
    refine qX_istore_n 1 dX8_worstJob_21 rfl (Nat.le_of_ble_eq_true rfl) rfl ?_
    refine qX_iconst dX8_worstJob_22 (i32_of rfl) ?_
    refine qX_istore_n 2 dX8_worstJob_23 rfl (Nat.le_of_ble_eq_true rfl) rfl ?_
    refine qX_iconst dX8_worstJob_24 (i32_of rfl) ?_
    refine qX_istore_n 3 dX8_worstJob_25 rfl (Nat.le_of_ble_eq_true rfl) rfl ?_
    exact qX_mask [true, true, true, true] h
  · replace h := h.2 hc
    refine qX_aload_n 0 dX8_worstJob_11 rfl rfl (by decide) ?_
    refine qX_iconst dX8_worstJob_12 (i32_of rfl) ?_
    obtain ⟨P, hE12, h⟩ := h
    refine qN_callV mX8_failed [_] _ 8 [] dX8_worstJob_13 cm_X8_226 ⟨(Nat.le_of_ble_eq_true rfl), (Nat.le_of_ble_eq_true rfl)⟩ rfl rfl sh178 (Nat.le_of_ble_eq_true rfl) ⟨rfl, rfl⟩ hE12 (fun z9 ρ10 μ11 hz => ?_)
    replace h := h _ _ _ hz
    exact qX_ireturn rfl dX8_worstJob_16 rfl ⟨Nat.le_refl _, Nat.le_refl _⟩ h
set_option maxRecDepth 20000 in
theorem w_X8_worstJob_26 {Post : Int → Rf → Mem → Prop} {ρ : Rf} {μ : Mem} {x1 : Int} {x2 : Int} {x3 : Int}
  (h : ((μ 180 87 ≤ x3 → ((0 ≤ x2 → ∃ P : Int → Rf → Mem → Prop, qE mX8_done GG GG [qP 178, qI x2] ρ μ P ∧ ∀ (z1 : Int) (ρ2 : Rf) (μ3 : Mem), P z1 ρ2 μ3 → Post z1 ρ2 μ3) ∧ (x2 < 0 → ∃ P : Int → Rf → Mem → Prop, qE mX8_failed GG GG [qP 178, qI 6] ρ μ P ∧ ∀ (z5 : Int) (ρ6 : Rf) (μ7 : Mem), P z5 ρ6 μ7 → Post z5 ρ6 μ7))) ∧ (x3 < μ 180 87 → ∃ P : Int → Rf → Mem → Prop, qE mX8_go GG GG [qP 178, qI (-1), qI x3] ρ μ P ∧ ∀ (z9 : Int) (ρ10 : Rf) (μ11 : Mem), P z9 ρ10 μ11 → ∃ P : Int → Rf → Mem → Prop, qE mX8_total GG GG [qP 178] ρ10 μ11 P ∧ ∀ (z13 : Int) (ρ14 : Rf) (μ15 : Mem), P z13 ρ14 μ15 → ((x1 < z13 → ∃ P : Int → Rf → Mem → Prop, qE mX8_total GG GG [qP 178] ρ14 μ15 P ∧ ∀ (z17 : Int) (ρ18 : Rf) (μ19 : Mem), P z17 ρ18 μ19 → i32 (x3 + 1) ∧ qX mX8_worstJob GG Post GG (0, 0) 26 [some (qP 178), some (qI z17), some (qI x3), some (qI (x3 + 1))] [] ρ18 μ19) ∧ (z13 ≤ x1 → i32 (x3 + 1) ∧ qX mX8_worstJob GG Post GG (0, 0) 26 [some (qP 178), some (qI x1), some (qI x2), some (qI (x3 + 1))] [] ρ14 μ15))))) : qX mX8_worstJob GG Post GG (0, 0) 26 [some (qP 178), some (qI x1), some (qI x2), some (qI x3)] [] ρ μ := by
  refine qX_iload_n 3 dX8_worstJob_26 rfl rfl ?_
  refine qX_aload_n 0 dX8_worstJob_27 rfl rfl (by decide) ?_
  refine qX_getS 8 12 _ 1 dX8_worstJob_28 fs_X8_17 rfl rfl sh178 (x := 180) rfl ?_
  refine qX_bip dX8_worstJob_31 rfl ?_
  refine qX_iald dX8_worstJob_33 sh180 ⟨by decide, by decide⟩ ?_
  refine qX_icmp_ge 67 dX8_worstJob_34 rfl (fun hc => ?_) (fun hc => ?_)
  · replace h := h.1 hc
    refine qX_iload_n 2 dX8_worstJob_67 rfl rfl ?_
    refine qX_if_ge 80 dX8_worstJob_68 rfl (fun hc => ?_) (fun hc => ?_)
    · replace h := h.1 hc
      refine qX_aload_n 0 dX8_worstJob_80 rfl rfl (by decide) ?_
      refine qX_iload_n 2 dX8_worstJob_81 rfl rfl ?_
      obtain ⟨P, hE4, h⟩ := h
      refine qN_callV mX8_done [_] _ 8 [] dX8_worstJob_82 cm_X8_246 ⟨(Nat.le_of_ble_eq_true rfl), (Nat.le_of_ble_eq_true rfl)⟩ rfl rfl sh178 (Nat.le_of_ble_eq_true rfl) ⟨rfl, rfl⟩ hE4 (fun z1 ρ2 μ3 hz => ?_)
      replace h := h _ _ _ hz
      exact qX_ireturn rfl dX8_worstJob_85 rfl ⟨Nat.le_refl _, Nat.le_refl _⟩ h
    · replace h := h.2 hc
      refine qX_aload_n 0 dX8_worstJob_71 rfl rfl (by decide) ?_
      refine qX_bip dX8_worstJob_72 rfl ?_
      obtain ⟨P, hE8, h⟩ := h
      refine qN_callV mX8_failed [_] _ 8 [] dX8_worstJob_74 cm_X8_226 ⟨(Nat.le_of_ble_eq_true rfl), (Nat.le_of_ble_eq_true rfl)⟩ rfl rfl sh178 (Nat.le_of_ble_eq_true rfl) ⟨rfl, rfl⟩ hE8 (fun z5 ρ6 μ7 hz => ?_)
      replace h := h _ _ _ hz
      refine qX_goto 85 dX8_worstJob_77 rfl ?_
      exact qX_ireturn rfl dX8_worstJob_85 rfl ⟨Nat.le_refl _, Nat.le_refl _⟩ h
  · replace h := h.2 hc
    refine qX_aload_n 0 dX8_worstJob_37 rfl rfl (by decide) ?_
    refine qX_iconst dX8_worstJob_38 (i32_of rfl) ?_
    refine qX_iload_n 3 dX8_worstJob_39 rfl rfl ?_
    obtain ⟨P, hE12, h⟩ := h
    refine qN_callV mX8_go [_, _] _ 8 [] dX8_worstJob_40 cm_X8_314 ⟨(Nat.le_of_ble_eq_true rfl), (Nat.le_of_ble_eq_true rfl)⟩ rfl rfl sh178 (Nat.le_of_ble_eq_true rfl) ⟨rfl, rfl⟩ hE12 (fun z9 ρ10 μ11 hz => ?_)
    replace h := h _ _ _ hz
    refine qX_aload_n 0 dX8_worstJob_43 rfl rfl (by decide) ?_
    obtain ⟨P, hE16, h⟩ := h
    refine qN_callV mX8_total [] _ 8 [] dX8_worstJob_44 cm_X8_327 ⟨(Nat.le_of_ble_eq_true rfl), (Nat.le_of_ble_eq_true rfl)⟩ rfl rfl sh178 (Nat.le_of_ble_eq_true rfl) ⟨rfl, rfl⟩ hE16 (fun z13 ρ14 μ15 hz => ?_)
    replace h := h _ _ _ hz
    refine qX_iload_n 1 dX8_worstJob_47 rfl rfl ?_
    refine qX_icmp_gt 54 dX8_worstJob_48 rfl (fun hc => ?_) (fun hc => ?_)
    · replace h := h.1 hc
      refine qX_aload_n 0 dX8_worstJob_54 rfl rfl (by decide) ?_
      obtain ⟨P, hE20, h⟩ := h
      refine qN_callV mX8_total [] _ 8 [] dX8_worstJob_55 cm_X8_327 ⟨(Nat.le_of_ble_eq_true rfl), (Nat.le_of_ble_eq_true rfl)⟩ rfl rfl sh178 (Nat.le_of_ble_eq_true rfl) ⟨rfl, rfl⟩ hE20 (fun z17 ρ18 μ19 hz => ?_)
      replace h := h _ _ _ hz
      refine qX_istore_n 1 dX8_worstJob_58 rfl (Nat.le_of_ble_eq_true rfl) rfl ?_
      refine qX_iload_n 3 dX8_worstJob_59 rfl rfl ?_
      refine qX_istore_n 2 dX8_worstJob_60 rfl (Nat.le_of_ble_eq_true rfl) rfl ?_
      refine qR_iinc dX8_worstJob_61 rfl (Nat.le_of_ble_eq_true rfl) rfl h.1 ?_
      replace h := h.2
      refine qX_goto 26 dX8_worstJob_64 rfl ?_
      exact qX_mask [true, true, true, true] h
    · replace h := h.2 hc
      refine qX_goto 61 dX8_worstJob_51 rfl ?_
      refine qR_iinc dX8_worstJob_61 rfl (Nat.le_of_ble_eq_true rfl) rfl h.1 ?_
      replace h := h.2
      refine qX_goto 26 dX8_worstJob_64 rfl ?_
      exact qX_mask [true, true, true, true] h
set_option maxRecDepth 20000 in
theorem e_X8_bestTrolley {Post : Int → Rf → Mem → Prop} {ρ : Rf} {μ : Mem} {x1 : Int}
  (h : ∀ μ1, μ1 = up2 μ 178 0 0 → ∃ P : Int → Rf → Mem → Prop, qE mX8_isJob GG GG [qP 178, qI x1] ρ μ1 P ∧ ∀ (z2 : Int) (ρ3 : Rf) (μ4 : Mem), P z2 ρ3 μ4 → ((z2 ≠ 0 → i32 (5 * x1) ∧ i32 (88 + (5 * x1)) ∧ i32 ((88 + (5 * x1)) + 0) ∧ (0 ≤ (88 + (5 * x1)) + 0 ∧ (88 + (5 * x1)) + 0 < 188) ∧ qX mX8_bestTrolley GG Post GG (0, 0) 44 [some (qP 178), none, some (qI ((88 + (5 * x1)) + 0)), some (qI (μ4 180 ((88 + (5 * x1)) + 0))), some (qI (-1)), some (qI (-1)), some (qI 0)] [] ρ3 μ4) ∧ (z2 = 0 → ∃ P : Int → Rf → Mem → Prop, qE mX8_failed GG GG [qP 178, qI 1] ρ3 μ4 P ∧ ∀ (z6 : Int) (ρ7 : Rf) (μ8 : Mem), P z6 ρ7 μ8 → Post z6 ρ7 μ8))) : qE mX8_bestTrolley GG GG [qP 178, qI x1] ρ μ Post := by
  refine qE_intro pl_X8_bestTrolley (Nat.le_of_ble_eq_true rfl) (Nat.le_refl _) ?_
  refine qX_aload_n 0 dX8_bestTrolley_0 rfl rfl (by decide) ?_
  refine qX_iconst dX8_bestTrolley_1 (i32_of rfl) ?_
  refine qX_putI 8 0 _ dX8_bestTrolley_2 fs_X8_103 sh178 ?_
  replace h := h _ rfl
  refine qX_aload_n 0 dX8_bestTrolley_5 rfl rfl (by decide) ?_
  refine qX_iload_n 1 dX8_bestTrolley_6 rfl rfl ?_
  obtain ⟨P, hE5, h⟩ := h
  refine qN_callV mX8_isJob [_] _ 8 [] dX8_bestTrolley_7 cm_X8_271 ⟨(Nat.le_of_ble_eq_true rfl), (Nat.le_of_ble_eq_true rfl)⟩ rfl rfl sh178 (Nat.le_of_ble_eq_true rfl) ⟨rfl, rfl⟩ hE5 (fun z2 ρ3 μ4 hz => ?_)
  replace h := h _ _ _ hz
  refine qX_if_ne 19 dX8_bestTrolley_10 rfl (fun hc => ?_) (fun hc => ?_)
  · replace h := h.1 hc
    refine qX_bip dX8_bestTrolley_19 rfl ?_
    refine qX_iconst dX8_bestTrolley_21 (i32_of rfl) ?_
    refine qX_iload_n 1 dX8_bestTrolley_22 rfl rfl ?_
    refine qR_imul dX8_bestTrolley_23 h.1 ?_
    replace h := h.2
    refine qR_iadd dX8_bestTrolley_24 h.1 ?_
    replace h := h.2
    refine qX_iconst dX8_bestTrolley_25 (i32_of rfl) ?_
    refine qR_iadd dX8_bestTrolley_26 h.1 ?_
    replace h := h.2
    refine qX_istore_n 2 dX8_bestTrolley_27 rfl (Nat.le_of_ble_eq_true rfl) rfl ?_
    refine qX_aload_n 0 dX8_bestTrolley_28 rfl rfl (by decide) ?_
    refine qX_getS 8 12 _ 1 dX8_bestTrolley_29 fs_X8_17 rfl rfl sh178 (x := 180) rfl ?_
    refine qX_iload_n 2 dX8_bestTrolley_32 rfl rfl ?_
    refine qX_iald dX8_bestTrolley_33 sh180 h.1 ?_
    replace h := h.2
    refine qX_istore_n 3 dX8_bestTrolley_34 rfl (Nat.le_of_ble_eq_true rfl) rfl ?_
    refine qX_iconst dX8_bestTrolley_35 (i32_of rfl) ?_
    refine qX_istore dX8_bestTrolley_36 (Nat.le_of_ble_eq_true rfl) rfl ?_
    refine qX_iconst dX8_bestTrolley_38 (i32_of rfl) ?_
    refine qX_istore dX8_bestTrolley_39 (Nat.le_of_ble_eq_true rfl) rfl ?_
    refine qX_iconst dX8_bestTrolley_41 (i32_of rfl) ?_
    refine qX_istore dX8_bestTrolley_42 (Nat.le_of_ble_eq_true rfl) rfl ?_
    exact qX_mask [true, false, true, true, true, true, true] h
  · replace h := h.2 hc
    refine qX_aload_n 0 dX8_bestTrolley_13 rfl rfl (by decide) ?_
    refine qX_iconst dX8_bestTrolley_14 (i32_of rfl) ?_
    obtain ⟨P, hE9, h⟩ := h
    refine qN_callV mX8_failed [_] _ 8 [] dX8_bestTrolley_15 cm_X8_226 ⟨(Nat.le_of_ble_eq_true rfl), (Nat.le_of_ble_eq_true rfl)⟩ rfl rfl sh178 (Nat.le_of_ble_eq_true rfl) ⟨rfl, rfl⟩ hE9 (fun z6 ρ7 μ8 hz => ?_)
    replace h := h _ _ _ hz
    exact qX_ireturn rfl dX8_bestTrolley_18 rfl ⟨Nat.le_refl _, Nat.le_refl _⟩ h
set_option maxRecDepth 20000 in
theorem w_X8_bestTrolley_44 {Post : Int → Rf → Mem → Prop} {ρ : Rf} {μ : Mem} {x2 : Int} {x3 : Int} {x4 : Int} {x5 : Int} {x6 : Int}
  (h : ((μ 180 61 ≤ x6 → (0 ≤ x2 ∧ x2 < 188) ∧ ∀ μ1, μ1 = up2 μ 180 x2 x3 → ∃ P : Int → Rf → Mem → Prop, qE mX8_done GG GG [qP 178, qI x4] ρ μ1 P ∧ ∀ (z2 : Int) (ρ3 : Rf) (μ4 : Mem), P z2 ρ3 μ4 → Post z2 ρ3 μ4) ∧ (x6 < μ 180 61 → (0 ≤ x2 ∧ x2 < 188) ∧ ∀ μ6, μ6 = up2 μ 180 x2 x3 → ((x6 = x3 → qX mX8_bestTrolley GG Post GG (0, 0) 86 [some (qP 178), none, some (qI x2), some (qI x3), some (qI x4), some (qI x5), some (qI x6)] [] ρ μ6) ∧ (x6 ≠ x3 → ∃ P : Int → Rf → Mem → Prop, qE mX8_jobsOf GG GG [qP 180, qI x6] ρ μ6 P ∧ ∀ (z7 : Int) (ρ8 : Rf) (μ9 : Mem), P z7 ρ8 μ9 → ((z7 ≠ 8 → qX mX8_bestTrolley GG Post GG (0, 0) 86 [some (qP 178), none, some (qI x2), some (qI x3), some (qI x4), some (qI x5), some (qI x6)] [] ρ8 μ9) ∧ (z7 = 8 → qX mX8_bestTrolley GG Post GG (0, 0) 120 [some (qP 178), none, some (qI x2), some (qI x3), some (qI x4), some (qI x5), some (qI x6)] [] ρ8 μ9))))))) : qX mX8_bestTrolley GG Post GG (0, 0) 44 [some (qP 178), none, some (qI x2), some (qI x3), some (qI x4), some (qI x5), some (qI x6)] [] ρ μ := by
  refine qX_iload dX8_bestTrolley_44 rfl ?_
  refine qX_aload_n 0 dX8_bestTrolley_46 rfl rfl (by decide) ?_
  refine qX_getS 8 12 _ 1 dX8_bestTrolley_47 fs_X8_17 rfl rfl sh178 (x := 180) rfl ?_
  refine qX_bip dX8_bestTrolley_50 rfl ?_
  refine qX_iald dX8_bestTrolley_52 sh180 ⟨by decide, by decide⟩ ?_
  refine qX_icmp_ge 126 dX8_bestTrolley_53 rfl (fun hc => ?_) (fun hc => ?_)
  · replace h := h.1 hc
    refine qX_aload_n 0 dX8_bestTrolley_126 rfl rfl (by decide) ?_
    refine qX_getS 8 12 _ 1 dX8_bestTrolley_127 fs_X8_17 rfl rfl sh178 (x := 180) rfl ?_
    refine qX_iload_n 2 dX8_bestTrolley_130 rfl rfl ?_
    refine qX_iload_n 3 dX8_bestTrolley_131 rfl rfl ?_
    refine qX_iast dX8_bestTrolley_132 sh180 h.1 ?_
    replace h := h.2
    replace h := h _ rfl
    refine qX_aload_n 0 dX8_bestTrolley_133 rfl rfl (by decide) ?_
    refine qX_iload dX8_bestTrolley_134 rfl ?_
    obtain ⟨P, hE5, h⟩ := h
    refine qN_callV mX8_done [_] _ 8 [] dX8_bestTrolley_136 cm_X8_246 ⟨(Nat.le_of_ble_eq_true rfl), (Nat.le_of_ble_eq_true rfl)⟩ rfl rfl sh178 (Nat.le_of_ble_eq_true rfl) ⟨rfl, rfl⟩ hE5 (fun z2 ρ3 μ4 hz => ?_)
    replace h := h _ _ _ hz
    exact qX_ireturn rfl dX8_bestTrolley_139 rfl ⟨Nat.le_refl _, Nat.le_refl _⟩ h
  · replace h := h.2 hc
    refine qX_aload_n 0 dX8_bestTrolley_56 rfl rfl (by decide) ?_
    refine qX_getS 8 12 _ 1 dX8_bestTrolley_57 fs_X8_17 rfl rfl sh178 (x := 180) rfl ?_
    refine qX_iload_n 2 dX8_bestTrolley_60 rfl rfl ?_
    refine qX_iload_n 3 dX8_bestTrolley_61 rfl rfl ?_
    refine qX_iast dX8_bestTrolley_62 sh180 h.1 ?_
    replace h := h.2
    replace h := h _ rfl
    refine qX_iload dX8_bestTrolley_63 rfl ?_
    refine qX_iload_n 3 dX8_bestTrolley_65 rfl rfl ?_
    refine qX_icmp_eq 86 dX8_bestTrolley_66 rfl (fun hc => ?_) (fun hc => ?_)
    · replace h := h.1 hc
      exact qX_mask [true, false, true, true, true, true, true] h
    · replace h := h.2 hc
      refine qX_aload_n 0 dX8_bestTrolley_69 rfl rfl (by decide) ?_
      refine qX_getS 8 12 _ 1 dX8_bestTrolley_70 fs_X8_17 rfl rfl sh178 (x := 180) rfl ?_
      refine qX_iload dX8_bestTrolley_73 rfl ?_
      obtain ⟨P, hE10, h⟩ := h
      refine qN_callS mX8_jobsOf [_, _] [] dX8_bestTrolley_75 cm_X8_194 ⟨(Nat.le_of_ble_eq_true rfl), (Nat.le_of_ble_eq_true rfl)⟩ rfl rfl (Nat.le_of_ble_eq_true rfl) ⟨rfl, rfl⟩ hE10 (fun z7 ρ8 μ9 hz => ?_)
      replace h := h _ _ _ hz
      refine qX_bip dX8_bestTrolley_78 rfl ?_
      refine qX_icmp_ne 86 dX8_bestTrolley_80 rfl (fun hc => ?_) (fun hc => ?_)
      · replace h := h.1 hc
        exact qX_mask [true, false, true, true, true, true, true] h
      · replace h := h.2 hc
        refine qX_goto 120 dX8_bestTrolley_83 rfl ?_
        exact qX_mask [true, false, true, true, true, true, true] h
set_option maxRecDepth 20000 in
theorem w_X8_bestTrolley_86 {Post : Int → Rf → Mem → Prop} {ρ : Rf} {μ : Mem} {x2 : Int} {x3 : Int} {x4 : Int} {x5 : Int} {x6 : Int}
  (h : (0 ≤ x2 ∧ x2 < 188) ∧ ∀ μ1, μ1 = up2 μ 180 x2 x6 → ∃ P : Int → Rf → Mem → Prop, qE mX8_goAll GG GG [qP 178] ρ μ1 P ∧ ∀ (z2 : Int) (ρ3 : Rf) (μ4 : Mem), P z2 ρ3 μ4 → ∃ P : Int → Rf → Mem → Prop, qE mX8_total GG GG [qP 178] ρ3 μ4 P ∧ ∀ (z6 : Int) (ρ7 : Rf) (μ8 : Mem), P z6 ρ7 μ8 → ((x5 < z6 → ∃ P : Int → Rf → Mem → Prop, qE mX8_total GG GG [qP 178] ρ7 μ8 P ∧ ∀ (z10 : Int) (ρ11 : Rf) (μ12 : Mem), P z10 ρ11 μ12 → qX mX8_bestTrolley GG Post GG (0, 0) 120 [some (qP 178), none, some (qI x2), some (qI x3), some (qI x6), some (qI z10), some (qI x6)] [] ρ11 μ12) ∧ (z6 ≤ x5 → qX mX8_bestTrolley GG Post GG (0, 0) 120 [some (qP 178), none, some (qI x2), some (qI x3), some (qI x4), some (qI x5), some (qI x6)] [] ρ7 μ8))) : qX mX8_bestTrolley GG Post GG (0, 0) 86 [some (qP 178), none, some (qI x2), some (qI x3), some (qI x4), some (qI x5), some (qI x6)] [] ρ μ := by
  refine qX_aload_n 0 dX8_bestTrolley_86 rfl rfl (by decide) ?_
  refine qX_getS 8 12 _ 1 dX8_bestTrolley_87 fs_X8_17 rfl rfl sh178 (x := 180) rfl ?_
  refine qX_iload_n 2 dX8_bestTrolley_90 rfl rfl ?_
  refine qX_iload dX8_bestTrolley_91 rfl ?_
  refine qX_iast dX8_bestTrolley_93 sh180 h.1 ?_
  replace h := h.2
  replace h := h _ rfl
  refine qX_aload_n 0 dX8_bestTrolley_94 rfl rfl (by decide) ?_
  obtain ⟨P, hE5, h⟩ := h
  refine qN_callV mX8_goAll [] _ 8 [] dX8_bestTrolley_95 cm_X8_317 ⟨(Nat.le_of_ble_eq_true rfl), (Nat.le_of_ble_eq_true rfl)⟩ rfl rfl sh178 (Nat.le_of_ble_eq_true rfl) ⟨rfl, rfl⟩ hE5 (fun z2 ρ3 μ4 hz => ?_)
  replace h := h _ _ _ hz
  refine qX_aload_n 0 dX8_bestTrolley_98 rfl rfl (by decide) ?_
  obtain ⟨P, hE9, h⟩ := h
  refine qN_callV mX8_total [] _ 8 [] dX8_bestTrolley_99 cm_X8_327 ⟨(Nat.le_of_ble_eq_true rfl), (Nat.le_of_ble_eq_true rfl)⟩ rfl rfl sh178 (Nat.le_of_ble_eq_true rfl) ⟨rfl, rfl⟩ hE9 (fun z6 ρ7 μ8 hz => ?_)
  replace h := h _ _ _ hz
  refine qX_iload dX8_bestTrolley_102 rfl ?_
  refine qX_icmp_gt 110 dX8_bestTrolley_104 rfl (fun hc => ?_) (fun hc => ?_)
  · replace h := h.1 hc
    refine qX_aload_n 0 dX8_bestTrolley_110 rfl rfl (by decide) ?_
    obtain ⟨P, hE13, h⟩ := h
    refine qN_callV mX8_total [] _ 8 [] dX8_bestTrolley_111 cm_X8_327 ⟨(Nat.le_of_ble_eq_true rfl), (Nat.le_of_ble_eq_true rfl)⟩ rfl rfl sh178 (Nat.le_of_ble_eq_true rfl) ⟨rfl, rfl⟩ hE13 (fun z10 ρ11 μ12 hz => ?_)
    replace h := h _ _ _ hz
    refine qX_istore dX8_bestTrolley_114 (Nat.le_of_ble_eq_true rfl) rfl ?_
    refine qX_iload dX8_bestTrolley_116 rfl ?_
    refine qX_istore dX8_bestTrolley_118 (Nat.le_of_ble_eq_true rfl) rfl ?_
    exact qX_mask [true, false, true, true, true, true, true] h
  · replace h := h.2 hc
    refine qX_goto 120 dX8_bestTrolley_107 rfl ?_
    exact qX_mask [true, false, true, true, true, true, true] h
set_option maxRecDepth 20000 in
theorem w_X8_bestTrolley_120 {Post : Int → Rf → Mem → Prop} {ρ : Rf} {μ : Mem} {x2 : Int} {x3 : Int} {x4 : Int} {x5 : Int} {x6 : Int}
  (h : i32 (x6 + 1) ∧ qX mX8_bestTrolley GG Post GG (0, 0) 44 [some (qP 178), none, some (qI x2), some (qI x3), some (qI x4), some (qI x5), some (qI (x6 + 1))] [] ρ μ) : qX mX8_bestTrolley GG Post GG (0, 0) 120 [some (qP 178), none, some (qI x2), some (qI x3), some (qI x4), some (qI x5), some (qI x6)] [] ρ μ := by
  refine qR_iinc dX8_bestTrolley_120 rfl (Nat.le_of_ble_eq_true rfl) rfl h.1 ?_
  replace h := h.2
  refine qX_goto 44 dX8_bestTrolley_123 rfl ?_
  exact qX_mask [true, false, true, true, true, true, true] h
set_option maxRecDepth 20000 in
theorem e_X8_bestSwap {Post : Int → Rf → Mem → Prop} {ρ : Rf} {μ : Mem} 
  (h : ∃ P : Int → Rf → Mem → Prop, qE mX8_goesFor GG GG [qP 178, qI (μ 178 20)] ρ μ P ∧ ∀ (z1 : Int) (ρ2 : Rf) (μ3 : Mem), P z1 ρ2 μ3 → ((z1 ≠ 0 → ∃ P : Int → Rf → Mem → Prop, qE mX8_total GG GG [qP 178] ρ2 μ3 P ∧ ∀ (z5 : Int) (ρ6 : Rf) (μ7 : Mem), P z5 ρ6 μ7 → qX mX8_bestSwap GG Post GG (0, 0) 26 [some (qP 178), some (qI z5), some (qI (-1)), some (qI 0), none] [] ρ6 μ7) ∧ (z1 = 0 → ∃ P : Int → Rf → Mem → Prop, qE mX8_failed GG GG [qP 178, qI 1] ρ2 μ3 P ∧ ∀ (z9 : Int) (ρ10 : Rf) (μ11 : Mem), P z9 ρ10 μ11 → Post z9 ρ10 μ11))) : qE mX8_bestSwap GG GG [qP 178] ρ μ Post := by
  refine qE_intro pl_X8_bestSwap (Nat.le_of_ble_eq_true rfl) (Nat.le_refl _) ?_
  refine qX_aload_n 0 dX8_bestSwap_0 rfl rfl (by decide) ?_
  refine qX_aload_n 0 dX8_bestSwap_1 rfl rfl (by decide) ?_
  refine qX_getI 8 20 _ dX8_bestSwap_2 fs_X8_236 sh178 ?_
  obtain ⟨P, hE4, h⟩ := h
  refine qN_callV mX8_goesFor [_] _ 8 [] dX8_bestSwap_5 cm_X8_320 ⟨(Nat.le_of_ble_eq_true rfl), (Nat.le_of_ble_eq_true rfl)⟩ rfl rfl sh178 (Nat.le_of_ble_eq_true rfl) ⟨rfl, rfl⟩ hE4 (fun z1 ρ2 μ3 hz => ?_)
  replace h := h _ _ _ hz
  refine qX_if_ne 17 dX8_bestSwap_8 rfl (fun hc => ?_) (fun hc => ?_)
  · replace h := h.1 hc
    refine qX_aload_n 0 dX8_bestSwap_17 rfl rfl (by decide) ?_
    obtain ⟨P, hE8, h⟩ := h
    refine qN_callV mX8_total [] _ 8 [] dX8_bestSwap_18 cm_X8_327 ⟨(Nat.le_of_ble_eq_true rfl), (Nat.le_of_ble_eq_true rfl)⟩ rfl rfl sh178 (Nat.le_of_ble_eq_true rfl) ⟨rfl, rfl⟩ hE8 (fun z5 ρ6 μ7 hz => ?_)
    replace h := h _ _ _ hz
    refine qX_istore_n 1 dX8_bestSwap_21 rfl (Nat.le_of_ble_eq_true rfl) rfl ?_
    refine qX_iconst dX8_bestSwap_22 (i32_of rfl) ?_
    refine qX_istore_n 2 dX8_bestSwap_23 rfl (Nat.le_of_ble_eq_true rfl) rfl ?_
    refine qX_iconst dX8_bestSwap_24 (i32_of rfl) ?_
    refine qX_istore_n 3 dX8_bestSwap_25 rfl (Nat.le_of_ble_eq_true rfl) rfl ?_
    exact qX_mask [true, true, true, true, false] h
  · replace h := h.2 hc
    refine qX_aload_n 0 dX8_bestSwap_11 rfl rfl (by decide) ?_
    refine qX_iconst dX8_bestSwap_12 (i32_of rfl) ?_
    obtain ⟨P, hE12, h⟩ := h
    refine qN_callV mX8_failed [_] _ 8 [] dX8_bestSwap_13 cm_X8_226 ⟨(Nat.le_of_ble_eq_true rfl), (Nat.le_of_ble_eq_true rfl)⟩ rfl rfl sh178 (Nat.le_of_ble_eq_true rfl) ⟨rfl, rfl⟩ hE12 (fun z9 ρ10 μ11 hz => ?_)
    replace h := h _ _ _ hz
    exact qX_ireturn rfl dX8_bestSwap_16 rfl ⟨Nat.le_refl _, Nat.le_refl _⟩ h
set_option maxRecDepth 20000 in
theorem w_X8_bestSwap_26 {Post : Int → Rf → Mem → Prop} {ρ : Rf} {μ : Mem} {x1 : Int} {x2 : Int} {x3 : Int}
  (h : ((μ 180 87 ≤ x3 → ((0 ≤ x2 → ∃ P : Int → Rf → Mem → Prop, qE mX8_done GG GG [qP 178, qI x2] ρ μ P ∧ ∀ (z1 : Int) (ρ2 : Rf) (μ3 : Mem), P z1 ρ2 μ3 → Post z1 ρ2 μ3) ∧ (x2 < 0 → ∃ P : Int → Rf → Mem → Prop, qE mX8_failed GG GG [qP 178, qI 6] ρ μ P ∧ ∀ (z5 : Int) (ρ6 : Rf) (μ7 : Mem), P z5 ρ6 μ7 → Post z5 ρ6 μ7))) ∧ (x3 < μ 180 87 → i32 (x3 + 1) ∧ qX mX8_bestSwap GG Post GG (0, 0) 42 [some (qP 178), some (qI x1), some (qI x2), some (qI x3), some (qI (x3 + 1))] [] ρ μ))) : qX mX8_bestSwap GG Post GG (0, 0) 26 [some (qP 178), some (qI x1), some (qI x2), some (qI x3), none] [] ρ μ := by
  refine qX_iload_n 3 dX8_bestSwap_26 rfl rfl ?_
  refine qX_aload_n 0 dX8_bestSwap_27 rfl rfl (by decide) ?_
  refine qX_getS 8 12 _ 1 dX8_bestSwap_28 fs_X8_17 rfl rfl sh178 (x := 180) rfl ?_
  refine qX_bip dX8_bestSwap_31 rfl ?_
  refine qX_iald dX8_bestSwap_33 sh180 ⟨by decide, by decide⟩ ?_
  refine qX_icmp_ge 105 dX8_bestSwap_34 rfl (fun hc => ?_) (fun hc => ?_)
  · replace h := h.1 hc
    refine qX_iload_n 2 dX8_bestSwap_105 rfl rfl ?_
    refine qX_if_ge 118 dX8_bestSwap_106 rfl (fun hc => ?_) (fun hc => ?_)
    · replace h := h.1 hc
      refine qX_aload_n 0 dX8_bestSwap_118 rfl rfl (by decide) ?_
      refine qX_iload_n 2 dX8_bestSwap_119 rfl rfl ?_
      obtain ⟨P, hE4, h⟩ := h
      refine qN_callV mX8_done [_] _ 8 [] dX8_bestSwap_120 cm_X8_246 ⟨(Nat.le_of_ble_eq_true rfl), (Nat.le_of_ble_eq_true rfl)⟩ rfl rfl sh178 (Nat.le_of_ble_eq_true rfl) ⟨rfl, rfl⟩ hE4 (fun z1 ρ2 μ3 hz => ?_)
      replace h := h _ _ _ hz
      exact qX_ireturn rfl dX8_bestSwap_123 rfl ⟨Nat.le_refl _, Nat.le_refl _⟩ h
    · replace h := h.2 hc
      refine qX_aload_n 0 dX8_bestSwap_109 rfl rfl (by decide) ?_
      refine qX_bip dX8_bestSwap_110 rfl ?_
      obtain ⟨P, hE8, h⟩ := h
      refine qN_callV mX8_failed [_] _ 8 [] dX8_bestSwap_112 cm_X8_226 ⟨(Nat.le_of_ble_eq_true rfl), (Nat.le_of_ble_eq_true rfl)⟩ rfl rfl sh178 (Nat.le_of_ble_eq_true rfl) ⟨rfl, rfl⟩ hE8 (fun z5 ρ6 μ7 hz => ?_)
      replace h := h _ _ _ hz
      refine qX_goto 123 dX8_bestSwap_115 rfl ?_
      exact qX_ireturn rfl dX8_bestSwap_123 rfl ⟨Nat.le_refl _, Nat.le_refl _⟩ h
  · replace h := h.2 hc
    refine qX_iload_n 3 dX8_bestSwap_37 rfl rfl ?_
    refine qX_iconst dX8_bestSwap_38 (i32_of rfl) ?_
    refine qR_iadd dX8_bestSwap_39 h.1 ?_
    replace h := h.2
    refine qX_istore dX8_bestSwap_40 (Nat.le_of_ble_eq_true rfl) rfl ?_
    exact qX_mask [true, true, true, true, true] h
set_option maxRecDepth 20000 in
theorem w_X8_bestSwap_42 {Post : Int → Rf → Mem → Prop} {ρ : Rf} {μ : Mem} {x1 : Int} {x2 : Int} {x3 : Int} {x4 : Int}
  (h : ((μ 180 87 ≤ x4 → i32 (x3 + 1) ∧ qX mX8_bestSwap GG Post GG (0, 0) 26 [some (qP 178), some (qI x1), some (qI x2), some (qI (x3 + 1)), none] [] ρ μ) ∧ (x4 < μ 180 87 → ∃ P : Int → Rf → Mem → Prop, qE mX8_swap GG GG [qP 178, qI x3, qI x4] ρ μ P ∧ ∀ (z1 : Int) (ρ2 : Rf) (μ3 : Mem), P z1 ρ2 μ3 → ∃ P : Int → Rf → Mem → Prop, qE mX8_goAll GG GG [qP 178] ρ2 μ3 P ∧ ∀ (z5 : Int) (ρ6 : Rf) (μ7 : Mem), P z5 ρ6 μ7 → ∃ P : Int → Rf → Mem → Prop, qE mX8_total GG GG [qP 178] ρ6 μ7 P ∧ ∀ (z9 : Int) (ρ10 : Rf) (μ11 : Mem), P z9 ρ10 μ11 → ((z9 ≤ x1 → qX mX8_bestSwap GG Post GG (0, 0) 86 [some (qP 178), some (qI x1), some (qI x2), some (qI x3), some (qI x4)] [] ρ10 μ11) ∧ (x1 < z9 → ∃ P : Int → Rf → Mem → Prop, qE mX8_total GG GG [qP 178] ρ10 μ11 P ∧ ∀ (z13 : Int) (ρ14 : Rf) (μ15 : Mem), P z13 ρ14 μ15 → i32 (100 * x3) ∧ i32 ((100 * x3) + x4) ∧ qX mX8_bestSwap GG Post GG (0, 0) 86 [some (qP 178), some (qI z13), some (qI ((100 * x3) + x4)), some (qI x3), some (qI x4)] [] ρ14 μ15))))) : qX mX8_bestSwap GG Post GG (0, 0) 42 [some (qP 178), some (qI x1), some (qI x2), some (qI x3), some (qI x4)] [] ρ μ := by
  refine qX_iload dX8_bestSwap_42 rfl ?_
  refine qX_aload_n 0 dX8_bestSwap_44 rfl rfl (by decide) ?_
  refine qX_getS 8 12 _ 1 dX8_bestSwap_45 fs_X8_17 rfl rfl sh178 (x := 180) rfl ?_
  refine qX_bip dX8_bestSwap_48 rfl ?_
  refine qX_iald dX8_bestSwap_50 sh180 ⟨by decide, by decide⟩ ?_
  refine qX_icmp_ge 99 dX8_bestSwap_51 rfl (fun hc => ?_) (fun hc => ?_)
  · replace h := h.1 hc
    refine qR_iinc dX8_bestSwap_99 rfl (Nat.le_of_ble_eq_true rfl) rfl h.1 ?_
    replace h := h.2
    refine qX_goto 26 dX8_bestSwap_102 rfl ?_
    exact qX_mask [true, true, true, true, false] h
  · replace h := h.2 hc
    refine qX_aload_n 0 dX8_bestSwap_54 rfl rfl (by decide) ?_
    refine qX_iload_n 3 dX8_bestSwap_55 rfl rfl ?_
    refine qX_iload dX8_bestSwap_56 rfl ?_
    obtain ⟨P, hE4, h⟩ := h
    refine qN_callV mX8_swap [_, _] _ 8 [] dX8_bestSwap_58 cm_X8_401 ⟨(Nat.le_of_ble_eq_true rfl), (Nat.le_of_ble_eq_true rfl)⟩ rfl rfl sh178 (Nat.le_of_ble_eq_true rfl) ⟨rfl, rfl⟩ hE4 (fun z1 ρ2 μ3 hz => ?_)
    replace h := h _ _ _ hz
    refine qX_aload_n 0 dX8_bestSwap_61 rfl rfl (by decide) ?_
    obtain ⟨P, hE8, h⟩ := h
    refine qN_callV mX8_goAll [] _ 8 [] dX8_bestSwap_62 cm_X8_317 ⟨(Nat.le_of_ble_eq_true rfl), (Nat.le_of_ble_eq_true rfl)⟩ rfl rfl sh178 (Nat.le_of_ble_eq_true rfl) ⟨rfl, rfl⟩ hE8 (fun z5 ρ6 μ7 hz => ?_)
    replace h := h _ _ _ hz
    refine qX_aload_n 0 dX8_bestSwap_65 rfl rfl (by decide) ?_
    obtain ⟨P, hE12, h⟩ := h
    refine qN_callV mX8_total [] _ 8 [] dX8_bestSwap_66 cm_X8_327 ⟨(Nat.le_of_ble_eq_true rfl), (Nat.le_of_ble_eq_true rfl)⟩ rfl rfl sh178 (Nat.le_of_ble_eq_true rfl) ⟨rfl, rfl⟩ hE12 (fun z9 ρ10 μ11 hz => ?_)
    replace h := h _ _ _ hz
    refine qX_iload_n 1 dX8_bestSwap_69 rfl rfl ?_
    refine qX_icmp_le 86 dX8_bestSwap_70 rfl (fun hc => ?_) (fun hc => ?_)
    · replace h := h.1 hc
      exact qX_mask [true, true, true, true, true] h
    · replace h := h.2 hc
      refine qX_aload_n 0 dX8_bestSwap_73 rfl rfl (by decide) ?_
      obtain ⟨P, hE16, h⟩ := h
      refine qN_callV mX8_total [] _ 8 [] dX8_bestSwap_74 cm_X8_327 ⟨(Nat.le_of_ble_eq_true rfl), (Nat.le_of_ble_eq_true rfl)⟩ rfl rfl sh178 (Nat.le_of_ble_eq_true rfl) ⟨rfl, rfl⟩ hE16 (fun z13 ρ14 μ15 hz => ?_)
      replace h := h _ _ _ hz
      refine qX_istore_n 1 dX8_bestSwap_77 rfl (Nat.le_of_ble_eq_true rfl) rfl ?_
      refine qX_bip dX8_bestSwap_78 rfl ?_
      refine qX_iload_n 3 dX8_bestSwap_80 rfl rfl ?_
      refine qR_imul dX8_bestSwap_81 h.1 ?_
      replace h := h.2
      refine qX_iload dX8_bestSwap_82 rfl ?_
      refine qR_iadd dX8_bestSwap_84 h.1 ?_
      replace h := h.2
      refine qX_istore_n 2 dX8_bestSwap_85 rfl (Nat.le_of_ble_eq_true rfl) rfl ?_
      exact qX_mask [true, true, true, true, true] h
set_option maxRecDepth 20000 in
theorem w_X8_bestSwap_86 {Post : Int → Rf → Mem → Prop} {ρ : Rf} {μ : Mem} {x1 : Int} {x2 : Int} {x3 : Int} {x4 : Int}
  (h : ∃ P : Int → Rf → Mem → Prop, qE mX8_swap GG GG [qP 178, qI x3, qI x4] ρ μ P ∧ ∀ (z1 : Int) (ρ2 : Rf) (μ3 : Mem), P z1 ρ2 μ3 → i32 (x4 + 1) ∧ qX mX8_bestSwap GG Post GG (0, 0) 42 [some (qP 178), some (qI x1), some (qI x2), some (qI x3), some (qI (x4 + 1))] [] ρ2 μ3) : qX mX8_bestSwap GG Post GG (0, 0) 86 [some (qP 178), some (qI x1), some (qI x2), some (qI x3), some (qI x4)] [] ρ μ := by
  refine qX_aload_n 0 dX8_bestSwap_86 rfl rfl (by decide) ?_
  refine qX_iload_n 3 dX8_bestSwap_87 rfl rfl ?_
  refine qX_iload dX8_bestSwap_88 rfl ?_
  obtain ⟨P, hE4, h⟩ := h
  refine qN_callV mX8_swap [_, _] _ 8 [] dX8_bestSwap_90 cm_X8_401 ⟨(Nat.le_of_ble_eq_true rfl), (Nat.le_of_ble_eq_true rfl)⟩ rfl rfl sh178 (Nat.le_of_ble_eq_true rfl) ⟨rfl, rfl⟩ hE4 (fun z1 ρ2 μ3 hz => ?_)
  replace h := h _ _ _ hz
  refine qR_iinc dX8_bestSwap_93 rfl (Nat.le_of_ble_eq_true rfl) rfl h.1 ?_
  replace h := h.2
  refine qX_goto 42 dX8_bestSwap_96 rfl ?_
  exact qX_mask [true, true, true, true, true] h
