/-! ===== conditions of the methods, from cut to cut (generated, part 5) ===== -/
set_option maxRecDepth 20000 in
theorem e_X8_reaches {Post : Int → Rf → Mem → Prop} {ρ : Rf} {μ : Mem} {x1 : Int} {x2 : Int}
  (h : (0 ≤ x1 ∧ x1 < 5) ∧ ∃ P : Int → Rf → Mem → Prop, qE mX8_job GG GG [qP 178, qI (μ 187 x1), qI 1] ρ μ P ∧ ∀ (z1 : Int) (ρ2 : Rf) (μ3 : Mem), P z1 ρ2 μ3 → i32 (5 * z1) ∧ ∃ P : Int → Rf → Mem → Prop, qE mX8_job GG GG [qP 178, qI (μ 187 x1), qI 2] ρ2 μ3 P ∧ ∀ (z5 : Int) (ρ6 : Rf) (μ7 : Mem), P z5 ρ6 μ7 → i32 ((5 * z1) + z5) ∧ (0 ≤ x1 ∧ x1 < 5) ∧ i32 (0 + z1) ∧ (0 ≤ 0 + z1 ∧ 0 + z1 < 188) ∧ (0 ≤ (5 * z1) + z5 ∧ (5 * z1) + z5 < 10) ∧ (0 ≤ μ 187 x1 ∧ μ 187 x1 < 20) ∧ i32 (2 + z1) ∧ (0 ≤ 2 + z1 ∧ 2 + z1 < 188) ∧ i32 ((μ7 180 (2 + z1)) - (max (μ7 188 x1) (max (μ7 180 (0 + z1)) (μ7 194 ((5 * z1) + z5))))) ∧ ∃ P : Int → Rf → Mem → Prop, qE mX8_trolley GG GG [qP 178, qI x1, qI 4] ρ6 μ7 P ∧ ∀ (z9 : Int) (ρ10 : Rf) (μ11 : Mem), P z9 ρ10 μ11 → 0 < z9 ∧ (0 ≤ μ 187 x1 ∧ μ 187 x1 < 20) ∧ ∀ μ13, μ13 = up2 μ11 198 (μ 187 x1) (max (μ7 188 x1) (max (μ7 180 (0 + z1)) (μ7 194 ((5 * z1) + z5)))) → (0 ≤ μ 187 x1 ∧ μ 187 x1 < 20) ∧ ∀ μ14, μ14 = up2 μ13 199 (μ 187 x1) (max 0 (min (μ7 196 (μ 187 x1)) (Int.tdiv ((μ7 180 (2 + z1)) - (max (μ7 188 x1) (max (μ7 180 (0 + z1)) (μ7 194 ((5 * z1) + z5))))) z9))) → (0 ≤ x1 ∧ x1 < 5) ∧ ((max 0 (min (μ7 196 (μ 187 x1)) (Int.tdiv ((μ7 180 (2 + z1)) - (max (μ7 188 x1) (max (μ7 180 (0 + z1)) (μ7 194 ((5 * z1) + z5))))) z9)) ≤ 0 → qX mX8_reaches GG Post GG (0, 0) 144 [some (qP 178), some (qI x1), some (qI x2), some (qI (μ 187 x1)), none, none, none, some (qI (max 0 (min (μ7 196 (μ 187 x1)) (Int.tdiv ((μ7 180 (2 + z1)) - (max (μ7 188 x1) (max (μ7 180 (0 + z1)) (μ7 194 ((5 * z1) + z5))))) z9)))), some (qI (μ14 188 x1)), none, none] [] ρ10 μ14) ∧ (0 < max 0 (min (μ7 196 (μ 187 x1)) (Int.tdiv ((μ7 180 (2 + z1)) - (max (μ7 188 x1) (max (μ7 180 (0 + z1)) (μ7 194 ((5 * z1) + z5))))) z9)) → ∃ P : Int → Rf → Mem → Prop, qE mX8_trolley GG GG [qP 178, qI x1, qI 4] ρ10 μ14 P ∧ ∀ (z15 : Int) (ρ16 : Rf) (μ17 : Mem), P z15 ρ16 μ17 → i32 ((max 0 (min (μ7 196 (μ 187 x1)) (Int.tdiv ((μ7 180 (2 + z1)) - (max (μ7 188 x1) (max (μ7 180 (0 + z1)) (μ7 194 ((5 * z1) + z5))))) z9))) * z15) ∧ i32 ((max (μ7 188 x1) (max (μ7 180 (0 + z1)) (μ7 194 ((5 * z1) + z5)))) + ((max 0 (min (μ7 196 (μ 187 x1)) (Int.tdiv ((μ7 180 (2 + z1)) - (max (μ7 188 x1) (max (μ7 180 (0 + z1)) (μ7 194 ((5 * z1) + z5))))) z9))) * z15)) ∧ (0 ≤ (5 * z1) + z5 ∧ (5 * z1) + z5 < 10) ∧ ∀ μ19, μ19 = up2 μ17 194 ((5 * z1) + z5) ((max (μ7 188 x1) (max (μ7 180 (0 + z1)) (μ7 194 ((5 * z1) + z5)))) + ((max 0 (min (μ7 196 (μ 187 x1)) (Int.tdiv ((μ7 180 (2 + z1)) - (max (μ7 188 x1) (max (μ7 180 (0 + z1)) (μ7 194 ((5 * z1) + z5))))) z9))) * z15)) → qX mX8_reaches GG Post GG (0, 0) 144 [some (qP 178), some (qI x1), some (qI x2), some (qI (μ 187 x1)), none, none, none, some (qI (max 0 (min (μ7 196 (μ 187 x1)) (Int.tdiv ((μ7 180 (2 + z1)) - (max (μ7 188 x1) (max (μ7 180 (0 + z1)) (μ7 194 ((5 * z1) + z5))))) z9)))), some (qI ((max (μ7 188 x1) (max (μ7 180 (0 + z1)) (μ7 194 ((5 * z1) + z5)))) + ((max 0 (min (μ7 196 (μ 187 x1)) (Int.tdiv ((μ7 180 (2 + z1)) - (max (μ7 188 x1) (max (μ7 180 (0 + z1)) (μ7 194 ((5 * z1) + z5))))) z9))) * z15))), none, none] [] ρ16 μ19))) : qE mX8_reaches GG GG [qP 178, qI x1, qI x2] ρ μ Post := by
  refine qE_intro pl_X8_reaches (Nat.le_of_ble_eq_true rfl) (Nat.le_refl _) ?_
  refine qX_aload_n 0 dX8_reaches_0 rfl rfl (by decide) ?_
  refine qX_getS 8 22 _ 8 dX8_reaches_1 fs_X8_40 rfl rfl sh178 (x := 187) rfl ?_
  refine qX_iload_n 1 dX8_reaches_4 rfl rfl ?_
  refine qX_iald dX8_reaches_5 sh187 h.1 ?_
  replace h := h.2
  refine qX_istore_n 3 dX8_reaches_6 rfl (Nat.le_of_ble_eq_true rfl) rfl ?_
  refine qX_aload_n 0 dX8_reaches_7 rfl rfl (by decide) ?_
  refine qX_iload_n 3 dX8_reaches_8 rfl rfl ?_
  refine qX_iconst dX8_reaches_9 (i32_of rfl) ?_
  obtain ⟨P, hE4, h⟩ := h
  refine qN_callV mX8_job [_, _] _ 8 [] dX8_reaches_10 cm_X8_274 ⟨(Nat.le_of_ble_eq_true rfl), (Nat.le_of_ble_eq_true rfl)⟩ rfl rfl sh178 (Nat.le_of_ble_eq_true rfl) ⟨rfl, rfl⟩ hE4 (fun z1 ρ2 μ3 hz => ?_)
  replace h := h _ _ _ hz
  refine qX_istore dX8_reaches_13 (Nat.le_of_ble_eq_true rfl) rfl ?_
  refine qX_iconst dX8_reaches_15 (i32_of rfl) ?_
  refine qX_iload dX8_reaches_16 rfl ?_
  refine qR_imul dX8_reaches_18 h.1 ?_
  replace h := h.2
  refine qX_aload_n 0 dX8_reaches_19 rfl rfl (by decide) ?_
  refine qX_iload_n 3 dX8_reaches_20 rfl rfl ?_
  refine qX_iconst dX8_reaches_21 (i32_of rfl) ?_
  obtain ⟨P, hE8, h⟩ := h
  refine qN_callV mX8_job [_, _] _ 8 [_] dX8_reaches_22 cm_X8_274 ⟨(Nat.le_of_ble_eq_true rfl), (Nat.le_of_ble_eq_true rfl)⟩ rfl rfl sh178 (Nat.le_of_ble_eq_true rfl) ⟨rfl, rfl⟩ hE8 (fun z5 ρ6 μ7 hz => ?_)
  replace h := h _ _ _ hz
  refine qR_iadd dX8_reaches_25 h.1 ?_
  replace h := h.2
  refine qX_istore dX8_reaches_26 (Nat.le_of_ble_eq_true rfl) rfl ?_
  refine qX_aload_n 0 dX8_reaches_28 rfl rfl (by decide) ?_
  refine qX_getS 8 23 _ 9 dX8_reaches_29 fs_X8_43 rfl rfl sh178 (x := 188) rfl ?_
  refine qX_iload_n 1 dX8_reaches_32 rfl rfl ?_
  refine qX_iald dX8_reaches_33 sh188 h.1 ?_
  replace h := h.2
  refine qX_aload_n 0 dX8_reaches_34 rfl rfl (by decide) ?_
  refine qX_getS 8 12 _ 1 dX8_reaches_35 fs_X8_17 rfl rfl sh178 (x := 180) rfl ?_
  refine qX_iconst dX8_reaches_38 (i32_of rfl) ?_
  refine qX_iload dX8_reaches_39 rfl ?_
  refine qR_iadd dX8_reaches_41 h.1 ?_
  replace h := h.2
  refine qX_iald dX8_reaches_42 sh180 h.1 ?_
  replace h := h.2
  refine qX_aload_n 0 dX8_reaches_43 rfl rfl (by decide) ?_
  refine qX_getS 8 29 _ 15 dX8_reaches_44 fs_X8_61 rfl rfl sh178 (x := 194) rfl ?_
  refine qX_iload dX8_reaches_47 rfl ?_
  refine qX_iald dX8_reaches_49 sh194 h.1 ?_
  replace h := h.2
  refine qX_max dX8_reaches_50 kM_X8_297 ⟨(Nat.le_of_ble_eq_true rfl), (Nat.le_of_ble_eq_true rfl)⟩ (Nat.le_of_ble_eq_true rfl) ⟨Nat.zero_le _, Nat.zero_le _⟩ ?_
  refine qX_max dX8_reaches_53 kM_X8_297 ⟨(Nat.le_of_ble_eq_true rfl), (Nat.le_of_ble_eq_true rfl)⟩ (Nat.le_of_ble_eq_true rfl) ⟨Nat.zero_le _, Nat.zero_le _⟩ ?_
  refine qX_istore dX8_reaches_56 (Nat.le_of_ble_eq_true rfl) rfl ?_
  refine qX_iconst dX8_reaches_58 (i32_of rfl) ?_
  refine qX_aload_n 0 dX8_reaches_59 rfl rfl (by decide) ?_
  refine qX_getS 8 31 _ 17 dX8_reaches_60 fs_X8_67 rfl rfl sh178 (x := 196) rfl ?_
  refine qX_iload_n 3 dX8_reaches_63 rfl rfl ?_
  refine qX_iald dX8_reaches_64 sh196 h.1 ?_
  replace h := h.2
  refine qX_aload_n 0 dX8_reaches_65 rfl rfl (by decide) ?_
  refine qX_getS 8 12 _ 1 dX8_reaches_66 fs_X8_17 rfl rfl sh178 (x := 180) rfl ?_
  refine qX_iconst dX8_reaches_69 (i32_of rfl) ?_
  refine qX_iload dX8_reaches_70 rfl ?_
  refine qR_iadd dX8_reaches_72 h.1 ?_
  replace h := h.2
  refine qX_iald dX8_reaches_73 sh180 h.1 ?_
  replace h := h.2
  refine qX_iload dX8_reaches_74 rfl ?_
  refine qR_isub dX8_reaches_76 h.1 ?_
  replace h := h.2
  refine qX_aload_n 0 dX8_reaches_77 rfl rfl (by decide) ?_
  refine qX_iload_n 1 dX8_reaches_78 rfl rfl ?_
  refine qX_iconst dX8_reaches_79 (i32_of rfl) ?_
  obtain ⟨P, hE12, h⟩ := h
  refine qN_callV mX8_trolley [_, _] _ 8 [_, _, _] dX8_reaches_80 cm_X8_277 ⟨(Nat.le_of_ble_eq_true rfl), (Nat.le_of_ble_eq_true rfl)⟩ rfl rfl sh178 (Nat.le_of_ble_eq_true rfl) ⟨rfl, rfl⟩ hE12 (fun z9 ρ10 μ11 hz => ?_)
  replace h := h _ _ _ hz
  refine qR_idivT dX8_reaches_83 h.1 ?_
  replace h := h.2
  refine qX_min dX8_reaches_84 kM_X8_288 ⟨(Nat.le_of_ble_eq_true rfl), (Nat.le_of_ble_eq_true rfl)⟩ (Nat.le_of_ble_eq_true rfl) ⟨Nat.zero_le _, Nat.zero_le _⟩ ?_
  refine qX_max dX8_reaches_87 kM_X8_297 ⟨(Nat.le_of_ble_eq_true rfl), (Nat.le_of_ble_eq_true rfl)⟩ (Nat.le_of_ble_eq_true rfl) ⟨Nat.zero_le _, Nat.zero_le _⟩ ?_
  refine qX_istore dX8_reaches_90 (Nat.le_of_ble_eq_true rfl) rfl ?_
  refine qX_aload_n 0 dX8_reaches_92 rfl rfl (by decide) ?_
  refine qX_getS 8 33 _ 19 dX8_reaches_93 fs_X8_73 rfl rfl sh178 (x := 198) rfl ?_
  refine qX_iload_n 3 dX8_reaches_96 rfl rfl ?_
  refine qX_iload dX8_reaches_97 rfl ?_
  refine qX_iast dX8_reaches_99 sh198 h.1 ?_
  replace h := h.2
  replace h := h _ rfl
  refine qX_aload_n 0 dX8_reaches_100 rfl rfl (by decide) ?_
  refine qX_getS 8 34 _ 20 dX8_reaches_101 fs_X8_76 rfl rfl sh178 (x := 199) rfl ?_
  refine qX_iload_n 3 dX8_reaches_104 rfl rfl ?_
  refine qX_iload dX8_reaches_105 rfl ?_
  refine qX_iast dX8_reaches_107 sh199 h.1 ?_
  replace h := h.2
  replace h := h _ rfl
  refine qX_aload_n 0 dX8_reaches_108 rfl rfl (by decide) ?_
  refine qX_getS 8 23 _ 9 dX8_reaches_109 fs_X8_43 rfl rfl sh178 (x := 188) rfl ?_
  refine qX_iload_n 1 dX8_reaches_112 rfl rfl ?_
  refine qX_iald dX8_reaches_113 sh188 h.1 ?_
  replace h := h.2
  refine qX_istore dX8_reaches_114 (Nat.le_of_ble_eq_true rfl) rfl ?_
  refine qX_iload dX8_reaches_116 rfl ?_
  refine qX_if_le 144 dX8_reaches_118 rfl (fun hc => ?_) (fun hc => ?_)
  · replace h := h.1 hc
    exact qX_mask [true, true, true, true, false, false, false, true, true, false, false] h
  · replace h := h.2 hc
    refine qX_iload dX8_reaches_121 rfl ?_
    refine qX_iload dX8_reaches_123 rfl ?_
    refine qX_aload_n 0 dX8_reaches_125 rfl rfl (by decide) ?_
    refine qX_iload_n 1 dX8_reaches_126 rfl rfl ?_
    refine qX_iconst dX8_reaches_127 (i32_of rfl) ?_
    obtain ⟨P, hE18, h⟩ := h
    refine qN_callV mX8_trolley [_, _] _ 8 [_, _] dX8_reaches_128 cm_X8_277 ⟨(Nat.le_of_ble_eq_true rfl), (Nat.le_of_ble_eq_true rfl)⟩ rfl rfl sh178 (Nat.le_of_ble_eq_true rfl) ⟨rfl, rfl⟩ hE18 (fun z15 ρ16 μ17 hz => ?_)
    replace h := h _ _ _ hz
    refine qR_imul dX8_reaches_131 h.1 ?_
    replace h := h.2
    refine qR_iadd dX8_reaches_132 h.1 ?_
    replace h := h.2
    refine qX_istore dX8_reaches_133 (Nat.le_of_ble_eq_true rfl) rfl ?_
    refine qX_aload_n 0 dX8_reaches_135 rfl rfl (by decide) ?_
    refine qX_getS 8 29 _ 15 dX8_reaches_136 fs_X8_61 rfl rfl sh178 (x := 194) rfl ?_
    refine qX_iload dX8_reaches_139 rfl ?_
    refine qX_iload dX8_reaches_141 rfl ?_
    refine qX_iast dX8_reaches_143 sh194 h.1 ?_
    replace h := h.2
    replace h := h _ rfl
    exact qX_mask [true, true, true, true, false, false, false, true, true, false, false] h
set_option maxRecDepth 20000 in
theorem w_X8_reaches_144 {Post : Int → Rf → Mem → Prop} {ρ : Rf} {μ : Mem} {x1 : Int} {x2 : Int} {x3 : Int} {x7 : Int} {x8 : Int}
  (h : ∃ P : Int → Rf → Mem → Prop, qE mX8_walkOf GG GG [qP 178, qI x3] ρ μ P ∧ ∀ (z1 : Int) (ρ2 : Rf) (μ3 : Mem), P z1 ρ2 μ3 → i32 (x8 + z1) ∧ (0 ≤ x3 ∧ x3 < 20) ∧ ∀ μ5, μ5 = up2 μ3 200 x3 (x8 + z1) → ∃ P : Int → Rf → Mem → Prop, qE mX8_trolley GG GG [qP 178, qI x1, qI 0] ρ2 μ5 P ∧ ∀ (z6 : Int) (ρ7 : Rf) (μ8 : Mem), P z6 ρ7 μ8 → i32 (4 * z6) ∧ ∃ P : Int → Rf → Mem → Prop, qE mX8_job GG GG [qP 178, qI x3, qI 3] ρ7 μ8 P ∧ ∀ (z10 : Int) (ρ11 : Rf) (μ12 : Mem), P z10 ρ11 μ12 → i32 ((4 * z6) + z10) ∧ (0 ≤ x3 ∧ x3 < 20) ∧ i32 ((μ12 196 x3) - x7) ∧ (0 ≤ x3 ∧ x3 < 20) ∧ (0 ≤ x1 ∧ x1 < 5) ∧ ((μ12 200 x3 ≠ μ12 188 x1 → (0 ≤ x3 ∧ x3 < 20) ∧ (0 ≤ x1 ∧ x1 < 5) ∧ ∀ μ14, μ14 = up2 μ12 189 x1 (μ12 200 x3) → (0 ≤ x1 ∧ x1 < 5) ∧ ∀ μ15, μ15 = up2 μ14 190 x1 ((4 * z6) + z10) → (0 ≤ x1 ∧ x1 < 5) ∧ ∀ μ16, μ16 = up2 μ15 191 x1 ((μ12 196 x3) - x7) → qX mX8_reaches GG Post GG (0, 0) 244 [some (qP 178), some (qI x1), some (qI x2), some (qI x3), none, none, none, none, none, none, none] [] ρ11 μ16) ∧ (μ12 200 x3 = μ12 188 x1 → (0 ≤ (4 * z6) + z10 ∧ (4 * z6) + z10 < 12) ∧ i32 ((μ12 193 ((4 * z6) + z10)) + ((μ12 196 x3) - x7)) ∧ (0 ≤ (4 * z6) + z10 ∧ (4 * z6) + z10 < 12) ∧ ∀ μ17, μ17 = up2 μ12 193 ((4 * z6) + z10) ((μ12 193 ((4 * z6) + z10)) + ((μ12 196 x3) - x7)) → qX mX8_reaches GG Post GG (0, 0) 244 [some (qP 178), some (qI x1), some (qI x2), some (qI x3), none, none, none, none, none, none, none] [] ρ11 μ17))) : qX mX8_reaches GG Post GG (0, 0) 144 [some (qP 178), some (qI x1), some (qI x2), some (qI x3), none, none, none, some (qI x7), some (qI x8), none, none] [] ρ μ := by
  refine qX_aload_n 0 dX8_reaches_144 rfl rfl (by decide) ?_
  refine qX_getS 8 35 _ 21 dX8_reaches_145 fs_X8_79 rfl rfl sh178 (x := 200) rfl ?_
  refine qX_iload_n 3 dX8_reaches_148 rfl rfl ?_
  refine qX_iload dX8_reaches_149 rfl ?_
  refine qX_aload_n 0 dX8_reaches_151 rfl rfl (by decide) ?_
  refine qX_iload_n 3 dX8_reaches_152 rfl rfl ?_
  obtain ⟨P, hE4, h⟩ := h
  refine qN_callV mX8_walkOf [_] _ 8 [_, _, _] dX8_reaches_153 cm_X8_294 ⟨(Nat.le_of_ble_eq_true rfl), (Nat.le_of_ble_eq_true rfl)⟩ rfl rfl sh178 (Nat.le_of_ble_eq_true rfl) ⟨rfl, rfl⟩ hE4 (fun z1 ρ2 μ3 hz => ?_)
  replace h := h _ _ _ hz
  refine qR_iadd dX8_reaches_156 h.1 ?_
  replace h := h.2
  refine qX_iast dX8_reaches_157 sh200 h.1 ?_
  replace h := h.2
  replace h := h _ rfl
  refine qX_iconst dX8_reaches_158 (i32_of rfl) ?_
  refine qX_aload_n 0 dX8_reaches_159 rfl rfl (by decide) ?_
  refine qX_iload_n 1 dX8_reaches_160 rfl rfl ?_
  refine qX_iconst dX8_reaches_161 (i32_of rfl) ?_
  obtain ⟨P, hE9, h⟩ := h
  refine qN_callV mX8_trolley [_, _] _ 8 [_] dX8_reaches_162 cm_X8_277 ⟨(Nat.le_of_ble_eq_true rfl), (Nat.le_of_ble_eq_true rfl)⟩ rfl rfl sh178 (Nat.le_of_ble_eq_true rfl) ⟨rfl, rfl⟩ hE9 (fun z6 ρ7 μ8 hz => ?_)
  replace h := h _ _ _ hz
  refine qR_imul dX8_reaches_165 h.1 ?_
  replace h := h.2
  refine qX_aload_n 0 dX8_reaches_166 rfl rfl (by decide) ?_
  refine qX_iload_n 3 dX8_reaches_167 rfl rfl ?_
  refine qX_iconst dX8_reaches_168 (i32_of rfl) ?_
  obtain ⟨P, hE13, h⟩ := h
  refine qN_callV mX8_job [_, _] _ 8 [_] dX8_reaches_169 cm_X8_274 ⟨(Nat.le_of_ble_eq_true rfl), (Nat.le_of_ble_eq_true rfl)⟩ rfl rfl sh178 (Nat.le_of_ble_eq_true rfl) ⟨rfl, rfl⟩ hE13 (fun z10 ρ11 μ12 hz => ?_)
  replace h := h _ _ _ hz
  refine qR_iadd dX8_reaches_172 h.1 ?_
  replace h := h.2
  refine qX_istore dX8_reaches_173 (Nat.le_of_ble_eq_true rfl) rfl ?_
  refine qX_aload_n 0 dX8_reaches_175 rfl rfl (by decide) ?_
  refine qX_getS 8 31 _ 17 dX8_reaches_176 fs_X8_67 rfl rfl sh178 (x := 196) rfl ?_
  refine qX_iload_n 3 dX8_reaches_179 rfl rfl ?_
  refine qX_iald dX8_reaches_180 sh196 h.1 ?_
  replace h := h.2
  refine qX_iload dX8_reaches_181 rfl ?_
  refine qR_isub dX8_reaches_183 h.1 ?_
  replace h := h.2
  refine qX_istore dX8_reaches_184 (Nat.le_of_ble_eq_true rfl) rfl ?_
  refine qX_aload_n 0 dX8_reaches_186 rfl rfl (by decide) ?_
  refine qX_getS 8 35 _ 21 dX8_reaches_187 fs_X8_79 rfl rfl sh178 (x := 200) rfl ?_
  refine qX_iload_n 3 dX8_reaches_190 rfl rfl ?_
  refine qX_iald dX8_reaches_191 sh200 h.1 ?_
  replace h := h.2
  refine qX_aload_n 0 dX8_reaches_192 rfl rfl (by decide) ?_
  refine qX_getS 8 23 _ 9 dX8_reaches_193 fs_X8_43 rfl rfl sh178 (x := 188) rfl ?_
  refine qX_iload_n 1 dX8_reaches_196 rfl rfl ?_
  refine qX_iald dX8_reaches_197 sh188 h.1 ?_
  replace h := h.2
  refine qX_icmp_ne 216 dX8_reaches_198 rfl (fun hc => ?_) (fun hc => ?_)
  · replace h := h.1 hc
    refine qX_aload_n 0 dX8_reaches_216 rfl rfl (by decide) ?_
    refine qX_getS 8 24 _ 10 dX8_reaches_217 fs_X8_46 rfl rfl sh178 (x := 189) rfl ?_
    refine qX_iload_n 1 dX8_reaches_220 rfl rfl ?_
    refine qX_aload_n 0 dX8_reaches_221 rfl rfl (by decide) ?_
    refine qX_getS 8 35 _ 21 dX8_reaches_222 fs_X8_79 rfl rfl sh178 (x := 200) rfl ?_
    refine qX_iload_n 3 dX8_reaches_225 rfl rfl ?_
    refine qX_iald dX8_reaches_226 sh200 h.1 ?_
    replace h := h.2
    refine qX_iast dX8_reaches_227 sh189 h.1 ?_
    replace h := h.2
    replace h := h _ rfl
    refine qX_aload_n 0 dX8_reaches_228 rfl rfl (by decide) ?_
    refine qX_getS 8 25 _ 11 dX8_reaches_229 fs_X8_49 rfl rfl sh178 (x := 190) rfl ?_
    refine qX_iload_n 1 dX8_reaches_232 rfl rfl ?_
    refine qX_iload dX8_reaches_233 rfl ?_
    refine qX_iast dX8_reaches_235 sh190 h.1 ?_
    replace h := h.2
    replace h := h _ rfl
    refine qX_aload_n 0 dX8_reaches_236 rfl rfl (by decide) ?_
    refine qX_getS 8 26 _ 12 dX8_reaches_237 fs_X8_52 rfl rfl sh178 (x := 191) rfl ?_
    refine qX_iload_n 1 dX8_reaches_240 rfl rfl ?_
    refine qX_iload dX8_reaches_241 rfl ?_
    refine qX_iast dX8_reaches_243 sh191 h.1 ?_
    replace h := h.2
    replace h := h _ rfl
    exact qX_mask [true, true, true, true, false, false, false, false, false, false, false] h
  · replace h := h.2 hc
    refine qX_aload_n 0 dX8_reaches_201 rfl rfl (by decide) ?_
    refine qX_getS 8 28 _ 14 dX8_reaches_202 fs_X8_58 rfl rfl sh178 (x := 193) rfl ?_
    refine qX_iload dX8_reaches_205 rfl ?_
    refine qX_dup2 dX8_reaches_207 rfl rfl ?_
    refine qX_iald dX8_reaches_208 sh193 h.1 ?_
    replace h := h.2
    refine qX_iload dX8_reaches_209 rfl ?_
    refine qR_iadd dX8_reaches_211 h.1 ?_
    replace h := h.2
    refine qX_iast dX8_reaches_212 sh193 h.1 ?_
    replace h := h.2
    replace h := h _ rfl
    refine qX_goto 244 dX8_reaches_213 rfl ?_
    exact qX_mask [true, true, true, true, false, false, false, false, false, false, false] h
set_option maxRecDepth 20000 in
theorem w_X8_reaches_244 {Post : Int → Rf → Mem → Prop} {ρ : Rf} {μ : Mem} {x1 : Int} {x2 : Int} {x3 : Int}
  (h : (0 ≤ x1 ∧ x1 < 5) ∧ ∀ μ1, μ1 = up2 μ 192 x1 0 → (0 ≤ x3 ∧ x3 < 20) ∧ (0 ≤ x1 ∧ x1 < 5) ∧ ∀ μ2, μ2 = up2 μ1 188 x1 (μ1 200 x3) → i32 (x3 + 1) ∧ ∃ P : Int → Rf → Mem → Prop, qE mX8_nextJob GG GG [qP 178, qI x1, qI (x3 + 1), qI x2] ρ μ2 P ∧ ∀ (z3 : Int) (ρ4 : Rf) (μ5 : Mem), P z3 ρ4 μ5 → (0 ≤ x1 ∧ x1 < 5) ∧ ∀ μ7, μ7 = up2 μ5 187 x1 z3 → Post 0 ρ4 μ7) : qX mX8_reaches GG Post GG (0, 0) 244 [some (qP 178), some (qI x1), some (qI x2), some (qI x3), none, none, none, none, none, none, none] [] ρ μ := by
  refine qX_aload_n 0 dX8_reaches_244 rfl rfl (by decide) ?_
  refine qX_getS 8 27 _ 13 dX8_reaches_245 fs_X8_55 rfl rfl sh178 (x := 192) rfl ?_
  refine qX_iload_n 1 dX8_reaches_248 rfl rfl ?_
  refine qX_iconst dX8_reaches_249 (i32_of rfl) ?_
  refine qX_zast dX8_reaches_250 sh192 h.1 (by decide) ?_
  replace h := h.2
  replace h := h _ rfl
  refine qX_aload_n 0 dX8_reaches_251 rfl rfl (by decide) ?_
  refine qX_getS 8 23 _ 9 dX8_reaches_252 fs_X8_43 rfl rfl sh178 (x := 188) rfl ?_
  refine qX_iload_n 1 dX8_reaches_255 rfl rfl ?_
  refine qX_aload_n 0 dX8_reaches_256 rfl rfl (by decide) ?_
  refine qX_getS 8 35 _ 21 dX8_reaches_257 fs_X8_79 rfl rfl sh178 (x := 200) rfl ?_
  refine qX_iload_n 3 dX8_reaches_260 rfl rfl ?_
  refine qX_iald dX8_reaches_261 sh200 h.1 ?_
  replace h := h.2
  refine qX_iast dX8_reaches_262 sh188 h.1 ?_
  replace h := h.2
  replace h := h _ rfl
  refine qX_aload_n 0 dX8_reaches_263 rfl rfl (by decide) ?_
  refine qX_getS 8 22 _ 8 dX8_reaches_264 fs_X8_40 rfl rfl sh178 (x := 187) rfl ?_
  refine qX_iload_n 1 dX8_reaches_267 rfl rfl ?_
  refine qX_aload_n 0 dX8_reaches_268 rfl rfl (by decide) ?_
  refine qX_iload_n 1 dX8_reaches_269 rfl rfl ?_
  refine qX_iload_n 3 dX8_reaches_270 rfl rfl ?_
  refine qX_iconst dX8_reaches_271 (i32_of rfl) ?_
  refine qR_iadd dX8_reaches_272 h.1 ?_
  replace h := h.2
  refine qX_iload_n 2 dX8_reaches_273 rfl rfl ?_
  obtain ⟨P, hE6, h⟩ := h
  refine qN_callV mX8_nextJob [_, _, _] _ 8 [_, _] dX8_reaches_274 cm_X8_291 ⟨(Nat.le_of_ble_eq_true rfl), (Nat.le_of_ble_eq_true rfl)⟩ rfl rfl sh178 (Nat.le_of_ble_eq_true rfl) ⟨rfl, rfl⟩ hE6 (fun z3 ρ4 μ5 hz => ?_)
  replace h := h _ _ _ hz
  refine qX_iast dX8_reaches_277 sh187 h.1 ?_
  replace h := h.2
  replace h := h _ rfl
  exact qX_return rfl dX8_reaches_278 rfl ⟨Nat.le_refl _, Nat.le_refl _⟩ h
set_option maxRecDepth 20000 in
theorem e_X8_go {Post : Int → Rf → Mem → Prop} {ρ : Rf} {μ : Mem} {x1 : Int} {x2 : Int}
  (h : qX mX8_go GG Post GG (0, 0) 2 [some (qP 178), some (qI x1), some (qI x2), some (qI 0)] [] ρ μ) : qE mX8_go GG GG [qP 178, qI x1, qI x2] ρ μ Post := by
  refine qE_intro pl_X8_go (Nat.le_of_ble_eq_true rfl) (Nat.le_refl _) ?_
  refine qX_iconst dX8_go_0 (i32_of rfl) ?_
  refine qX_istore_n 3 dX8_go_1 rfl (Nat.le_of_ble_eq_true rfl) rfl ?_
  exact qX_mask [true, true, true, true] h
set_option maxRecDepth 20000 in
theorem w_X8_go_2 {Post : Int → Rf → Mem → Prop} {ρ : Rf} {μ : Mem} {x1 : Int} {x2 : Int} {x3 : Int}
  (h : ((12 ≤ x3 → qX mX8_go GG Post GG (0, 0) 31 [some (qP 178), some (qI x1), some (qI x2), some (qI 0)] [] ρ μ) ∧ (x3 < 12 → i32 (49 + x3) ∧ (0 ≤ 49 + x3 ∧ 49 + x3 < 188) ∧ (0 ≤ x3 ∧ x3 < 12) ∧ ∀ μ1, μ1 = up2 μ 193 x3 (μ 180 (49 + x3)) → i32 (x3 + 1) ∧ qX mX8_go GG Post GG (0, 0) 2 [some (qP 178), some (qI x1), some (qI x2), some (qI (x3 + 1))] [] ρ μ1))) : qX mX8_go GG Post GG (0, 0) 2 [some (qP 178), some (qI x1), some (qI x2), some (qI x3)] [] ρ μ := by
  refine qX_iload_n 3 dX8_go_2 rfl rfl ?_
  refine qX_bip dX8_go_3 rfl ?_
  refine qX_icmp_ge 29 dX8_go_5 rfl (fun hc => ?_) (fun hc => ?_)
  · replace h := h.1 hc
    refine qX_iconst dX8_go_29 (i32_of rfl) ?_
    refine qX_istore_n 3 dX8_go_30 rfl (Nat.le_of_ble_eq_true rfl) rfl ?_
    exact qX_mask [true, true, true, true] h
  · replace h := h.2 hc
    refine qX_aload_n 0 dX8_go_8 rfl rfl (by decide) ?_
    refine qX_getS 8 28 _ 14 dX8_go_9 fs_X8_58 rfl rfl sh178 (x := 193) rfl ?_
    refine qX_iload_n 3 dX8_go_12 rfl rfl ?_
    refine qX_aload_n 0 dX8_go_13 rfl rfl (by decide) ?_
    refine qX_getS 8 12 _ 1 dX8_go_14 fs_X8_17 rfl rfl sh178 (x := 180) rfl ?_
    refine qX_bip dX8_go_17 rfl ?_
    refine qX_iload_n 3 dX8_go_19 rfl rfl ?_
    refine qR_iadd dX8_go_20 h.1 ?_
    replace h := h.2
    refine qX_iald dX8_go_21 sh180 h.1 ?_
    replace h := h.2
    refine qX_iast dX8_go_22 sh193 h.1 ?_
    replace h := h.2
    replace h := h _ rfl
    refine qR_iinc dX8_go_23 rfl (Nat.le_of_ble_eq_true rfl) rfl h.1 ?_
    replace h := h.2
    refine qX_goto 2 dX8_go_26 rfl ?_
    exact qX_mask [true, true, true, true] h
set_option maxRecDepth 20000 in
theorem w_X8_go_31 {Post : Int → Rf → Mem → Prop} {ρ : Rf} {μ : Mem} {x1 : Int} {x2 : Int} {x3 : Int}
  (h : ((10 ≤ x3 → qX mX8_go GG Post GG (0, 0) 52 [some (qP 178), some (qI x1), some (qI x2), some (qI 0)] [] ρ μ) ∧ (x3 < 10 → (0 ≤ x3 ∧ x3 < 10) ∧ ∀ μ1, μ1 = up2 μ 194 x3 0 → i32 (x3 + 1) ∧ qX mX8_go GG Post GG (0, 0) 31 [some (qP 178), some (qI x1), some (qI x2), some (qI (x3 + 1))] [] ρ μ1))) : qX mX8_go GG Post GG (0, 0) 31 [some (qP 178), some (qI x1), some (qI x2), some (qI x3)] [] ρ μ := by
  refine qX_iload_n 3 dX8_go_31 rfl rfl ?_
  refine qX_bip dX8_go_32 rfl ?_
  refine qX_icmp_ge 50 dX8_go_34 rfl (fun hc => ?_) (fun hc => ?_)
  · replace h := h.1 hc
    refine qX_iconst dX8_go_50 (i32_of rfl) ?_
    refine qX_istore_n 3 dX8_go_51 rfl (Nat.le_of_ble_eq_true rfl) rfl ?_
    exact qX_mask [true, true, true, true] h
  · replace h := h.2 hc
    refine qX_aload_n 0 dX8_go_37 rfl rfl (by decide) ?_
    refine qX_getS 8 29 _ 15 dX8_go_38 fs_X8_61 rfl rfl sh178 (x := 194) rfl ?_
    refine qX_iload_n 3 dX8_go_41 rfl rfl ?_
    refine qX_iconst dX8_go_42 (i32_of rfl) ?_
    refine qX_iast dX8_go_43 sh194 h.1 ?_
    replace h := h.2
    replace h := h _ rfl
    refine qR_iinc dX8_go_44 rfl (Nat.le_of_ble_eq_true rfl) rfl h.1 ?_
    replace h := h.2
    refine qX_goto 31 dX8_go_47 rfl ?_
    exact qX_mask [true, true, true, true] h
set_option maxRecDepth 20000 in
theorem w_X8_go_52 {Post : Int → Rf → Mem → Prop} {ρ : Rf} {μ : Mem} {x1 : Int} {x2 : Int} {x3 : Int}
  (h : ((20 ≤ x3 → qX mX8_go GG Post GG (0, 0) 80 [some (qP 178), some (qI x1), some (qI x2), some (qI 0)] [] ρ μ) ∧ (x3 < 20 → (0 ≤ x3 ∧ x3 < 20) ∧ ∀ μ1, μ1 = up2 μ 196 x3 0 → (0 ≤ x3 ∧ x3 < 20) ∧ ∀ μ2, μ2 = up2 μ1 199 x3 0 → i32 (x3 + 1) ∧ qX mX8_go GG Post GG (0, 0) 52 [some (qP 178), some (qI x1), some (qI x2), some (qI (x3 + 1))] [] ρ μ2))) : qX mX8_go GG Post GG (0, 0) 52 [some (qP 178), some (qI x1), some (qI x2), some (qI x3)] [] ρ μ := by
  refine qX_iload_n 3 dX8_go_52 rfl rfl ?_
  refine qX_bip dX8_go_53 rfl ?_
  refine qX_icmp_ge 78 dX8_go_55 rfl (fun hc => ?_) (fun hc => ?_)
  · replace h := h.1 hc
    refine qX_iconst dX8_go_78 (i32_of rfl) ?_
    refine qX_istore_n 3 dX8_go_79 rfl (Nat.le_of_ble_eq_true rfl) rfl ?_
    exact qX_mask [true, true, true, true] h
  · replace h := h.2 hc
    refine qX_aload_n 0 dX8_go_58 rfl rfl (by decide) ?_
    refine qX_getS 8 31 _ 17 dX8_go_59 fs_X8_67 rfl rfl sh178 (x := 196) rfl ?_
    refine qX_iload_n 3 dX8_go_62 rfl rfl ?_
    refine qX_iconst dX8_go_63 (i32_of rfl) ?_
    refine qX_iast dX8_go_64 sh196 h.1 ?_
    replace h := h.2
    replace h := h _ rfl
    refine qX_aload_n 0 dX8_go_65 rfl rfl (by decide) ?_
    refine qX_getS 8 34 _ 20 dX8_go_66 fs_X8_76 rfl rfl sh178 (x := 199) rfl ?_
    refine qX_iload_n 3 dX8_go_69 rfl rfl ?_
    refine qX_iconst dX8_go_70 (i32_of rfl) ?_
    refine qX_iast dX8_go_71 sh199 h.1 ?_
    replace h := h.2
    replace h := h _ rfl
    refine qR_iinc dX8_go_72 rfl (Nat.le_of_ble_eq_true rfl) rfl h.1 ?_
    replace h := h.2
    refine qX_goto 52 dX8_go_75 rfl ?_
    exact qX_mask [true, true, true, true] h
set_option maxRecDepth 20000 in
theorem w_X8_go_80 {Post : Int → Rf → Mem → Prop} {ρ : Rf} {μ : Mem} {x1 : Int} {x2 : Int} {x3 : Int}
  (h : ((5 ≤ x3 → ∃ P : Int → Rf → Mem → Prop, qE mX8_first GG GG [qP 178] ρ μ P ∧ ∀ (z1 : Int) (ρ2 : Rf) (μ3 : Mem), P z1 ρ2 μ3 → qX mX8_go GG Post GG (0, 0) 156 [some (qP 178), none, some (qI x2), some (qI z1)] [] ρ2 μ3) ∧ (x3 < 5 → ((μ 180 61 ≤ x3 → qX mX8_go GG Post GG (0, 0) 116 [some (qP 178), some (qI x1), some (qI x2), some (qI x3)] [qI x3, qP 187] ρ μ) ∧ (x3 < μ 180 61 → ((x3 = x1 → qX mX8_go GG Post GG (0, 0) 116 [some (qP 178), some (qI x1), some (qI x2), some (qI x3)] [qI x3, qP 187] ρ μ) ∧ (x3 ≠ x1 → ∃ P : Int → Rf → Mem → Prop, qE mX8_nextJob GG GG [qP 178, qI x3, qI 0, qI x2] ρ μ P ∧ ∀ (z5 : Int) (ρ6 : Rf) (μ7 : Mem), P z5 ρ6 μ7 → qX mX8_go GG Post GG (0, 0) 123 [some (qP 178), some (qI x1), some (qI x2), some (qI x3)] [qI z5, qI x3, qP 187] ρ6 μ7))))))) : qX mX8_go GG Post GG (0, 0) 80 [some (qP 178), some (qI x1), some (qI x2), some (qI x3)] [] ρ μ := by
  refine qX_iload_n 3 dX8_go_80 rfl rfl ?_
  refine qX_iconst dX8_go_81 (i32_of rfl) ?_
  refine qX_icmp_ge 151 dX8_go_82 rfl (fun hc => ?_) (fun hc => ?_)
  · replace h := h.1 hc
    refine qX_aload_n 0 dX8_go_151 rfl rfl (by decide) ?_
    obtain ⟨P, hE4, h⟩ := h
    refine qN_callV mX8_first [] _ 8 [] dX8_go_152 cm_X8_300 ⟨(Nat.le_of_ble_eq_true rfl), (Nat.le_of_ble_eq_true rfl)⟩ rfl rfl sh178 (Nat.le_of_ble_eq_true rfl) ⟨rfl, rfl⟩ hE4 (fun z1 ρ2 μ3 hz => ?_)
    replace h := h _ _ _ hz
    refine qX_istore_n 3 dX8_go_155 rfl (Nat.le_of_ble_eq_true rfl) rfl ?_
    exact qX_mask [true, false, true, true] h
  · replace h := h.2 hc
    refine qX_aload_n 0 dX8_go_85 rfl rfl (by decide) ?_
    refine qX_getS 8 22 _ 8 dX8_go_86 fs_X8_40 rfl rfl sh178 (x := 187) rfl ?_
    refine qX_iload_n 3 dX8_go_89 rfl rfl ?_
    refine qX_iload_n 3 dX8_go_90 rfl rfl ?_
    refine qX_aload_n 0 dX8_go_91 rfl rfl (by decide) ?_
    refine qX_getS 8 12 _ 1 dX8_go_92 fs_X8_17 rfl rfl sh178 (x := 180) rfl ?_
    refine qX_bip dX8_go_95 rfl ?_
    refine qX_iald dX8_go_97 sh180 ⟨by decide, by decide⟩ ?_
    refine qX_icmp_ge 116 dX8_go_98 rfl (fun hc => ?_) (fun hc => ?_)
    · replace h := h.1 hc
      exact qX_mask [true, true, true, true] h
    · replace h := h.2 hc
      refine qX_iload_n 3 dX8_go_101 rfl rfl ?_
      refine qX_iload_n 1 dX8_go_102 rfl rfl ?_
      refine qX_icmp_eq 116 dX8_go_103 rfl (fun hc => ?_) (fun hc => ?_)
      · replace h := h.1 hc
        exact qX_mask [true, true, true, true] h
      · replace h := h.2 hc
        refine qX_aload_n 0 dX8_go_106 rfl rfl (by decide) ?_
        refine qX_iload_n 3 dX8_go_107 rfl rfl ?_
        refine qX_iconst dX8_go_108 (i32_of rfl) ?_
        refine qX_iload_n 2 dX8_go_109 rfl rfl ?_
        obtain ⟨P, hE8, h⟩ := h
        refine qN_callV mX8_nextJob [_, _, _] _ 8 [_, _] dX8_go_110 cm_X8_291 ⟨(Nat.le_of_ble_eq_true rfl), (Nat.le_of_ble_eq_true rfl)⟩ rfl rfl sh178 (Nat.le_of_ble_eq_true rfl) ⟨rfl, rfl⟩ hE8 (fun z5 ρ6 μ7 hz => ?_)
        replace h := h _ _ _ hz
        refine qX_goto 123 dX8_go_113 rfl ?_
        exact qX_mask [true, true, true, true] h
set_option maxRecDepth 20000 in
theorem w_X8_go_156 {Post : Int → Rf → Mem → Prop} {ρ : Rf} {μ : Mem} {x2 : Int} {x3 : Int}
  (h : ((x3 < 0 → ∃ P : Int → Rf → Mem → Prop, qE mX8_bringsBack GG GG [qP 178, qI 1000000] ρ μ P ∧ ∀ (z1 : Int) (ρ2 : Rf) (μ3 : Mem), P z1 ρ2 μ3 → Post 0 ρ2 μ3) ∧ (0 ≤ x3 → (0 ≤ x3 ∧ x3 < 5) ∧ ∃ P : Int → Rf → Mem → Prop, qE mX8_bringsBack GG GG [qP 178, qI (μ 188 x3)] ρ μ P ∧ ∀ (z5 : Int) (ρ6 : Rf) (μ7 : Mem), P z5 ρ6 μ7 → (0 ≤ x3 ∧ x3 < 5) ∧ ((μ7 192 x3 = 0 → ∃ P : Int → Rf → Mem → Prop, qE mX8_starts GG GG [qP 178, qI x3, qI x2] ρ6 μ7 P ∧ ∀ (z9 : Int) (ρ10 : Rf) (μ11 : Mem), P z9 ρ10 μ11 → qX mX8_go GG Post GG (0, 0) 194 [some (qP 178), none, some (qI x2), none] [] ρ10 μ11) ∧ (μ7 192 x3 ≠ 0 → ∃ P : Int → Rf → Mem → Prop, qE mX8_reaches GG GG [qP 178, qI x3, qI x2] ρ6 μ7 P ∧ ∀ (z13 : Int) (ρ14 : Rf) (μ15 : Mem), P z13 ρ14 μ15 → qX mX8_go GG Post GG (0, 0) 194 [some (qP 178), none, some (qI x2), none] [] ρ14 μ15))))) : qX mX8_go GG Post GG (0, 0) 156 [some (qP 178), none, some (qI x2), some (qI x3)] [] ρ μ := by
  refine qX_iload_n 3 dX8_go_156 rfl rfl ?_
  refine qX_if_lt 202 dX8_go_157 rfl (fun hc => ?_) (fun hc => ?_)
  · replace h := h.1 hc
    refine qX_aload_n 0 dX8_go_202 rfl rfl (by decide) ?_
    refine qX_ldcw (n := 1000000) dX8_go_203 kK_X8_313 (i32_of rfl) ?_
    obtain ⟨P, hE4, h⟩ := h
    refine qN_callV mX8_bringsBack [_] _ 8 [] dX8_go_206 cm_X8_303 ⟨(Nat.le_of_ble_eq_true rfl), (Nat.le_of_ble_eq_true rfl)⟩ rfl rfl sh178 (Nat.le_of_ble_eq_true rfl) ⟨rfl, rfl⟩ hE4 (fun z1 ρ2 μ3 hz => ?_)
    replace h := h _ _ _ hz
    exact qX_return rfl dX8_go_209 rfl ⟨Nat.le_refl _, Nat.le_refl _⟩ h
  · replace h := h.2 hc
    refine qX_aload_n 0 dX8_go_160 rfl rfl (by decide) ?_
    refine qX_aload_n 0 dX8_go_161 rfl rfl (by decide) ?_
    refine qX_getS 8 23 _ 9 dX8_go_162 fs_X8_43 rfl rfl sh178 (x := 188) rfl ?_
    refine qX_iload_n 3 dX8_go_165 rfl rfl ?_
    refine qX_iald dX8_go_166 sh188 h.1 ?_
    replace h := h.2
    obtain ⟨P, hE8, h⟩ := h
    refine qN_callV mX8_bringsBack [_] _ 8 [] dX8_go_167 cm_X8_303 ⟨(Nat.le_of_ble_eq_true rfl), (Nat.le_of_ble_eq_true rfl)⟩ rfl rfl sh178 (Nat.le_of_ble_eq_true rfl) ⟨rfl, rfl⟩ hE8 (fun z5 ρ6 μ7 hz => ?_)
    replace h := h _ _ _ hz
    refine qX_aload_n 0 dX8_go_170 rfl rfl (by decide) ?_
    refine qX_getS 8 27 _ 13 dX8_go_171 fs_X8_55 rfl rfl sh178 (x := 192) rfl ?_
    refine qX_iload_n 3 dX8_go_174 rfl rfl ?_
    refine qX_zald dX8_go_175 sh192 h.1 ?_
    replace h := h.2
    refine qX_if_eq 188 dX8_go_176 rfl (fun hc => ?_) (fun hc => ?_)
    · replace h := h.1 hc
      refine qX_aload_n 0 dX8_go_188 rfl rfl (by decide) ?_
      refine qX_iload_n 3 dX8_go_189 rfl rfl ?_
      refine qX_iload_n 2 dX8_go_190 rfl rfl ?_
      obtain ⟨P, hE12, h⟩ := h
      refine qN_callV mX8_starts [_, _] _ 8 [] dX8_go_191 cm_X8_310 ⟨(Nat.le_of_ble_eq_true rfl), (Nat.le_of_ble_eq_true rfl)⟩ rfl rfl sh178 (Nat.le_of_ble_eq_true rfl) ⟨rfl, rfl⟩ hE12 (fun z9 ρ10 μ11 hz => ?_)
      replace h := h _ _ _ hz
      exact qX_mask [true, false, true, false] h
    · replace h := h.2 hc
      refine qX_aload_n 0 dX8_go_179 rfl rfl (by decide) ?_
      refine qX_iload_n 3 dX8_go_180 rfl rfl ?_
      refine qX_iload_n 2 dX8_go_181 rfl rfl ?_
      obtain ⟨P, hE16, h⟩ := h
      refine qN_callV mX8_reaches [_, _] _ 8 [] dX8_go_182 cm_X8_306 ⟨(Nat.le_of_ble_eq_true rfl), (Nat.le_of_ble_eq_true rfl)⟩ rfl rfl sh178 (Nat.le_of_ble_eq_true rfl) ⟨rfl, rfl⟩ hE16 (fun z13 ρ14 μ15 hz => ?_)
      replace h := h _ _ _ hz
      refine qX_goto 194 dX8_go_185 rfl ?_
      exact qX_mask [true, false, true, false] h
set_option maxRecDepth 20000 in
theorem w_X8_go_116 {Post : Int → Rf → Mem → Prop} {ρ : Rf} {μ : Mem} {s1 : Int} {x1 : Int} {x2 : Int} {x3 : Int}
  (h : qX mX8_go GG Post GG (0, 0) 123 [some (qP 178), some (qI x1), some (qI x2), some (qI x3)] [qI (μ 180 87), qI s1, qP 187] ρ μ) : qX mX8_go GG Post GG (0, 0) 116 [some (qP 178), some (qI x1), some (qI x2), some (qI x3)] [qI s1, qP 187] ρ μ := by
  refine qX_aload_n 0 dX8_go_116 rfl rfl (by decide) ?_
  refine qX_getS 8 12 _ 1 dX8_go_117 fs_X8_17 rfl rfl sh178 (x := 180) rfl ?_
  refine qX_bip dX8_go_120 rfl ?_
  refine qX_iald dX8_go_122 sh180 ⟨by decide, by decide⟩ ?_
  exact qX_mask [true, true, true, true] h
set_option maxRecDepth 20000 in
theorem w_X8_go_123 {Post : Int → Rf → Mem → Prop} {ρ : Rf} {μ : Mem} {s1 : Int} {s2 : Int} {x1 : Int} {x2 : Int} {x3 : Int}
  (h : (0 ≤ s1 ∧ s1 < 5) ∧ ∀ μ1, μ1 = up2 μ 187 s1 s2 → (0 ≤ x3 ∧ x3 < 5) ∧ ∀ μ2, μ2 = up2 μ1 188 x3 0 → (0 ≤ x3 ∧ x3 < 5) ∧ ∀ μ3, μ3 = up2 μ2 191 x3 0 → (0 ≤ x3 ∧ x3 < 5) ∧ ∀ μ4, μ4 = up2 μ3 192 x3 0 → i32 (x3 + 1) ∧ qX mX8_go GG Post GG (0, 0) 80 [some (qP 178), some (qI x1), some (qI x2), some (qI (x3 + 1))] [] ρ μ4) : qX mX8_go GG Post GG (0, 0) 123 [some (qP 178), some (qI x1), some (qI x2), some (qI x3)] [qI s2, qI s1, qP 187] ρ μ := by
  refine qX_iast dX8_go_123 sh187 h.1 ?_
  replace h := h.2
  replace h := h _ rfl
  refine qX_aload_n 0 dX8_go_124 rfl rfl (by decide) ?_
  refine qX_getS 8 23 _ 9 dX8_go_125 fs_X8_43 rfl rfl sh178 (x := 188) rfl ?_
  refine qX_iload_n 3 dX8_go_128 rfl rfl ?_
  refine qX_iconst dX8_go_129 (i32_of rfl) ?_
  refine qX_iast dX8_go_130 sh188 h.1 ?_
  replace h := h.2
  replace h := h _ rfl
  refine qX_aload_n 0 dX8_go_131 rfl rfl (by decide) ?_
  refine qX_getS 8 26 _ 12 dX8_go_132 fs_X8_52 rfl rfl sh178 (x := 191) rfl ?_
  refine qX_iload_n 3 dX8_go_135 rfl rfl ?_
  refine qX_iconst dX8_go_136 (i32_of rfl) ?_
  refine qX_iast dX8_go_137 sh191 h.1 ?_
  replace h := h.2
  replace h := h _ rfl
  refine qX_aload_n 0 dX8_go_138 rfl rfl (by decide) ?_
  refine qX_getS 8 27 _ 13 dX8_go_139 fs_X8_55 rfl rfl sh178 (x := 192) rfl ?_
  refine qX_iload_n 3 dX8_go_142 rfl rfl ?_
  refine qX_iconst dX8_go_143 (i32_of rfl) ?_
  refine qX_zast dX8_go_144 sh192 h.1 (by decide) ?_
  replace h := h.2
  replace h := h _ rfl
  refine qR_iinc dX8_go_145 rfl (Nat.le_of_ble_eq_true rfl) rfl h.1 ?_
  replace h := h.2
  refine qX_goto 80 dX8_go_148 rfl ?_
  exact qX_mask [true, true, true, true] h
set_option maxRecDepth 20000 in
theorem w_X8_go_194 {Post : Int → Rf → Mem → Prop} {ρ : Rf} {μ : Mem} {x2 : Int}
  (h : ∃ P : Int → Rf → Mem → Prop, qE mX8_first GG GG [qP 178] ρ μ P ∧ ∀ (z1 : Int) (ρ2 : Rf) (μ3 : Mem), P z1 ρ2 μ3 → qX mX8_go GG Post GG (0, 0) 156 [some (qP 178), none, some (qI x2), some (qI z1)] [] ρ2 μ3) : qX mX8_go GG Post GG (0, 0) 194 [some (qP 178), none, some (qI x2), none] [] ρ μ := by
  refine qX_aload_n 0 dX8_go_194 rfl rfl (by decide) ?_
  obtain ⟨P, hE4, h⟩ := h
  refine qN_callV mX8_first [] _ 8 [] dX8_go_195 cm_X8_300 ⟨(Nat.le_of_ble_eq_true rfl), (Nat.le_of_ble_eq_true rfl)⟩ rfl rfl sh178 (Nat.le_of_ble_eq_true rfl) ⟨rfl, rfl⟩ hE4 (fun z1 ρ2 μ3 hz => ?_)
  replace h := h _ _ _ hz
  refine qX_istore_n 3 dX8_go_198 rfl (Nat.le_of_ble_eq_true rfl) rfl ?_
  refine qX_goto 156 dX8_go_199 rfl ?_
  exact qX_mask [true, false, true, true] h
set_option maxRecDepth 20000 in
theorem e_X8_first {Post : Int → Rf → Mem → Prop} {ρ : Rf} {μ : Mem} 
  (h : qX mX8_first GG Post GG (0, 0) 4 [some (qP 178), some (qI (-1)), some (qI 0)] [] ρ μ) : qE mX8_first GG GG [qP 178] ρ μ Post := by
  refine qE_intro pl_X8_first (Nat.le_of_ble_eq_true rfl) (Nat.le_refl _) ?_
  refine qX_iconst dX8_first_0 (i32_of rfl) ?_
  refine qX_istore_n 1 dX8_first_1 rfl (Nat.le_of_ble_eq_true rfl) rfl ?_
  refine qX_iconst dX8_first_2 (i32_of rfl) ?_
  refine qX_istore_n 2 dX8_first_3 rfl (Nat.le_of_ble_eq_true rfl) rfl ?_
  exact qX_mask [true, true, true] h
set_option maxRecDepth 20000 in
theorem w_X8_first_4 {Post : Int → Rf → Mem → Prop} {ρ : Rf} {μ : Mem} {x1 : Int} {x2 : Int}
  (h : ((5 ≤ x2 → Post x1 ρ μ) ∧ (x2 < 5 → (0 ≤ x2 ∧ x2 < 5) ∧ ((μ 180 87 ≤ μ 187 x2 → i32 (x2 + 1) ∧ qX mX8_first GG Post GG (0, 0) 4 [some (qP 178), some (qI x1), some (qI (x2 + 1))] [] ρ μ) ∧ (μ 187 x2 < μ 180 87 → ((x1 < 0 → i32 (x2 + 1) ∧ qX mX8_first GG Post GG (0, 0) 4 [some (qP 178), some (qI x2), some (qI (x2 + 1))] [] ρ μ) ∧ (0 ≤ x1 → (0 ≤ x2 ∧ x2 < 5) ∧ (0 ≤ x1 ∧ x1 < 5) ∧ ((μ 188 x1 ≤ μ 188 x2 → i32 (x2 + 1) ∧ qX mX8_first GG Post GG (0, 0) 4 [some (qP 178), some (qI x1), some (qI (x2 + 1))] [] ρ μ) ∧ (μ 188 x2 < μ 188 x1 → i32 (x2 + 1) ∧ qX mX8_first GG Post GG (0, 0) 4 [some (qP 178), some (qI x2), some (qI (x2 + 1))] [] ρ μ))))))))) : qX mX8_first GG Post GG (0, 0) 4 [some (qP 178), some (qI x1), some (qI x2)] [] ρ μ := by
  refine qX_iload_n 2 dX8_first_4 rfl rfl ?_
  refine qX_iconst dX8_first_5 (i32_of rfl) ?_
  refine qX_icmp_ge 52 dX8_first_6 rfl (fun hc => ?_) (fun hc => ?_)
  · replace h := h.1 hc
    refine qX_iload_n 1 dX8_first_52 rfl rfl ?_
    exact qX_ireturn rfl dX8_first_53 rfl ⟨Nat.le_refl _, Nat.le_refl _⟩ h
  · replace h := h.2 hc
    refine qX_aload_n 0 dX8_first_9 rfl rfl (by decide) ?_
    refine qX_getS 8 22 _ 8 dX8_first_10 fs_X8_40 rfl rfl sh178 (x := 187) rfl ?_
    refine qX_iload_n 2 dX8_first_13 rfl rfl ?_
    refine qX_iald dX8_first_14 sh187 h.1 ?_
    replace h := h.2
    refine qX_aload_n 0 dX8_first_15 rfl rfl (by decide) ?_
    refine qX_getS 8 12 _ 1 dX8_first_16 fs_X8_17 rfl rfl sh178 (x := 180) rfl ?_
    refine qX_bip dX8_first_19 rfl ?_
    refine qX_iald dX8_first_21 sh180 ⟨by decide, by decide⟩ ?_
    refine qX_icmp_ge 46 dX8_first_22 rfl (fun hc => ?_) (fun hc => ?_)
    · replace h := h.1 hc
      refine qR_iinc dX8_first_46 rfl (Nat.le_of_ble_eq_true rfl) rfl h.1 ?_
      replace h := h.2
      refine qX_goto 4 dX8_first_49 rfl ?_
      exact qX_mask [true, true, true] h
    · replace h := h.2 hc
      refine qX_iload_n 1 dX8_first_25 rfl rfl ?_
      refine qX_if_lt 44 dX8_first_26 rfl (fun hc => ?_) (fun hc => ?_)
      · replace h := h.1 hc
        refine qX_iload_n 2 dX8_first_44 rfl rfl ?_
        refine qX_istore_n 1 dX8_first_45 rfl (Nat.le_of_ble_eq_true rfl) rfl ?_
        refine qR_iinc dX8_first_46 rfl (Nat.le_of_ble_eq_true rfl) rfl h.1 ?_
        replace h := h.2
        refine qX_goto 4 dX8_first_49 rfl ?_
        exact qX_mask [true, true, true] h
      · replace h := h.2 hc
        refine qX_aload_n 0 dX8_first_29 rfl rfl (by decide) ?_
        refine qX_getS 8 23 _ 9 dX8_first_30 fs_X8_43 rfl rfl sh178 (x := 188) rfl ?_
        refine qX_iload_n 2 dX8_first_33 rfl rfl ?_
        refine qX_iald dX8_first_34 sh188 h.1 ?_
        replace h := h.2
        refine qX_aload_n 0 dX8_first_35 rfl rfl (by decide) ?_
        refine qX_getS 8 23 _ 9 dX8_first_36 fs_X8_43 rfl rfl sh178 (x := 188) rfl ?_
        refine qX_iload_n 1 dX8_first_39 rfl rfl ?_
        refine qX_iald dX8_first_40 sh188 h.1 ?_
        replace h := h.2
        refine qX_icmp_ge 46 dX8_first_41 rfl (fun hc => ?_) (fun hc => ?_)
        · replace h := h.1 hc
          refine qR_iinc dX8_first_46 rfl (Nat.le_of_ble_eq_true rfl) rfl h.1 ?_
          replace h := h.2
          refine qX_goto 4 dX8_first_49 rfl ?_
          exact qX_mask [true, true, true] h
        · replace h := h.2 hc
          refine qX_iload_n 2 dX8_first_44 rfl rfl ?_
          refine qX_istore_n 1 dX8_first_45 rfl (Nat.le_of_ble_eq_true rfl) rfl ?_
          refine qR_iinc dX8_first_46 rfl (Nat.le_of_ble_eq_true rfl) rfl h.1 ?_
          replace h := h.2
          refine qX_goto 4 dX8_first_49 rfl ?_
          exact qX_mask [true, true, true] h
set_option maxRecDepth 20000 in
theorem e_X8_goAll {Post : Int → Rf → Mem → Prop} {ρ : Rf} {μ : Mem} 
  (h : ∃ P : Int → Rf → Mem → Prop, qE mX8_go GG GG [qP 178, qI (-1), qI (-1)] ρ μ P ∧ ∀ (z1 : Int) (ρ2 : Rf) (μ3 : Mem), P z1 ρ2 μ3 → Post 0 ρ2 μ3) : qE mX8_goAll GG GG [qP 178] ρ μ Post := by
  refine qE_intro pl_X8_goAll (Nat.le_of_ble_eq_true rfl) (Nat.le_refl _) ?_
  refine qX_aload_n 0 dX8_goAll_0 rfl rfl (by decide) ?_
  refine qX_iconst dX8_goAll_1 (i32_of rfl) ?_
  refine qX_iconst dX8_goAll_2 (i32_of rfl) ?_
  obtain ⟨P, hE4, h⟩ := h
  refine qN_callV mX8_go [_, _] _ 8 [] dX8_goAll_3 cm_X8_314 ⟨(Nat.le_of_ble_eq_true rfl), (Nat.le_of_ble_eq_true rfl)⟩ rfl rfl sh178 (Nat.le_of_ble_eq_true rfl) ⟨rfl, rfl⟩ hE4 (fun z1 ρ2 μ3 hz => ?_)
  replace h := h _ _ _ hz
  exact qX_return rfl dX8_goAll_6 rfl ⟨Nat.le_refl _, Nat.le_refl _⟩ h
set_option maxRecDepth 20000 in
theorem e_X8_total {Post : Int → Rf → Mem → Prop} {ρ : Rf} {μ : Mem} 
  (h : qX mX8_total GG Post GG (0, 0) 4 [some (qP 178), some (qI 0), some (qI 0)] [] ρ μ) : qE mX8_total GG GG [qP 178] ρ μ Post := by
  refine qE_intro pl_X8_total (Nat.le_of_ble_eq_true rfl) (Nat.le_refl _) ?_
  refine qX_iconst dX8_total_0 (i32_of rfl) ?_
  refine qX_istore_n 1 dX8_total_1 rfl (Nat.le_of_ble_eq_true rfl) rfl ?_
  refine qX_iconst dX8_total_2 (i32_of rfl) ?_
  refine qX_istore_n 2 dX8_total_3 rfl (Nat.le_of_ble_eq_true rfl) rfl ?_
  exact qX_mask [true, true, true] h
set_option maxRecDepth 20000 in
theorem w_X8_total_4 {Post : Int → Rf → Mem → Prop} {ρ : Rf} {μ : Mem} {x1 : Int} {x2 : Int}
  (h : ((μ 180 87 ≤ x2 → Post x1 ρ μ) ∧ (x2 < μ 180 87 → (0 ≤ x2 ∧ x2 < 20) ∧ i32 (x1 + (μ 199 x2)) ∧ i32 (x2 + 1) ∧ qX mX8_total GG Post GG (0, 0) 4 [some (qP 178), some (qI (x1 + (μ 199 x2))), some (qI (x2 + 1))] [] ρ μ))) : qX mX8_total GG Post GG (0, 0) 4 [some (qP 178), some (qI x1), some (qI x2)] [] ρ μ := by
  refine qX_iload_n 2 dX8_total_4 rfl rfl ?_
  refine qX_aload_n 0 dX8_total_5 rfl rfl (by decide) ?_
  refine qX_getS 8 12 _ 1 dX8_total_6 fs_X8_17 rfl rfl sh178 (x := 180) rfl ?_
  refine qX_bip dX8_total_9 rfl ?_
  refine qX_iald dX8_total_11 sh180 ⟨by decide, by decide⟩ ?_
  refine qX_icmp_ge 30 dX8_total_12 rfl (fun hc => ?_) (fun hc => ?_)
  · replace h := h.1 hc
    refine qX_iload_n 1 dX8_total_30 rfl rfl ?_
    exact qX_ireturn rfl dX8_total_31 rfl ⟨Nat.le_refl _, Nat.le_refl _⟩ h
  · replace h := h.2 hc
    refine qX_iload_n 1 dX8_total_15 rfl rfl ?_
    refine qX_aload_n 0 dX8_total_16 rfl rfl (by decide) ?_
    refine qX_getS 8 34 _ 20 dX8_total_17 fs_X8_76 rfl rfl sh178 (x := 199) rfl ?_
    refine qX_iload_n 2 dX8_total_20 rfl rfl ?_
    refine qX_iald dX8_total_21 sh199 h.1 ?_
    replace h := h.2
    refine qR_iadd dX8_total_22 h.1 ?_
    replace h := h.2
    refine qX_istore_n 1 dX8_total_23 rfl (Nat.le_of_ble_eq_true rfl) rfl ?_
    refine qR_iinc dX8_total_24 rfl (Nat.le_of_ble_eq_true rfl) rfl h.1 ?_
    replace h := h.2
    refine qX_goto 4 dX8_total_27 rfl ?_
    exact qX_mask [true, true, true] h
set_option maxRecDepth 20000 in
theorem e_X8_goesFor {Post : Int → Rf → Mem → Prop} {ρ : Rf} {μ : Mem} {x1 : Int}
  (h : ∀ μ1, μ1 = up2 μ 178 0 0 → ((x1 = 0 → ((x1 = 0 ∨ x1 = 1) ∧ Post x1 ρ μ1)) ∧ (x1 ≠ 0 → ∃ P : Int → Rf → Mem → Prop, qE mX8_goAll GG GG [qP 178] ρ μ1 P ∧ ∀ (z2 : Int) (ρ3 : Rf) (μ4 : Mem), P z2 ρ3 μ4 → ((x1 = 0 ∨ x1 = 1) ∧ Post x1 ρ3 μ4)))) : qE mX8_goesFor GG GG [qP 178, qI x1] ρ μ Post := by
  refine qE_intro pl_X8_goesFor (Nat.le_of_ble_eq_true rfl) (Nat.le_refl _) ?_
  refine qX_aload_n 0 dX8_goesFor_0 rfl rfl (by decide) ?_
  refine qX_iconst dX8_goesFor_1 (i32_of rfl) ?_
  refine qX_putI 8 0 _ dX8_goesFor_2 fs_X8_103 sh178 ?_
  replace h := h _ rfl
  refine qX_iload_n 1 dX8_goesFor_5 rfl rfl ?_
  refine qX_if_eq 13 dX8_goesFor_6 rfl (fun hc => ?_) (fun hc => ?_)
  · replace h := h.1 hc
    refine qX_iload_n 1 dX8_goesFor_13 rfl rfl ?_
    exact qX_zreturn rfl dX8_goesFor_14 rfl ⟨Nat.le_refl _, Nat.le_refl _⟩ h.1 h.2
  · replace h := h.2 hc
    refine qX_aload_n 0 dX8_goesFor_9 rfl rfl (by decide) ?_
    obtain ⟨P, hE5, h⟩ := h
    refine qN_callV mX8_goAll [] _ 8 [] dX8_goesFor_10 cm_X8_317 ⟨(Nat.le_of_ble_eq_true rfl), (Nat.le_of_ble_eq_true rfl)⟩ rfl rfl sh178 (Nat.le_of_ble_eq_true rfl) ⟨rfl, rfl⟩ hE5 (fun z2 ρ3 μ4 hz => ?_)
    replace h := h _ _ _ hz
    refine qX_iload_n 1 dX8_goesFor_13 rfl rfl ?_
    exact qX_zreturn rfl dX8_goesFor_14 rfl ⟨Nat.le_refl _, Nat.le_refl _⟩ h.1 h.2
set_option maxRecDepth 20000 in
theorem e_X8_startTime {Post : Int → Rf → Mem → Prop} {ρ : Rf} {μ : Mem} {x1 : Int}
  (h : ∃ P : Int → Rf → Mem → Prop, qE mX8_isJob GG GG [qP 178, qI x1] ρ μ P ∧ ∀ (z1 : Int) (ρ2 : Rf) (μ3 : Mem), P z1 ρ2 μ3 → ∃ P : Int → Rf → Mem → Prop, qE mX8_goesFor GG GG [qP 178, qI z1] ρ2 μ3 P ∧ ∀ (z5 : Int) (ρ6 : Rf) (μ7 : Mem), P z5 ρ6 μ7 → ((z5 = 0 → ∃ P : Int → Rf → Mem → Prop, qE mX8_failed GG GG [qP 178, qI 1] ρ6 μ7 P ∧ ∀ (z9 : Int) (ρ10 : Rf) (μ11 : Mem), P z9 ρ10 μ11 → Post z9 ρ10 μ11) ∧ (z5 ≠ 0 → (0 ≤ x1 ∧ x1 < 20) ∧ ∃ P : Int → Rf → Mem → Prop, qE mX8_done GG GG [qP 178, qI (μ7 195 x1)] ρ6 μ7 P ∧ ∀ (z13 : Int) (ρ14 : Rf) (μ15 : Mem), P z13 ρ14 μ15 → Post z13 ρ14 μ15))) : qE mX8_startTime GG GG [qP 178, qI x1] ρ μ Post := by
  refine qE_intro pl_X8_startTime (Nat.le_of_ble_eq_true rfl) (Nat.le_refl _) ?_
  refine qX_aload_n 0 dX8_startTime_0 rfl rfl (by decide) ?_
  refine qX_aload_n 0 dX8_startTime_1 rfl rfl (by decide) ?_
  refine qX_iload_n 1 dX8_startTime_2 rfl rfl ?_
  obtain ⟨P, hE4, h⟩ := h
  refine qN_callV mX8_isJob [_] _ 8 [_] dX8_startTime_3 cm_X8_271 ⟨(Nat.le_of_ble_eq_true rfl), (Nat.le_of_ble_eq_true rfl)⟩ rfl rfl sh178 (Nat.le_of_ble_eq_true rfl) ⟨rfl, rfl⟩ hE4 (fun z1 ρ2 μ3 hz => ?_)
  replace h := h _ _ _ hz
  obtain ⟨P, hE8, h⟩ := h
  refine qN_callV mX8_goesFor [_] _ 8 [] dX8_startTime_6 cm_X8_320 ⟨(Nat.le_of_ble_eq_true rfl), (Nat.le_of_ble_eq_true rfl)⟩ rfl rfl sh178 (Nat.le_of_ble_eq_true rfl) ⟨rfl, rfl⟩ hE8 (fun z5 ρ6 μ7 hz => ?_)
  replace h := h _ _ _ hz
  refine qX_if_eq 25 dX8_startTime_9 rfl (fun hc => ?_) (fun hc => ?_)
  · replace h := h.1 hc
    refine qX_aload_n 0 dX8_startTime_25 rfl rfl (by decide) ?_
    refine qX_iconst dX8_startTime_26 (i32_of rfl) ?_
    obtain ⟨P, hE12, h⟩ := h
    refine qN_callV mX8_failed [_] _ 8 [] dX8_startTime_27 cm_X8_226 ⟨(Nat.le_of_ble_eq_true rfl), (Nat.le_of_ble_eq_true rfl)⟩ rfl rfl sh178 (Nat.le_of_ble_eq_true rfl) ⟨rfl, rfl⟩ hE12 (fun z9 ρ10 μ11 hz => ?_)
    replace h := h _ _ _ hz
    exact qX_ireturn rfl dX8_startTime_30 rfl ⟨Nat.le_refl _, Nat.le_refl _⟩ h
  · replace h := h.2 hc
    refine qX_aload_n 0 dX8_startTime_12 rfl rfl (by decide) ?_
    refine qX_aload_n 0 dX8_startTime_13 rfl rfl (by decide) ?_
    refine qX_getS 8 30 _ 16 dX8_startTime_14 fs_X8_64 rfl rfl sh178 (x := 195) rfl ?_
    refine qX_iload_n 1 dX8_startTime_17 rfl rfl ?_
    refine qX_iald dX8_startTime_18 sh195 h.1 ?_
    replace h := h.2
    obtain ⟨P, hE16, h⟩ := h
    refine qN_callV mX8_done [_] _ 8 [] dX8_startTime_19 cm_X8_246 ⟨(Nat.le_of_ble_eq_true rfl), (Nat.le_of_ble_eq_true rfl)⟩ rfl rfl sh178 (Nat.le_of_ble_eq_true rfl) ⟨rfl, rfl⟩ hE16 (fun z13 ρ14 μ15 hz => ?_)
    replace h := h _ _ _ hz
    refine qX_goto 30 dX8_startTime_22 rfl ?_
    exact qX_ireturn rfl dX8_startTime_30 rfl ⟨Nat.le_refl _, Nat.le_refl _⟩ h
set_option maxRecDepth 20000 in
theorem e_X8_loaded {Post : Int → Rf → Mem → Prop} {ρ : Rf} {μ : Mem} {x1 : Int}
  (h : ∃ P : Int → Rf → Mem → Prop, qE mX8_isJob GG GG [qP 178, qI x1] ρ μ P ∧ ∀ (z1 : Int) (ρ2 : Rf) (μ3 : Mem), P z1 ρ2 μ3 → ∃ P : Int → Rf → Mem → Prop, qE mX8_goesFor GG GG [qP 178, qI z1] ρ2 μ3 P ∧ ∀ (z5 : Int) (ρ6 : Rf) (μ7 : Mem), P z5 ρ6 μ7 → ((z5 = 0 → ∃ P : Int → Rf → Mem → Prop, qE mX8_failed GG GG [qP 178, qI 1] ρ6 μ7 P ∧ ∀ (z9 : Int) (ρ10 : Rf) (μ11 : Mem), P z9 ρ10 μ11 → Post z9 ρ10 μ11) ∧ (z5 ≠ 0 → (0 ≤ x1 ∧ x1 < 20) ∧ ∃ P : Int → Rf → Mem → Prop, qE mX8_done GG GG [qP 178, qI (μ7 196 x1)] ρ6 μ7 P ∧ ∀ (z13 : Int) (ρ14 : Rf) (μ15 : Mem), P z13 ρ14 μ15 → Post z13 ρ14 μ15))) : qE mX8_loaded GG GG [qP 178, qI x1] ρ μ Post := by
  refine qE_intro pl_X8_loaded (Nat.le_of_ble_eq_true rfl) (Nat.le_refl _) ?_
  refine qX_aload_n 0 dX8_loaded_0 rfl rfl (by decide) ?_
  refine qX_aload_n 0 dX8_loaded_1 rfl rfl (by decide) ?_
  refine qX_iload_n 1 dX8_loaded_2 rfl rfl ?_
  obtain ⟨P, hE4, h⟩ := h
  refine qN_callV mX8_isJob [_] _ 8 [_] dX8_loaded_3 cm_X8_271 ⟨(Nat.le_of_ble_eq_true rfl), (Nat.le_of_ble_eq_true rfl)⟩ rfl rfl sh178 (Nat.le_of_ble_eq_true rfl) ⟨rfl, rfl⟩ hE4 (fun z1 ρ2 μ3 hz => ?_)
  replace h := h _ _ _ hz
  obtain ⟨P, hE8, h⟩ := h
  refine qN_callV mX8_goesFor [_] _ 8 [] dX8_loaded_6 cm_X8_320 ⟨(Nat.le_of_ble_eq_true rfl), (Nat.le_of_ble_eq_true rfl)⟩ rfl rfl sh178 (Nat.le_of_ble_eq_true rfl) ⟨rfl, rfl⟩ hE8 (fun z5 ρ6 μ7 hz => ?_)
  replace h := h _ _ _ hz
  refine qX_if_eq 25 dX8_loaded_9 rfl (fun hc => ?_) (fun hc => ?_)
  · replace h := h.1 hc
    refine qX_aload_n 0 dX8_loaded_25 rfl rfl (by decide) ?_
    refine qX_iconst dX8_loaded_26 (i32_of rfl) ?_
    obtain ⟨P, hE12, h⟩ := h
    refine qN_callV mX8_failed [_] _ 8 [] dX8_loaded_27 cm_X8_226 ⟨(Nat.le_of_ble_eq_true rfl), (Nat.le_of_ble_eq_true rfl)⟩ rfl rfl sh178 (Nat.le_of_ble_eq_true rfl) ⟨rfl, rfl⟩ hE12 (fun z9 ρ10 μ11 hz => ?_)
    replace h := h _ _ _ hz
    exact qX_ireturn rfl dX8_loaded_30 rfl ⟨Nat.le_refl _, Nat.le_refl _⟩ h
  · replace h := h.2 hc
    refine qX_aload_n 0 dX8_loaded_12 rfl rfl (by decide) ?_
    refine qX_aload_n 0 dX8_loaded_13 rfl rfl (by decide) ?_
    refine qX_getS 8 31 _ 17 dX8_loaded_14 fs_X8_67 rfl rfl sh178 (x := 196) rfl ?_
    refine qX_iload_n 1 dX8_loaded_17 rfl rfl ?_
    refine qX_iald dX8_loaded_18 sh196 h.1 ?_
    replace h := h.2
    obtain ⟨P, hE16, h⟩ := h
    refine qN_callV mX8_done [_] _ 8 [] dX8_loaded_19 cm_X8_246 ⟨(Nat.le_of_ble_eq_true rfl), (Nat.le_of_ble_eq_true rfl)⟩ rfl rfl sh178 (Nat.le_of_ble_eq_true rfl) ⟨rfl, rfl⟩ hE16 (fun z13 ρ14 μ15 hz => ?_)
    replace h := h _ _ _ hz
    refine qX_goto 30 dX8_loaded_22 rfl ?_
    exact qX_ireturn rfl dX8_loaded_30 rfl ⟨Nat.le_refl _, Nat.le_refl _⟩ h
set_option maxRecDepth 20000 in
theorem e_X8_unloaded {Post : Int → Rf → Mem → Prop} {ρ : Rf} {μ : Mem} {x1 : Int}
  (h : ∃ P : Int → Rf → Mem → Prop, qE mX8_isJob GG GG [qP 178, qI x1] ρ μ P ∧ ∀ (z1 : Int) (ρ2 : Rf) (μ3 : Mem), P z1 ρ2 μ3 → ∃ P : Int → Rf → Mem → Prop, qE mX8_goesFor GG GG [qP 178, qI z1] ρ2 μ3 P ∧ ∀ (z5 : Int) (ρ6 : Rf) (μ7 : Mem), P z5 ρ6 μ7 → ((z5 = 0 → ∃ P : Int → Rf → Mem → Prop, qE mX8_failed GG GG [qP 178, qI 1] ρ6 μ7 P ∧ ∀ (z9 : Int) (ρ10 : Rf) (μ11 : Mem), P z9 ρ10 μ11 → Post z9 ρ10 μ11) ∧ (z5 ≠ 0 → (0 ≤ x1 ∧ x1 < 20) ∧ ∃ P : Int → Rf → Mem → Prop, qE mX8_done GG GG [qP 178, qI (μ7 199 x1)] ρ6 μ7 P ∧ ∀ (z13 : Int) (ρ14 : Rf) (μ15 : Mem), P z13 ρ14 μ15 → Post z13 ρ14 μ15))) : qE mX8_unloaded GG GG [qP 178, qI x1] ρ μ Post := by
  refine qE_intro pl_X8_unloaded (Nat.le_of_ble_eq_true rfl) (Nat.le_refl _) ?_
  refine qX_aload_n 0 dX8_unloaded_0 rfl rfl (by decide) ?_
  refine qX_aload_n 0 dX8_unloaded_1 rfl rfl (by decide) ?_
  refine qX_iload_n 1 dX8_unloaded_2 rfl rfl ?_
  obtain ⟨P, hE4, h⟩ := h
  refine qN_callV mX8_isJob [_] _ 8 [_] dX8_unloaded_3 cm_X8_271 ⟨(Nat.le_of_ble_eq_true rfl), (Nat.le_of_ble_eq_true rfl)⟩ rfl rfl sh178 (Nat.le_of_ble_eq_true rfl) ⟨rfl, rfl⟩ hE4 (fun z1 ρ2 μ3 hz => ?_)
  replace h := h _ _ _ hz
  obtain ⟨P, hE8, h⟩ := h
  refine qN_callV mX8_goesFor [_] _ 8 [] dX8_unloaded_6 cm_X8_320 ⟨(Nat.le_of_ble_eq_true rfl), (Nat.le_of_ble_eq_true rfl)⟩ rfl rfl sh178 (Nat.le_of_ble_eq_true rfl) ⟨rfl, rfl⟩ hE8 (fun z5 ρ6 μ7 hz => ?_)
  replace h := h _ _ _ hz
  refine qX_if_eq 25 dX8_unloaded_9 rfl (fun hc => ?_) (fun hc => ?_)
  · replace h := h.1 hc
    refine qX_aload_n 0 dX8_unloaded_25 rfl rfl (by decide) ?_
    refine qX_iconst dX8_unloaded_26 (i32_of rfl) ?_
    obtain ⟨P, hE12, h⟩ := h
    refine qN_callV mX8_failed [_] _ 8 [] dX8_unloaded_27 cm_X8_226 ⟨(Nat.le_of_ble_eq_true rfl), (Nat.le_of_ble_eq_true rfl)⟩ rfl rfl sh178 (Nat.le_of_ble_eq_true rfl) ⟨rfl, rfl⟩ hE12 (fun z9 ρ10 μ11 hz => ?_)
    replace h := h _ _ _ hz
    exact qX_ireturn rfl dX8_unloaded_30 rfl ⟨Nat.le_refl _, Nat.le_refl _⟩ h
  · replace h := h.2 hc
    refine qX_aload_n 0 dX8_unloaded_12 rfl rfl (by decide) ?_
    refine qX_aload_n 0 dX8_unloaded_13 rfl rfl (by decide) ?_
    refine qX_getS 8 34 _ 20 dX8_unloaded_14 fs_X8_76 rfl rfl sh178 (x := 199) rfl ?_
    refine qX_iload_n 1 dX8_unloaded_17 rfl rfl ?_
    refine qX_iald dX8_unloaded_18 sh199 h.1 ?_
    replace h := h.2
    obtain ⟨P, hE16, h⟩ := h
    refine qN_callV mX8_done [_] _ 8 [] dX8_unloaded_19 cm_X8_246 ⟨(Nat.le_of_ble_eq_true rfl), (Nat.le_of_ble_eq_true rfl)⟩ rfl rfl sh178 (Nat.le_of_ble_eq_true rfl) ⟨rfl, rfl⟩ hE16 (fun z13 ρ14 μ15 hz => ?_)
    replace h := h _ _ _ hz
    refine qX_goto 30 dX8_unloaded_22 rfl ?_
    exact qX_ireturn rfl dX8_unloaded_30 rfl ⟨Nat.le_refl _, Nat.le_refl _⟩ h
set_option maxRecDepth 20000 in
theorem e_X8_unloadTime {Post : Int → Rf → Mem → Prop} {ρ : Rf} {μ : Mem} {x1 : Int}
  (h : ∃ P : Int → Rf → Mem → Prop, qE mX8_isJob GG GG [qP 178, qI x1] ρ μ P ∧ ∀ (z1 : Int) (ρ2 : Rf) (μ3 : Mem), P z1 ρ2 μ3 → ∃ P : Int → Rf → Mem → Prop, qE mX8_goesFor GG GG [qP 178, qI z1] ρ2 μ3 P ∧ ∀ (z5 : Int) (ρ6 : Rf) (μ7 : Mem), P z5 ρ6 μ7 → ((z5 ≠ 0 → (0 ≤ x1 ∧ x1 < 20) ∧ ((μ7 199 x1 ≤ 0 → ∃ P : Int → Rf → Mem → Prop, qE mX8_failed GG GG [qP 178, qI 6] ρ6 μ7 P ∧ ∀ (z9 : Int) (ρ10 : Rf) (μ11 : Mem), P z9 ρ10 μ11 → Post z9 ρ10 μ11) ∧ (0 < μ7 199 x1 → (0 ≤ x1 ∧ x1 < 20) ∧ ∃ P : Int → Rf → Mem → Prop, qE mX8_done GG GG [qP 178, qI (μ7 198 x1)] ρ6 μ7 P ∧ ∀ (z13 : Int) (ρ14 : Rf) (μ15 : Mem), P z13 ρ14 μ15 → Post z13 ρ14 μ15))) ∧ (z5 = 0 → ∃ P : Int → Rf → Mem → Prop, qE mX8_failed GG GG [qP 178, qI 1] ρ6 μ7 P ∧ ∀ (z17 : Int) (ρ18 : Rf) (μ19 : Mem), P z17 ρ18 μ19 → Post z17 ρ18 μ19))) : qE mX8_unloadTime GG GG [qP 178, qI x1] ρ μ Post := by
  refine qE_intro pl_X8_unloadTime (Nat.le_of_ble_eq_true rfl) (Nat.le_refl _) ?_
  refine qX_aload_n 0 dX8_unloadTime_0 rfl rfl (by decide) ?_
  refine qX_aload_n 0 dX8_unloadTime_1 rfl rfl (by decide) ?_
  refine qX_iload_n 1 dX8_unloadTime_2 rfl rfl ?_
  obtain ⟨P, hE4, h⟩ := h
  refine qN_callV mX8_isJob [_] _ 8 [_] dX8_unloadTime_3 cm_X8_271 ⟨(Nat.le_of_ble_eq_true rfl), (Nat.le_of_ble_eq_true rfl)⟩ rfl rfl sh178 (Nat.le_of_ble_eq_true rfl) ⟨rfl, rfl⟩ hE4 (fun z1 ρ2 μ3 hz => ?_)
  replace h := h _ _ _ hz
  obtain ⟨P, hE8, h⟩ := h
  refine qN_callV mX8_goesFor [_] _ 8 [] dX8_unloadTime_6 cm_X8_320 ⟨(Nat.le_of_ble_eq_true rfl), (Nat.le_of_ble_eq_true rfl)⟩ rfl rfl sh178 (Nat.le_of_ble_eq_true rfl) ⟨rfl, rfl⟩ hE8 (fun z5 ρ6 μ7 hz => ?_)
  replace h := h _ _ _ hz
  refine qX_if_ne 18 dX8_unloadTime_9 rfl (fun hc => ?_) (fun hc => ?_)
  · replace h := h.1 hc
    refine qX_aload_n 0 dX8_unloadTime_18 rfl rfl (by decide) ?_
    refine qX_getS 8 34 _ 20 dX8_unloadTime_19 fs_X8_76 rfl rfl sh178 (x := 199) rfl ?_
    refine qX_iload_n 1 dX8_unloadTime_22 rfl rfl ?_
    refine qX_iald dX8_unloadTime_23 sh199 h.1 ?_
    replace h := h.2
    refine qX_if_le 40 dX8_unloadTime_24 rfl (fun hc => ?_) (fun hc => ?_)
    · replace h := h.1 hc
      refine qX_aload_n 0 dX8_unloadTime_40 rfl rfl (by decide) ?_
      refine qX_bip dX8_unloadTime_41 rfl ?_
      obtain ⟨P, hE12, h⟩ := h
      refine qN_callV mX8_failed [_] _ 8 [] dX8_unloadTime_43 cm_X8_226 ⟨(Nat.le_of_ble_eq_true rfl), (Nat.le_of_ble_eq_true rfl)⟩ rfl rfl sh178 (Nat.le_of_ble_eq_true rfl) ⟨rfl, rfl⟩ hE12 (fun z9 ρ10 μ11 hz => ?_)
      replace h := h _ _ _ hz
      exact qX_ireturn rfl dX8_unloadTime_46 rfl ⟨Nat.le_refl _, Nat.le_refl _⟩ h
    · replace h := h.2 hc
      refine qX_aload_n 0 dX8_unloadTime_27 rfl rfl (by decide) ?_
      refine qX_aload_n 0 dX8_unloadTime_28 rfl rfl (by decide) ?_
      refine qX_getS 8 33 _ 19 dX8_unloadTime_29 fs_X8_73 rfl rfl sh178 (x := 198) rfl ?_
      refine qX_iload_n 1 dX8_unloadTime_32 rfl rfl ?_
      refine qX_iald dX8_unloadTime_33 sh198 h.1 ?_
      replace h := h.2
      obtain ⟨P, hE16, h⟩ := h
      refine qN_callV mX8_done [_] _ 8 [] dX8_unloadTime_34 cm_X8_246 ⟨(Nat.le_of_ble_eq_true rfl), (Nat.le_of_ble_eq_true rfl)⟩ rfl rfl sh178 (Nat.le_of_ble_eq_true rfl) ⟨rfl, rfl⟩ hE16 (fun z13 ρ14 μ15 hz => ?_)
      replace h := h _ _ _ hz
      refine qX_goto 46 dX8_unloadTime_37 rfl ?_
      exact qX_ireturn rfl dX8_unloadTime_46 rfl ⟨Nat.le_refl _, Nat.le_refl _⟩ h
  · replace h := h.2 hc
    refine qX_aload_n 0 dX8_unloadTime_12 rfl rfl (by decide) ?_
    refine qX_iconst dX8_unloadTime_13 (i32_of rfl) ?_
    obtain ⟨P, hE20, h⟩ := h
    refine qN_callV mX8_failed [_] _ 8 [] dX8_unloadTime_14 cm_X8_226 ⟨(Nat.le_of_ble_eq_true rfl), (Nat.le_of_ble_eq_true rfl)⟩ rfl rfl sh178 (Nat.le_of_ble_eq_true rfl) ⟨rfl, rfl⟩ hE20 (fun z17 ρ18 μ19 hz => ?_)
    replace h := h _ _ _ hz
    exact qX_ireturn rfl dX8_unloadTime_17 rfl ⟨Nat.le_refl _, Nat.le_refl _⟩ h
set_option maxRecDepth 20000 in
theorem e_X8_finishTime {Post : Int → Rf → Mem → Prop} {ρ : Rf} {μ : Mem} {x1 : Int}
  (h : ∃ P : Int → Rf → Mem → Prop, qE mX8_isJob GG GG [qP 178, qI x1] ρ μ P ∧ ∀ (z1 : Int) (ρ2 : Rf) (μ3 : Mem), P z1 ρ2 μ3 → ∃ P : Int → Rf → Mem → Prop, qE mX8_goesFor GG GG [qP 178, qI z1] ρ2 μ3 P ∧ ∀ (z5 : Int) (ρ6 : Rf) (μ7 : Mem), P z5 ρ6 μ7 → ((z5 = 0 → ∃ P : Int → Rf → Mem → Prop, qE mX8_failed GG GG [qP 178, qI 1] ρ6 μ7 P ∧ ∀ (z9 : Int) (ρ10 : Rf) (μ11 : Mem), P z9 ρ10 μ11 → Post z9 ρ10 μ11) ∧ (z5 ≠ 0 → (0 ≤ x1 ∧ x1 < 20) ∧ ∃ P : Int → Rf → Mem → Prop, qE mX8_done GG GG [qP 178, qI (μ7 200 x1)] ρ6 μ7 P ∧ ∀ (z13 : Int) (ρ14 : Rf) (μ15 : Mem), P z13 ρ14 μ15 → Post z13 ρ14 μ15))) : qE mX8_finishTime GG GG [qP 178, qI x1] ρ μ Post := by
  refine qE_intro pl_X8_finishTime (Nat.le_of_ble_eq_true rfl) (Nat.le_refl _) ?_
  refine qX_aload_n 0 dX8_finishTime_0 rfl rfl (by decide) ?_
  refine qX_aload_n 0 dX8_finishTime_1 rfl rfl (by decide) ?_
  refine qX_iload_n 1 dX8_finishTime_2 rfl rfl ?_
  obtain ⟨P, hE4, h⟩ := h
  refine qN_callV mX8_isJob [_] _ 8 [_] dX8_finishTime_3 cm_X8_271 ⟨(Nat.le_of_ble_eq_true rfl), (Nat.le_of_ble_eq_true rfl)⟩ rfl rfl sh178 (Nat.le_of_ble_eq_true rfl) ⟨rfl, rfl⟩ hE4 (fun z1 ρ2 μ3 hz => ?_)
  replace h := h _ _ _ hz
  obtain ⟨P, hE8, h⟩ := h
  refine qN_callV mX8_goesFor [_] _ 8 [] dX8_finishTime_6 cm_X8_320 ⟨(Nat.le_of_ble_eq_true rfl), (Nat.le_of_ble_eq_true rfl)⟩ rfl rfl sh178 (Nat.le_of_ble_eq_true rfl) ⟨rfl, rfl⟩ hE8 (fun z5 ρ6 μ7 hz => ?_)
  replace h := h _ _ _ hz
  refine qX_if_eq 25 dX8_finishTime_9 rfl (fun hc => ?_) (fun hc => ?_)
  · replace h := h.1 hc
    refine qX_aload_n 0 dX8_finishTime_25 rfl rfl (by decide) ?_
    refine qX_iconst dX8_finishTime_26 (i32_of rfl) ?_
    obtain ⟨P, hE12, h⟩ := h
    refine qN_callV mX8_failed [_] _ 8 [] dX8_finishTime_27 cm_X8_226 ⟨(Nat.le_of_ble_eq_true rfl), (Nat.le_of_ble_eq_true rfl)⟩ rfl rfl sh178 (Nat.le_of_ble_eq_true rfl) ⟨rfl, rfl⟩ hE12 (fun z9 ρ10 μ11 hz => ?_)
    replace h := h _ _ _ hz
    exact qX_ireturn rfl dX8_finishTime_30 rfl ⟨Nat.le_refl _, Nat.le_refl _⟩ h
  · replace h := h.2 hc
    refine qX_aload_n 0 dX8_finishTime_12 rfl rfl (by decide) ?_
    refine qX_aload_n 0 dX8_finishTime_13 rfl rfl (by decide) ?_
    refine qX_getS 8 35 _ 21 dX8_finishTime_14 fs_X8_79 rfl rfl sh178 (x := 200) rfl ?_
    refine qX_iload_n 1 dX8_finishTime_17 rfl rfl ?_
    refine qX_iald dX8_finishTime_18 sh200 h.1 ?_
    replace h := h.2
    obtain ⟨P, hE16, h⟩ := h
    refine qN_callV mX8_done [_] _ 8 [] dX8_finishTime_19 cm_X8_246 ⟨(Nat.le_of_ble_eq_true rfl), (Nat.le_of_ble_eq_true rfl)⟩ rfl rfl sh178 (Nat.le_of_ble_eq_true rfl) ⟨rfl, rfl⟩ hE16 (fun z13 ρ14 μ15 hz => ?_)
    replace h := h _ _ _ hz
    refine qX_goto 30 dX8_finishTime_22 rfl ?_
    exact qX_ireturn rfl dX8_finishTime_30 rfl ⟨Nat.le_refl _, Nat.le_refl _⟩ h
set_option maxRecDepth 20000 in
theorem e_X8_deliveredTo {Post : Int → Rf → Mem → Prop} {ρ : Rf} {μ : Mem} {x1 : Int} {x2 : Int} {x3 : Int}
  (h : qX mX8_deliveredTo GG Post GG (0, 0) 6 [some (qP 178), some (qI x1), some (qI x2), some (qI x3), some (qI 0), some (qI 0)] [] ρ μ) : qE mX8_deliveredTo GG GG [qP 178, qI x1, qI x2, qI x3] ρ μ Post := by
  refine qE_intro pl_X8_deliveredTo (Nat.le_of_ble_eq_true rfl) (Nat.le_refl _) ?_
  refine qX_iconst dX8_deliveredTo_0 (i32_of rfl) ?_
  refine qX_istore dX8_deliveredTo_1 (Nat.le_of_ble_eq_true rfl) rfl ?_
  refine qX_iconst dX8_deliveredTo_3 (i32_of rfl) ?_
  refine qX_istore dX8_deliveredTo_4 (Nat.le_of_ble_eq_true rfl) rfl ?_
  exact qX_mask [true, true, true, true, true, true] h
set_option maxRecDepth 20000 in
theorem w_X8_deliveredTo_6 {Post : Int → Rf → Mem → Prop} {ρ : Rf} {μ : Mem} {x1 : Int} {x2 : Int} {x3 : Int} {x4 : Int} {x5 : Int}
  (h : ((μ 180 87 ≤ x5 → Post x4 ρ μ) ∧ (x5 < μ 180 87 → ∃ P : Int → Rf → Mem → Prop, qE mX8_job GG GG [qP 178, qI x5, qI 1] ρ μ P ∧ ∀ (z1 : Int) (ρ2 : Rf) (μ3 : Mem), P z1 ρ2 μ3 → ((z1 ≠ x1 → qX mX8_deliveredTo GG Post GG (0, 0) 63 [some (qP 178), some (qI x1), some (qI x2), some (qI x3), none, some (qI x5)] [qI x4] ρ2 μ3) ∧ (z1 = x1 → ∃ P : Int → Rf → Mem → Prop, qE mX8_job GG GG [qP 178, qI x5, qI 2] ρ2 μ3 P ∧ ∀ (z5 : Int) (ρ6 : Rf) (μ7 : Mem), P z5 ρ6 μ7 → ((z5 ≠ x2 → qX mX8_deliveredTo GG Post GG (0, 0) 63 [some (qP 178), some (qI x1), some (qI x2), some (qI x3), none, some (qI x5)] [qI x4] ρ6 μ7) ∧ (z5 = x2 → ∃ P : Int → Rf → Mem → Prop, qE mX8_job GG GG [qP 178, qI x5, qI 3] ρ6 μ7 P ∧ ∀ (z9 : Int) (ρ10 : Rf) (μ11 : Mem), P z9 ρ10 μ11 → ((z9 ≠ x3 → qX mX8_deliveredTo GG Post GG (0, 0) 63 [some (qP 178), some (qI x1), some (qI x2), some (qI x3), none, some (qI x5)] [qI x4] ρ10 μ11) ∧ (z9 = x3 → (0 ≤ x5 ∧ x5 < 20) ∧ qX mX8_deliveredTo GG Post GG (0, 0) 64 [some (qP 178), some (qI x1), some (qI x2), some (qI x3), none, some (qI x5)] [qI (μ11 199 x5), qI x4] ρ10 μ11))))))))) : qX mX8_deliveredTo GG Post GG (0, 0) 6 [some (qP 178), some (qI x1), some (qI x2), some (qI x3), some (qI x4), some (qI x5)] [] ρ μ := by
  refine qX_iload dX8_deliveredTo_6 rfl ?_
  refine qX_aload_n 0 dX8_deliveredTo_8 rfl rfl (by decide) ?_
  refine qX_getS 8 12 _ 1 dX8_deliveredTo_9 fs_X8_17 rfl rfl sh178 (x := 180) rfl ?_
  refine qX_bip dX8_deliveredTo_12 rfl ?_
  refine qX_iald dX8_deliveredTo_14 sh180 ⟨by decide, by decide⟩ ?_
  refine qX_icmp_ge 73 dX8_deliveredTo_15 rfl (fun hc => ?_) (fun hc => ?_)
  · replace h := h.1 hc
    refine qX_iload dX8_deliveredTo_73 rfl ?_
    exact qX_ireturn rfl dX8_deliveredTo_75 rfl ⟨Nat.le_refl _, Nat.le_refl _⟩ h
  · replace h := h.2 hc
    refine qX_iload dX8_deliveredTo_18 rfl ?_
    refine qX_aload_n 0 dX8_deliveredTo_20 rfl rfl (by decide) ?_
    refine qX_iload dX8_deliveredTo_21 rfl ?_
    refine qX_iconst dX8_deliveredTo_23 (i32_of rfl) ?_
    obtain ⟨P, hE4, h⟩ := h
    refine qN_callV mX8_job [_, _] _ 8 [_] dX8_deliveredTo_24 cm_X8_274 ⟨(Nat.le_of_ble_eq_true rfl), (Nat.le_of_ble_eq_true rfl)⟩ rfl rfl sh178 (Nat.le_of_ble_eq_true rfl) ⟨rfl, rfl⟩ hE4 (fun z1 ρ2 μ3 hz => ?_)
    replace h := h _ _ _ hz
    refine qX_iload_n 1 dX8_deliveredTo_27 rfl rfl ?_
    refine qX_icmp_ne 63 dX8_deliveredTo_28 rfl (fun hc => ?_) (fun hc => ?_)
    · replace h := h.1 hc
      exact qX_mask [true, true, true, true, false, true] h
    · replace h := h.2 hc
      refine qX_aload_n 0 dX8_deliveredTo_31 rfl rfl (by decide) ?_
      refine qX_iload dX8_deliveredTo_32 rfl ?_
      refine qX_iconst dX8_deliveredTo_34 (i32_of rfl) ?_
      obtain ⟨P, hE8, h⟩ := h
      refine qN_callV mX8_job [_, _] _ 8 [_] dX8_deliveredTo_35 cm_X8_274 ⟨(Nat.le_of_ble_eq_true rfl), (Nat.le_of_ble_eq_true rfl)⟩ rfl rfl sh178 (Nat.le_of_ble_eq_true rfl) ⟨rfl, rfl⟩ hE8 (fun z5 ρ6 μ7 hz => ?_)
      replace h := h _ _ _ hz
      refine qX_iload_n 2 dX8_deliveredTo_38 rfl rfl ?_
      refine qX_icmp_ne 63 dX8_deliveredTo_39 rfl (fun hc => ?_) (fun hc => ?_)
      · replace h := h.1 hc
        exact qX_mask [true, true, true, true, false, true] h
      · replace h := h.2 hc
        refine qX_aload_n 0 dX8_deliveredTo_42 rfl rfl (by decide) ?_
        refine qX_iload dX8_deliveredTo_43 rfl ?_
        refine qX_iconst dX8_deliveredTo_45 (i32_of rfl) ?_
        obtain ⟨P, hE12, h⟩ := h
        refine qN_callV mX8_job [_, _] _ 8 [_] dX8_deliveredTo_46 cm_X8_274 ⟨(Nat.le_of_ble_eq_true rfl), (Nat.le_of_ble_eq_true rfl)⟩ rfl rfl sh178 (Nat.le_of_ble_eq_true rfl) ⟨rfl, rfl⟩ hE12 (fun z9 ρ10 μ11 hz => ?_)
        replace h := h _ _ _ hz
        refine qX_iload_n 3 dX8_deliveredTo_49 rfl rfl ?_
        refine qX_icmp_ne 63 dX8_deliveredTo_50 rfl (fun hc => ?_) (fun hc => ?_)
        · replace h := h.1 hc
          exact qX_mask [true, true, true, true, false, true] h
        · replace h := h.2 hc
          refine qX_aload_n 0 dX8_deliveredTo_53 rfl rfl (by decide) ?_
          refine qX_getS 8 34 _ 20 dX8_deliveredTo_54 fs_X8_76 rfl rfl sh178 (x := 199) rfl ?_
          refine qX_iload dX8_deliveredTo_57 rfl ?_
          refine qX_iald dX8_deliveredTo_59 sh199 h.1 ?_
          replace h := h.2
          refine qX_goto 64 dX8_deliveredTo_60 rfl ?_
          exact qX_mask [true, true, true, true, false, true] h
set_option maxRecDepth 20000 in
theorem w_X8_deliveredTo_63 {Post : Int → Rf → Mem → Prop} {ρ : Rf} {μ : Mem} {s0 : Int} {x1 : Int} {x2 : Int} {x3 : Int} {x5 : Int}
  (h : qX mX8_deliveredTo GG Post GG (0, 0) 64 [some (qP 178), some (qI x1), some (qI x2), some (qI x3), none, some (qI x5)] [qI 0, qI s0] ρ μ) : qX mX8_deliveredTo GG Post GG (0, 0) 63 [some (qP 178), some (qI x1), some (qI x2), some (qI x3), none, some (qI x5)] [qI s0] ρ μ := by
  refine qX_iconst dX8_deliveredTo_63 (i32_of rfl) ?_
  exact qX_mask [true, true, true, true, false, true] h
set_option maxRecDepth 20000 in
theorem w_X8_deliveredTo_64 {Post : Int → Rf → Mem → Prop} {ρ : Rf} {μ : Mem} {s0 : Int} {s1 : Int} {x1 : Int} {x2 : Int} {x3 : Int} {x5 : Int}
  (h : i32 (s0 + s1) ∧ i32 (x5 + 1) ∧ qX mX8_deliveredTo GG Post GG (0, 0) 6 [some (qP 178), some (qI x1), some (qI x2), some (qI x3), some (qI (s0 + s1)), some (qI (x5 + 1))] [] ρ μ) : qX mX8_deliveredTo GG Post GG (0, 0) 64 [some (qP 178), some (qI x1), some (qI x2), some (qI x3), none, some (qI x5)] [qI s1, qI s0] ρ μ := by
  refine qR_iadd dX8_deliveredTo_64 h.1 ?_
  replace h := h.2
  refine qX_istore dX8_deliveredTo_65 (Nat.le_of_ble_eq_true rfl) rfl ?_
  refine qR_iinc dX8_deliveredTo_67 rfl (Nat.le_of_ble_eq_true rfl) rfl h.1 ?_
  replace h := h.2
  refine qX_goto 6 dX8_deliveredTo_70 rfl ?_
  exact qX_mask [true, true, true, true, true, true] h
set_option maxRecDepth 20000 in
theorem e_X8_deliveredToTrain {Post : Int → Rf → Mem → Prop} {ρ : Rf} {μ : Mem} {x1 : Int} {x2 : Int}
  (h : qX mX8_deliveredToTrain GG Post GG (0, 0) 5 [some (qP 178), some (qI x1), some (qI x2), some (qI 0), some (qI 0)] [] ρ μ) : qE mX8_deliveredToTrain GG GG [qP 178, qI x1, qI x2] ρ μ Post := by
  refine qE_intro pl_X8_deliveredToTrain (Nat.le_of_ble_eq_true rfl) (Nat.le_refl _) ?_
  refine qX_iconst dX8_deliveredToTrain_0 (i32_of rfl) ?_
  refine qX_istore_n 3 dX8_deliveredToTrain_1 rfl (Nat.le_of_ble_eq_true rfl) rfl ?_
  refine qX_iconst dX8_deliveredToTrain_2 (i32_of rfl) ?_
  refine qX_istore dX8_deliveredToTrain_3 (Nat.le_of_ble_eq_true rfl) rfl ?_
  exact qX_mask [true, true, true, true, true] h
set_option maxRecDepth 20000 in
theorem w_X8_deliveredToTrain_5 {Post : Int → Rf → Mem → Prop} {ρ : Rf} {μ : Mem} {x1 : Int} {x2 : Int} {x3 : Int} {x4 : Int}
  (h : i32 (4 + x1) ∧ (0 ≤ 4 + x1 ∧ 4 + x1 < 188) ∧ ((μ 180 (4 + x1) ≤ x4 → Post x3 ρ μ) ∧ (x4 < μ 180 (4 + x1) → ∃ P : Int → Rf → Mem → Prop, qE mX8_deliveredTo GG GG [qP 178, qI x1, qI x4, qI x2] ρ μ P ∧ ∀ (z1 : Int) (ρ2 : Rf) (μ3 : Mem), P z1 ρ2 μ3 → i32 (x3 + z1) ∧ i32 (x4 + 1) ∧ qX mX8_deliveredToTrain GG Post GG (0, 0) 5 [some (qP 178), some (qI x1), some (qI x2), some (qI (x3 + z1)), some (qI (x4 + 1))] [] ρ2 μ3))) : qX mX8_deliveredToTrain GG Post GG (0, 0) 5 [some (qP 178), some (qI x1), some (qI x2), some (qI x3), some (qI x4)] [] ρ μ := by
  refine qX_iload dX8_deliveredToTrain_5 rfl ?_
  refine qX_aload_n 0 dX8_deliveredToTrain_7 rfl rfl (by decide) ?_
  refine qX_getS 8 12 _ 1 dX8_deliveredToTrain_8 fs_X8_17 rfl rfl sh178 (x := 180) rfl ?_
  refine qX_iconst dX8_deliveredToTrain_11 (i32_of rfl) ?_
  refine qX_iload_n 1 dX8_deliveredToTrain_12 rfl rfl ?_
  refine qR_iadd dX8_deliveredToTrain_13 h.1 ?_
  replace h := h.2
  refine qX_iald dX8_deliveredToTrain_14 sh180 h.1 ?_
  replace h := h.2
  refine qX_icmp_ge 35 dX8_deliveredToTrain_15 rfl (fun hc => ?_) (fun hc => ?_)
  · replace h := h.1 hc
    refine qX_iload_n 3 dX8_deliveredToTrain_35 rfl rfl ?_
    exact qX_ireturn rfl dX8_deliveredToTrain_36 rfl ⟨Nat.le_refl _, Nat.le_refl _⟩ h
  · replace h := h.2 hc
    refine qX_iload_n 3 dX8_deliveredToTrain_18 rfl rfl ?_
    refine qX_aload_n 0 dX8_deliveredToTrain_19 rfl rfl (by decide) ?_
    refine qX_iload_n 1 dX8_deliveredToTrain_20 rfl rfl ?_
    refine qX_iload dX8_deliveredToTrain_21 rfl ?_
    refine qX_iload_n 2 dX8_deliveredToTrain_23 rfl rfl ?_
    obtain ⟨P, hE4, h⟩ := h
    refine qN_callV mX8_deliveredTo [_, _, _] _ 8 [_] dX8_deliveredToTrain_24 cm_X8_324 ⟨(Nat.le_of_ble_eq_true rfl), (Nat.le_of_ble_eq_true rfl)⟩ rfl rfl sh178 (Nat.le_of_ble_eq_true rfl) ⟨rfl, rfl⟩ hE4 (fun z1 ρ2 μ3 hz => ?_)
    replace h := h _ _ _ hz
    refine qR_iadd dX8_deliveredToTrain_27 h.1 ?_
    replace h := h.2
    refine qX_istore_n 3 dX8_deliveredToTrain_28 rfl (Nat.le_of_ble_eq_true rfl) rfl ?_
    refine qR_iinc dX8_deliveredToTrain_29 rfl (Nat.le_of_ble_eq_true rfl) rfl h.1 ?_
    replace h := h.2
    refine qX_goto 5 dX8_deliveredToTrain_32 rfl ?_
    exact qX_mask [true, true, true, true, true] h
set_option maxRecDepth 20000 in
theorem e_X8_delivered {Post : Int → Rf → Mem → Prop} {ρ : Rf} {μ : Mem} {x1 : Int} {x2 : Int} {x3 : Int}
  (h : ∃ P : Int → Rf → Mem → Prop, qE mX8_isCar GG GG [qP 178, qI x1, qI x2] ρ μ P ∧ ∀ (z1 : Int) (ρ2 : Rf) (μ3 : Mem), P z1 ρ2 μ3 → ((z1 = 0 → qX mX8_delivered GG Post GG (0, 0) 22 [some (qP 178), some (qI x1), some (qI x2), some (qI x3)] [qP 178] ρ2 μ3) ∧ (z1 ≠ 0 → ∃ P : Int → Rf → Mem → Prop, qE mX8_isMeal GG GG [qP 178, qI x3] ρ2 μ3 P ∧ ∀ (z5 : Int) (ρ6 : Rf) (μ7 : Mem), P z5 ρ6 μ7 → ((z5 = 0 → qX mX8_delivered GG Post GG (0, 0) 22 [some (qP 178), some (qI x1), some (qI x2), some (qI x3)] [qP 178] ρ6 μ7) ∧ (z5 ≠ 0 → qX mX8_delivered GG Post GG (0, 0) 23 [some (qP 178), some (qI x1), some (qI x2), some (qI x3)] [qI 1, qP 178] ρ6 μ7))))) : qE mX8_delivered GG GG [qP 178, qI x1, qI x2, qI x3] ρ μ Post := by
  refine qE_intro pl_X8_delivered (Nat.le_of_ble_eq_true rfl) (Nat.le_refl _) ?_
  refine qX_aload_n 0 dX8_delivered_0 rfl rfl (by decide) ?_
  refine qX_aload_n 0 dX8_delivered_1 rfl rfl (by decide) ?_
  refine qX_iload_n 1 dX8_delivered_2 rfl rfl ?_
  refine qX_iload_n 2 dX8_delivered_3 rfl rfl ?_
  obtain ⟨P, hE4, h⟩ := h
  refine qN_callV mX8_isCar [_, _] _ 8 [_] dX8_delivered_4 cm_X8_267 ⟨(Nat.le_of_ble_eq_true rfl), (Nat.le_of_ble_eq_true rfl)⟩ rfl rfl sh178 (Nat.le_of_ble_eq_true rfl) ⟨rfl, rfl⟩ hE4 (fun z1 ρ2 μ3 hz => ?_)
  replace h := h _ _ _ hz
  refine qX_if_eq 22 dX8_delivered_7 rfl (fun hc => ?_) (fun hc => ?_)
  · replace h := h.1 hc
    exact qX_mask [true, true, true, true] h
  · replace h := h.2 hc
    refine qX_aload_n 0 dX8_delivered_10 rfl rfl (by decide) ?_
    refine qX_iload_n 3 dX8_delivered_11 rfl rfl ?_
    obtain ⟨P, hE8, h⟩ := h
    refine qN_callV mX8_isMeal [_] _ 8 [_] dX8_delivered_12 cm_X8_260 ⟨(Nat.le_of_ble_eq_true rfl), (Nat.le_of_ble_eq_true rfl)⟩ rfl rfl sh178 (Nat.le_of_ble_eq_true rfl) ⟨rfl, rfl⟩ hE8 (fun z5 ρ6 μ7 hz => ?_)
    replace h := h _ _ _ hz
    refine qX_if_eq 22 dX8_delivered_15 rfl (fun hc => ?_) (fun hc => ?_)
    · replace h := h.1 hc
      exact qX_mask [true, true, true, true] h
    · replace h := h.2 hc
      refine qX_iconst dX8_delivered_18 (i32_of rfl) ?_
      refine qX_goto 23 dX8_delivered_19 rfl ?_
      exact qX_mask [true, true, true, true] h
set_option maxRecDepth 20000 in
theorem w_X8_delivered_22 {Post : Int → Rf → Mem → Prop} {ρ : Rf} {μ : Mem} {x1 : Int} {x2 : Int} {x3 : Int}
  (h : qX mX8_delivered GG Post GG (0, 0) 23 [some (qP 178), some (qI x1), some (qI x2), some (qI x3)] [qI 0, qP 178] ρ μ) : qX mX8_delivered GG Post GG (0, 0) 22 [some (qP 178), some (qI x1), some (qI x2), some (qI x3)] [qP 178] ρ μ := by
  refine qX_iconst dX8_delivered_22 (i32_of rfl) ?_
  exact qX_mask [true, true, true, true] h
set_option maxRecDepth 20000 in
theorem w_X8_delivered_23 {Post : Int → Rf → Mem → Prop} {ρ : Rf} {μ : Mem} {s1 : Int} {x1 : Int} {x2 : Int} {x3 : Int}
  (h : ∃ P : Int → Rf → Mem → Prop, qE mX8_goesFor GG GG [qP 178, qI s1] ρ μ P ∧ ∀ (z1 : Int) (ρ2 : Rf) (μ3 : Mem), P z1 ρ2 μ3 → ((z1 = 0 → ∃ P : Int → Rf → Mem → Prop, qE mX8_failed GG GG [qP 178, qI 1] ρ2 μ3 P ∧ ∀ (z5 : Int) (ρ6 : Rf) (μ7 : Mem), P z5 ρ6 μ7 → Post z5 ρ6 μ7) ∧ (z1 ≠ 0 → ∃ P : Int → Rf → Mem → Prop, qE mX8_deliveredTo GG GG [qP 178, qI x1, qI x2, qI x3] ρ2 μ3 P ∧ ∀ (z9 : Int) (ρ10 : Rf) (μ11 : Mem), P z9 ρ10 μ11 → ∃ P : Int → Rf → Mem → Prop, qE mX8_done GG GG [qP 178, qI z9] ρ10 μ11 P ∧ ∀ (z13 : Int) (ρ14 : Rf) (μ15 : Mem), P z13 ρ14 μ15 → Post z13 ρ14 μ15))) : qX mX8_delivered GG Post GG (0, 0) 23 [some (qP 178), some (qI x1), some (qI x2), some (qI x3)] [qI s1, qP 178] ρ μ := by
  obtain ⟨P, hE4, h⟩ := h
  refine qN_callV mX8_goesFor [_] _ 8 [] dX8_delivered_23 cm_X8_320 ⟨(Nat.le_of_ble_eq_true rfl), (Nat.le_of_ble_eq_true rfl)⟩ rfl rfl sh178 (Nat.le_of_ble_eq_true rfl) ⟨rfl, rfl⟩ hE4 (fun z1 ρ2 μ3 hz => ?_)
  replace h := h _ _ _ hz
  refine qX_if_eq 43 dX8_delivered_26 rfl (fun hc => ?_) (fun hc => ?_)
  · replace h := h.1 hc
    refine qX_aload_n 0 dX8_delivered_43 rfl rfl (by decide) ?_
    refine qX_iconst dX8_delivered_44 (i32_of rfl) ?_
    obtain ⟨P, hE8, h⟩ := h
    refine qN_callV mX8_failed [_] _ 8 [] dX8_delivered_45 cm_X8_226 ⟨(Nat.le_of_ble_eq_true rfl), (Nat.le_of_ble_eq_true rfl)⟩ rfl rfl sh178 (Nat.le_of_ble_eq_true rfl) ⟨rfl, rfl⟩ hE8 (fun z5 ρ6 μ7 hz => ?_)
    replace h := h _ _ _ hz
    exact qX_ireturn rfl dX8_delivered_48 rfl ⟨Nat.le_refl _, Nat.le_refl _⟩ h
  · replace h := h.2 hc
    refine qX_aload_n 0 dX8_delivered_29 rfl rfl (by decide) ?_
    refine qX_aload_n 0 dX8_delivered_30 rfl rfl (by decide) ?_
    refine qX_iload_n 1 dX8_delivered_31 rfl rfl ?_
    refine qX_iload_n 2 dX8_delivered_32 rfl rfl ?_
    refine qX_iload_n 3 dX8_delivered_33 rfl rfl ?_
    obtain ⟨P, hE12, h⟩ := h
    refine qN_callV mX8_deliveredTo [_, _, _] _ 8 [_] dX8_delivered_34 cm_X8_324 ⟨(Nat.le_of_ble_eq_true rfl), (Nat.le_of_ble_eq_true rfl)⟩ rfl rfl sh178 (Nat.le_of_ble_eq_true rfl) ⟨rfl, rfl⟩ hE12 (fun z9 ρ10 μ11 hz => ?_)
    replace h := h _ _ _ hz
    obtain ⟨P, hE16, h⟩ := h
    refine qN_callV mX8_done [_] _ 8 [] dX8_delivered_37 cm_X8_246 ⟨(Nat.le_of_ble_eq_true rfl), (Nat.le_of_ble_eq_true rfl)⟩ rfl rfl sh178 (Nat.le_of_ble_eq_true rfl) ⟨rfl, rfl⟩ hE16 (fun z13 ρ14 μ15 hz => ?_)
    replace h := h _ _ _ hz
    refine qX_goto 48 dX8_delivered_40 rfl ?_
    exact qX_ireturn rfl dX8_delivered_48 rfl ⟨Nat.le_refl _, Nat.le_refl _⟩ h
set_option maxRecDepth 20000 in
theorem e_X8_deliveredTotal {Post : Int → Rf → Mem → Prop} {ρ : Rf} {μ : Mem} 
  (h : ∃ P : Int → Rf → Mem → Prop, qE mX8_goesFor GG GG [qP 178, qI (μ 178 20)] ρ μ P ∧ ∀ (z1 : Int) (ρ2 : Rf) (μ3 : Mem), P z1 ρ2 μ3 → ((z1 = 0 → ∃ P : Int → Rf → Mem → Prop, qE mX8_failed GG GG [qP 178, qI 1] ρ2 μ3 P ∧ ∀ (z5 : Int) (ρ6 : Rf) (μ7 : Mem), P z5 ρ6 μ7 → Post z5 ρ6 μ7) ∧ (z1 ≠ 0 → ∃ P : Int → Rf → Mem → Prop, qE mX8_total GG GG [qP 178] ρ2 μ3 P ∧ ∀ (z9 : Int) (ρ10 : Rf) (μ11 : Mem), P z9 ρ10 μ11 → ∃ P : Int → Rf → Mem → Prop, qE mX8_done GG GG [qP 178, qI z9] ρ10 μ11 P ∧ ∀ (z13 : Int) (ρ14 : Rf) (μ15 : Mem), P z13 ρ14 μ15 → Post z13 ρ14 μ15))) : qE mX8_deliveredTotal GG GG [qP 178] ρ μ Post := by
  refine qE_intro pl_X8_deliveredTotal (Nat.le_of_ble_eq_true rfl) (Nat.le_refl _) ?_
  refine qX_aload_n 0 dX8_deliveredTotal_0 rfl rfl (by decide) ?_
  refine qX_aload_n 0 dX8_deliveredTotal_1 rfl rfl (by decide) ?_
  refine qX_getI 8 20 _ dX8_deliveredTotal_2 fs_X8_236 sh178 ?_
  obtain ⟨P, hE4, h⟩ := h
  refine qN_callV mX8_goesFor [_] _ 8 [] dX8_deliveredTotal_5 cm_X8_320 ⟨(Nat.le_of_ble_eq_true rfl), (Nat.le_of_ble_eq_true rfl)⟩ rfl rfl sh178 (Nat.le_of_ble_eq_true rfl) ⟨rfl, rfl⟩ hE4 (fun z1 ρ2 μ3 hz => ?_)
  replace h := h _ _ _ hz
  refine qX_if_eq 22 dX8_deliveredTotal_8 rfl (fun hc => ?_) (fun hc => ?_)
  · replace h := h.1 hc
    refine qX_aload_n 0 dX8_deliveredTotal_22 rfl rfl (by decide) ?_
    refine qX_iconst dX8_deliveredTotal_23 (i32_of rfl) ?_
    obtain ⟨P, hE8, h⟩ := h
    refine qN_callV mX8_failed [_] _ 8 [] dX8_deliveredTotal_24 cm_X8_226 ⟨(Nat.le_of_ble_eq_true rfl), (Nat.le_of_ble_eq_true rfl)⟩ rfl rfl sh178 (Nat.le_of_ble_eq_true rfl) ⟨rfl, rfl⟩ hE8 (fun z5 ρ6 μ7 hz => ?_)
    replace h := h _ _ _ hz
    exact qX_ireturn rfl dX8_deliveredTotal_27 rfl ⟨Nat.le_refl _, Nat.le_refl _⟩ h
  · replace h := h.2 hc
    refine qX_aload_n 0 dX8_deliveredTotal_11 rfl rfl (by decide) ?_
    refine qX_aload_n 0 dX8_deliveredTotal_12 rfl rfl (by decide) ?_
    obtain ⟨P, hE12, h⟩ := h
    refine qN_callV mX8_total [] _ 8 [_] dX8_deliveredTotal_13 cm_X8_327 ⟨(Nat.le_of_ble_eq_true rfl), (Nat.le_of_ble_eq_true rfl)⟩ rfl rfl sh178 (Nat.le_of_ble_eq_true rfl) ⟨rfl, rfl⟩ hE12 (fun z9 ρ10 μ11 hz => ?_)
    replace h := h _ _ _ hz
    obtain ⟨P, hE16, h⟩ := h
    refine qN_callV mX8_done [_] _ 8 [] dX8_deliveredTotal_16 cm_X8_246 ⟨(Nat.le_of_ble_eq_true rfl), (Nat.le_of_ble_eq_true rfl)⟩ rfl rfl sh178 (Nat.le_of_ble_eq_true rfl) ⟨rfl, rfl⟩ hE16 (fun z13 ρ14 μ15 hz => ?_)
    replace h := h _ _ _ hz
    refine qX_goto 27 dX8_deliveredTotal_19 rfl ?_
    exact qX_ireturn rfl dX8_deliveredTotal_27 rfl ⟨Nat.le_refl _, Nat.le_refl _⟩ h
set_option maxRecDepth 20000 in
theorem e_X8_leftBehind {Post : Int → Rf → Mem → Prop} {ρ : Rf} {μ : Mem} {x1 : Int}
  (h : ∃ P : Int → Rf → Mem → Prop, qE mX8_isTrolley GG GG [qP 178, qI x1] ρ μ P ∧ ∀ (z1 : Int) (ρ2 : Rf) (μ3 : Mem), P z1 ρ2 μ3 → ∃ P : Int → Rf → Mem → Prop, qE mX8_goesFor GG GG [qP 178, qI z1] ρ2 μ3 P ∧ ∀ (z5 : Int) (ρ6 : Rf) (μ7 : Mem), P z5 ρ6 μ7 → ((z5 ≠ 0 → qX mX8_leftBehind GG Post GG (0, 0) 22 [some (qP 178), some (qI x1), some (qI 0), some (qI 0)] [] ρ6 μ7) ∧ (z5 = 0 → ∃ P : Int → Rf → Mem → Prop, qE mX8_failed GG GG [qP 178, qI 1] ρ6 μ7 P ∧ ∀ (z9 : Int) (ρ10 : Rf) (μ11 : Mem), P z9 ρ10 μ11 → Post z9 ρ10 μ11))) : qE mX8_leftBehind GG GG [qP 178, qI x1] ρ μ Post := by
  refine qE_intro pl_X8_leftBehind (Nat.le_of_ble_eq_true rfl) (Nat.le_refl _) ?_
  refine qX_aload_n 0 dX8_leftBehind_0 rfl rfl (by decide) ?_
  refine qX_aload_n 0 dX8_leftBehind_1 rfl rfl (by decide) ?_
  refine qX_iload_n 1 dX8_leftBehind_2 rfl rfl ?_
  obtain ⟨P, hE4, h⟩ := h
  refine qN_callV mX8_isTrolley [_] _ 8 [_] dX8_leftBehind_3 cm_X8_330 ⟨(Nat.le_of_ble_eq_true rfl), (Nat.le_of_ble_eq_true rfl)⟩ rfl rfl sh178 (Nat.le_of_ble_eq_true rfl) ⟨rfl, rfl⟩ hE4 (fun z1 ρ2 μ3 hz => ?_)
  replace h := h _ _ _ hz
  obtain ⟨P, hE8, h⟩ := h
  refine qN_callV mX8_goesFor [_] _ 8 [] dX8_leftBehind_6 cm_X8_320 ⟨(Nat.le_of_ble_eq_true rfl), (Nat.le_of_ble_eq_true rfl)⟩ rfl rfl sh178 (Nat.le_of_ble_eq_true rfl) ⟨rfl, rfl⟩ hE8 (fun z5 ρ6 μ7 hz => ?_)
  replace h := h _ _ _ hz
  refine qX_if_ne 18 dX8_leftBehind_9 rfl (fun hc => ?_) (fun hc => ?_)
  · replace h := h.1 hc
    refine qX_iconst dX8_leftBehind_18 (i32_of rfl) ?_
    refine qX_istore_n 2 dX8_leftBehind_19 rfl (Nat.le_of_ble_eq_true rfl) rfl ?_
    refine qX_iconst dX8_leftBehind_20 (i32_of rfl) ?_
    refine qX_istore_n 3 dX8_leftBehind_21 rfl (Nat.le_of_ble_eq_true rfl) rfl ?_
    exact qX_mask [true, true, true, true] h
  · replace h := h.2 hc
    refine qX_aload_n 0 dX8_leftBehind_12 rfl rfl (by decide) ?_
    refine qX_iconst dX8_leftBehind_13 (i32_of rfl) ?_
    obtain ⟨P, hE12, h⟩ := h
    refine qN_callV mX8_failed [_] _ 8 [] dX8_leftBehind_14 cm_X8_226 ⟨(Nat.le_of_ble_eq_true rfl), (Nat.le_of_ble_eq_true rfl)⟩ rfl rfl sh178 (Nat.le_of_ble_eq_true rfl) ⟨rfl, rfl⟩ hE12 (fun z9 ρ10 μ11 hz => ?_)
    replace h := h _ _ _ hz
    exact qX_ireturn rfl dX8_leftBehind_17 rfl ⟨Nat.le_refl _, Nat.le_refl _⟩ h
set_option maxRecDepth 20000 in
theorem w_X8_leftBehind_22 {Post : Int → Rf → Mem → Prop} {ρ : Rf} {μ : Mem} {x1 : Int} {x2 : Int} {x3 : Int}
  (h : ((μ 180 87 ≤ x3 → ∃ P : Int → Rf → Mem → Prop, qE mX8_done GG GG [qP 178, qI x2] ρ μ P ∧ ∀ (z1 : Int) (ρ2 : Rf) (μ3 : Mem), P z1 ρ2 μ3 → Post z1 ρ2 μ3) ∧ (x3 < μ 180 87 → ∃ P : Int → Rf → Mem → Prop, qE mX8_job GG GG [qP 178, qI x3, qI 0] ρ μ P ∧ ∀ (z5 : Int) (ρ6 : Rf) (μ7 : Mem), P z5 ρ6 μ7 → ((z5 ≠ x1 → i32 (x2 + 0) ∧ i32 (x3 + 1) ∧ qX mX8_leftBehind GG Post GG (0, 0) 22 [some (qP 178), some (qI x1), some (qI (x2 + 0)), some (qI (x3 + 1))] [] ρ6 μ7) ∧ (z5 = x1 → (0 ≤ x3 ∧ x3 < 20) ∧ (0 ≤ x3 ∧ x3 < 20) ∧ i32 ((μ7 196 x3) - (μ7 199 x3)) ∧ i32 (x2 + ((μ7 196 x3) - (μ7 199 x3))) ∧ i32 (x3 + 1) ∧ qX mX8_leftBehind GG Post GG (0, 0) 22 [some (qP 178), some (qI x1), some (qI (x2 + ((μ7 196 x3) - (μ7 199 x3)))), some (qI (x3 + 1))] [] ρ6 μ7))))) : qX mX8_leftBehind GG Post GG (0, 0) 22 [some (qP 178), some (qI x1), some (qI x2), some (qI x3)] [] ρ μ := by
  refine qX_iload_n 3 dX8_leftBehind_22 rfl rfl ?_
  refine qX_aload_n 0 dX8_leftBehind_23 rfl rfl (by decide) ?_
  refine qX_getS 8 12 _ 1 dX8_leftBehind_24 fs_X8_17 rfl rfl sh178 (x := 180) rfl ?_
  refine qX_bip dX8_leftBehind_27 rfl ?_
  refine qX_iald dX8_leftBehind_29 sh180 ⟨by decide, by decide⟩ ?_
  refine qX_icmp_ge 69 dX8_leftBehind_30 rfl (fun hc => ?_) (fun hc => ?_)
  · replace h := h.1 hc
    refine qX_aload_n 0 dX8_leftBehind_69 rfl rfl (by decide) ?_
    refine qX_iload_n 2 dX8_leftBehind_70 rfl rfl ?_
    obtain ⟨P, hE4, h⟩ := h
    refine qN_callV mX8_done [_] _ 8 [] dX8_leftBehind_71 cm_X8_246 ⟨(Nat.le_of_ble_eq_true rfl), (Nat.le_of_ble_eq_true rfl)⟩ rfl rfl sh178 (Nat.le_of_ble_eq_true rfl) ⟨rfl, rfl⟩ hE4 (fun z1 ρ2 μ3 hz => ?_)
    replace h := h _ _ _ hz
    exact qX_ireturn rfl dX8_leftBehind_74 rfl ⟨Nat.le_refl _, Nat.le_refl _⟩ h
  · replace h := h.2 hc
    refine qX_iload_n 2 dX8_leftBehind_33 rfl rfl ?_
    refine qX_aload_n 0 dX8_leftBehind_34 rfl rfl (by decide) ?_
    refine qX_iload_n 3 dX8_leftBehind_35 rfl rfl ?_
    refine qX_iconst dX8_leftBehind_36 (i32_of rfl) ?_
    obtain ⟨P, hE8, h⟩ := h
    refine qN_callV mX8_job [_, _] _ 8 [_] dX8_leftBehind_37 cm_X8_274 ⟨(Nat.le_of_ble_eq_true rfl), (Nat.le_of_ble_eq_true rfl)⟩ rfl rfl sh178 (Nat.le_of_ble_eq_true rfl) ⟨rfl, rfl⟩ hE8 (fun z5 ρ6 μ7 hz => ?_)
    replace h := h _ _ _ hz
    refine qX_iload_n 1 dX8_leftBehind_40 rfl rfl ?_
    refine qX_icmp_ne 60 dX8_leftBehind_41 rfl (fun hc => ?_) (fun hc => ?_)
    · replace h := h.1 hc
      refine qX_iconst dX8_leftBehind_60 (i32_of rfl) ?_
      refine qR_iadd dX8_leftBehind_61 h.1 ?_
      replace h := h.2
      refine qX_istore_n 2 dX8_leftBehind_62 rfl (Nat.le_of_ble_eq_true rfl) rfl ?_
      refine qR_iinc dX8_leftBehind_63 rfl (Nat.le_of_ble_eq_true rfl) rfl h.1 ?_
      replace h := h.2
      refine qX_goto 22 dX8_leftBehind_66 rfl ?_
      exact qX_mask [true, true, true, true] h
    · replace h := h.2 hc
      refine qX_aload_n 0 dX8_leftBehind_44 rfl rfl (by decide) ?_
      refine qX_getS 8 31 _ 17 dX8_leftBehind_45 fs_X8_67 rfl rfl sh178 (x := 196) rfl ?_
      refine qX_iload_n 3 dX8_leftBehind_48 rfl rfl ?_
      refine qX_iald dX8_leftBehind_49 sh196 h.1 ?_
      replace h := h.2
      refine qX_aload_n 0 dX8_leftBehind_50 rfl rfl (by decide) ?_
      refine qX_getS 8 34 _ 20 dX8_leftBehind_51 fs_X8_76 rfl rfl sh178 (x := 199) rfl ?_
      refine qX_iload_n 3 dX8_leftBehind_54 rfl rfl ?_
      refine qX_iald dX8_leftBehind_55 sh199 h.1 ?_
      replace h := h.2
      refine qR_isub dX8_leftBehind_56 h.1 ?_
      replace h := h.2
      refine qX_goto 61 dX8_leftBehind_57 rfl ?_
      refine qR_iadd dX8_leftBehind_61 h.1 ?_
      replace h := h.2
      refine qX_istore_n 2 dX8_leftBehind_62 rfl (Nat.le_of_ble_eq_true rfl) rfl ?_
      refine qR_iinc dX8_leftBehind_63 rfl (Nat.le_of_ble_eq_true rfl) rfl h.1 ?_
      replace h := h.2
      refine qX_goto 22 dX8_leftBehind_66 rfl ?_
      exact qX_mask [true, true, true, true] h
set_option maxRecDepth 20000 in
theorem e_X8_finalStock {Post : Int → Rf → Mem → Prop} {ρ : Rf} {μ : Mem} {x1 : Int} {x2 : Int}
  (h : ∃ P : Int → Rf → Mem → Prop, qE mX8_isKitchen GG GG [qP 178, qI x1] ρ μ P ∧ ∀ (z1 : Int) (ρ2 : Rf) (μ3 : Mem), P z1 ρ2 μ3 → ((z1 = 0 → qX mX8_finalStock GG Post GG (0, 0) 21 [some (qP 178), some (qI x1), some (qI x2)] [qP 178] ρ2 μ3) ∧ (z1 ≠ 0 → ∃ P : Int → Rf → Mem → Prop, qE mX8_isMeal GG GG [qP 178, qI x2] ρ2 μ3 P ∧ ∀ (z5 : Int) (ρ6 : Rf) (μ7 : Mem), P z5 ρ6 μ7 → ((z5 = 0 → qX mX8_finalStock GG Post GG (0, 0) 21 [some (qP 178), some (qI x1), some (qI x2)] [qP 178] ρ6 μ7) ∧ (z5 ≠ 0 → qX mX8_finalStock GG Post GG (0, 0) 22 [some (qP 178), some (qI x1), some (qI x2)] [qI 1, qP 178] ρ6 μ7))))) : qE mX8_finalStock GG GG [qP 178, qI x1, qI x2] ρ μ Post := by
  refine qE_intro pl_X8_finalStock (Nat.le_of_ble_eq_true rfl) (Nat.le_refl _) ?_
  refine qX_aload_n 0 dX8_finalStock_0 rfl rfl (by decide) ?_
  refine qX_aload_n 0 dX8_finalStock_1 rfl rfl (by decide) ?_
  refine qX_iload_n 1 dX8_finalStock_2 rfl rfl ?_
  obtain ⟨P, hE4, h⟩ := h
  refine qN_callV mX8_isKitchen [_] _ 8 [_] dX8_finalStock_3 cm_X8_257 ⟨(Nat.le_of_ble_eq_true rfl), (Nat.le_of_ble_eq_true rfl)⟩ rfl rfl sh178 (Nat.le_of_ble_eq_true rfl) ⟨rfl, rfl⟩ hE4 (fun z1 ρ2 μ3 hz => ?_)
  replace h := h _ _ _ hz
  refine qX_if_eq 21 dX8_finalStock_6 rfl (fun hc => ?_) (fun hc => ?_)
  · replace h := h.1 hc
    exact qX_mask [true, true, true] h
  · replace h := h.2 hc
    refine qX_aload_n 0 dX8_finalStock_9 rfl rfl (by decide) ?_
    refine qX_iload_n 2 dX8_finalStock_10 rfl rfl ?_
    obtain ⟨P, hE8, h⟩ := h
    refine qN_callV mX8_isMeal [_] _ 8 [_] dX8_finalStock_11 cm_X8_260 ⟨(Nat.le_of_ble_eq_true rfl), (Nat.le_of_ble_eq_true rfl)⟩ rfl rfl sh178 (Nat.le_of_ble_eq_true rfl) ⟨rfl, rfl⟩ hE8 (fun z5 ρ6 μ7 hz => ?_)
    replace h := h _ _ _ hz
    refine qX_if_eq 21 dX8_finalStock_14 rfl (fun hc => ?_) (fun hc => ?_)
    · replace h := h.1 hc
      exact qX_mask [true, true, true] h
    · replace h := h.2 hc
      refine qX_iconst dX8_finalStock_17 (i32_of rfl) ?_
      refine qX_goto 22 dX8_finalStock_18 rfl ?_
      exact qX_mask [true, true, true] h
set_option maxRecDepth 20000 in
theorem w_X8_finalStock_21 {Post : Int → Rf → Mem → Prop} {ρ : Rf} {μ : Mem} {x1 : Int} {x2 : Int}
  (h : qX mX8_finalStock GG Post GG (0, 0) 22 [some (qP 178), some (qI x1), some (qI x2)] [qI 0, qP 178] ρ μ) : qX mX8_finalStock GG Post GG (0, 0) 21 [some (qP 178), some (qI x1), some (qI x2)] [qP 178] ρ μ := by
  refine qX_iconst dX8_finalStock_21 (i32_of rfl) ?_
  exact qX_mask [true, true, true] h
set_option maxRecDepth 20000 in
theorem w_X8_finalStock_22 {Post : Int → Rf → Mem → Prop} {ρ : Rf} {μ : Mem} {s1 : Int} {x1 : Int} {x2 : Int}
  (h : ∃ P : Int → Rf → Mem → Prop, qE mX8_goesFor GG GG [qP 178, qI s1] ρ μ P ∧ ∀ (z1 : Int) (ρ2 : Rf) (μ3 : Mem), P z1 ρ2 μ3 → ((z1 = 0 → ∃ P : Int → Rf → Mem → Prop, qE mX8_failed GG GG [qP 178, qI 1] ρ2 μ3 P ∧ ∀ (z5 : Int) (ρ6 : Rf) (μ7 : Mem), P z5 ρ6 μ7 → Post z5 ρ6 μ7) ∧ (z1 ≠ 0 → i32 (4 * x1) ∧ i32 ((4 * x1) + x2) ∧ (0 ≤ (4 * x1) + x2 ∧ (4 * x1) + x2 < 12) ∧ ∃ P : Int → Rf → Mem → Prop, qE mX8_done GG GG [qP 178, qI (μ3 193 ((4 * x1) + x2))] ρ2 μ3 P ∧ ∀ (z9 : Int) (ρ10 : Rf) (μ11 : Mem), P z9 ρ10 μ11 → Post z9 ρ10 μ11))) : qX mX8_finalStock GG Post GG (0, 0) 22 [some (qP 178), some (qI x1), some (qI x2)] [qI s1, qP 178] ρ μ := by
  obtain ⟨P, hE4, h⟩ := h
  refine qN_callV mX8_goesFor [_] _ 8 [] dX8_finalStock_22 cm_X8_320 ⟨(Nat.le_of_ble_eq_true rfl), (Nat.le_of_ble_eq_true rfl)⟩ rfl rfl sh178 (Nat.le_of_ble_eq_true rfl) ⟨rfl, rfl⟩ hE4 (fun z1 ρ2 μ3 hz => ?_)
  replace h := h _ _ _ hz
  refine qX_if_eq 45 dX8_finalStock_25 rfl (fun hc => ?_) (fun hc => ?_)
  · replace h := h.1 hc
    refine qX_aload_n 0 dX8_finalStock_45 rfl rfl (by decide) ?_
    refine qX_iconst dX8_finalStock_46 (i32_of rfl) ?_
    obtain ⟨P, hE8, h⟩ := h
    refine qN_callV mX8_failed [_] _ 8 [] dX8_finalStock_47 cm_X8_226 ⟨(Nat.le_of_ble_eq_true rfl), (Nat.le_of_ble_eq_true rfl)⟩ rfl rfl sh178 (Nat.le_of_ble_eq_true rfl) ⟨rfl, rfl⟩ hE8 (fun z5 ρ6 μ7 hz => ?_)
    replace h := h _ _ _ hz
    exact qX_ireturn rfl dX8_finalStock_50 rfl ⟨Nat.le_refl _, Nat.le_refl _⟩ h
  · replace h := h.2 hc
    refine qX_aload_n 0 dX8_finalStock_28 rfl rfl (by decide) ?_
    refine qX_aload_n 0 dX8_finalStock_29 rfl rfl (by decide) ?_
    refine qX_getS 8 28 _ 14 dX8_finalStock_30 fs_X8_58 rfl rfl sh178 (x := 193) rfl ?_
    refine qX_iconst dX8_finalStock_33 (i32_of rfl) ?_
    refine qX_iload_n 1 dX8_finalStock_34 rfl rfl ?_
    refine qR_imul dX8_finalStock_35 h.1 ?_
    replace h := h.2
    refine qX_iload_n 2 dX8_finalStock_36 rfl rfl ?_
    refine qR_iadd dX8_finalStock_37 h.1 ?_
    replace h := h.2
    refine qX_iald dX8_finalStock_38 sh193 h.1 ?_
    replace h := h.2
    obtain ⟨P, hE12, h⟩ := h
    refine qN_callV mX8_done [_] _ 8 [] dX8_finalStock_39 cm_X8_246 ⟨(Nat.le_of_ble_eq_true rfl), (Nat.le_of_ble_eq_true rfl)⟩ rfl rfl sh178 (Nat.le_of_ble_eq_true rfl) ⟨rfl, rfl⟩ hE12 (fun z9 ρ10 μ11 hz => ?_)
    replace h := h _ _ _ hz
    refine qX_goto 50 dX8_finalStock_42 rfl ?_
    exact qX_ireturn rfl dX8_finalStock_50 rfl ⟨Nat.le_refl _, Nat.le_refl _⟩ h
set_option maxRecDepth 20000 in
theorem e_X8_shortage {Post : Int → Rf → Mem → Prop} {ρ : Rf} {μ : Mem} {x1 : Int} {x2 : Int} {x3 : Int}
  (h : ∃ P : Int → Rf → Mem → Prop, qE mX8_isCar GG GG [qP 178, qI x1, qI x2] ρ μ P ∧ ∀ (z1 : Int) (ρ2 : Rf) (μ3 : Mem), P z1 ρ2 μ3 → ((z1 = 0 → qX mX8_shortage GG Post GG (0, 0) 22 [some (qP 178), some (qI x1), some (qI x2), some (qI x3)] [qP 178] ρ2 μ3) ∧ (z1 ≠ 0 → ∃ P : Int → Rf → Mem → Prop, qE mX8_isMeal GG GG [qP 178, qI x3] ρ2 μ3 P ∧ ∀ (z5 : Int) (ρ6 : Rf) (μ7 : Mem), P z5 ρ6 μ7 → ((z5 = 0 → qX mX8_shortage GG Post GG (0, 0) 22 [some (qP 178), some (qI x1), some (qI x2), some (qI x3)] [qP 178] ρ6 μ7) ∧ (z5 ≠ 0 → qX mX8_shortage GG Post GG (0, 0) 23 [some (qP 178), some (qI x1), some (qI x2), some (qI x3)] [qI 1, qP 178] ρ6 μ7))))) : qE mX8_shortage GG GG [qP 178, qI x1, qI x2, qI x3] ρ μ Post := by
  refine qE_intro pl_X8_shortage (Nat.le_of_ble_eq_true rfl) (Nat.le_refl _) ?_
  refine qX_aload_n 0 dX8_shortage_0 rfl rfl (by decide) ?_
  refine qX_aload_n 0 dX8_shortage_1 rfl rfl (by decide) ?_
  refine qX_iload_n 1 dX8_shortage_2 rfl rfl ?_
  refine qX_iload_n 2 dX8_shortage_3 rfl rfl ?_
  obtain ⟨P, hE4, h⟩ := h
  refine qN_callV mX8_isCar [_, _] _ 8 [_] dX8_shortage_4 cm_X8_267 ⟨(Nat.le_of_ble_eq_true rfl), (Nat.le_of_ble_eq_true rfl)⟩ rfl rfl sh178 (Nat.le_of_ble_eq_true rfl) ⟨rfl, rfl⟩ hE4 (fun z1 ρ2 μ3 hz => ?_)
  replace h := h _ _ _ hz
  refine qX_if_eq 22 dX8_shortage_7 rfl (fun hc => ?_) (fun hc => ?_)
  · replace h := h.1 hc
    exact qX_mask [true, true, true, true] h
  · replace h := h.2 hc
    refine qX_aload_n 0 dX8_shortage_10 rfl rfl (by decide) ?_
    refine qX_iload_n 3 dX8_shortage_11 rfl rfl ?_
    obtain ⟨P, hE8, h⟩ := h
    refine qN_callV mX8_isMeal [_] _ 8 [_] dX8_shortage_12 cm_X8_260 ⟨(Nat.le_of_ble_eq_true rfl), (Nat.le_of_ble_eq_true rfl)⟩ rfl rfl sh178 (Nat.le_of_ble_eq_true rfl) ⟨rfl, rfl⟩ hE8 (fun z5 ρ6 μ7 hz => ?_)
    replace h := h _ _ _ hz
    refine qX_if_eq 22 dX8_shortage_15 rfl (fun hc => ?_) (fun hc => ?_)
    · replace h := h.1 hc
      exact qX_mask [true, true, true, true] h
    · replace h := h.2 hc
      refine qX_iconst dX8_shortage_18 (i32_of rfl) ?_
      refine qX_goto 23 dX8_shortage_19 rfl ?_
      exact qX_mask [true, true, true, true] h
set_option maxRecDepth 20000 in
theorem w_X8_shortage_22 {Post : Int → Rf → Mem → Prop} {ρ : Rf} {μ : Mem} {x1 : Int} {x2 : Int} {x3 : Int}
  (h : qX mX8_shortage GG Post GG (0, 0) 23 [some (qP 178), some (qI x1), some (qI x2), some (qI x3)] [qI 0, qP 178] ρ μ) : qX mX8_shortage GG Post GG (0, 0) 22 [some (qP 178), some (qI x1), some (qI x2), some (qI x3)] [qP 178] ρ μ := by
  refine qX_iconst dX8_shortage_22 (i32_of rfl) ?_
  exact qX_mask [true, true, true, true] h
set_option maxRecDepth 20000 in
theorem w_X8_shortage_23 {Post : Int → Rf → Mem → Prop} {ρ : Rf} {μ : Mem} {s1 : Int} {x1 : Int} {x2 : Int} {x3 : Int}
  (h : ∃ P : Int → Rf → Mem → Prop, qE mX8_goesFor GG GG [qP 178, qI s1] ρ μ P ∧ ∀ (z1 : Int) (ρ2 : Rf) (μ3 : Mem), P z1 ρ2 μ3 → ((z1 ≠ 0 → ∃ P : Int → Rf → Mem → Prop, qE mX8_demandOf GG GG [qP 178, qI x1, qI x2, qI x3] ρ2 μ3 P ∧ ∀ (z5 : Int) (ρ6 : Rf) (μ7 : Mem), P z5 ρ6 μ7 → ∃ P : Int → Rf → Mem → Prop, qE mX8_deliveredTo GG GG [qP 178, qI x1, qI x2, qI x3] ρ6 μ7 P ∧ ∀ (z9 : Int) (ρ10 : Rf) (μ11 : Mem), P z9 ρ10 μ11 → i32 (z5 - z9) ∧ ∃ P : Int → Rf → Mem → Prop, qE mX8_done GG GG [qP 178, qI (max 0 (z5 - z9))] ρ10 μ11 P ∧ ∀ (z13 : Int) (ρ14 : Rf) (μ15 : Mem), P z13 ρ14 μ15 → Post z13 ρ14 μ15) ∧ (z1 = 0 → ∃ P : Int → Rf → Mem → Prop, qE mX8_failed GG GG [qP 178, qI 1] ρ2 μ3 P ∧ ∀ (z17 : Int) (ρ18 : Rf) (μ19 : Mem), P z17 ρ18 μ19 → Post z17 ρ18 μ19))) : qX mX8_shortage GG Post GG (0, 0) 23 [some (qP 178), some (qI x1), some (qI x2), some (qI x3)] [qI s1, qP 178] ρ μ := by
  obtain ⟨P, hE4, h⟩ := h
  refine qN_callV mX8_goesFor [_] _ 8 [] dX8_shortage_23 cm_X8_320 ⟨(Nat.le_of_ble_eq_true rfl), (Nat.le_of_ble_eq_true rfl)⟩ rfl rfl sh178 (Nat.le_of_ble_eq_true rfl) ⟨rfl, rfl⟩ hE4 (fun z1 ρ2 μ3 hz => ?_)
  replace h := h _ _ _ hz
  refine qX_if_ne 35 dX8_shortage_26 rfl (fun hc => ?_) (fun hc => ?_)
  · replace h := h.1 hc
    refine qX_aload_n 0 dX8_shortage_35 rfl rfl (by decide) ?_
    refine qX_iconst dX8_shortage_36 (i32_of rfl) ?_
    refine qX_aload_n 0 dX8_shortage_37 rfl rfl (by decide) ?_
    refine qX_iload_n 1 dX8_shortage_38 rfl rfl ?_
    refine qX_iload_n 2 dX8_shortage_39 rfl rfl ?_
    refine qX_iload_n 3 dX8_shortage_40 rfl rfl ?_
    obtain ⟨P, hE8, h⟩ := h
    refine qN_callV mX8_demandOf [_, _, _] _ 8 [_, _] dX8_shortage_41 cm_X8_263 ⟨(Nat.le_of_ble_eq_true rfl), (Nat.le_of_ble_eq_true rfl)⟩ rfl rfl sh178 (Nat.le_of_ble_eq_true rfl) ⟨rfl, rfl⟩ hE8 (fun z5 ρ6 μ7 hz => ?_)
    replace h := h _ _ _ hz
    refine qX_aload_n 0 dX8_shortage_44 rfl rfl (by decide) ?_
    refine qX_iload_n 1 dX8_shortage_45 rfl rfl ?_
    refine qX_iload_n 2 dX8_shortage_46 rfl rfl ?_
    refine qX_iload_n 3 dX8_shortage_47 rfl rfl ?_
    obtain ⟨P, hE12, h⟩ := h
    refine qN_callV mX8_deliveredTo [_, _, _] _ 8 [_, _, _] dX8_shortage_48 cm_X8_324 ⟨(Nat.le_of_ble_eq_true rfl), (Nat.le_of_ble_eq_true rfl)⟩ rfl rfl sh178 (Nat.le_of_ble_eq_true rfl) ⟨rfl, rfl⟩ hE12 (fun z9 ρ10 μ11 hz => ?_)
    replace h := h _ _ _ hz
    refine qR_isub dX8_shortage_51 h.1 ?_
    replace h := h.2
    refine qX_max dX8_shortage_52 kM_X8_297 ⟨(Nat.le_of_ble_eq_true rfl), (Nat.le_of_ble_eq_true rfl)⟩ (Nat.le_of_ble_eq_true rfl) ⟨Nat.zero_le _, Nat.zero_le _⟩ ?_
    obtain ⟨P, hE16, h⟩ := h
    refine qN_callV mX8_done [_] _ 8 [] dX8_shortage_55 cm_X8_246 ⟨(Nat.le_of_ble_eq_true rfl), (Nat.le_of_ble_eq_true rfl)⟩ rfl rfl sh178 (Nat.le_of_ble_eq_true rfl) ⟨rfl, rfl⟩ hE16 (fun z13 ρ14 μ15 hz => ?_)
    replace h := h _ _ _ hz
    exact qX_ireturn rfl dX8_shortage_58 rfl ⟨Nat.le_refl _, Nat.le_refl _⟩ h
  · replace h := h.2 hc
    refine qX_aload_n 0 dX8_shortage_29 rfl rfl (by decide) ?_
    refine qX_iconst dX8_shortage_30 (i32_of rfl) ?_
    obtain ⟨P, hE20, h⟩ := h
    refine qN_callV mX8_failed [_] _ 8 [] dX8_shortage_31 cm_X8_226 ⟨(Nat.le_of_ble_eq_true rfl), (Nat.le_of_ble_eq_true rfl)⟩ rfl rfl sh178 (Nat.le_of_ble_eq_true rfl) ⟨rfl, rfl⟩ hE20 (fun z17 ρ18 μ19 hz => ?_)
    replace h := h _ _ _ hz
    exact qX_ireturn rfl dX8_shortage_34 rfl ⟨Nat.le_refl _, Nat.le_refl _⟩ h
set_option maxRecDepth 20000 in
theorem e_X8_longestWait {Post : Int → Rf → Mem → Prop} {ρ : Rf} {μ : Mem} {x1 : Int}
  (h : ∃ P : Int → Rf → Mem → Prop, qE mX8_isTrolley GG GG [qP 178, qI x1] ρ μ P ∧ ∀ (z1 : Int) (ρ2 : Rf) (μ3 : Mem), P z1 ρ2 μ3 → ∃ P : Int → Rf → Mem → Prop, qE mX8_goesFor GG GG [qP 178, qI z1] ρ2 μ3 P ∧ ∀ (z5 : Int) (ρ6 : Rf) (μ7 : Mem), P z5 ρ6 μ7 → ((z5 ≠ 0 → qX mX8_longestWait GG Post GG (0, 0) 22 [some (qP 178), some (qI x1), some (qI 0), some (qI 0)] [] ρ6 μ7) ∧ (z5 = 0 → ∃ P : Int → Rf → Mem → Prop, qE mX8_failed GG GG [qP 178, qI 1] ρ6 μ7 P ∧ ∀ (z9 : Int) (ρ10 : Rf) (μ11 : Mem), P z9 ρ10 μ11 → Post z9 ρ10 μ11))) : qE mX8_longestWait GG GG [qP 178, qI x1] ρ μ Post := by
  refine qE_intro pl_X8_longestWait (Nat.le_of_ble_eq_true rfl) (Nat.le_refl _) ?_
  refine qX_aload_n 0 dX8_longestWait_0 rfl rfl (by decide) ?_
  refine qX_aload_n 0 dX8_longestWait_1 rfl rfl (by decide) ?_
  refine qX_iload_n 1 dX8_longestWait_2 rfl rfl ?_
  obtain ⟨P, hE4, h⟩ := h
  refine qN_callV mX8_isTrolley [_] _ 8 [_] dX8_longestWait_3 cm_X8_330 ⟨(Nat.le_of_ble_eq_true rfl), (Nat.le_of_ble_eq_true rfl)⟩ rfl rfl sh178 (Nat.le_of_ble_eq_true rfl) ⟨rfl, rfl⟩ hE4 (fun z1 ρ2 μ3 hz => ?_)
  replace h := h _ _ _ hz
  obtain ⟨P, hE8, h⟩ := h
  refine qN_callV mX8_goesFor [_] _ 8 [] dX8_longestWait_6 cm_X8_320 ⟨(Nat.le_of_ble_eq_true rfl), (Nat.le_of_ble_eq_true rfl)⟩ rfl rfl sh178 (Nat.le_of_ble_eq_true rfl) ⟨rfl, rfl⟩ hE8 (fun z5 ρ6 μ7 hz => ?_)
  replace h := h _ _ _ hz
  refine qX_if_ne 18 dX8_longestWait_9 rfl (fun hc => ?_) (fun hc => ?_)
  · replace h := h.1 hc
    refine qX_iconst dX8_longestWait_18 (i32_of rfl) ?_
    refine qX_istore_n 2 dX8_longestWait_19 rfl (Nat.le_of_ble_eq_true rfl) rfl ?_
    refine qX_iconst dX8_longestWait_20 (i32_of rfl) ?_
    refine qX_istore_n 3 dX8_longestWait_21 rfl (Nat.le_of_ble_eq_true rfl) rfl ?_
    exact qX_mask [true, true, true, true] h
  · replace h := h.2 hc
    refine qX_aload_n 0 dX8_longestWait_12 rfl rfl (by decide) ?_
    refine qX_iconst dX8_longestWait_13 (i32_of rfl) ?_
    obtain ⟨P, hE12, h⟩ := h
    refine qN_callV mX8_failed [_] _ 8 [] dX8_longestWait_14 cm_X8_226 ⟨(Nat.le_of_ble_eq_true rfl), (Nat.le_of_ble_eq_true rfl)⟩ rfl rfl sh178 (Nat.le_of_ble_eq_true rfl) ⟨rfl, rfl⟩ hE12 (fun z9 ρ10 μ11 hz => ?_)
    replace h := h _ _ _ hz
    exact qX_ireturn rfl dX8_longestWait_17 rfl ⟨Nat.le_refl _, Nat.le_refl _⟩ h
set_option maxRecDepth 20000 in
theorem w_X8_longestWait_22 {Post : Int → Rf → Mem → Prop} {ρ : Rf} {μ : Mem} {x1 : Int} {x2 : Int} {x3 : Int}
  (h : ((μ 180 87 ≤ x3 → ∃ P : Int → Rf → Mem → Prop, qE mX8_done GG GG [qP 178, qI x2] ρ μ P ∧ ∀ (z1 : Int) (ρ2 : Rf) (μ3 : Mem), P z1 ρ2 μ3 → Post z1 ρ2 μ3) ∧ (x3 < μ 180 87 → ∃ P : Int → Rf → Mem → Prop, qE mX8_job GG GG [qP 178, qI x3, qI 0] ρ μ P ∧ ∀ (z5 : Int) (ρ6 : Rf) (μ7 : Mem), P z5 ρ6 μ7 → ((z5 ≠ x1 → i32 (x3 + 1) ∧ qX mX8_longestWait GG Post GG (0, 0) 22 [some (qP 178), some (qI x1), some (qI x2), some (qI (x3 + 1))] [] ρ6 μ7) ∧ (z5 = x1 → (0 ≤ x3 ∧ x3 < 20) ∧ ((μ7 199 x3 ≤ 0 → i32 (x3 + 1) ∧ qX mX8_longestWait GG Post GG (0, 0) 22 [some (qP 178), some (qI x1), some (qI x2), some (qI (x3 + 1))] [] ρ6 μ7) ∧ (0 < μ7 199 x3 → (0 ≤ x3 ∧ x3 < 20) ∧ (0 ≤ x3 ∧ x3 < 20) ∧ i32 ((μ7 198 x3) - (μ7 197 x3)) ∧ i32 (x3 + 1) ∧ qX mX8_longestWait GG Post GG (0, 0) 22 [some (qP 178), some (qI x1), some (qI (max x2 ((μ7 198 x3) - (μ7 197 x3)))), some (qI (x3 + 1))] [] ρ6 μ7))))))) : qX mX8_longestWait GG Post GG (0, 0) 22 [some (qP 178), some (qI x1), some (qI x2), some (qI x3)] [] ρ μ := by
  refine qX_iload_n 3 dX8_longestWait_22 rfl rfl ?_
  refine qX_aload_n 0 dX8_longestWait_23 rfl rfl (by decide) ?_
  refine qX_getS 8 12 _ 1 dX8_longestWait_24 fs_X8_17 rfl rfl sh178 (x := 180) rfl ?_
  refine qX_bip dX8_longestWait_27 rfl ?_
  refine qX_iald dX8_longestWait_29 sh180 ⟨by decide, by decide⟩ ?_
  refine qX_icmp_ge 76 dX8_longestWait_30 rfl (fun hc => ?_) (fun hc => ?_)
  · replace h := h.1 hc
    refine qX_aload_n 0 dX8_longestWait_76 rfl rfl (by decide) ?_
    refine qX_iload_n 2 dX8_longestWait_77 rfl rfl ?_
    obtain ⟨P, hE4, h⟩ := h
    refine qN_callV mX8_done [_] _ 8 [] dX8_longestWait_78 cm_X8_246 ⟨(Nat.le_of_ble_eq_true rfl), (Nat.le_of_ble_eq_true rfl)⟩ rfl rfl sh178 (Nat.le_of_ble_eq_true rfl) ⟨rfl, rfl⟩ hE4 (fun z1 ρ2 μ3 hz => ?_)
    replace h := h _ _ _ hz
    exact qX_ireturn rfl dX8_longestWait_81 rfl ⟨Nat.le_refl _, Nat.le_refl _⟩ h
  · replace h := h.2 hc
    refine qX_aload_n 0 dX8_longestWait_33 rfl rfl (by decide) ?_
    refine qX_iload_n 3 dX8_longestWait_34 rfl rfl ?_
    refine qX_iconst dX8_longestWait_35 (i32_of rfl) ?_
    obtain ⟨P, hE8, h⟩ := h
    refine qN_callV mX8_job [_, _] _ 8 [] dX8_longestWait_36 cm_X8_274 ⟨(Nat.le_of_ble_eq_true rfl), (Nat.le_of_ble_eq_true rfl)⟩ rfl rfl sh178 (Nat.le_of_ble_eq_true rfl) ⟨rfl, rfl⟩ hE8 (fun z5 ρ6 μ7 hz => ?_)
    replace h := h _ _ _ hz
    refine qX_iload_n 1 dX8_longestWait_39 rfl rfl ?_
    refine qX_icmp_ne 70 dX8_longestWait_40 rfl (fun hc => ?_) (fun hc => ?_)
    · replace h := h.1 hc
      refine qR_iinc dX8_longestWait_70 rfl (Nat.le_of_ble_eq_true rfl) rfl h.1 ?_
      replace h := h.2
      refine qX_goto 22 dX8_longestWait_73 rfl ?_
      exact qX_mask [true, true, true, true] h
    · replace h := h.2 hc
      refine qX_aload_n 0 dX8_longestWait_43 rfl rfl (by decide) ?_
      refine qX_getS 8 34 _ 20 dX8_longestWait_44 fs_X8_76 rfl rfl sh178 (x := 199) rfl ?_
      refine qX_iload_n 3 dX8_longestWait_47 rfl rfl ?_
      refine qX_iald dX8_longestWait_48 sh199 h.1 ?_
      replace h := h.2
      refine qX_if_le 70 dX8_longestWait_49 rfl (fun hc => ?_) (fun hc => ?_)
      · replace h := h.1 hc
        refine qR_iinc dX8_longestWait_70 rfl (Nat.le_of_ble_eq_true rfl) rfl h.1 ?_
        replace h := h.2
        refine qX_goto 22 dX8_longestWait_73 rfl ?_
        exact qX_mask [true, true, true, true] h
      · replace h := h.2 hc
        refine qX_iload_n 2 dX8_longestWait_52 rfl rfl ?_
        refine qX_aload_n 0 dX8_longestWait_53 rfl rfl (by decide) ?_
        refine qX_getS 8 33 _ 19 dX8_longestWait_54 fs_X8_73 rfl rfl sh178 (x := 198) rfl ?_
        refine qX_iload_n 3 dX8_longestWait_57 rfl rfl ?_
        refine qX_iald dX8_longestWait_58 sh198 h.1 ?_
        replace h := h.2
        refine qX_aload_n 0 dX8_longestWait_59 rfl rfl (by decide) ?_
        refine qX_getS 8 32 _ 18 dX8_longestWait_60 fs_X8_70 rfl rfl sh178 (x := 197) rfl ?_
        refine qX_iload_n 3 dX8_longestWait_63 rfl rfl ?_
        refine qX_iald dX8_longestWait_64 sh197 h.1 ?_
        replace h := h.2
        refine qR_isub dX8_longestWait_65 h.1 ?_
        replace h := h.2
        refine qX_max dX8_longestWait_66 kM_X8_297 ⟨(Nat.le_of_ble_eq_true rfl), (Nat.le_of_ble_eq_true rfl)⟩ (Nat.le_of_ble_eq_true rfl) ⟨Nat.zero_le _, Nat.zero_le _⟩ ?_
        refine qX_istore_n 2 dX8_longestWait_69 rfl (Nat.le_of_ble_eq_true rfl) rfl ?_
        refine qR_iinc dX8_longestWait_70 rfl (Nat.le_of_ble_eq_true rfl) rfl h.1 ?_
        replace h := h.2
        refine qX_goto 22 dX8_longestWait_73 rfl ?_
        exact qX_mask [true, true, true, true] h
set_option maxRecDepth 20000 in
theorem e_X8_doorBusy {Post : Int → Rf → Mem → Prop} {ρ : Rf} {μ : Mem} {x1 : Int} {x2 : Int}
  (h : ∃ P : Int → Rf → Mem → Prop, qE mX8_isCar GG GG [qP 178, qI x1, qI x2] ρ μ P ∧ ∀ (z1 : Int) (ρ2 : Rf) (μ3 : Mem), P z1 ρ2 μ3 → ∃ P : Int → Rf → Mem → Prop, qE mX8_goesFor GG GG [qP 178, qI z1] ρ2 μ3 P ∧ ∀ (z5 : Int) (ρ6 : Rf) (μ7 : Mem), P z5 ρ6 μ7 → ((z5 ≠ 0 → qX mX8_doorBusy GG Post GG (0, 0) 24 [some (qP 178), some (qI x1), some (qI x2), some (qI 0), some (qI 0)] [] ρ6 μ7) ∧ (z5 = 0 → ∃ P : Int → Rf → Mem → Prop, qE mX8_failed GG GG [qP 178, qI 1] ρ6 μ7 P ∧ ∀ (z9 : Int) (ρ10 : Rf) (μ11 : Mem), P z9 ρ10 μ11 → Post z9 ρ10 μ11))) : qE mX8_doorBusy GG GG [qP 178, qI x1, qI x2] ρ μ Post := by
  refine qE_intro pl_X8_doorBusy (Nat.le_of_ble_eq_true rfl) (Nat.le_refl _) ?_
  refine qX_aload_n 0 dX8_doorBusy_0 rfl rfl (by decide) ?_
  refine qX_aload_n 0 dX8_doorBusy_1 rfl rfl (by decide) ?_
  refine qX_iload_n 1 dX8_doorBusy_2 rfl rfl ?_
  refine qX_iload_n 2 dX8_doorBusy_3 rfl rfl ?_
  obtain ⟨P, hE4, h⟩ := h
  refine qN_callV mX8_isCar [_, _] _ 8 [_] dX8_doorBusy_4 cm_X8_267 ⟨(Nat.le_of_ble_eq_true rfl), (Nat.le_of_ble_eq_true rfl)⟩ rfl rfl sh178 (Nat.le_of_ble_eq_true rfl) ⟨rfl, rfl⟩ hE4 (fun z1 ρ2 μ3 hz => ?_)
  replace h := h _ _ _ hz
  obtain ⟨P, hE8, h⟩ := h
  refine qN_callV mX8_goesFor [_] _ 8 [] dX8_doorBusy_7 cm_X8_320 ⟨(Nat.le_of_ble_eq_true rfl), (Nat.le_of_ble_eq_true rfl)⟩ rfl rfl sh178 (Nat.le_of_ble_eq_true rfl) ⟨rfl, rfl⟩ hE8 (fun z5 ρ6 μ7 hz => ?_)
  replace h := h _ _ _ hz
  refine qX_if_ne 19 dX8_doorBusy_10 rfl (fun hc => ?_) (fun hc => ?_)
  · replace h := h.1 hc
    refine qX_iconst dX8_doorBusy_19 (i32_of rfl) ?_
    refine qX_istore_n 3 dX8_doorBusy_20 rfl (Nat.le_of_ble_eq_true rfl) rfl ?_
    refine qX_iconst dX8_doorBusy_21 (i32_of rfl) ?_
    refine qX_istore dX8_doorBusy_22 (Nat.le_of_ble_eq_true rfl) rfl ?_
    exact qX_mask [true, true, true, true, true] h
  · replace h := h.2 hc
    refine qX_aload_n 0 dX8_doorBusy_13 rfl rfl (by decide) ?_
    refine qX_iconst dX8_doorBusy_14 (i32_of rfl) ?_
    obtain ⟨P, hE12, h⟩ := h
    refine qN_callV mX8_failed [_] _ 8 [] dX8_doorBusy_15 cm_X8_226 ⟨(Nat.le_of_ble_eq_true rfl), (Nat.le_of_ble_eq_true rfl)⟩ rfl rfl sh178 (Nat.le_of_ble_eq_true rfl) ⟨rfl, rfl⟩ hE12 (fun z9 ρ10 μ11 hz => ?_)
    replace h := h _ _ _ hz
    exact qX_ireturn rfl dX8_doorBusy_18 rfl ⟨Nat.le_refl _, Nat.le_refl _⟩ h
set_option maxRecDepth 20000 in
theorem w_X8_doorBusy_24 {Post : Int → Rf → Mem → Prop} {ρ : Rf} {μ : Mem} {x1 : Int} {x2 : Int} {x3 : Int} {x4 : Int}
  (h : ((μ 180 87 ≤ x4 → ∃ P : Int → Rf → Mem → Prop, qE mX8_done GG GG [qP 178, qI x3] ρ μ P ∧ ∀ (z1 : Int) (ρ2 : Rf) (μ3 : Mem), P z1 ρ2 μ3 → Post z1 ρ2 μ3) ∧ (x4 < μ 180 87 → ∃ P : Int → Rf → Mem → Prop, qE mX8_job GG GG [qP 178, qI x4, qI 1] ρ μ P ∧ ∀ (z5 : Int) (ρ6 : Rf) (μ7 : Mem), P z5 ρ6 μ7 → ((z5 ≠ x1 → qX mX8_doorBusy GG Post GG (0, 0) 81 [some (qP 178), some (qI x1), some (qI x2), some (qI x3), some (qI x4)] [] ρ6 μ7) ∧ (z5 = x1 → ∃ P : Int → Rf → Mem → Prop, qE mX8_job GG GG [qP 178, qI x4, qI 2] ρ6 μ7 P ∧ ∀ (z9 : Int) (ρ10 : Rf) (μ11 : Mem), P z9 ρ10 μ11 → ((z9 ≠ x2 → qX mX8_doorBusy GG Post GG (0, 0) 81 [some (qP 178), some (qI x1), some (qI x2), some (qI x3), some (qI x4)] [] ρ10 μ11) ∧ (z9 = x2 → (0 ≤ x4 ∧ x4 < 20) ∧ ∃ P : Int → Rf → Mem → Prop, qE mX8_job GG GG [qP 178, qI x4, qI 0] ρ10 μ11 P ∧ ∀ (z13 : Int) (ρ14 : Rf) (μ15 : Mem), P z13 ρ14 μ15 → ∃ P : Int → Rf → Mem → Prop, qE mX8_trolley GG GG [qP 178, qI z13, qI 4] ρ14 μ15 P ∧ ∀ (z17 : Int) (ρ18 : Rf) (μ19 : Mem), P z17 ρ18 μ19 → i32 ((μ11 199 x4) * z17) ∧ i32 (x3 + ((μ11 199 x4) * z17)) ∧ qX mX8_doorBusy GG Post GG (0, 0) 81 [some (qP 178), some (qI x1), some (qI x2), some (qI (x3 + ((μ11 199 x4) * z17))), some (qI x4)] [] ρ18 μ19))))))) : qX mX8_doorBusy GG Post GG (0, 0) 24 [some (qP 178), some (qI x1), some (qI x2), some (qI x3), some (qI x4)] [] ρ μ := by
  refine qX_iload dX8_doorBusy_24 rfl ?_
  refine qX_aload_n 0 dX8_doorBusy_26 rfl rfl (by decide) ?_
  refine qX_getS 8 12 _ 1 dX8_doorBusy_27 fs_X8_17 rfl rfl sh178 (x := 180) rfl ?_
  refine qX_bip dX8_doorBusy_30 rfl ?_
  refine qX_iald dX8_doorBusy_32 sh180 ⟨by decide, by decide⟩ ?_
  refine qX_icmp_ge 87 dX8_doorBusy_33 rfl (fun hc => ?_) (fun hc => ?_)
  · replace h := h.1 hc
    refine qX_aload_n 0 dX8_doorBusy_87 rfl rfl (by decide) ?_
    refine qX_iload_n 3 dX8_doorBusy_88 rfl rfl ?_
    obtain ⟨P, hE4, h⟩ := h
    refine qN_callV mX8_done [_] _ 8 [] dX8_doorBusy_89 cm_X8_246 ⟨(Nat.le_of_ble_eq_true rfl), (Nat.le_of_ble_eq_true rfl)⟩ rfl rfl sh178 (Nat.le_of_ble_eq_true rfl) ⟨rfl, rfl⟩ hE4 (fun z1 ρ2 μ3 hz => ?_)
    replace h := h _ _ _ hz
    exact qX_ireturn rfl dX8_doorBusy_92 rfl ⟨Nat.le_refl _, Nat.le_refl _⟩ h
  · replace h := h.2 hc
    refine qX_aload_n 0 dX8_doorBusy_36 rfl rfl (by decide) ?_
    refine qX_iload dX8_doorBusy_37 rfl ?_
    refine qX_iconst dX8_doorBusy_39 (i32_of rfl) ?_
    obtain ⟨P, hE8, h⟩ := h
    refine qN_callV mX8_job [_, _] _ 8 [] dX8_doorBusy_40 cm_X8_274 ⟨(Nat.le_of_ble_eq_true rfl), (Nat.le_of_ble_eq_true rfl)⟩ rfl rfl sh178 (Nat.le_of_ble_eq_true rfl) ⟨rfl, rfl⟩ hE8 (fun z5 ρ6 μ7 hz => ?_)
    replace h := h _ _ _ hz
    refine qX_iload_n 1 dX8_doorBusy_43 rfl rfl ?_
    refine qX_icmp_ne 81 dX8_doorBusy_44 rfl (fun hc => ?_) (fun hc => ?_)
    · replace h := h.1 hc
      exact qX_mask [true, true, true, true, true] h
    · replace h := h.2 hc
      refine qX_aload_n 0 dX8_doorBusy_47 rfl rfl (by decide) ?_
      refine qX_iload dX8_doorBusy_48 rfl ?_
      refine qX_iconst dX8_doorBusy_50 (i32_of rfl) ?_
      obtain ⟨P, hE12, h⟩ := h
      refine qN_callV mX8_job [_, _] _ 8 [] dX8_doorBusy_51 cm_X8_274 ⟨(Nat.le_of_ble_eq_true rfl), (Nat.le_of_ble_eq_true rfl)⟩ rfl rfl sh178 (Nat.le_of_ble_eq_true rfl) ⟨rfl, rfl⟩ hE12 (fun z9 ρ10 μ11 hz => ?_)
      replace h := h _ _ _ hz
      refine qX_iload_n 2 dX8_doorBusy_54 rfl rfl ?_
      refine qX_icmp_ne 81 dX8_doorBusy_55 rfl (fun hc => ?_) (fun hc => ?_)
      · replace h := h.1 hc
        exact qX_mask [true, true, true, true, true] h
      · replace h := h.2 hc
        refine qX_iload_n 3 dX8_doorBusy_58 rfl rfl ?_
        refine qX_aload_n 0 dX8_doorBusy_59 rfl rfl (by decide) ?_
        refine qX_getS 8 34 _ 20 dX8_doorBusy_60 fs_X8_76 rfl rfl sh178 (x := 199) rfl ?_
        refine qX_iload dX8_doorBusy_63 rfl ?_
        refine qX_iald dX8_doorBusy_65 sh199 h.1 ?_
        replace h := h.2
        refine qX_aload_n 0 dX8_doorBusy_66 rfl rfl (by decide) ?_
        refine qX_aload_n 0 dX8_doorBusy_67 rfl rfl (by decide) ?_
        refine qX_iload dX8_doorBusy_68 rfl ?_
        refine qX_iconst dX8_doorBusy_70 (i32_of rfl) ?_
        obtain ⟨P, hE16, h⟩ := h
        refine qN_callV mX8_job [_, _] _ 8 [_, _, _] dX8_doorBusy_71 cm_X8_274 ⟨(Nat.le_of_ble_eq_true rfl), (Nat.le_of_ble_eq_true rfl)⟩ rfl rfl sh178 (Nat.le_of_ble_eq_true rfl) ⟨rfl, rfl⟩ hE16 (fun z13 ρ14 μ15 hz => ?_)
        replace h := h _ _ _ hz
        refine qX_iconst dX8_doorBusy_74 (i32_of rfl) ?_
        obtain ⟨P, hE20, h⟩ := h
        refine qN_callV mX8_trolley [_, _] _ 8 [_, _] dX8_doorBusy_75 cm_X8_277 ⟨(Nat.le_of_ble_eq_true rfl), (Nat.le_of_ble_eq_true rfl)⟩ rfl rfl sh178 (Nat.le_of_ble_eq_true rfl) ⟨rfl, rfl⟩ hE20 (fun z17 ρ18 μ19 hz => ?_)
        replace h := h _ _ _ hz
        refine qR_imul dX8_doorBusy_78 h.1 ?_
        replace h := h.2
        refine qR_iadd dX8_doorBusy_79 h.1 ?_
        replace h := h.2
        refine qX_istore_n 3 dX8_doorBusy_80 rfl (Nat.le_of_ble_eq_true rfl) rfl ?_
        exact qX_mask [true, true, true, true, true] h
set_option maxRecDepth 20000 in
theorem w_X8_doorBusy_81 {Post : Int → Rf → Mem → Prop} {ρ : Rf} {μ : Mem} {x1 : Int} {x2 : Int} {x3 : Int} {x4 : Int}
  (h : i32 (x4 + 1) ∧ qX mX8_doorBusy GG Post GG (0, 0) 24 [some (qP 178), some (qI x1), some (qI x2), some (qI x3), some (qI (x4 + 1))] [] ρ μ) : qX mX8_doorBusy GG Post GG (0, 0) 81 [some (qP 178), some (qI x1), some (qI x2), some (qI x3), some (qI x4)] [] ρ μ := by
  refine qR_iinc dX8_doorBusy_81 rfl (Nat.le_of_ble_eq_true rfl) rfl h.1 ?_
  replace h := h.2
  refine qX_goto 24 dX8_doorBusy_84 rfl ?_
  exact qX_mask [true, true, true, true, true] h
set_option maxRecDepth 20000 in
theorem e_X8_isDoing {Post : Int → Rf → Mem → Prop} {ρ : Rf} {μ : Mem} {x1 : Int} {x2 : Int} {x3 : Int} {x4 : Int}
  (h : ((x4 < x3 → ∀ μ1, μ1 = up2 μ 178 36 x1 → ∀ μ2, μ2 = up2 μ1 178 37 x2 → Post 1 ρ μ2) ∧ (x3 ≤ x4 → Post 0 ρ μ))) : qE mX8_isDoing GG GG [qP 178, qI x1, qI x2, qI x3, qI x4] ρ μ Post := by
  refine qE_intro pl_X8_isDoing (Nat.le_of_ble_eq_true rfl) (Nat.le_refl _) ?_
  refine qX_iload_n 3 dX8_isDoing_0 rfl rfl ?_
  refine qX_iload dX8_isDoing_1 rfl ?_
  refine qX_icmp_gt 8 dX8_isDoing_3 rfl (fun hc => ?_) (fun hc => ?_)
  · replace h := h.1 hc
    refine qX_aload_n 0 dX8_isDoing_8 rfl rfl (by decide) ?_
    refine qX_iload_n 1 dX8_isDoing_9 rfl rfl ?_
    refine qX_putI 8 36 _ dX8_isDoing_10 fs_X8_333 sh178 ?_
    replace h := h _ rfl
    refine qX_aload_n 0 dX8_isDoing_13 rfl rfl (by decide) ?_
    refine qX_iload_n 2 dX8_isDoing_14 rfl rfl ?_
    refine qX_putI 8 37 _ dX8_isDoing_15 fs_X8_336 sh178 ?_
    replace h := h _ rfl
    refine qX_iconst dX8_isDoing_18 (i32_of rfl) ?_
    exact qX_zreturn rfl dX8_isDoing_19 rfl ⟨Nat.le_refl _, Nat.le_refl _⟩ (by decide) h
  · replace h := h.2 hc
    refine qX_iconst dX8_isDoing_6 (i32_of rfl) ?_
    exact qX_zreturn rfl dX8_isDoing_7 rfl ⟨Nat.le_refl _, Nat.le_refl _⟩ (by decide) h
set_option maxRecDepth 20000 in
theorem e_X8_findDoing {Post : Int → Rf → Mem → Prop} {ρ : Rf} {μ : Mem} {x1 : Int} {x2 : Int}
  (h : ∀ μ1, μ1 = up2 μ 178 36 0 → qX mX8_findDoing GG Post GG (0, 0) 7 [some (qP 178), some (qI x1), some (qI x2), some (qI 0)] [] ρ μ1) : qE mX8_findDoing GG GG [qP 178, qI x1, qI x2] ρ μ Post := by
  refine qE_intro pl_X8_findDoing (Nat.le_of_ble_eq_true rfl) (Nat.le_refl _) ?_
  refine qX_aload_n 0 dX8_findDoing_0 rfl rfl (by decide) ?_
  refine qX_iconst dX8_findDoing_1 (i32_of rfl) ?_
  refine qX_putI 8 36 _ dX8_findDoing_2 fs_X8_333 sh178 ?_
  replace h := h _ rfl
  refine qX_iconst dX8_findDoing_5 (i32_of rfl) ?_
  refine qX_istore_n 3 dX8_findDoing_6 rfl (Nat.le_of_ble_eq_true rfl) rfl ?_
  exact qX_mask [true, true, true, true] h
set_option maxRecDepth 20000 in
theorem w_X8_findDoing_7 {Post : Int → Rf → Mem → Prop} {ρ : Rf} {μ : Mem} {x1 : Int} {x2 : Int} {x3 : Int}
  (h : ((μ 180 87 ≤ x3 → Post 0 ρ μ) ∧ (x3 < μ 180 87 → ∃ P : Int → Rf → Mem → Prop, qE mX8_job GG GG [qP 178, qI x3, qI 0] ρ μ P ∧ ∀ (z1 : Int) (ρ2 : Rf) (μ3 : Mem), P z1 ρ2 μ3 → ((z1 ≠ x1 → qX mX8_findDoing GG Post GG (0, 0) 160 [some (qP 178), some (qI x1), some (qI x2), some (qI x3)] [] ρ2 μ3) ∧ (z1 = x1 → (0 ≤ x3 ∧ x3 < 20) ∧ ((μ3 196 x3 ≠ 0 → (0 ≤ x3 ∧ x3 < 20) ∧ (0 ≤ x3 ∧ x3 < 20) ∧ ∃ P : Int → Rf → Mem → Prop, qE mX8_trolley GG GG [qP 178, qI x1, qI 3] ρ2 μ3 P ∧ ∀ (z5 : Int) (ρ6 : Rf) (μ7 : Mem), P z5 ρ6 μ7 → i32 ((μ3 196 x3) * z5) ∧ i32 ((μ3 195 x3) + ((μ3 196 x3) * z5)) ∧ ∃ P : Int → Rf → Mem → Prop, qE mX8_isDoing GG GG [qP 178, qI 1, qI x3, qI ((μ3 195 x3) + ((μ3 196 x3) * z5)), qI x2] ρ6 μ7 P ∧ ∀ (z9 : Int) (ρ10 : Rf) (μ11 : Mem), P z9 ρ10 μ11 → ((z9 ≠ 0 → Post 0 ρ10 μ11) ∧ (z9 = 0 → (0 ≤ x3 ∧ x3 < 20) ∧ ∃ P : Int → Rf → Mem → Prop, qE mX8_isDoing GG GG [qP 178, qI 2, qI x3, qI (μ11 197 x3), qI x2] ρ10 μ11 P ∧ ∀ (z13 : Int) (ρ14 : Rf) (μ15 : Mem), P z13 ρ14 μ15 → ((z13 = 0 → (0 ≤ x3 ∧ x3 < 20) ∧ ((μ15 199 x3 ≤ 0 → qX mX8_findDoing GG Post GG (0, 0) 143 [some (qP 178), some (qI x1), some (qI x2), some (qI x3)] [] ρ14 μ15) ∧ (0 < μ15 199 x3 → (0 ≤ x3 ∧ x3 < 20) ∧ ∃ P : Int → Rf → Mem → Prop, qE mX8_isDoing GG GG [qP 178, qI 3, qI x3, qI (μ15 198 x3), qI x2] ρ14 μ15 P ∧ ∀ (z17 : Int) (ρ18 : Rf) (μ19 : Mem), P z17 ρ18 μ19 → ((z17 ≠ 0 → Post 0 ρ18 μ19) ∧ (z17 = 0 → (0 ≤ x3 ∧ x3 < 20) ∧ (0 ≤ x3 ∧ x3 < 20) ∧ ∃ P : Int → Rf → Mem → Prop, qE mX8_trolley GG GG [qP 178, qI x1, qI 4] ρ18 μ19 P ∧ ∀ (z21 : Int) (ρ22 : Rf) (μ23 : Mem), P z21 ρ22 μ23 → i32 ((μ19 199 x3) * z21) ∧ i32 ((μ19 198 x3) + ((μ19 199 x3) * z21)) ∧ ∃ P : Int → Rf → Mem → Prop, qE mX8_isDoing GG GG [qP 178, qI 4, qI x3, qI ((μ19 198 x3) + ((μ19 199 x3) * z21)), qI x2] ρ22 μ23 P ∧ ∀ (z25 : Int) (ρ26 : Rf) (μ27 : Mem), P z25 ρ26 μ27 → ((z25 = 0 → qX mX8_findDoing GG Post GG (0, 0) 143 [some (qP 178), some (qI x1), some (qI x2), some (qI x3)] [] ρ26 μ27) ∧ (z25 ≠ 0 → Post 0 ρ26 μ27))))))) ∧ (z13 ≠ 0 → Post 0 ρ14 μ15))))) ∧ (μ3 196 x3 = 0 → qX mX8_findDoing GG Post GG (0, 0) 160 [some (qP 178), some (qI x1), some (qI x2), some (qI x3)] [] ρ2 μ3))))))) : qX mX8_findDoing GG Post GG (0, 0) 7 [some (qP 178), some (qI x1), some (qI x2), some (qI x3)] [] ρ μ := by
  refine qX_iload_n 3 dX8_findDoing_7 rfl rfl ?_
  refine qX_aload_n 0 dX8_findDoing_8 rfl rfl (by decide) ?_
  refine qX_getS 8 12 _ 1 dX8_findDoing_9 fs_X8_17 rfl rfl sh178 (x := 180) rfl ?_
  refine qX_bip dX8_findDoing_12 rfl ?_
  refine qX_iald dX8_findDoing_14 sh180 ⟨by decide, by decide⟩ ?_
  refine qX_icmp_ge 166 dX8_findDoing_15 rfl (fun hc => ?_) (fun hc => ?_)
  · replace h := h.1 hc
    exact qX_return rfl dX8_findDoing_166 rfl ⟨Nat.le_refl _, Nat.le_refl _⟩ h
  · replace h := h.2 hc
    refine qX_aload_n 0 dX8_findDoing_18 rfl rfl (by decide) ?_
    refine qX_iload_n 3 dX8_findDoing_19 rfl rfl ?_
    refine qX_iconst dX8_findDoing_20 (i32_of rfl) ?_
    obtain ⟨P, hE4, h⟩ := h
    refine qN_callV mX8_job [_, _] _ 8 [] dX8_findDoing_21 cm_X8_274 ⟨(Nat.le_of_ble_eq_true rfl), (Nat.le_of_ble_eq_true rfl)⟩ rfl rfl sh178 (Nat.le_of_ble_eq_true rfl) ⟨rfl, rfl⟩ hE4 (fun z1 ρ2 μ3 hz => ?_)
    replace h := h _ _ _ hz
    refine qX_iload_n 1 dX8_findDoing_24 rfl rfl ?_
    refine qX_icmp_ne 160 dX8_findDoing_25 rfl (fun hc => ?_) (fun hc => ?_)
    · replace h := h.1 hc
      exact qX_mask [true, true, true, true] h
    · replace h := h.2 hc
      refine qX_aload_n 0 dX8_findDoing_28 rfl rfl (by decide) ?_
      refine qX_getS 8 31 _ 17 dX8_findDoing_29 fs_X8_67 rfl rfl sh178 (x := 196) rfl ?_
      refine qX_iload_n 3 dX8_findDoing_32 rfl rfl ?_
      refine qX_iald dX8_findDoing_33 sh196 h.1 ?_
      replace h := h.2
      refine qX_if_ne 40 dX8_findDoing_34 rfl (fun hc => ?_) (fun hc => ?_)
      · replace h := h.1 hc
        refine qX_aload_n 0 dX8_findDoing_40 rfl rfl (by decide) ?_
        refine qX_iconst dX8_findDoing_41 (i32_of rfl) ?_
        refine qX_iload_n 3 dX8_findDoing_42 rfl rfl ?_
        refine qX_aload_n 0 dX8_findDoing_43 rfl rfl (by decide) ?_
        refine qX_getS 8 30 _ 16 dX8_findDoing_44 fs_X8_64 rfl rfl sh178 (x := 195) rfl ?_
        refine qX_iload_n 3 dX8_findDoing_47 rfl rfl ?_
        refine qX_iald dX8_findDoing_48 sh195 h.1 ?_
        replace h := h.2
        refine qX_aload_n 0 dX8_findDoing_49 rfl rfl (by decide) ?_
        refine qX_getS 8 31 _ 17 dX8_findDoing_50 fs_X8_67 rfl rfl sh178 (x := 196) rfl ?_
        refine qX_iload_n 3 dX8_findDoing_53 rfl rfl ?_
        refine qX_iald dX8_findDoing_54 sh196 h.1 ?_
        replace h := h.2
        refine qX_aload_n 0 dX8_findDoing_55 rfl rfl (by decide) ?_
        refine qX_iload_n 1 dX8_findDoing_56 rfl rfl ?_
        refine qX_iconst dX8_findDoing_57 (i32_of rfl) ?_
        obtain ⟨P, hE8, h⟩ := h
        refine qN_callV mX8_trolley [_, _] _ 8 [_, _, _, _, _] dX8_findDoing_58 cm_X8_277 ⟨(Nat.le_of_ble_eq_true rfl), (Nat.le_of_ble_eq_true rfl)⟩ rfl rfl sh178 (Nat.le_of_ble_eq_true rfl) ⟨rfl, rfl⟩ hE8 (fun z5 ρ6 μ7 hz => ?_)
        replace h := h _ _ _ hz
        refine qR_imul dX8_findDoing_61 h.1 ?_
        replace h := h.2
        refine qR_iadd dX8_findDoing_62 h.1 ?_
        replace h := h.2
        refine qX_iload_n 2 dX8_findDoing_63 rfl rfl ?_
        obtain ⟨P, hE12, h⟩ := h
        refine qN_callV mX8_isDoing [_, _, _, _] _ 8 [] dX8_findDoing_64 cm_X8_339 ⟨(Nat.le_of_ble_eq_true rfl), (Nat.le_of_ble_eq_true rfl)⟩ rfl rfl sh178 (Nat.le_of_ble_eq_true rfl) ⟨rfl, rfl⟩ hE12 (fun z9 ρ10 μ11 hz => ?_)
        replace h := h _ _ _ hz
        refine qX_if_ne 86 dX8_findDoing_67 rfl (fun hc => ?_) (fun hc => ?_)
        · replace h := h.1 hc
          exact qX_return rfl dX8_findDoing_86 rfl ⟨Nat.le_refl _, Nat.le_refl _⟩ h
        · replace h := h.2 hc
          refine qX_aload_n 0 dX8_findDoing_70 rfl rfl (by decide) ?_
          refine qX_iconst dX8_findDoing_71 (i32_of rfl) ?_
          refine qX_iload_n 3 dX8_findDoing_72 rfl rfl ?_
          refine qX_aload_n 0 dX8_findDoing_73 rfl rfl (by decide) ?_
          refine qX_getS 8 32 _ 18 dX8_findDoing_74 fs_X8_70 rfl rfl sh178 (x := 197) rfl ?_
          refine qX_iload_n 3 dX8_findDoing_77 rfl rfl ?_
          refine qX_iald dX8_findDoing_78 sh197 h.1 ?_
          replace h := h.2
          refine qX_iload_n 2 dX8_findDoing_79 rfl rfl ?_
          obtain ⟨P, hE16, h⟩ := h
          refine qN_callV mX8_isDoing [_, _, _, _] _ 8 [] dX8_findDoing_80 cm_X8_339 ⟨(Nat.le_of_ble_eq_true rfl), (Nat.le_of_ble_eq_true rfl)⟩ rfl rfl sh178 (Nat.le_of_ble_eq_true rfl) ⟨rfl, rfl⟩ hE16 (fun z13 ρ14 μ15 hz => ?_)
          replace h := h _ _ _ hz
          refine qX_if_eq 87 dX8_findDoing_83 rfl (fun hc => ?_) (fun hc => ?_)
          · replace h := h.1 hc
            refine qX_aload_n 0 dX8_findDoing_87 rfl rfl (by decide) ?_
            refine qX_getS 8 34 _ 20 dX8_findDoing_88 fs_X8_76 rfl rfl sh178 (x := 199) rfl ?_
            refine qX_iload_n 3 dX8_findDoing_91 rfl rfl ?_
            refine qX_iald dX8_findDoing_92 sh199 h.1 ?_
            replace h := h.2
            refine qX_if_le 143 dX8_findDoing_93 rfl (fun hc => ?_) (fun hc => ?_)
            · replace h := h.1 hc
              exact qX_mask [true, true, true, true] h
            · replace h := h.2 hc
              refine qX_aload_n 0 dX8_findDoing_96 rfl rfl (by decide) ?_
              refine qX_iconst dX8_findDoing_97 (i32_of rfl) ?_
              refine qX_iload_n 3 dX8_findDoing_98 rfl rfl ?_
              refine qX_aload_n 0 dX8_findDoing_99 rfl rfl (by decide) ?_
              refine qX_getS 8 33 _ 19 dX8_findDoing_100 fs_X8_73 rfl rfl sh178 (x := 198) rfl ?_
              refine qX_iload_n 3 dX8_findDoing_103 rfl rfl ?_
              refine qX_iald dX8_findDoing_104 sh198 h.1 ?_
              replace h := h.2
              refine qX_iload_n 2 dX8_findDoing_105 rfl rfl ?_
              obtain ⟨P, hE20, h⟩ := h
              refine qN_callV mX8_isDoing [_, _, _, _] _ 8 [] dX8_findDoing_106 cm_X8_339 ⟨(Nat.le_of_ble_eq_true rfl), (Nat.le_of_ble_eq_true rfl)⟩ rfl rfl sh178 (Nat.le_of_ble_eq_true rfl) ⟨rfl, rfl⟩ hE20 (fun z17 ρ18 μ19 hz => ?_)
              replace h := h _ _ _ hz
              refine qX_if_ne 142 dX8_findDoing_109 rfl (fun hc => ?_) (fun hc => ?_)
              · replace h := h.1 hc
                exact qX_return rfl dX8_findDoing_142 rfl ⟨Nat.le_refl _, Nat.le_refl _⟩ h
              · replace h := h.2 hc
                refine qX_aload_n 0 dX8_findDoing_112 rfl rfl (by decide) ?_
                refine qX_iconst dX8_findDoing_113 (i32_of rfl) ?_
                refine qX_iload_n 3 dX8_findDoing_114 rfl rfl ?_
                refine qX_aload_n 0 dX8_findDoing_115 rfl rfl (by decide) ?_
                refine qX_getS 8 33 _ 19 dX8_findDoing_116 fs_X8_73 rfl rfl sh178 (x := 198) rfl ?_
                refine qX_iload_n 3 dX8_findDoing_119 rfl rfl ?_
                refine qX_iald dX8_findDoing_120 sh198 h.1 ?_
                replace h := h.2
                refine qX_aload_n 0 dX8_findDoing_121 rfl rfl (by decide) ?_
                refine qX_getS 8 34 _ 20 dX8_findDoing_122 fs_X8_76 rfl rfl sh178 (x := 199) rfl ?_
                refine qX_iload_n 3 dX8_findDoing_125 rfl rfl ?_
                refine qX_iald dX8_findDoing_126 sh199 h.1 ?_
                replace h := h.2
                refine qX_aload_n 0 dX8_findDoing_127 rfl rfl (by decide) ?_
                refine qX_iload_n 1 dX8_findDoing_128 rfl rfl ?_
                refine qX_iconst dX8_findDoing_129 (i32_of rfl) ?_
                obtain ⟨P, hE24, h⟩ := h
                refine qN_callV mX8_trolley [_, _] _ 8 [_, _, _, _, _] dX8_findDoing_130 cm_X8_277 ⟨(Nat.le_of_ble_eq_true rfl), (Nat.le_of_ble_eq_true rfl)⟩ rfl rfl sh178 (Nat.le_of_ble_eq_true rfl) ⟨rfl, rfl⟩ hE24 (fun z21 ρ22 μ23 hz => ?_)
                replace h := h _ _ _ hz
                refine qR_imul dX8_findDoing_133 h.1 ?_
                replace h := h.2
                refine qR_iadd dX8_findDoing_134 h.1 ?_
                replace h := h.2
                refine qX_iload_n 2 dX8_findDoing_135 rfl rfl ?_
                obtain ⟨P, hE28, h⟩ := h
                refine qN_callV mX8_isDoing [_, _, _, _] _ 8 [] dX8_findDoing_136 cm_X8_339 ⟨(Nat.le_of_ble_eq_true rfl), (Nat.le_of_ble_eq_true rfl)⟩ rfl rfl sh178 (Nat.le_of_ble_eq_true rfl) ⟨rfl, rfl⟩ hE28 (fun z25 ρ26 μ27 hz => ?_)
                replace h := h _ _ _ hz
                refine qX_if_eq 143 dX8_findDoing_139 rfl (fun hc => ?_) (fun hc => ?_)
                · replace h := h.1 hc
                  exact qX_mask [true, true, true, true] h
                · replace h := h.2 hc
                  exact qX_return rfl dX8_findDoing_142 rfl ⟨Nat.le_refl _, Nat.le_refl _⟩ h
          · replace h := h.2 hc
            exact qX_return rfl dX8_findDoing_86 rfl ⟨Nat.le_refl _, Nat.le_refl _⟩ h
      · replace h := h.2 hc
        refine qX_goto 160 dX8_findDoing_37 rfl ?_
        exact qX_mask [true, true, true, true] h
set_option maxRecDepth 20000 in
theorem w_X8_findDoing_160 {Post : Int → Rf → Mem → Prop} {ρ : Rf} {μ : Mem} {x1 : Int} {x2 : Int} {x3 : Int}
  (h : i32 (x3 + 1) ∧ qX mX8_findDoing GG Post GG (0, 0) 7 [some (qP 178), some (qI x1), some (qI x2), some (qI (x3 + 1))] [] ρ μ) : qX mX8_findDoing GG Post GG (0, 0) 160 [some (qP 178), some (qI x1), some (qI x2), some (qI x3)] [] ρ μ := by
  refine qR_iinc dX8_findDoing_160 rfl (Nat.le_of_ble_eq_true rfl) rfl h.1 ?_
  replace h := h.2
  refine qX_goto 7 dX8_findDoing_163 rfl ?_
  exact qX_mask [true, true, true, true] h
set_option maxRecDepth 20000 in
theorem w_X8_findDoing_143 {Post : Int → Rf → Mem → Prop} {ρ : Rf} {μ : Mem} {x1 : Int} {x2 : Int} {x3 : Int}
  (h : (0 ≤ x3 ∧ x3 < 20) ∧ ∃ P : Int → Rf → Mem → Prop, qE mX8_isDoing GG GG [qP 178, qI 5, qI x3, qI (μ 200 x3), qI x2] ρ μ P ∧ ∀ (z1 : Int) (ρ2 : Rf) (μ3 : Mem), P z1 ρ2 μ3 → ((z1 = 0 → qX mX8_findDoing GG Post GG (0, 0) 160 [some (qP 178), some (qI x1), some (qI x2), some (qI x3)] [] ρ2 μ3) ∧ (z1 ≠ 0 → Post 0 ρ2 μ3))) : qX mX8_findDoing GG Post GG (0, 0) 143 [some (qP 178), some (qI x1), some (qI x2), some (qI x3)] [] ρ μ := by
  refine qX_aload_n 0 dX8_findDoing_143 rfl rfl (by decide) ?_
  refine qX_iconst dX8_findDoing_144 (i32_of rfl) ?_
  refine qX_iload_n 3 dX8_findDoing_145 rfl rfl ?_
  refine qX_aload_n 0 dX8_findDoing_146 rfl rfl (by decide) ?_
  refine qX_getS 8 35 _ 21 dX8_findDoing_147 fs_X8_79 rfl rfl sh178 (x := 200) rfl ?_
  refine qX_iload_n 3 dX8_findDoing_150 rfl rfl ?_
  refine qX_iald dX8_findDoing_151 sh200 h.1 ?_
  replace h := h.2
  refine qX_iload_n 2 dX8_findDoing_152 rfl rfl ?_
  obtain ⟨P, hE4, h⟩ := h
  refine qN_callV mX8_isDoing [_, _, _, _] _ 8 [] dX8_findDoing_153 cm_X8_339 ⟨(Nat.le_of_ble_eq_true rfl), (Nat.le_of_ble_eq_true rfl)⟩ rfl rfl sh178 (Nat.le_of_ble_eq_true rfl) ⟨rfl, rfl⟩ hE4 (fun z1 ρ2 μ3 hz => ?_)
  replace h := h _ _ _ hz
  refine qX_if_eq 160 dX8_findDoing_156 rfl (fun hc => ?_) (fun hc => ?_)
  · replace h := h.1 hc
    exact qX_mask [true, true, true, true] h
  · replace h := h.2 hc
    exact qX_return rfl dX8_findDoing_159 rfl ⟨Nat.le_refl _, Nat.le_refl _⟩ h
set_option maxRecDepth 20000 in
theorem e_X8_stateAt {Post : Int → Rf → Mem → Prop} {ρ : Rf} {μ : Mem} {x1 : Int} {x2 : Int}
  (h : ∀ μ1, μ1 = up2 μ 178 0 0 → ∃ P : Int → Rf → Mem → Prop, qE mX8_isTrolley GG GG [qP 178, qI x1] ρ μ1 P ∧ ∀ (z2 : Int) (ρ3 : Rf) (μ4 : Mem), P z2 ρ3 μ4 → ((z2 ≠ 0 → ∃ P : Int → Rf → Mem → Prop, qE mX8_in GG GG [qI x2, qI 0, qI 9999] ρ3 μ4 P ∧ ∀ (z6 : Int) (ρ7 : Rf) (μ8 : Mem), P z6 ρ7 μ8 → ((z6 ≠ 0 → ∃ P : Int → Rf → Mem → Prop, qE mX8_goAll GG GG [qP 178] ρ7 μ8 P ∧ ∀ (z10 : Int) (ρ11 : Rf) (μ12 : Mem), P z10 ρ11 μ12 → ∃ P : Int → Rf → Mem → Prop, qE mX8_findDoing GG GG [qP 178, qI x1, qI x2] ρ11 μ12 P ∧ ∀ (z14 : Int) (ρ15 : Rf) (μ16 : Mem), P z14 ρ15 μ16 → ∃ P : Int → Rf → Mem → Prop, qE mX8_done GG GG [qP 178, qI (μ16 178 36)] ρ15 μ16 P ∧ ∀ (z18 : Int) (ρ19 : Rf) (μ20 : Mem), P z18 ρ19 μ20 → Post z18 ρ19 μ20) ∧ (z6 = 0 → ∃ P : Int → Rf → Mem → Prop, qE mX8_failed GG GG [qP 178, qI 2] ρ7 μ8 P ∧ ∀ (z22 : Int) (ρ23 : Rf) (μ24 : Mem), P z22 ρ23 μ24 → Post z22 ρ23 μ24))) ∧ (z2 = 0 → ∃ P : Int → Rf → Mem → Prop, qE mX8_failed GG GG [qP 178, qI 1] ρ3 μ4 P ∧ ∀ (z26 : Int) (ρ27 : Rf) (μ28 : Mem), P z26 ρ27 μ28 → Post z26 ρ27 μ28))) : qE mX8_stateAt GG GG [qP 178, qI x1, qI x2] ρ μ Post := by
  refine qE_intro pl_X8_stateAt (Nat.le_of_ble_eq_true rfl) (Nat.le_refl _) ?_
  refine qX_aload_n 0 dX8_stateAt_0 rfl rfl (by decide) ?_
  refine qX_iconst dX8_stateAt_1 (i32_of rfl) ?_
  refine qX_putI 8 0 _ dX8_stateAt_2 fs_X8_103 sh178 ?_
  replace h := h _ rfl
  refine qX_aload_n 0 dX8_stateAt_5 rfl rfl (by decide) ?_
  refine qX_iload_n 1 dX8_stateAt_6 rfl rfl ?_
  obtain ⟨P, hE5, h⟩ := h
  refine qN_callV mX8_isTrolley [_] _ 8 [] dX8_stateAt_7 cm_X8_330 ⟨(Nat.le_of_ble_eq_true rfl), (Nat.le_of_ble_eq_true rfl)⟩ rfl rfl sh178 (Nat.le_of_ble_eq_true rfl) ⟨rfl, rfl⟩ hE5 (fun z2 ρ3 μ4 hz => ?_)
  replace h := h _ _ _ hz
  refine qX_if_ne 19 dX8_stateAt_10 rfl (fun hc => ?_) (fun hc => ?_)
  · replace h := h.1 hc
    refine qX_iload_n 2 dX8_stateAt_19 rfl rfl ?_
    refine qX_iconst dX8_stateAt_20 (i32_of rfl) ?_
    refine qX_sip dX8_stateAt_21 rfl ?_
    obtain ⟨P, hE9, h⟩ := h
    refine qN_callS mX8_in [_, _, _] [] dX8_stateAt_24 cm_X8_142 ⟨(Nat.le_of_ble_eq_true rfl), (Nat.le_of_ble_eq_true rfl)⟩ rfl rfl (Nat.le_of_ble_eq_true rfl) ⟨rfl, rfl⟩ hE9 (fun z6 ρ7 μ8 hz => ?_)
    replace h := h _ _ _ hz
    refine qX_if_ne 36 dX8_stateAt_27 rfl (fun hc => ?_) (fun hc => ?_)
    · replace h := h.1 hc
      refine qX_aload_n 0 dX8_stateAt_36 rfl rfl (by decide) ?_
      obtain ⟨P, hE13, h⟩ := h
      refine qN_callV mX8_goAll [] _ 8 [] dX8_stateAt_37 cm_X8_317 ⟨(Nat.le_of_ble_eq_true rfl), (Nat.le_of_ble_eq_true rfl)⟩ rfl rfl sh178 (Nat.le_of_ble_eq_true rfl) ⟨rfl, rfl⟩ hE13 (fun z10 ρ11 μ12 hz => ?_)
      replace h := h _ _ _ hz
      refine qX_aload_n 0 dX8_stateAt_40 rfl rfl (by decide) ?_
      refine qX_iload_n 1 dX8_stateAt_41 rfl rfl ?_
      refine qX_iload_n 2 dX8_stateAt_42 rfl rfl ?_
      obtain ⟨P, hE17, h⟩ := h
      refine qN_callV mX8_findDoing [_, _] _ 8 [] dX8_stateAt_43 cm_X8_343 ⟨(Nat.le_of_ble_eq_true rfl), (Nat.le_of_ble_eq_true rfl)⟩ rfl rfl sh178 (Nat.le_of_ble_eq_true rfl) ⟨rfl, rfl⟩ hE17 (fun z14 ρ15 μ16 hz => ?_)
      replace h := h _ _ _ hz
      refine qX_aload_n 0 dX8_stateAt_46 rfl rfl (by decide) ?_
      refine qX_aload_n 0 dX8_stateAt_47 rfl rfl (by decide) ?_
      refine qX_getI 8 36 _ dX8_stateAt_48 fs_X8_333 sh178 ?_
      obtain ⟨P, hE21, h⟩ := h
      refine qN_callV mX8_done [_] _ 8 [] dX8_stateAt_51 cm_X8_246 ⟨(Nat.le_of_ble_eq_true rfl), (Nat.le_of_ble_eq_true rfl)⟩ rfl rfl sh178 (Nat.le_of_ble_eq_true rfl) ⟨rfl, rfl⟩ hE21 (fun z18 ρ19 μ20 hz => ?_)
      replace h := h _ _ _ hz
      exact qX_ireturn rfl dX8_stateAt_54 rfl ⟨Nat.le_refl _, Nat.le_refl _⟩ h
    · replace h := h.2 hc
      refine qX_aload_n 0 dX8_stateAt_30 rfl rfl (by decide) ?_
      refine qX_iconst dX8_stateAt_31 (i32_of rfl) ?_
      obtain ⟨P, hE25, h⟩ := h
      refine qN_callV mX8_failed [_] _ 8 [] dX8_stateAt_32 cm_X8_226 ⟨(Nat.le_of_ble_eq_true rfl), (Nat.le_of_ble_eq_true rfl)⟩ rfl rfl sh178 (Nat.le_of_ble_eq_true rfl) ⟨rfl, rfl⟩ hE25 (fun z22 ρ23 μ24 hz => ?_)
      replace h := h _ _ _ hz
      exact qX_ireturn rfl dX8_stateAt_35 rfl ⟨Nat.le_refl _, Nat.le_refl _⟩ h
  · replace h := h.2 hc
    refine qX_aload_n 0 dX8_stateAt_13 rfl rfl (by decide) ?_
    refine qX_iconst dX8_stateAt_14 (i32_of rfl) ?_
    obtain ⟨P, hE29, h⟩ := h
    refine qN_callV mX8_failed [_] _ 8 [] dX8_stateAt_15 cm_X8_226 ⟨(Nat.le_of_ble_eq_true rfl), (Nat.le_of_ble_eq_true rfl)⟩ rfl rfl sh178 (Nat.le_of_ble_eq_true rfl) ⟨rfl, rfl⟩ hE29 (fun z26 ρ27 μ28 hz => ?_)
    replace h := h _ _ _ hz
    exact qX_ireturn rfl dX8_stateAt_18 rfl ⟨Nat.le_refl _, Nat.le_refl _⟩ h
set_option maxRecDepth 20000 in
theorem e_X8_mealsOn {Post : Int → Rf → Mem → Prop} {ρ : Rf} {μ : Mem} {x1 : Int} {x2 : Int}
  (h : ∀ μ1, μ1 = up2 μ 178 0 0 → ∃ P : Int → Rf → Mem → Prop, qE mX8_isTrolley GG GG [qP 178, qI x1] ρ μ1 P ∧ ∀ (z2 : Int) (ρ3 : Rf) (μ4 : Mem), P z2 ρ3 μ4 → ((z2 ≠ 0 → ∃ P : Int → Rf → Mem → Prop, qE mX8_in GG GG [qI x2, qI 0, qI 9999] ρ3 μ4 P ∧ ∀ (z6 : Int) (ρ7 : Rf) (μ8 : Mem), P z6 ρ7 μ8 → ((z6 ≠ 0 → ∃ P : Int → Rf → Mem → Prop, qE mX8_goAll GG GG [qP 178] ρ7 μ8 P ∧ ∀ (z10 : Int) (ρ11 : Rf) (μ12 : Mem), P z10 ρ11 μ12 → ∃ P : Int → Rf → Mem → Prop, qE mX8_findDoing GG GG [qP 178, qI x1, qI x2] ρ11 μ12 P ∧ ∀ (z14 : Int) (ρ15 : Rf) (μ16 : Mem), P z14 ρ15 μ16 → (((μ16 178 36 < 0 ∨ 5 < μ16 178 36) → (0 ≤ μ16 178 37 ∧ μ16 178 37 < 20) ∧ ∃ P : Int → Rf → Mem → Prop, qE mX8_done GG GG [qP 178, qI (μ16 196 (μ16 178 37))] ρ15 μ16 P ∧ ∀ (z18 : Int) (ρ19 : Rf) (μ20 : Mem), P z18 ρ19 μ20 → Post z18 ρ19 μ20) ∧ (μ16 178 36 = 0 → ∃ P : Int → Rf → Mem → Prop, qE mX8_done GG GG [qP 178, qI 0] ρ15 μ16 P ∧ ∀ (z22 : Int) (ρ23 : Rf) (μ24 : Mem), P z22 ρ23 μ24 → Post z22 ρ23 μ24) ∧ (μ16 178 36 = 1 → (0 ≤ μ16 178 37 ∧ μ16 178 37 < 20) ∧ i32 (x2 - (μ16 195 (μ16 178 37))) ∧ ∃ P : Int → Rf → Mem → Prop, qE mX8_trolley GG GG [qP 178, qI x1, qI 3] ρ15 μ16 P ∧ ∀ (z26 : Int) (ρ27 : Rf) (μ28 : Mem), P z26 ρ27 μ28 → (0 ≤ x2 - (μ16 195 (μ16 178 37)) ∧ 0 < z26) ∧ ∃ P : Int → Rf → Mem → Prop, qE mX8_done GG GG [qP 178, qI ((x2 - (μ16 195 (μ16 178 37))) / z26)] ρ27 μ28 P ∧ ∀ (z30 : Int) (ρ31 : Rf) (μ32 : Mem), P z30 ρ31 μ32 → Post z30 ρ31 μ32) ∧ (μ16 178 36 = 2 → (0 ≤ μ16 178 37 ∧ μ16 178 37 < 20) ∧ ∃ P : Int → Rf → Mem → Prop, qE mX8_done GG GG [qP 178, qI (μ16 196 (μ16 178 37))] ρ15 μ16 P ∧ ∀ (z34 : Int) (ρ35 : Rf) (μ36 : Mem), P z34 ρ35 μ36 → Post z34 ρ35 μ36) ∧ (μ16 178 36 = 3 → (0 ≤ μ16 178 37 ∧ μ16 178 37 < 20) ∧ ∃ P : Int → Rf → Mem → Prop, qE mX8_done GG GG [qP 178, qI (μ16 196 (μ16 178 37))] ρ15 μ16 P ∧ ∀ (z38 : Int) (ρ39 : Rf) (μ40 : Mem), P z38 ρ39 μ40 → Post z38 ρ39 μ40) ∧ (μ16 178 36 = 4 → (0 ≤ μ16 178 37 ∧ μ16 178 37 < 20) ∧ (0 ≤ μ16 178 37 ∧ μ16 178 37 < 20) ∧ i32 (x2 - (μ16 198 (μ16 178 37))) ∧ ∃ P : Int → Rf → Mem → Prop, qE mX8_trolley GG GG [qP 178, qI x1, qI 4] ρ15 μ16 P ∧ ∀ (z42 : Int) (ρ43 : Rf) (μ44 : Mem), P z42 ρ43 μ44 → (0 ≤ x2 - (μ16 198 (μ16 178 37)) ∧ 0 < z42) ∧ i32 ((μ16 196 (μ16 178 37)) - ((x2 - (μ16 198 (μ16 178 37))) / z42)) ∧ ∃ P : Int → Rf → Mem → Prop, qE mX8_done GG GG [qP 178, qI ((μ16 196 (μ16 178 37)) - ((x2 - (μ16 198 (μ16 178 37))) / z42))] ρ43 μ44 P ∧ ∀ (z46 : Int) (ρ47 : Rf) (μ48 : Mem), P z46 ρ47 μ48 → Post z46 ρ47 μ48) ∧ (μ16 178 36 = 5 → (0 ≤ μ16 178 37 ∧ μ16 178 37 < 20) ∧ (0 ≤ μ16 178 37 ∧ μ16 178 37 < 20) ∧ i32 ((μ16 196 (μ16 178 37)) - (μ16 199 (μ16 178 37))) ∧ ∃ P : Int → Rf → Mem → Prop, qE mX8_done GG GG [qP 178, qI ((μ16 196 (μ16 178 37)) - (μ16 199 (μ16 178 37)))] ρ15 μ16 P ∧ ∀ (z50 : Int) (ρ51 : Rf) (μ52 : Mem), P z50 ρ51 μ52 → Post z50 ρ51 μ52))) ∧ (z6 = 0 → ∃ P : Int → Rf → Mem → Prop, qE mX8_failed GG GG [qP 178, qI 2] ρ7 μ8 P ∧ ∀ (z54 : Int) (ρ55 : Rf) (μ56 : Mem), P z54 ρ55 μ56 → Post z54 ρ55 μ56))) ∧ (z2 = 0 → ∃ P : Int → Rf → Mem → Prop, qE mX8_failed GG GG [qP 178, qI 1] ρ3 μ4 P ∧ ∀ (z58 : Int) (ρ59 : Rf) (μ60 : Mem), P z58 ρ59 μ60 → Post z58 ρ59 μ60))) : qE mX8_mealsOn GG GG [qP 178, qI x1, qI x2] ρ μ Post := by
  refine qE_intro pl_X8_mealsOn (Nat.le_of_ble_eq_true rfl) (Nat.le_refl _) ?_
  refine qX_aload_n 0 dX8_mealsOn_0 rfl rfl (by decide) ?_
  refine qX_iconst dX8_mealsOn_1 (i32_of rfl) ?_
  refine qX_putI 8 0 _ dX8_mealsOn_2 fs_X8_103 sh178 ?_
  replace h := h _ rfl
  refine qX_aload_n 0 dX8_mealsOn_5 rfl rfl (by decide) ?_
  refine qX_iload_n 1 dX8_mealsOn_6 rfl rfl ?_
  obtain ⟨P, hE5, h⟩ := h
  refine qN_callV mX8_isTrolley [_] _ 8 [] dX8_mealsOn_7 cm_X8_330 ⟨(Nat.le_of_ble_eq_true rfl), (Nat.le_of_ble_eq_true rfl)⟩ rfl rfl sh178 (Nat.le_of_ble_eq_true rfl) ⟨rfl, rfl⟩ hE5 (fun z2 ρ3 μ4 hz => ?_)
  replace h := h _ _ _ hz
  refine qX_if_ne 19 dX8_mealsOn_10 rfl (fun hc => ?_) (fun hc => ?_)
  · replace h := h.1 hc
    refine qX_iload_n 2 dX8_mealsOn_19 rfl rfl ?_
    refine qX_iconst dX8_mealsOn_20 (i32_of rfl) ?_
    refine qX_sip dX8_mealsOn_21 rfl ?_
    obtain ⟨P, hE9, h⟩ := h
    refine qN_callS mX8_in [_, _, _] [] dX8_mealsOn_24 cm_X8_142 ⟨(Nat.le_of_ble_eq_true rfl), (Nat.le_of_ble_eq_true rfl)⟩ rfl rfl (Nat.le_of_ble_eq_true rfl) ⟨rfl, rfl⟩ hE9 (fun z6 ρ7 μ8 hz => ?_)
    replace h := h _ _ _ hz
    refine qX_if_ne 36 dX8_mealsOn_27 rfl (fun hc => ?_) (fun hc => ?_)
    · replace h := h.1 hc
      refine qX_aload_n 0 dX8_mealsOn_36 rfl rfl (by decide) ?_
      obtain ⟨P, hE13, h⟩ := h
      refine qN_callV mX8_goAll [] _ 8 [] dX8_mealsOn_37 cm_X8_317 ⟨(Nat.le_of_ble_eq_true rfl), (Nat.le_of_ble_eq_true rfl)⟩ rfl rfl sh178 (Nat.le_of_ble_eq_true rfl) ⟨rfl, rfl⟩ hE13 (fun z10 ρ11 μ12 hz => ?_)
      replace h := h _ _ _ hz
      refine qX_aload_n 0 dX8_mealsOn_40 rfl rfl (by decide) ?_
      refine qX_iload_n 1 dX8_mealsOn_41 rfl rfl ?_
      refine qX_iload_n 2 dX8_mealsOn_42 rfl rfl ?_
      obtain ⟨P, hE17, h⟩ := h
      refine qN_callV mX8_findDoing [_, _] _ 8 [] dX8_mealsOn_43 cm_X8_343 ⟨(Nat.le_of_ble_eq_true rfl), (Nat.le_of_ble_eq_true rfl)⟩ rfl rfl sh178 (Nat.le_of_ble_eq_true rfl) ⟨rfl, rfl⟩ hE17 (fun z14 ρ15 μ16 hz => ?_)
      replace h := h _ _ _ hz
      refine qX_aload_n 0 dX8_mealsOn_46 rfl rfl (by decide) ?_
      refine qX_getI 8 37 _ dX8_mealsOn_47 fs_X8_336 sh178 ?_
      refine qX_istore_n 3 dX8_mealsOn_50 rfl (Nat.le_of_ble_eq_true rfl) rfl ?_
      refine qX_aload_n 0 dX8_mealsOn_51 rfl rfl (by decide) ?_
      refine qX_getI 8 36 _ dX8_mealsOn_52 fs_X8_333 sh178 ?_
      refine qX_tswN 163 dX8_mealsOn_55 rfl (fun hc => ?_) (fun j hj hc => ?_)
      · replace h := h.1 hc
        refine qX_aload_n 0 dX8_mealsOn_163 rfl rfl (by decide) ?_
        refine qX_aload_n 0 dX8_mealsOn_164 rfl rfl (by decide) ?_
        refine qX_getS 8 31 _ 17 dX8_mealsOn_165 fs_X8_67 rfl rfl sh178 (x := 196) rfl ?_
        refine qX_iload_n 3 dX8_mealsOn_168 rfl rfl ?_
        refine qX_iald dX8_mealsOn_169 sh196 h.1 ?_
        replace h := h.2
        obtain ⟨P, hE21, h⟩ := h
        refine qN_callV mX8_done [_] _ 8 [] dX8_mealsOn_170 cm_X8_246 ⟨(Nat.le_of_ble_eq_true rfl), (Nat.le_of_ble_eq_true rfl)⟩ rfl rfl sh178 (Nat.le_of_ble_eq_true rfl) ⟨rfl, rfl⟩ hE21 (fun z18 ρ19 μ20 hz => ?_)
        replace h := h _ _ _ hz
        exact qX_ireturn rfl dX8_mealsOn_173 rfl ⟨Nat.le_refl _, Nat.le_refl _⟩ h
      · match j, hj, hc with
        | 0, _, hc =>
          refine ⟨92, _, rfl, rfl, ?_⟩
          replace h := h.2.1 hc
          refine qX_aload_n 0 dX8_mealsOn_92 rfl rfl (by decide) ?_
          refine qX_iconst dX8_mealsOn_93 (i32_of rfl) ?_
          obtain ⟨P, hE25, h⟩ := h
          refine qN_callV mX8_done [_] _ 8 [] dX8_mealsOn_94 cm_X8_246 ⟨(Nat.le_of_ble_eq_true rfl), (Nat.le_of_ble_eq_true rfl)⟩ rfl rfl sh178 (Nat.le_of_ble_eq_true rfl) ⟨rfl, rfl⟩ hE25 (fun z22 ρ23 μ24 hz => ?_)
          replace h := h _ _ _ hz
          exact qX_ireturn rfl dX8_mealsOn_97 rfl ⟨Nat.le_refl _, Nat.le_refl _⟩ h
        | 1, _, hc =>
          refine ⟨98, _, rfl, rfl, ?_⟩
          replace h := h.2.2.1 hc
          refine qX_aload_n 0 dX8_mealsOn_98 rfl rfl (by decide) ?_
          refine qX_iload_n 2 dX8_mealsOn_99 rfl rfl ?_
          refine qX_aload_n 0 dX8_mealsOn_100 rfl rfl (by decide) ?_
          refine qX_getS 8 30 _ 16 dX8_mealsOn_101 fs_X8_64 rfl rfl sh178 (x := 195) rfl ?_
          refine qX_iload_n 3 dX8_mealsOn_104 rfl rfl ?_
          refine qX_iald dX8_mealsOn_105 sh195 h.1 ?_
          replace h := h.2
          refine qR_isub dX8_mealsOn_106 h.1 ?_
          replace h := h.2
          refine qX_aload_n 0 dX8_mealsOn_107 rfl rfl (by decide) ?_
          refine qX_iload_n 1 dX8_mealsOn_108 rfl rfl ?_
          refine qX_iconst dX8_mealsOn_109 (i32_of rfl) ?_
          obtain ⟨P, hE29, h⟩ := h
          refine qN_callV mX8_trolley [_, _] _ 8 [_, _] dX8_mealsOn_110 cm_X8_277 ⟨(Nat.le_of_ble_eq_true rfl), (Nat.le_of_ble_eq_true rfl)⟩ rfl rfl sh178 (Nat.le_of_ble_eq_true rfl) ⟨rfl, rfl⟩ hE29 (fun z26 ρ27 μ28 hz => ?_)
          replace h := h _ _ _ hz
          refine qR_idiv dX8_mealsOn_113 h.1 ?_
          replace h := h.2
          obtain ⟨P, hE33, h⟩ := h
          refine qN_callV mX8_done [_] _ 8 [] dX8_mealsOn_114 cm_X8_246 ⟨(Nat.le_of_ble_eq_true rfl), (Nat.le_of_ble_eq_true rfl)⟩ rfl rfl sh178 (Nat.le_of_ble_eq_true rfl) ⟨rfl, rfl⟩ hE33 (fun z30 ρ31 μ32 hz => ?_)
          replace h := h _ _ _ hz
          exact qX_ireturn rfl dX8_mealsOn_117 rfl ⟨Nat.le_refl _, Nat.le_refl _⟩ h
        | 2, _, hc =>
          refine ⟨163, _, rfl, rfl, ?_⟩
          replace h := h.2.2.2.1 hc
          refine qX_aload_n 0 dX8_mealsOn_163 rfl rfl (by decide) ?_
          refine qX_aload_n 0 dX8_mealsOn_164 rfl rfl (by decide) ?_
          refine qX_getS 8 31 _ 17 dX8_mealsOn_165 fs_X8_67 rfl rfl sh178 (x := 196) rfl ?_
          refine qX_iload_n 3 dX8_mealsOn_168 rfl rfl ?_
          refine qX_iald dX8_mealsOn_169 sh196 h.1 ?_
          replace h := h.2
          obtain ⟨P, hE37, h⟩ := h
          refine qN_callV mX8_done [_] _ 8 [] dX8_mealsOn_170 cm_X8_246 ⟨(Nat.le_of_ble_eq_true rfl), (Nat.le_of_ble_eq_true rfl)⟩ rfl rfl sh178 (Nat.le_of_ble_eq_true rfl) ⟨rfl, rfl⟩ hE37 (fun z34 ρ35 μ36 hz => ?_)
          replace h := h _ _ _ hz
          exact qX_ireturn rfl dX8_mealsOn_173 rfl ⟨Nat.le_refl _, Nat.le_refl _⟩ h
        | 3, _, hc =>
          refine ⟨163, _, rfl, rfl, ?_⟩
          replace h := h.2.2.2.2.1 hc
          refine qX_aload_n 0 dX8_mealsOn_163 rfl rfl (by decide) ?_
          refine qX_aload_n 0 dX8_mealsOn_164 rfl rfl (by decide) ?_
          refine qX_getS 8 31 _ 17 dX8_mealsOn_165 fs_X8_67 rfl rfl sh178 (x := 196) rfl ?_
          refine qX_iload_n 3 dX8_mealsOn_168 rfl rfl ?_
          refine qX_iald dX8_mealsOn_169 sh196 h.1 ?_
          replace h := h.2
          obtain ⟨P, hE41, h⟩ := h
          refine qN_callV mX8_done [_] _ 8 [] dX8_mealsOn_170 cm_X8_246 ⟨(Nat.le_of_ble_eq_true rfl), (Nat.le_of_ble_eq_true rfl)⟩ rfl rfl sh178 (Nat.le_of_ble_eq_true rfl) ⟨rfl, rfl⟩ hE41 (fun z38 ρ39 μ40 hz => ?_)
          replace h := h _ _ _ hz
          exact qX_ireturn rfl dX8_mealsOn_173 rfl ⟨Nat.le_refl _, Nat.le_refl _⟩ h
        | 4, _, hc =>
          refine ⟨118, _, rfl, rfl, ?_⟩
          replace h := h.2.2.2.2.2.1 hc
          refine qX_aload_n 0 dX8_mealsOn_118 rfl rfl (by decide) ?_
          refine qX_aload_n 0 dX8_mealsOn_119 rfl rfl (by decide) ?_
          refine qX_getS 8 31 _ 17 dX8_mealsOn_120 fs_X8_67 rfl rfl sh178 (x := 196) rfl ?_
          refine qX_iload_n 3 dX8_mealsOn_123 rfl rfl ?_
          refine qX_iald dX8_mealsOn_124 sh196 h.1 ?_
          replace h := h.2
          refine qX_iload_n 2 dX8_mealsOn_125 rfl rfl ?_
          refine qX_aload_n 0 dX8_mealsOn_126 rfl rfl (by decide) ?_
          refine qX_getS 8 33 _ 19 dX8_mealsOn_127 fs_X8_73 rfl rfl sh178 (x := 198) rfl ?_
          refine qX_iload_n 3 dX8_mealsOn_130 rfl rfl ?_
          refine qX_iald dX8_mealsOn_131 sh198 h.1 ?_
          replace h := h.2
          refine qR_isub dX8_mealsOn_132 h.1 ?_
          replace h := h.2
          refine qX_aload_n 0 dX8_mealsOn_133 rfl rfl (by decide) ?_
          refine qX_iload_n 1 dX8_mealsOn_134 rfl rfl ?_
          refine qX_iconst dX8_mealsOn_135 (i32_of rfl) ?_
          obtain ⟨P, hE45, h⟩ := h
          refine qN_callV mX8_trolley [_, _] _ 8 [_, _, _] dX8_mealsOn_136 cm_X8_277 ⟨(Nat.le_of_ble_eq_true rfl), (Nat.le_of_ble_eq_true rfl)⟩ rfl rfl sh178 (Nat.le_of_ble_eq_true rfl) ⟨rfl, rfl⟩ hE45 (fun z42 ρ43 μ44 hz => ?_)
          replace h := h _ _ _ hz
          refine qR_idiv dX8_mealsOn_139 h.1 ?_
          replace h := h.2
          refine qR_isub dX8_mealsOn_140 h.1 ?_
          replace h := h.2
          obtain ⟨P, hE49, h⟩ := h
          refine qN_callV mX8_done [_] _ 8 [] dX8_mealsOn_141 cm_X8_246 ⟨(Nat.le_of_ble_eq_true rfl), (Nat.le_of_ble_eq_true rfl)⟩ rfl rfl sh178 (Nat.le_of_ble_eq_true rfl) ⟨rfl, rfl⟩ hE49 (fun z46 ρ47 μ48 hz => ?_)
          replace h := h _ _ _ hz
          exact qX_ireturn rfl dX8_mealsOn_144 rfl ⟨Nat.le_refl _, Nat.le_refl _⟩ h
        | 5, _, hc =>
          refine ⟨145, _, rfl, rfl, ?_⟩
          replace h := h.2.2.2.2.2.2 hc
          refine qX_aload_n 0 dX8_mealsOn_145 rfl rfl (by decide) ?_
          refine qX_aload_n 0 dX8_mealsOn_146 rfl rfl (by decide) ?_
          refine qX_getS 8 31 _ 17 dX8_mealsOn_147 fs_X8_67 rfl rfl sh178 (x := 196) rfl ?_
          refine qX_iload_n 3 dX8_mealsOn_150 rfl rfl ?_
          refine qX_iald dX8_mealsOn_151 sh196 h.1 ?_
          replace h := h.2
          refine qX_aload_n 0 dX8_mealsOn_152 rfl rfl (by decide) ?_
          refine qX_getS 8 34 _ 20 dX8_mealsOn_153 fs_X8_76 rfl rfl sh178 (x := 199) rfl ?_
          refine qX_iload_n 3 dX8_mealsOn_156 rfl rfl ?_
          refine qX_iald dX8_mealsOn_157 sh199 h.1 ?_
          replace h := h.2
          refine qR_isub dX8_mealsOn_158 h.1 ?_
          replace h := h.2
          obtain ⟨P, hE53, h⟩ := h
          refine qN_callV mX8_done [_] _ 8 [] dX8_mealsOn_159 cm_X8_246 ⟨(Nat.le_of_ble_eq_true rfl), (Nat.le_of_ble_eq_true rfl)⟩ rfl rfl sh178 (Nat.le_of_ble_eq_true rfl) ⟨rfl, rfl⟩ hE53 (fun z50 ρ51 μ52 hz => ?_)
          replace h := h _ _ _ hz
          exact qX_ireturn rfl dX8_mealsOn_162 rfl ⟨Nat.le_refl _, Nat.le_refl _⟩ h
        | j + 6, hj, _ => exact absurd hj (by omega)
    · replace h := h.2 hc
      refine qX_aload_n 0 dX8_mealsOn_30 rfl rfl (by decide) ?_
      refine qX_iconst dX8_mealsOn_31 (i32_of rfl) ?_
      obtain ⟨P, hE57, h⟩ := h
      refine qN_callV mX8_failed [_] _ 8 [] dX8_mealsOn_32 cm_X8_226 ⟨(Nat.le_of_ble_eq_true rfl), (Nat.le_of_ble_eq_true rfl)⟩ rfl rfl sh178 (Nat.le_of_ble_eq_true rfl) ⟨rfl, rfl⟩ hE57 (fun z54 ρ55 μ56 hz => ?_)
      replace h := h _ _ _ hz
      exact qX_ireturn rfl dX8_mealsOn_35 rfl ⟨Nat.le_refl _, Nat.le_refl _⟩ h
  · replace h := h.2 hc
    refine qX_aload_n 0 dX8_mealsOn_13 rfl rfl (by decide) ?_
    refine qX_iconst dX8_mealsOn_14 (i32_of rfl) ?_
    obtain ⟨P, hE61, h⟩ := h
    refine qN_callV mX8_failed [_] _ 8 [] dX8_mealsOn_15 cm_X8_226 ⟨(Nat.le_of_ble_eq_true rfl), (Nat.le_of_ble_eq_true rfl)⟩ rfl rfl sh178 (Nat.le_of_ble_eq_true rfl) ⟨rfl, rfl⟩ hE61 (fun z58 ρ59 μ60 hz => ?_)
    replace h := h _ _ _ hz
    exact qX_ireturn rfl dX8_mealsOn_18 rfl ⟨Nat.le_refl _, Nat.le_refl _⟩ h
set_option maxRecDepth 20000 in
theorem e_X8_layBoth {Post : Int → Rf → Mem → Prop} {ρ : Rf} {μ : Mem} {x1 : Int}
  (h : ∃ P : Int → Rf → Mem → Prop, qE mX8_deliveredToTrain GG GG [qP 178, qI 0, qI x1] ρ μ P ∧ ∀ (z1 : Int) (ρ2 : Rf) (μ3 : Mem), P z1 ρ2 μ3 → ∃ P : Int → Rf → Mem → Prop, qE mX8_deliveredToTrain GG GG [qP 178, qI 1, qI x1] ρ2 μ3 P ∧ ∀ (z5 : Int) (ρ6 : Rf) (μ7 : Mem), P z5 ρ6 μ7 → i32 (z1 + z5) ∧ ∃ P : Int → Rf → Mem → Prop, qE mX8_demandOfTrain GG GG [qP 178, qI 0, qI x1] ρ6 μ7 P ∧ ∀ (z9 : Int) (ρ10 : Rf) (μ11 : Mem), P z9 ρ10 μ11 → ∃ P : Int → Rf → Mem → Prop, qE mX8_demandOfTrain GG GG [qP 178, qI 1, qI x1] ρ10 μ11 P ∧ ∀ (z13 : Int) (ρ14 : Rf) (μ15 : Mem), P z13 ρ14 μ15 → i32 (z9 + z13) ∧ qX mX8_layBoth GG Post GG (0, 0) 34 [some (qP 178), some (qI x1), some (qI (z1 + z5)), some (qI (z9 + z13)), some (qI (z1 + z5)), some (qI 0), none, none] [] ρ14 μ15) : qE mX8_layBoth GG GG [qP 178, qI x1] ρ μ Post := by
  refine qE_intro pl_X8_layBoth (Nat.le_of_ble_eq_true rfl) (Nat.le_refl _) ?_
  refine qX_aload_n 0 dX8_layBoth_0 rfl rfl (by decide) ?_
  refine qX_iconst dX8_layBoth_1 (i32_of rfl) ?_
  refine qX_iload_n 1 dX8_layBoth_2 rfl rfl ?_
  obtain ⟨P, hE4, h⟩ := h
  refine qN_callV mX8_deliveredToTrain [_, _] _ 8 [] dX8_layBoth_3 cm_X8_346 ⟨(Nat.le_of_ble_eq_true rfl), (Nat.le_of_ble_eq_true rfl)⟩ rfl rfl sh178 (Nat.le_of_ble_eq_true rfl) ⟨rfl, rfl⟩ hE4 (fun z1 ρ2 μ3 hz => ?_)
  replace h := h _ _ _ hz
  refine qX_aload_n 0 dX8_layBoth_6 rfl rfl (by decide) ?_
  refine qX_iconst dX8_layBoth_7 (i32_of rfl) ?_
  refine qX_iload_n 1 dX8_layBoth_8 rfl rfl ?_
  obtain ⟨P, hE8, h⟩ := h
  refine qN_callV mX8_deliveredToTrain [_, _] _ 8 [_] dX8_layBoth_9 cm_X8_346 ⟨(Nat.le_of_ble_eq_true rfl), (Nat.le_of_ble_eq_true rfl)⟩ rfl rfl sh178 (Nat.le_of_ble_eq_true rfl) ⟨rfl, rfl⟩ hE8 (fun z5 ρ6 μ7 hz => ?_)
  replace h := h _ _ _ hz
  refine qR_iadd dX8_layBoth_12 h.1 ?_
  replace h := h.2
  refine qX_istore_n 2 dX8_layBoth_13 rfl (Nat.le_of_ble_eq_true rfl) rfl ?_
  refine qX_aload_n 0 dX8_layBoth_14 rfl rfl (by decide) ?_
  refine qX_iconst dX8_layBoth_15 (i32_of rfl) ?_
  refine qX_iload_n 1 dX8_layBoth_16 rfl rfl ?_
  obtain ⟨P, hE12, h⟩ := h
  refine qN_callV mX8_demandOfTrain [_, _] _ 8 [] dX8_layBoth_17 cm_X8_349 ⟨(Nat.le_of_ble_eq_true rfl), (Nat.le_of_ble_eq_true rfl)⟩ rfl rfl sh178 (Nat.le_of_ble_eq_true rfl) ⟨rfl, rfl⟩ hE12 (fun z9 ρ10 μ11 hz => ?_)
  replace h := h _ _ _ hz
  refine qX_aload_n 0 dX8_layBoth_20 rfl rfl (by decide) ?_
  refine qX_iconst dX8_layBoth_21 (i32_of rfl) ?_
  refine qX_iload_n 1 dX8_layBoth_22 rfl rfl ?_
  obtain ⟨P, hE16, h⟩ := h
  refine qN_callV mX8_demandOfTrain [_, _] _ 8 [_] dX8_layBoth_23 cm_X8_349 ⟨(Nat.le_of_ble_eq_true rfl), (Nat.le_of_ble_eq_true rfl)⟩ rfl rfl sh178 (Nat.le_of_ble_eq_true rfl) ⟨rfl, rfl⟩ hE16 (fun z13 ρ14 μ15 hz => ?_)
  replace h := h _ _ _ hz
  refine qR_iadd dX8_layBoth_26 h.1 ?_
  replace h := h.2
  refine qX_istore_n 3 dX8_layBoth_27 rfl (Nat.le_of_ble_eq_true rfl) rfl ?_
  refine qX_iload_n 2 dX8_layBoth_28 rfl rfl ?_
  refine qX_istore dX8_layBoth_29 (Nat.le_of_ble_eq_true rfl) rfl ?_
  refine qX_iconst dX8_layBoth_31 (i32_of rfl) ?_
  refine qX_istore dX8_layBoth_32 (Nat.le_of_ble_eq_true rfl) rfl ?_
  exact qX_mask [true, true, true, true, true, true, false, false] h
set_option maxRecDepth 20000 in
theorem w_X8_layBoth_34 {Post : Int → Rf → Mem → Prop} {ρ : Rf} {μ : Mem} {x1 : Int} {x2 : Int} {x3 : Int} {x4 : Int} {x5 : Int}
  (h : ((10 ≤ x5 → qX mX8_layBoth GG Post GG (0, 0) 162 [some (qP 178), none, some (qI x2), some (qI x3), some (qI x4), none, none, none] [] ρ μ) ∧ (x5 < 10 → (0 ≤ x5 ∧ 0 < (5 : Int)) ∧ (0 ≤ x5 ∧ 0 < (5 : Int)) ∧ i32 (4 + (x5 / 5)) ∧ (0 ≤ 4 + (x5 / 5) ∧ 4 + (x5 / 5) < 188) ∧ ((μ 180 (4 + (x5 / 5)) ≤ x5 % 5 → qX mX8_layBoth GG Post GG (0, 0) 64 [some (qP 178), some (qI x1), some (qI x2), some (qI x3), some (qI x4), some (qI x5), none, none] [qI 0] ρ μ) ∧ (x5 % 5 < μ 180 (4 + (x5 / 5)) → qX mX8_layBoth GG Post GG (0, 0) 64 [some (qP 178), some (qI x1), some (qI x2), some (qI x3), some (qI x4), some (qI x5), none, none] [qI 1] ρ μ))))) : qX mX8_layBoth GG Post GG (0, 0) 34 [some (qP 178), some (qI x1), some (qI x2), some (qI x3), some (qI x4), some (qI x5), none, none] [] ρ μ := by
  refine qX_iload dX8_layBoth_34 rfl ?_
  refine qX_bip dX8_layBoth_36 rfl ?_
  refine qX_icmp_ge 162 dX8_layBoth_38 rfl (fun hc => ?_) (fun hc => ?_)
  · replace h := h.1 hc
    exact qX_mask [true, false, true, true, true, false, false, false] h
  · replace h := h.2 hc
    refine qX_iload dX8_layBoth_41 rfl ?_
    refine qX_iconst dX8_layBoth_43 (i32_of rfl) ?_
    refine qR_irem dX8_layBoth_44 h.1 ?_
    replace h := h.2
    refine qX_aload_n 0 dX8_layBoth_45 rfl rfl (by decide) ?_
    refine qX_getS 8 12 _ 1 dX8_layBoth_46 fs_X8_17 rfl rfl sh178 (x := 180) rfl ?_
    refine qX_iconst dX8_layBoth_49 (i32_of rfl) ?_
    refine qX_iload dX8_layBoth_50 rfl ?_
    refine qX_iconst dX8_layBoth_52 (i32_of rfl) ?_
    refine qR_idiv dX8_layBoth_53 h.1 ?_
    replace h := h.2
    refine qR_iadd dX8_layBoth_54 h.1 ?_
    replace h := h.2
    refine qX_iald dX8_layBoth_55 sh180 h.1 ?_
    replace h := h.2
    refine qX_icmp_ge 63 dX8_layBoth_56 rfl (fun hc => ?_) (fun hc => ?_)
    · replace h := h.1 hc
      refine qX_iconst dX8_layBoth_63 (i32_of rfl) ?_
      exact qX_mask [true, true, true, true, true, true, false, false] h
    · replace h := h.2 hc
      refine qX_iconst dX8_layBoth_59 (i32_of rfl) ?_
      refine qX_goto 64 dX8_layBoth_60 rfl ?_
      exact qX_mask [true, true, true, true, true, true, false, false] h
set_option maxRecDepth 20000 in
theorem w_X8_layBoth_162 {Post : Int → Rf → Mem → Prop} {ρ : Rf} {μ : Mem} {x2 : Int} {x3 : Int} {x4 : Int}
  (h : ((x4 ≤ 0 → Post 0 ρ μ) ∧ (0 < x4 → ((x3 ≤ x2 → Post 0 ρ μ) ∧ (x2 < x3 → qX mX8_layBoth GG Post GG (0, 0) 178 [some (qP 178), none, some (qI x2), some (qI x3), some (qI x4), some (qI 0), some (qI 1), none] [] ρ μ))))) : qX mX8_layBoth GG Post GG (0, 0) 162 [some (qP 178), none, some (qI x2), some (qI x3), some (qI x4), none, none, none] [] ρ μ := by
  refine qX_iload dX8_layBoth_162 rfl ?_
  refine qX_if_le 242 dX8_layBoth_164 rfl (fun hc => ?_) (fun hc => ?_)
  · replace h := h.1 hc
    exact qX_return rfl dX8_layBoth_242 rfl ⟨Nat.le_refl _, Nat.le_refl _⟩ h
  · replace h := h.2 hc
    refine qX_iload_n 2 dX8_layBoth_167 rfl rfl ?_
    refine qX_iload_n 3 dX8_layBoth_168 rfl rfl ?_
    refine qX_icmp_ge 242 dX8_layBoth_169 rfl (fun hc => ?_) (fun hc => ?_)
    · replace h := h.1 hc
      exact qX_return rfl dX8_layBoth_242 rfl ⟨Nat.le_refl _, Nat.le_refl _⟩ h
    · replace h := h.2 hc
      refine qX_iconst dX8_layBoth_172 (i32_of rfl) ?_
      refine qX_istore dX8_layBoth_173 (Nat.le_of_ble_eq_true rfl) rfl ?_
      refine qX_iconst dX8_layBoth_175 (i32_of rfl) ?_
      refine qX_istore dX8_layBoth_176 (Nat.le_of_ble_eq_true rfl) rfl ?_
      exact qX_mask [true, false, true, true, true, true, true, false] h
set_option maxRecDepth 20000 in
theorem w_X8_layBoth_64 {Post : Int → Rf → Mem → Prop} {ρ : Rf} {μ : Mem} {s0 : Int} {x1 : Int} {x2 : Int} {x3 : Int} {x4 : Int} {x5 : Int}
  (h : ((s0 = 0 → qX mX8_layBoth GG Post GG (0, 0) 88 [some (qP 178), some (qI x1), some (qI x2), some (qI x3), some (qI x4), some (qI x5), some (qI s0), none] [qI 0] ρ μ) ∧ (s0 ≠ 0 → (0 ≤ x5 ∧ 0 < (5 : Int)) ∧ (0 ≤ x5 ∧ 0 < (5 : Int)) ∧ ∃ P : Int → Rf → Mem → Prop, qE mX8_demandOf GG GG [qP 178, qI (x5 / 5), qI (x5 % 5), qI x1] ρ μ P ∧ ∀ (z1 : Int) (ρ2 : Rf) (μ3 : Mem), P z1 ρ2 μ3 → qX mX8_layBoth GG Post GG (0, 0) 88 [some (qP 178), some (qI x1), some (qI x2), some (qI x3), some (qI x4), some (qI x5), some (qI s0), none] [qI z1] ρ2 μ3))) : qX mX8_layBoth GG Post GG (0, 0) 64 [some (qP 178), some (qI x1), some (qI x2), some (qI x3), some (qI x4), some (qI x5), none, none] [qI s0] ρ μ := by
  refine qX_istore dX8_layBoth_64 (Nat.le_of_ble_eq_true rfl) rfl ?_
  refine qX_iload dX8_layBoth_66 rfl ?_
  refine qX_if_eq 87 dX8_layBoth_68 rfl (fun hc => ?_) (fun hc => ?_)
  · replace h := h.1 hc
    refine qX_iconst dX8_layBoth_87 (i32_of rfl) ?_
    exact qX_mask [true, true, true, true, true, true, true, false] h
  · replace h := h.2 hc
    refine qX_aload_n 0 dX8_layBoth_71 rfl rfl (by decide) ?_
    refine qX_iload dX8_layBoth_72 rfl ?_
    refine qX_iconst dX8_layBoth_74 (i32_of rfl) ?_
    refine qR_idiv dX8_layBoth_75 h.1 ?_
    replace h := h.2
    refine qX_iload dX8_layBoth_76 rfl ?_
    refine qX_iconst dX8_layBoth_78 (i32_of rfl) ?_
    refine qR_irem dX8_layBoth_79 h.1 ?_
    replace h := h.2
    refine qX_iload_n 1 dX8_layBoth_80 rfl rfl ?_
    obtain ⟨P, hE4, h⟩ := h
    refine qN_callV mX8_demandOf [_, _, _] _ 8 [] dX8_layBoth_81 cm_X8_263 ⟨(Nat.le_of_ble_eq_true rfl), (Nat.le_of_ble_eq_true rfl)⟩ rfl rfl sh178 (Nat.le_of_ble_eq_true rfl) ⟨rfl, rfl⟩ hE4 (fun z1 ρ2 μ3 hz => ?_)
    replace h := h _ _ _ hz
    refine qX_goto 88 dX8_layBoth_84 rfl ?_
    exact qX_mask [true, true, true, true, true, true, true, false] h
set_option maxRecDepth 20000 in
theorem w_X8_layBoth_178 {Post : Int → Rf → Mem → Prop} {ρ : Rf} {μ : Mem} {x2 : Int} {x3 : Int} {x4 : Int} {x5 : Int} {x6 : Int}
  (h : ((10 ≤ x6 → (0 ≤ x5 ∧ x5 < 10) ∧ i32 ((μ 201 x5) + 1) ∧ (0 ≤ x5 ∧ x5 < 10) ∧ ∀ μ1, μ1 = up2 μ 201 x5 ((μ 201 x5) + 1) → (0 ≤ x5 ∧ x5 < 10) ∧ ∀ μ2, μ2 = up2 μ1 202 x5 (-1) → i32 (x4 + (-1)) ∧ qX mX8_layBoth GG Post GG (0, 0) 162 [some (qP 178), none, some (qI x2), some (qI x3), some (qI (x4 + (-1))), none, none, none] [] ρ μ2) ∧ (x6 < 10 → (0 ≤ x6 ∧ x6 < 10) ∧ (0 ≤ x5 ∧ x5 < 10) ∧ ((μ 202 x6 ≤ μ 202 x5 → qX mX8_layBoth GG Post GG (0, 0) 209 [some (qP 178), none, some (qI x2), some (qI x3), some (qI x4), none, some (qI x6), none] [qI x5] ρ μ) ∧ (μ 202 x5 < μ 202 x6 → qX mX8_layBoth GG Post GG (0, 0) 209 [some (qP 178), none, some (qI x2), some (qI x3), some (qI x4), none, some (qI x6), none] [qI x6] ρ μ))))) : qX mX8_layBoth GG Post GG (0, 0) 178 [some (qP 178), none, some (qI x2), some (qI x3), some (qI x4), some (qI x5), some (qI x6), none] [] ρ μ := by
  refine qX_iload dX8_layBoth_178 rfl ?_
  refine qX_bip dX8_layBoth_180 rfl ?_
  refine qX_icmp_ge 217 dX8_layBoth_182 rfl (fun hc => ?_) (fun hc => ?_)
  · replace h := h.1 hc
    refine qX_aload_n 0 dX8_layBoth_217 rfl rfl (by decide) ?_
    refine qX_getS 8 38 _ 22 dX8_layBoth_218 fs_X8_82 rfl rfl sh178 (x := 201) rfl ?_
    refine qX_iload dX8_layBoth_221 rfl ?_
    refine qX_dup2 dX8_layBoth_223 rfl rfl ?_
    refine qX_iald dX8_layBoth_224 sh201 h.1 ?_
    replace h := h.2
    refine qX_iconst dX8_layBoth_225 (i32_of rfl) ?_
    refine qR_iadd dX8_layBoth_226 h.1 ?_
    replace h := h.2
    refine qX_iast dX8_layBoth_227 sh201 h.1 ?_
    replace h := h.2
    replace h := h _ rfl
    refine qX_aload_n 0 dX8_layBoth_228 rfl rfl (by decide) ?_
    refine qX_getS 8 39 _ 23 dX8_layBoth_229 fs_X8_85 rfl rfl sh178 (x := 202) rfl ?_
    refine qX_iload dX8_layBoth_232 rfl ?_
    refine qX_iconst dX8_layBoth_234 (i32_of rfl) ?_
    refine qX_iast dX8_layBoth_235 sh202 h.1 ?_
    replace h := h.2
    replace h := h _ rfl
    refine qR_iinc dX8_layBoth_236 rfl (Nat.le_of_ble_eq_true rfl) rfl h.1 ?_
    replace h := h.2
    refine qX_goto 162 dX8_layBoth_239 rfl ?_
    exact qX_mask [true, false, true, true, true, false, false, false] h
  · replace h := h.2 hc
    refine qX_aload_n 0 dX8_layBoth_185 rfl rfl (by decide) ?_
    refine qX_getS 8 39 _ 23 dX8_layBoth_186 fs_X8_85 rfl rfl sh178 (x := 202) rfl ?_
    refine qX_iload dX8_layBoth_189 rfl ?_
    refine qX_iald dX8_layBoth_191 sh202 h.1 ?_
    replace h := h.2
    refine qX_aload_n 0 dX8_layBoth_192 rfl rfl (by decide) ?_
    refine qX_getS 8 39 _ 23 dX8_layBoth_193 fs_X8_85 rfl rfl sh178 (x := 202) rfl ?_
    refine qX_iload dX8_layBoth_196 rfl ?_
    refine qX_iald dX8_layBoth_198 sh202 h.1 ?_
    replace h := h.2
    refine qX_icmp_le 207 dX8_layBoth_199 rfl (fun hc => ?_) (fun hc => ?_)
    · replace h := h.1 hc
      refine qX_iload dX8_layBoth_207 rfl ?_
      exact qX_mask [true, false, true, true, true, false, true, false] h
    · replace h := h.2 hc
      refine qX_iload dX8_layBoth_202 rfl ?_
      refine qX_goto 209 dX8_layBoth_204 rfl ?_
      exact qX_mask [true, false, true, true, true, false, true, false] h
set_option maxRecDepth 20000 in
theorem w_X8_layBoth_88 {Post : Int → Rf → Mem → Prop} {ρ : Rf} {μ : Mem} {s0 : Int} {x1 : Int} {x2 : Int} {x3 : Int} {x4 : Int} {x5 : Int} {x6 : Int}
  (h : ((x2 < x3 → i32 (x2 * s0) ∧ (0 ≤ x2 * s0 ∧ 0 < x3) ∧ qX mX8_layBoth GG Post GG (0, 0) 112 [some (qP 178), some (qI x1), some (qI x2), some (qI x3), some (qI x4), some (qI x5), some (qI x6), some (qI s0)] [qI ((x2 * s0) / x3), qI x5, qP 201] ρ μ) ∧ (x3 ≤ x2 → qX mX8_layBoth GG Post GG (0, 0) 112 [some (qP 178), some (qI x1), some (qI x2), some (qI x3), some (qI x4), some (qI x5), some (qI x6), some (qI s0)] [qI s0, qI x5, qP 201] ρ μ))) : qX mX8_layBoth GG Post GG (0, 0) 88 [some (qP 178), some (qI x1), some (qI x2), some (qI x3), some (qI x4), some (qI x5), some (qI x6), none] [qI s0] ρ μ := by
  refine qX_istore dX8_layBoth_88 (Nat.le_of_ble_eq_true rfl) rfl ?_
  refine qX_aload_n 0 dX8_layBoth_90 rfl rfl (by decide) ?_
  refine qX_getS 8 38 _ 22 dX8_layBoth_91 fs_X8_82 rfl rfl sh178 (x := 201) rfl ?_
  refine qX_iload dX8_layBoth_94 rfl ?_
  refine qX_iload_n 2 dX8_layBoth_96 rfl rfl ?_
  refine qX_iload_n 3 dX8_layBoth_97 rfl rfl ?_
  refine qX_icmp_lt 106 dX8_layBoth_98 rfl (fun hc => ?_) (fun hc => ?_)
  · replace h := h.1 hc
    refine qX_iload_n 2 dX8_layBoth_106 rfl rfl ?_
    refine qX_iload dX8_layBoth_107 rfl ?_
    refine qR_imul dX8_layBoth_109 h.1 ?_
    replace h := h.2
    refine qX_iload_n 3 dX8_layBoth_110 rfl rfl ?_
    refine qR_idiv dX8_layBoth_111 h.1 ?_
    replace h := h.2
    exact qX_mask [true, true, true, true, true, true, true, true] h
  · replace h := h.2 hc
    refine qX_iload dX8_layBoth_101 rfl ?_
    refine qX_goto 112 dX8_layBoth_103 rfl ?_
    exact qX_mask [true, true, true, true, true, true, true, true] h
set_option maxRecDepth 20000 in
theorem w_X8_layBoth_209 {Post : Int → Rf → Mem → Prop} {ρ : Rf} {μ : Mem} {s0 : Int} {x2 : Int} {x3 : Int} {x4 : Int} {x6 : Int}
  (h : i32 (x6 + 1) ∧ qX mX8_layBoth GG Post GG (0, 0) 178 [some (qP 178), none, some (qI x2), some (qI x3), some (qI x4), some (qI s0), some (qI (x6 + 1)), none] [] ρ μ) : qX mX8_layBoth GG Post GG (0, 0) 209 [some (qP 178), none, some (qI x2), some (qI x3), some (qI x4), none, some (qI x6), none] [qI s0] ρ μ := by
  refine qX_istore dX8_layBoth_209 (Nat.le_of_ble_eq_true rfl) rfl ?_
  refine qR_iinc dX8_layBoth_211 rfl (Nat.le_of_ble_eq_true rfl) rfl h.1 ?_
  replace h := h.2
  refine qX_goto 178 dX8_layBoth_214 rfl ?_
  exact qX_mask [true, false, true, true, true, true, true, false] h
set_option maxRecDepth 20000 in
theorem w_X8_layBoth_112 {Post : Int → Rf → Mem → Prop} {ρ : Rf} {μ : Mem} {s1 : Int} {s2 : Int} {x1 : Int} {x2 : Int} {x3 : Int} {x4 : Int} {x5 : Int} {x6 : Int} {x7 : Int}
  (h : (0 ≤ s1 ∧ s1 < 10) ∧ ∀ μ1, μ1 = up2 μ 201 s1 s2 → ((x6 ≠ 0 → ((x2 < x3 → i32 (x2 * x7) ∧ (0 ≤ x2 * x7 ∧ 0 < x3) ∧ qX mX8_layBoth GG Post GG (0, 0) 143 [some (qP 178), some (qI x1), some (qI x2), some (qI x3), some (qI x4), some (qI x5), none, none] [qI ((x2 * x7) % x3), qI x5, qP 202] ρ μ1) ∧ (x3 ≤ x2 → qX mX8_layBoth GG Post GG (0, 0) 143 [some (qP 178), some (qI x1), some (qI x2), some (qI x3), some (qI x4), some (qI x5), none, none] [qI 0, qI x5, qP 202] ρ μ1))) ∧ (x6 = 0 → qX mX8_layBoth GG Post GG (0, 0) 143 [some (qP 178), some (qI x1), some (qI x2), some (qI x3), some (qI x4), some (qI x5), none, none] [qI (-1), qI x5, qP 202] ρ μ1))) : qX mX8_layBoth GG Post GG (0, 0) 112 [some (qP 178), some (qI x1), some (qI x2), some (qI x3), some (qI x4), some (qI x5), some (qI x6), some (qI x7)] [qI s2, qI s1, qP 201] ρ μ := by
  refine qX_iast dX8_layBoth_112 sh201 h.1 ?_
  replace h := h.2
  replace h := h _ rfl
  refine qX_aload_n 0 dX8_layBoth_113 rfl rfl (by decide) ?_
  refine qX_getS 8 39 _ 23 dX8_layBoth_114 fs_X8_85 rfl rfl sh178 (x := 202) rfl ?_
  refine qX_iload dX8_layBoth_117 rfl ?_
  refine qX_iload dX8_layBoth_119 rfl ?_
  refine qX_if_ne 128 dX8_layBoth_121 rfl (fun hc => ?_) (fun hc => ?_)
  · replace h := h.1 hc
    refine qX_iload_n 2 dX8_layBoth_128 rfl rfl ?_
    refine qX_iload_n 3 dX8_layBoth_129 rfl rfl ?_
    refine qX_icmp_lt 137 dX8_layBoth_130 rfl (fun hc => ?_) (fun hc => ?_)
    · replace h := h.1 hc
      refine qX_iload_n 2 dX8_layBoth_137 rfl rfl ?_
      refine qX_iload dX8_layBoth_138 rfl ?_
      refine qR_imul dX8_layBoth_140 h.1 ?_
      replace h := h.2
      refine qX_iload_n 3 dX8_layBoth_141 rfl rfl ?_
      refine qR_irem dX8_layBoth_142 h.1 ?_
      replace h := h.2
      exact qX_mask [true, true, true, true, true, true, false, false] h
    · replace h := h.2 hc
      refine qX_iconst dX8_layBoth_133 (i32_of rfl) ?_
      refine qX_goto 143 dX8_layBoth_134 rfl ?_
      exact qX_mask [true, true, true, true, true, true, false, false] h
  · replace h := h.2 hc
    refine qX_iconst dX8_layBoth_124 (i32_of rfl) ?_
    refine qX_goto 143 dX8_layBoth_125 rfl ?_
    exact qX_mask [true, true, true, true, true, true, false, false] h
set_option maxRecDepth 20000 in
theorem w_X8_layBoth_143 {Post : Int → Rf → Mem → Prop} {ρ : Rf} {μ : Mem} {s1 : Int} {s2 : Int} {x1 : Int} {x2 : Int} {x3 : Int} {x4 : Int} {x5 : Int}
  (h : (0 ≤ s1 ∧ s1 < 10) ∧ ∀ μ1, μ1 = up2 μ 202 s1 s2 → (0 ≤ x5 ∧ x5 < 10) ∧ i32 (x4 - (μ1 201 x5)) ∧ i32 (x5 + 1) ∧ qX mX8_layBoth GG Post GG (0, 0) 34 [some (qP 178), some (qI x1), some (qI x2), some (qI x3), some (qI (x4 - (μ1 201 x5))), some (qI (x5 + 1)), none, none] [] ρ μ1) : qX mX8_layBoth GG Post GG (0, 0) 143 [some (qP 178), some (qI x1), some (qI x2), some (qI x3), some (qI x4), some (qI x5), none, none] [qI s2, qI s1, qP 202] ρ μ := by
  refine qX_iast dX8_layBoth_143 sh202 h.1 ?_
  replace h := h.2
  replace h := h _ rfl
  refine qX_iload dX8_layBoth_144 rfl ?_
  refine qX_aload_n 0 dX8_layBoth_146 rfl rfl (by decide) ?_
  refine qX_getS 8 38 _ 22 dX8_layBoth_147 fs_X8_82 rfl rfl sh178 (x := 201) rfl ?_
  refine qX_iload dX8_layBoth_150 rfl ?_
  refine qX_iald dX8_layBoth_152 sh201 h.1 ?_
  replace h := h.2
  refine qR_isub dX8_layBoth_153 h.1 ?_
  replace h := h.2
  refine qX_istore dX8_layBoth_154 (Nat.le_of_ble_eq_true rfl) rfl ?_
  refine qR_iinc dX8_layBoth_156 rfl (Nat.le_of_ble_eq_true rfl) rfl h.1 ?_
  replace h := h.2
  refine qX_goto 34 dX8_layBoth_159 rfl ?_
  exact qX_mask [true, true, true, true, true, true, false, false] h
set_option maxRecDepth 20000 in
theorem e_X8_jointShare {Post : Int → Rf → Mem → Prop} {ρ : Rf} {μ : Mem} {x1 : Int} {x2 : Int} {x3 : Int}
  (h : ∃ P : Int → Rf → Mem → Prop, qE mX8_isCar GG GG [qP 178, qI x1, qI x2] ρ μ P ∧ ∀ (z1 : Int) (ρ2 : Rf) (μ3 : Mem), P z1 ρ2 μ3 → ((z1 = 0 → qX mX8_jointShare GG Post GG (0, 0) 22 [some (qP 178), some (qI x1), some (qI x2), some (qI x3)] [qP 178] ρ2 μ3) ∧ (z1 ≠ 0 → ∃ P : Int → Rf → Mem → Prop, qE mX8_isMeal GG GG [qP 178, qI x3] ρ2 μ3 P ∧ ∀ (z5 : Int) (ρ6 : Rf) (μ7 : Mem), P z5 ρ6 μ7 → ((z5 = 0 → qX mX8_jointShare GG Post GG (0, 0) 22 [some (qP 178), some (qI x1), some (qI x2), some (qI x3)] [qP 178] ρ6 μ7) ∧ (z5 ≠ 0 → qX mX8_jointShare GG Post GG (0, 0) 23 [some (qP 178), some (qI x1), some (qI x2), some (qI x3)] [qI 1, qP 178] ρ6 μ7))))) : qE mX8_jointShare GG GG [qP 178, qI x1, qI x2, qI x3] ρ μ Post := by
  refine qE_intro pl_X8_jointShare (Nat.le_of_ble_eq_true rfl) (Nat.le_refl _) ?_
  refine qX_aload_n 0 dX8_jointShare_0 rfl rfl (by decide) ?_
  refine qX_aload_n 0 dX8_jointShare_1 rfl rfl (by decide) ?_
  refine qX_iload_n 1 dX8_jointShare_2 rfl rfl ?_
  refine qX_iload_n 2 dX8_jointShare_3 rfl rfl ?_
  obtain ⟨P, hE4, h⟩ := h
  refine qN_callV mX8_isCar [_, _] _ 8 [_] dX8_jointShare_4 cm_X8_267 ⟨(Nat.le_of_ble_eq_true rfl), (Nat.le_of_ble_eq_true rfl)⟩ rfl rfl sh178 (Nat.le_of_ble_eq_true rfl) ⟨rfl, rfl⟩ hE4 (fun z1 ρ2 μ3 hz => ?_)
  replace h := h _ _ _ hz
  refine qX_if_eq 22 dX8_jointShare_7 rfl (fun hc => ?_) (fun hc => ?_)
  · replace h := h.1 hc
    exact qX_mask [true, true, true, true] h
  · replace h := h.2 hc
    refine qX_aload_n 0 dX8_jointShare_10 rfl rfl (by decide) ?_
    refine qX_iload_n 3 dX8_jointShare_11 rfl rfl ?_
    obtain ⟨P, hE8, h⟩ := h
    refine qN_callV mX8_isMeal [_] _ 8 [_] dX8_jointShare_12 cm_X8_260 ⟨(Nat.le_of_ble_eq_true rfl), (Nat.le_of_ble_eq_true rfl)⟩ rfl rfl sh178 (Nat.le_of_ble_eq_true rfl) ⟨rfl, rfl⟩ hE8 (fun z5 ρ6 μ7 hz => ?_)
    replace h := h _ _ _ hz
    refine qX_if_eq 22 dX8_jointShare_15 rfl (fun hc => ?_) (fun hc => ?_)
    · replace h := h.1 hc
      exact qX_mask [true, true, true, true] h
    · replace h := h.2 hc
      refine qX_iconst dX8_jointShare_18 (i32_of rfl) ?_
      refine qX_goto 23 dX8_jointShare_19 rfl ?_
      exact qX_mask [true, true, true, true] h
set_option maxRecDepth 20000 in
theorem w_X8_jointShare_22 {Post : Int → Rf → Mem → Prop} {ρ : Rf} {μ : Mem} {x1 : Int} {x2 : Int} {x3 : Int}
  (h : qX mX8_jointShare GG Post GG (0, 0) 23 [some (qP 178), some (qI x1), some (qI x2), some (qI x3)] [qI 0, qP 178] ρ μ) : qX mX8_jointShare GG Post GG (0, 0) 22 [some (qP 178), some (qI x1), some (qI x2), some (qI x3)] [qP 178] ρ μ := by
  refine qX_iconst dX8_jointShare_22 (i32_of rfl) ?_
  exact qX_mask [true, true, true, true] h
set_option maxRecDepth 20000 in
theorem w_X8_jointShare_23 {Post : Int → Rf → Mem → Prop} {ρ : Rf} {μ : Mem} {s1 : Int} {x1 : Int} {x2 : Int} {x3 : Int}
  (h : ∃ P : Int → Rf → Mem → Prop, qE mX8_goesFor GG GG [qP 178, qI s1] ρ μ P ∧ ∀ (z1 : Int) (ρ2 : Rf) (μ3 : Mem), P z1 ρ2 μ3 → ((z1 ≠ 0 → ∃ P : Int → Rf → Mem → Prop, qE mX8_layBoth GG GG [qP 178, qI x3] ρ2 μ3 P ∧ ∀ (z5 : Int) (ρ6 : Rf) (μ7 : Mem), P z5 ρ6 μ7 → i32 (5 * x1) ∧ i32 ((5 * x1) + x2) ∧ (0 ≤ (5 * x1) + x2 ∧ (5 * x1) + x2 < 10) ∧ ∃ P : Int → Rf → Mem → Prop, qE mX8_done GG GG [qP 178, qI (μ7 201 ((5 * x1) + x2))] ρ6 μ7 P ∧ ∀ (z9 : Int) (ρ10 : Rf) (μ11 : Mem), P z9 ρ10 μ11 → Post z9 ρ10 μ11) ∧ (z1 = 0 → ∃ P : Int → Rf → Mem → Prop, qE mX8_failed GG GG [qP 178, qI 1] ρ2 μ3 P ∧ ∀ (z13 : Int) (ρ14 : Rf) (μ15 : Mem), P z13 ρ14 μ15 → Post z13 ρ14 μ15))) : qX mX8_jointShare GG Post GG (0, 0) 23 [some (qP 178), some (qI x1), some (qI x2), some (qI x3)] [qI s1, qP 178] ρ μ := by
  obtain ⟨P, hE4, h⟩ := h
  refine qN_callV mX8_goesFor [_] _ 8 [] dX8_jointShare_23 cm_X8_320 ⟨(Nat.le_of_ble_eq_true rfl), (Nat.le_of_ble_eq_true rfl)⟩ rfl rfl sh178 (Nat.le_of_ble_eq_true rfl) ⟨rfl, rfl⟩ hE4 (fun z1 ρ2 μ3 hz => ?_)
  replace h := h _ _ _ hz
  refine qX_if_ne 35 dX8_jointShare_26 rfl (fun hc => ?_) (fun hc => ?_)
  · replace h := h.1 hc
    refine qX_aload_n 0 dX8_jointShare_35 rfl rfl (by decide) ?_
    refine qX_iload_n 3 dX8_jointShare_36 rfl rfl ?_
    obtain ⟨P, hE8, h⟩ := h
    refine qN_callV mX8_layBoth [_] _ 8 [] dX8_jointShare_37 cm_X8_352 ⟨(Nat.le_of_ble_eq_true rfl), (Nat.le_of_ble_eq_true rfl)⟩ rfl rfl sh178 (Nat.le_of_ble_eq_true rfl) ⟨rfl, rfl⟩ hE8 (fun z5 ρ6 μ7 hz => ?_)
    replace h := h _ _ _ hz
    refine qX_aload_n 0 dX8_jointShare_40 rfl rfl (by decide) ?_
    refine qX_aload_n 0 dX8_jointShare_41 rfl rfl (by decide) ?_
    refine qX_getS 8 38 _ 22 dX8_jointShare_42 fs_X8_82 rfl rfl sh178 (x := 201) rfl ?_
    refine qX_iconst dX8_jointShare_45 (i32_of rfl) ?_
    refine qX_iload_n 1 dX8_jointShare_46 rfl rfl ?_
    refine qR_imul dX8_jointShare_47 h.1 ?_
    replace h := h.2
    refine qX_iload_n 2 dX8_jointShare_48 rfl rfl ?_
    refine qR_iadd dX8_jointShare_49 h.1 ?_
    replace h := h.2
    refine qX_iald dX8_jointShare_50 sh201 h.1 ?_
    replace h := h.2
    obtain ⟨P, hE12, h⟩ := h
    refine qN_callV mX8_done [_] _ 8 [] dX8_jointShare_51 cm_X8_246 ⟨(Nat.le_of_ble_eq_true rfl), (Nat.le_of_ble_eq_true rfl)⟩ rfl rfl sh178 (Nat.le_of_ble_eq_true rfl) ⟨rfl, rfl⟩ hE12 (fun z9 ρ10 μ11 hz => ?_)
    replace h := h _ _ _ hz
    exact qX_ireturn rfl dX8_jointShare_54 rfl ⟨Nat.le_refl _, Nat.le_refl _⟩ h
  · replace h := h.2 hc
    refine qX_aload_n 0 dX8_jointShare_29 rfl rfl (by decide) ?_
    refine qX_iconst dX8_jointShare_30 (i32_of rfl) ?_
    obtain ⟨P, hE16, h⟩ := h
    refine qN_callV mX8_failed [_] _ 8 [] dX8_jointShare_31 cm_X8_226 ⟨(Nat.le_of_ble_eq_true rfl), (Nat.le_of_ble_eq_true rfl)⟩ rfl rfl sh178 (Nat.le_of_ble_eq_true rfl) ⟨rfl, rfl⟩ hE16 (fun z13 ρ14 μ15 hz => ?_)
    replace h := h _ _ _ hz
    exact qX_ireturn rfl dX8_jointShare_34 rfl ⟨Nat.le_refl _, Nat.le_refl _⟩ h
