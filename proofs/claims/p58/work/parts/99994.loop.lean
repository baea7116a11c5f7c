/-! ===== the law's loop ===== -/
section LOO
variable {ρ : Rf} {μ : Mem} {σ : Sg} {X : List Sh} {W : Int → Int} {pc c1 c2 : Nat} {lv : List (Option AV)} {st : List AV} {k : Int} {w : Nat}
theorem law_311 (hk : 0 ≤ k ∧ k ≤ 100) {v5 v6 v9 v10 : Option AV} {d : Int} (P : LPl W σ) (h6 : σ 0 6 = 0) (hd : (d = -2147483648 ∧ LEr σ ρ μ) ∨ (0 ≤ d ∧ ∃ q, PLW W q ∧ LEr (sCh σ q) ρ μ)) (hX : X10 X) (hl : X.length < 800) (hx : (GX X).2[179]? = some (10, 200)) (hw : μ 179 = W) (hwc : (GX X).2[w]? = some (10, 120)) (hw178 : 178 ≤ w) (hwe : μ w = pcut (σ 2) (10 + 4 * σ 2 87)) (k1 : c1 < 100000) (k2 : c2 < 1000000) (nx : ∀ (X' : List Sh) (b1 b2 : Nat) (σ' : Sg) (ρ' : Rf) (μ' : Mem), X10 X' → X'.length ≤ X.length + 3 → (GX X').2[179]? = some (10, 200) → b1 ≤ c1 + 4 → b2 ≤ c2 + 370 → LEr σ' ρ' μ' → LPl W σ' → σ' 0 6 = 0 → μ' 179 = W → qXF mL_law FIN (GX X') (b1, b2) 36 [some (qP sid), some (qP 0), none, some (qP 179), some (qI (k + 1)), none, none, none, none, none, none] [] ρ' μ') : qXF mL_law FIN (GX X) (c1, c2) 311 [some (qP sid), some (qP 0), none, some (qP 179), some (qI k), v5, v6, some (qP w), some (qI d), v9, v10] [] ρ μ := by
  refine qX_iload (i := 8) dL_law_311 rfl ?_
  refine qX_ldc dL_law_313 kK_L_168 (i32_of rfl) ?_
  refine qX_icmp_ne 332 dL_law_315 rfl (fun hc => ?_) (fun hc => ?_)
  · rcases hd with ⟨e, -⟩ | ⟨-, q, hq, L⟩
    · exact absurd e hc
    · exact law_succ hk P h6 hq L hX hl hx hw hwc hw178 hwe k1 k2 nx
  · rcases hd with ⟨-, L⟩ | ⟨e, -⟩
    · exact law_fail hk P h6 L hX hl hx hw hwc hw178 hwe k1 k2 nx
    · omega
/-- a change, and what holds behind it -/
theorem law_chg (hk : 0 ≤ k ∧ k ≤ 100) {v5 v6 v8 v9 v10 : Option AV} (h7 : qnoL [some (qP sid), some (qP 0), none, some (qP 179), some (qI k), v5, v6, some (qP w), v8, v9, v10] 8 = true) {Mc : MI} {as : List AV} {ix : Nat} {na : Nat} {off : Int} (hc : CM RL ix 7 na Mc) (hR : CR mL_law Mc) (hna : as.length = na) (hz : Mc.2.2.2.2.cells = 0 ∧ Mc.2.2.2.2.slots = 0) (hr : Mc.2.2.2.1 = 1) (d1 : decode cL_law pc = .ok (.invokevirtual ix, 3)) (d2 : decode cL_law (pc + 3) = .ok (.istore 8, 2)) (d3 : decode cL_law (pc + 3 + 2) = .ok (.goto off, 3)) (ht : ((pc + 3 + 2 : Nat) : Int) + off = ((311 : Nat) : Int)) (hE : qE Mc (GX X) (GX X) (qP 0 :: as) ρ μ (CHG W σ ρ μ)) (P : LPl W σ) (h6 : σ 0 6 = 0) (hX : X10 X) (hl : X.length < 800) (hx : (GX X).2[179]? = some (10, 200)) (hw : μ 179 = W) (hwc : (GX X).2[w]? = some (10, 120)) (hw178 : 178 ≤ w) (hwe : μ w = pcut (σ 2) (10 + 4 * σ 2 87)) (k1 : c1 < 100000) (k2 : c2 < 1000000) (nx : ∀ (X' : List Sh) (b1 b2 : Nat) (σ' : Sg) (ρ' : Rf) (μ' : Mem), X10 X' → X'.length ≤ X.length + 3 → (GX X').2[179]? = some (10, 200) → b1 ≤ c1 + 4 → b2 ≤ c2 + 370 → LEr σ' ρ' μ' → LPl W σ' → σ' 0 6 = 0 → μ' 179 = W → qXF mL_law FIN (GX X') (b1, b2) 36 [some (qP sid), some (qP 0), none, some (qP 179), some (qI (k + 1)), none, none, none, none, none, none] [] ρ' μ') : qXF mL_law FIN (GX X) (c1, c2) pc [some (qP sid), some (qP 0), none, some (qP 179), some (qI k), v5, v6, some (qP w), v8, v9, v10] (as.reverse ++ [qP 0]) ρ μ := by
  refine qM_callV Mc as 0 7 [] d1 hc hR rfl hna shX0 (by decide) hz ⟨by show c1 ≤ 600000; omega, by show c2 ≤ 7302250; omega⟩ hE (fun z ρ' μ' hz' => ?_)
  have er : retA Mc.2.2.2.1 z ++ [] = [qI z] := by rw [hr]; rfl
  rw [er]
  refine qX_istore (i := 8) d2 (by decide) h7 ?_
  refine qX_goto 311 d3 ht ?_
  have O : OUT ρ μ ρ' μ' := by
    rcases hz' with ⟨-, h⟩ | ⟨-, q, -, h⟩
    · exact h.2
    · exact h.2
  refine law_311 hk P h6 ?_ hX hl hx (by rw [(O 179 (by decide)).2, hw]) hwc hw178 (by rw [(O w hw178).2, hwe]) k1 k2 nx
  rcases hz' with ⟨e, h⟩ | ⟨e, q, hq, h⟩
  · exact Or.inl ⟨e, h.1⟩
  · exact Or.inr ⟨e, q, hq, h.1⟩
theorem law_c0 (hk : 0 ≤ k ∧ k ≤ 100) {c j : Int} (P : LPl W σ) (h6 : σ 0 6 = 0) (L : LEr σ ρ μ) (hX : X10 X) (hl : X.length < 800) (hx : (GX X).2[179]? = some (10, 200)) (hw : μ 179 = W) (hwc : (GX X).2[w]? = some (10, 120)) (hw178 : 178 ≤ w) (hwe : μ w = pcut (σ 2) (10 + 4 * σ 2 87)) (k1 : c1 < 100000) (k2 : c2 < 1000000) (nx : ∀ (X' : List Sh) (b1 b2 : Nat) (σ' : Sg) (ρ' : Rf) (μ' : Mem), X10 X' → X'.length ≤ X.length + 3 → (GX X').2[179]? = some (10, 200) → b1 ≤ c1 + 4 → b2 ≤ c2 + 370 → LEr σ' ρ' μ' → LPl W σ' → σ' 0 6 = 0 → μ' 179 = W → qXF mL_law FIN (GX X') (b1, b2) 36 [some (qP sid), some (qP 0), none, some (qP 179), some (qI (k + 1)), none, none, none, none, none, none] [] ρ' μ') : qXF mL_law FIN (GX X) (c1, c2) 120 [some (qP sid), some (qP 0), none, some (qP 179), some (qI k), some (qI c), some (qI j), some (qP w), none, none, none] [] ρ μ := by
  have b1 := and_m (x := shr32 c 7) (m := 3) (by decide)
  refine qM_aload_n 1 dL_law_120 rfl rfl shX0 ?_
  refine qX_iload (i := 5) dL_law_121 rfl ?_
  refine qX_bip dL_law_123 rfl ?_
  refine qX_ishr dL_law_125 ?_
  refine qX_iconst dL_law_126 (i32_of rfl) ?_
  refine qX_iand dL_law_127 ?_
  refine qX_iconst dL_law_128 (i32_of rfl) ?_
  refine qR_irem dL_law_129 ⟨by omega, by decide⟩ ?_
  refine qX_iload (i := 5) dL_law_130 rfl ?_
  refine qX_bip dL_law_132 rfl ?_
  refine qX_ishr dL_law_134 ?_
  refine qX_iconst dL_law_135 (i32_of rfl) ?_
  refine qX_iand dL_law_136 ?_
  refine qX_iload (i := 5) dL_law_137 rfl ?_
  refine qX_bip dL_law_139 rfl ?_
  refine qX_ishr dL_law_141 ?_
  refine qX_iconst dL_law_142 (i32_of rfl) ?_
  refine qX_iand dL_law_143 ?_
  refine qX_iload (i := 5) dL_law_144 rfl ?_
  refine qX_bip dL_law_146 rfl ?_
  refine qX_ishr dL_law_148 ?_
  refine qX_iconst dL_law_149 (i32_of rfl) ?_
  refine qX_iand dL_law_150 ?_
  refine qX_iload (i := 5) dL_law_151 rfl ?_
  refine qX_bip dL_law_153 rfl ?_
  refine qX_ishr dL_law_155 ?_
  refine qX_bip dL_law_156 rfl ?_
  refine qX_iand dL_law_158 ?_
  exact law_chg hk (as := [_, _, _, _, _]) rfl cm_L_224 ⟨by decide, by decide⟩ rfl ⟨rfl, rfl⟩ rfl dL_law_159 dL_law_162 dL_law_164 rfl (h_addJob P ⟨L, OUT.refl⟩) P h6 hX hl hx hw hwc hw178 hwe k1 k2 nx
theorem law_c1 (hk : 0 ≤ k ∧ k ≤ 100) {c j : Int} (P : LPl W σ) (h6 : σ 0 6 = 0) (L : LEr σ ρ μ) (hX : X10 X) (hl : X.length < 800) (hx : (GX X).2[179]? = some (10, 200)) (hw : μ 179 = W) (hwc : (GX X).2[w]? = some (10, 120)) (hw178 : 178 ≤ w) (hwe : μ w = pcut (σ 2) (10 + 4 * σ 2 87)) (k1 : c1 < 100000) (k2 : c2 < 1000000) (nx : ∀ (X' : List Sh) (b1 b2 : Nat) (σ' : Sg) (ρ' : Rf) (μ' : Mem), X10 X' → X'.length ≤ X.length + 3 → (GX X').2[179]? = some (10, 200) → b1 ≤ c1 + 4 → b2 ≤ c2 + 370 → LEr σ' ρ' μ' → LPl W σ' → σ' 0 6 = 0 → μ' 179 = W → qXF mL_law FIN (GX X') (b1, b2) 36 [some (qP sid), some (qP 0), none, some (qP 179), some (qI (k + 1)), none, none, none, none, none, none] [] ρ' μ') : qXF mL_law FIN (GX X) (c1, c2) 167 [some (qP sid), some (qP 0), none, some (qP 179), some (qI k), some (qI c), some (qI j), some (qP w), none, none, none] [] ρ μ := by
  refine qM_aload_n 1 dL_law_167 rfl rfl shX0 ?_
  refine qX_iload (i := 6) dL_law_168 rfl ?_
  exact law_chg hk (as := [_]) rfl cm_L_227 ⟨by decide, by decide⟩ rfl ⟨rfl, rfl⟩ rfl dL_law_170 dL_law_173 dL_law_175 rfl (h_removeJob P ⟨L, OUT.refl⟩) P h6 hX hl hx hw hwc hw178 hwe k1 k2 nx
theorem law_c2 (hk : 0 ≤ k ∧ k ≤ 100) {c j : Int} (P : LPl W σ) (h6 : σ 0 6 = 0) (L : LEr σ ρ μ) (hX : X10 X) (hl : X.length < 800) (hx : (GX X).2[179]? = some (10, 200)) (hw : μ 179 = W) (hwc : (GX X).2[w]? = some (10, 120)) (hw178 : 178 ≤ w) (hwe : μ w = pcut (σ 2) (10 + 4 * σ 2 87)) (k1 : c1 < 100000) (k2 : c2 < 1000000) (nx : ∀ (X' : List Sh) (b1 b2 : Nat) (σ' : Sg) (ρ' : Rf) (μ' : Mem), X10 X' → X'.length ≤ X.length + 3 → (GX X').2[179]? = some (10, 200) → b1 ≤ c1 + 4 → b2 ≤ c2 + 370 → LEr σ' ρ' μ' → LPl W σ' → σ' 0 6 = 0 → μ' 179 = W → qXF mL_law FIN (GX X') (b1, b2) 36 [some (qP sid), some (qP 0), none, some (qP 179), some (qI (k + 1)), none, none, none, none, none, none] [] ρ' μ') : qXF mL_law FIN (GX X) (c1, c2) 178 [some (qP sid), some (qP 0), none, some (qP 179), some (qI k), some (qI c), some (qI j), some (qP w), none, none, none] [] ρ μ := by
  refine qM_aload_n 1 dL_law_178 rfl rfl shX0 ?_
  refine qX_iload (i := 6) dL_law_179 rfl ?_
  refine qX_iload (i := 5) dL_law_181 rfl ?_
  refine qX_bip dL_law_183 rfl ?_
  refine qX_ishr dL_law_185 ?_
  refine qX_bip dL_law_186 rfl ?_
  refine qX_iand dL_law_188 ?_
  exact law_chg hk (as := [_, _]) rfl cm_L_230 ⟨by decide, by decide⟩ rfl ⟨rfl, rfl⟩ rfl dL_law_189 dL_law_192 dL_law_194 rfl (h_moveJob P ⟨L, OUT.refl⟩) P h6 hX hl hx hw hwc hw178 hwe k1 k2 nx
theorem law_c3 (hk : 0 ≤ k ∧ k ≤ 100) {c j : Int} (P : LPl W σ) (h6 : σ 0 6 = 0) (L : LEr σ ρ μ) (hX : X10 X) (hl : X.length < 800) (hx : (GX X).2[179]? = some (10, 200)) (hw : μ 179 = W) (hwc : (GX X).2[w]? = some (10, 120)) (hw178 : 178 ≤ w) (hwe : μ w = pcut (σ 2) (10 + 4 * σ 2 87)) (k1 : c1 < 100000) (k2 : c2 < 1000000) (nx : ∀ (X' : List Sh) (b1 b2 : Nat) (σ' : Sg) (ρ' : Rf) (μ' : Mem), X10 X' → X'.length ≤ X.length + 3 → (GX X').2[179]? = some (10, 200) → b1 ≤ c1 + 4 → b2 ≤ c2 + 370 → LEr σ' ρ' μ' → LPl W σ' → σ' 0 6 = 0 → μ' 179 = W → qXF mL_law FIN (GX X') (b1, b2) 36 [some (qP sid), some (qP 0), none, some (qP 179), some (qI (k + 1)), none, none, none, none, none, none] [] ρ' μ') : qXF mL_law FIN (GX X) (c1, c2) 197 [some (qP sid), some (qP 0), none, some (qP 179), some (qI k), some (qI c), some (qI j), some (qP w), none, none, none] [] ρ μ := by
  have b1 := and_m (x := shr32 c 8) (m := 255) (by decide)
  refine qM_aload_n 1 dL_law_197 rfl rfl shX0 ?_
  refine qX_iload (i := 5) dL_law_198 rfl ?_
  refine qX_bip dL_law_200 rfl ?_
  refine qX_ishr dL_law_202 ?_
  refine qX_iconst dL_law_203 (i32_of rfl) ?_
  refine qX_iand dL_law_204 ?_
  refine qX_iload (i := 5) dL_law_205 rfl ?_
  refine qX_bip dL_law_207 rfl ?_
  refine qX_ishr dL_law_209 ?_
  refine qX_sip dL_law_210 rfl ?_
  refine qX_iand dL_law_213 ?_
  exact law_chg hk (as := [_, _]) rfl cm_L_233 ⟨by decide, by decide⟩ rfl ⟨rfl, rfl⟩ rfl dL_law_214 dL_law_217 dL_law_219 rfl (h_setDeparture P b1.2 ⟨L, OUT.refl⟩) P h6 hX hl hx hw hwc hw178 hwe k1 k2 nx
theorem law_c4 (hk : 0 ≤ k ∧ k ≤ 100) {c j : Int} (P : LPl W σ) (h6 : σ 0 6 = 0) (L : LEr σ ρ μ) (hX : X10 X) (hl : X.length < 800) (hx : (GX X).2[179]? = some (10, 200)) (hw : μ 179 = W) (hwc : (GX X).2[w]? = some (10, 120)) (hw178 : 178 ≤ w) (hwe : μ w = pcut (σ 2) (10 + 4 * σ 2 87)) (k1 : c1 < 100000) (k2 : c2 < 1000000) (nx : ∀ (X' : List Sh) (b1 b2 : Nat) (σ' : Sg) (ρ' : Rf) (μ' : Mem), X10 X' → X'.length ≤ X.length + 3 → (GX X').2[179]? = some (10, 200) → b1 ≤ c1 + 4 → b2 ≤ c2 + 370 → LEr σ' ρ' μ' → LPl W σ' → σ' 0 6 = 0 → μ' 179 = W → qXF mL_law FIN (GX X') (b1, b2) 36 [some (qP sid), some (qP 0), none, some (qP 179), some (qI (k + 1)), none, none, none, none, none, none] [] ρ' μ') : qXF mL_law FIN (GX X) (c1, c2) 222 [some (qP sid), some (qP 0), none, some (qP 179), some (qI k), some (qI c), some (qI j), some (qP w), none, none, none] [] ρ μ := by
  refine qM_aload_n 1 dL_law_222 rfl rfl shX0 ?_
  refine qX_iload (i := 5) dL_law_223 rfl ?_
  refine qX_bip dL_law_225 rfl ?_
  refine qX_ishr dL_law_227 ?_
  refine qX_iconst dL_law_228 (i32_of rfl) ?_
  refine qX_iand dL_law_229 ?_
  refine qX_iload (i := 5) dL_law_230 rfl ?_
  refine qX_bip dL_law_232 rfl ?_
  refine qX_ishr dL_law_234 ?_
  refine qX_iconst dL_law_235 (i32_of rfl) ?_
  refine qX_iand dL_law_236 ?_
  refine qX_iload (i := 5) dL_law_237 rfl ?_
  refine qX_bip dL_law_239 rfl ?_
  refine qX_ishr dL_law_241 ?_
  refine qX_bip dL_law_242 rfl ?_
  refine qX_iand dL_law_244 ?_
  exact law_chg hk (as := [_, _, _]) rfl cm_L_236 ⟨by decide, by decide⟩ rfl ⟨rfl, rfl⟩ rfl dL_law_245 dL_law_248 dL_law_250 rfl (h_setStock P ⟨L, OUT.refl⟩) P h6 hX hl hx hw hwc hw178 hwe k1 k2 nx
theorem law_c5 (hk : 0 ≤ k ∧ k ≤ 100) {c j : Int} (P : LPl W σ) (h6 : σ 0 6 = 0) (L : LEr σ ρ μ) (hX : X10 X) (hl : X.length < 800) (hx : (GX X).2[179]? = some (10, 200)) (hw : μ 179 = W) (hwc : (GX X).2[w]? = some (10, 120)) (hw178 : 178 ≤ w) (hwe : μ w = pcut (σ 2) (10 + 4 * σ 2 87)) (k1 : c1 < 100000) (k2 : c2 < 1000000) (nx : ∀ (X' : List Sh) (b1 b2 : Nat) (σ' : Sg) (ρ' : Rf) (μ' : Mem), X10 X' → X'.length ≤ X.length + 3 → (GX X').2[179]? = some (10, 200) → b1 ≤ c1 + 4 → b2 ≤ c2 + 370 → LEr σ' ρ' μ' → LPl W σ' → σ' 0 6 = 0 → μ' 179 = W → qXF mL_law FIN (GX X') (b1, b2) 36 [some (qP sid), some (qP 0), none, some (qP 179), some (qI (k + 1)), none, none, none, none, none, none] [] ρ' μ') : qXF mL_law FIN (GX X) (c1, c2) 253 [some (qP sid), some (qP 0), none, some (qP 179), some (qI k), some (qI c), some (qI j), some (qP w), none, none, none] [] ρ μ := by
  have b1 := and_m (x := shr32 c 7) (m := 3) (by decide)
  have ok := L.okp P.1
  have n := ok.1.n
  have p61 := P.2.2.2.2.2.2.1
  refine qX_iload (i := 5) dL_law_253 rfl ?_
  refine qX_bip dL_law_255 rfl ?_
  refine qX_ishr dL_law_257 ?_
  refine qX_iconst dL_law_258 (i32_of rfl) ?_
  refine qX_iand dL_law_259 ?_
  refine qX_iconst dL_law_260 (i32_of rfl) ?_
  refine qR_irem dL_law_261 ⟨by omega, by decide⟩ ?_
  have hi : 0 ≤ and32 (shr32 c 7) 3 % 3 ∧ and32 (shr32 c 7) 3 % 3 < 3 := by omega
  generalize and32 (shr32 c 7) 3 % 3 = i at hi
  refine qX_istore (i := 9) dL_law_262 (by decide) rfl ?_
  refine qM_aload_n 1 dL_law_264 rfl rfl shX0 ?_
  refine qX_iload (i := 9) dL_law_265 rfl ?_
  refine qM_callV mX7_bestMeals [qI i] 0 7 [] dL_law_267 cm_L_239 ⟨by decide, by decide⟩ rfl rfl shX0 (by decide) ⟨rfl, rfl⟩ ⟨by show c1 ≤ 600000; omega, by show c2 ≤ 7302250; omega⟩ (g_bestMeals L P hi) (fun z1 ρ1 μ1 hz => ?_)
  obtain ⟨hz1, L1, O1⟩ := hz
  refine qX_istore (i := 10) dL_law_270 (by decide) rfl ?_
  refine qM_aload_n 1 dL_law_272 rfl rfl shX0 ?_
  refine qX_iload (i := 9) dL_law_273 rfl ?_
  refine qM_callV mX7_applyBest [qI i] 0 7 [] dL_law_275 cm_L_242 ⟨by decide, by decide⟩ rfl rfl shX0 (by decide) ⟨rfl, rfl⟩ ⟨by show c1 ≤ 600000; omega, by show c2 ≤ 7302250; omega⟩ (h_applyBest P hi ⟨L1, OUT.refl⟩) (fun z2 ρ2 μ2 hz => ?_)
  obtain ⟨hz2, hq, L2, O2⟩ := hz
  have P2 : LPl W (sCh σ (apB (σ 2) i)) := ⟨(sCh_0 (by decide) (by decide)).trans P.1, hq⟩
  refine qX_istore (i := 8) dL_law_278 (by decide) rfl ?_
  refine qM_aload_n 1 dL_law_280 rfl rfl shX0 ?_
  refine qX_iload (i := 9) dL_law_281 rfl ?_
  refine qM_callV mX7_bestMeals [qI i] 0 7 [] dL_law_283 cm_L_239 ⟨by decide, by decide⟩ rfl rfl shX0 (by decide) ⟨rfl, rfl⟩ ⟨by show c1 ≤ 600000; omega, by show c2 ≤ 7302250; omega⟩ (g_bestMeals L2 P2 hi) (fun z3 ρ3 μ3 hz => ?_)
  obtain ⟨hz3, L3, O3⟩ := hz
  have e31 : z3 = z1 := by
    rw [hz3, hz1]
    exact apB_best ok hi.1 (by omega)
  refine qX_iload (i := 10) dL_law_286 rfl ?_
  refine qX_icmp_ne 309 dL_law_288 rfl (fun hc => absurd e31 hc) (fun _ => ?_)
  refine qM_aload_n 1 dL_law_291 rfl rfl shX0 ?_
  refine qX_iload (i := 9) dL_law_292 rfl ?_
  refine qM_callV mX7_bestSet [qI i] 0 7 [] dL_law_294 cm_L_245 ⟨by decide, by decide⟩ rfl rfl shX0 (by decide) ⟨rfl, rfl⟩ ⟨by show c1 ≤ 600000; omega, by show c2 ≤ 7302250; omega⟩ (g_bestSet L3 P2 hi) (fun z4 ρ4 μ4 hz => ?_)
  obtain ⟨rfl, L4, O4⟩ := hz
  have ok2 : OKP (apB (σ 2) i) := L4.okp P2.1
  have c0 : 0 ≤ cnt (apB (σ 2) i) i := (owC_b (p := apB (σ 2) i) (i := i) ok2.1.n.2.2.2.2.2.2.1).1
  have c8 := ok2.2.2.2.1 i
  have bb := bst_b (p := apB (σ 2) i) (i := i) c0
  have lt := bw_lt (cnt (apB (σ 2) i) i).toNat (by omega)
  have pn := pc_n (cnt (apB (σ 2) i) i).toNat (by omega) (bst (apB (σ 2) i) i) bb.1
  refine qM_callS mJ6_bitCount_0f7a4 [qI _] [] dL_law_297 cm_L_126 ⟨by decide, by decide⟩ rfl rfl (by decide) ⟨rfl, rfl⟩ ⟨by show c1 ≤ 600000; omega, by show c2 ≤ 7302250; omega⟩ (h_bitCount (n := bst (sCh σ (apB (σ 2) i) 2) i) (by show bst (apB (σ 2) i) i < 256; omega)) (fun z5 ρ5 μ5 hz => ?_)
  obtain ⟨rfl, rfl, rfl⟩ := hz
  refine qM_aload_n 1 dL_law_300 rfl rfl shX0 ?_
  refine qX_iload (i := 9) dL_law_301 rfl ?_
  refine qM_callS mL_jobsOf [qP 0, qI i] [qI _] dL_law_303 cm_L_248 ⟨by decide, by decide⟩ rfl rfl (Nat.le_of_ble_eq_true rfl) ⟨rfl, rfl⟩ ⟨by show c1 ≤ 600000; omega, by show c2 ≤ 7302250; omega⟩ (h_jobsOf P2 ⟨L4, OUT.refl⟩) (fun z6 ρ6 μ6 hz => ?_)
  obtain ⟨hz6, L6, O6⟩ := hz
  have O := (O1.trans O2).trans (O3.trans (O4.trans O6))
  have h6' : z6 = cnt (apB (σ 2) i) i := hz6
  refine qX_icmp_le 311 dL_law_306 rfl (fun _ => ?_) (fun hc => ?_)
  · exact law_311 hk P h6 (Or.inr ⟨hz2, _, hq, L6⟩) hX hl hx (by rw [(O 179 (by decide)).2, hw]) hwc hw178 (by rw [(O w hw178).2, hwe]) k1 k2 nx
  · exfalso
    have hc : z6 < ((pc8 (bst (apB (σ 2) i) i) : Nat) : Int) := hc
    omega
end LOO
