/-! ===== the law's step ===== -/
def FIN : Gx → Int → Rf → Mem → Prop := fun _ z _ _ => z = 1
theorem X10.s {X : List Sh} (h : X10 X) {n : Nat} : X10 (X ++ [(10, n)]) := fun s hs => by
  rcases List.mem_append.mp hs with e | e
  · exact h s e
  · rw [List.mem_singleton.mp e]
theorem lenX {X : List Sh} {sh : Sh} : (X ++ [sh]).length = X.length + 1 := by rw [List.length_append]; rfl
theorem ltX {X : List Sh} {w : Nat} {sh : Sh} (h : (GX X).2[w]? = some sh) : w < 178 + X.length := by
  have a := (List.getElem?_eq_some_iff.mp h).1
  rwa [GX_len] at a
section LAW
variable {ρ : Rf} {μ : Mem} {σ : Sg} {X : List Sh} {W : Int → Int} {pc c1 c2 : Nat} {lv : List (Option AV)} {st : List AV} {k : Int} {w : Nat}
theorem q_holds (d1 : decode cL_law pc = .ok (.aload_n 1, 1)) (d2 : decode cL_law (pc + 1) = .ok (.aload_n 3, 1)) (d3 : decode cL_law (pc + 1 + 1) = .ok (.invokestatic 216, 3)) (l1 : lv[1]? = some (some (qP 0))) (l3 : lv[3]? = some (some (qP 179))) (P : LPl W σ) (hx : (GX X).2[179]? = some (10, 200)) (hw : μ 179 = W) (h6 : 0 ≤ σ 0 6 ∧ σ 0 6 ≤ 1) (hX : X10 X) (hl : X.length < 900) (L : LEr σ ρ μ) (k1 : c1 < 500000) (k2 : c2 < 7000000) (nx : ∀ σ' ρ' μ', SEq σ σ' → LEr σ' ρ' μ' → OUT ρ μ ρ' μ' → qXF mL_law FIN (GX X) (c1 + 1, c2 + 3) (pc + 1 + 1 + 3) lv [qI 1] ρ' μ') : qXF mL_law FIN (GX X) (c1, c2) pc lv [] ρ μ := by
  refine qM_aload_n 1 d1 rfl l1 shX0 ?_
  refine qM_aload_n 3 d2 rfl l3 hx ?_
  refine qX_callS mL_holds [qP 0, qP 179] [] d3 cm_L_216 ⟨by decide, by decide⟩ rfl rfl (by decide) ⟨by show c1 + 1 ≤ 600000; omega, by show c2 + 3 ≤ 7302250; omega⟩ (h_holds P hx (by decide) hw h6 hX (by omega) ⟨L, OUT.refl⟩) (Nat.le_refl _) (fun z ρ' μ' hz => ?_)
  obtain ⟨rfl, σ', S, L', O⟩ := hz
  exact nx σ' ρ' μ' S L' O
theorem q_seen (d1 : decode cL_law pc = .ok (.aload_n 1, 1)) (d2 : decode cL_law (pc + 1) = .ok (.invokestatic 220, 3)) (l1 : lv[1]? = some (some (qP 0))) (hst : csz st ≤ 8) (P : LPl W σ) (hl : X.length < 900) (L : LEr σ ρ μ) (k1 : c1 < 500000) (k2 : c2 < 7000000) (nx : ∀ ρ' μ', LEr σ ρ' μ' → OUX (178 + X.length) ρ μ ρ' μ' → μ' (178 + X.length) = pcut (σ 2) (10 + 4 * σ 2 87) → qXF mL_law FIN (GX (X ++ [(10, 120)])) (c1 + 1, c2 + 120) (pc + 1 + 3) lv (qP (178 + X.length) :: st) ρ' μ') : qXF mL_law FIN (GX X) (c1, c2) pc lv st ρ μ := by
  refine qM_aload_n 1 d1 rfl l1 shX0 ?_
  refine qX_callS mL_seen [qP 0] st d2 cm_L_220 ⟨by decide, by decide⟩ rfl rfl hst ⟨by show c1 + 1 ≤ 600000; omega, by show c2 + 120 ≤ 7302250; omega⟩ (h_seen P L (by omega)) GX_le (fun z ρ' μ' hz => ?_)
  obtain ⟨rfl, L', O, e⟩ := hz
  exact nx ρ' μ' L' O e
theorem q_eqS (i : Nat) (d0 : decode cL_law pc = .ok (.aload i, 2)) (d1 : decode cL_law (pc + 2) = .ok (.aload_n 1, 1)) (d2 : decode cL_law (pc + 2 + 1) = .ok (.invokestatic 220, 3)) (d3 : decode cL_law (pc + 2 + 1 + 3) = .ok (.invokestatic 252, 3)) (l1 : lv[1]? = some (some (qP 0))) (li : lv[i]? = some (some (qP w))) (hwc : (GX X).2[w]? = some (10, 120)) (hw178 : 178 ≤ w) (hwe : μ w = pcut (σ 2) (10 + 4 * σ 2 87)) (P : LPl W σ) (hl : X.length < 900) (L : LEr σ ρ μ) (k1 : c1 < 500000) (k2 : c2 < 7000000) (nx : ∀ ρ' μ', LEr σ ρ' μ' → OUX (178 + X.length) ρ μ ρ' μ' → qXF mL_law FIN (GX (X ++ [(10, 120)])) (c1 + 1, c2 + 120) (pc + 2 + 1 + 3 + 3) lv [qI 1] ρ' μ') : qXF mL_law FIN (GX X) (c1, c2) pc lv [] ρ μ := by
  have lt := ltX hwc
  refine qM_aload d0 li hwc ?_
  refine q_seen d1 d2 l1 (Nat.le_of_ble_eq_true rfl) P hl L k1 k2 (fun ρ' μ' L' O e => ?_)
  have e2 : μ' w = μ' (178 + X.length) := by rw [(O w hw178).2 (by omega), hwe, e]
  refine qM_callS mJ7_equals_bbcde [qP w, qP (178 + X.length)] [] d3 cm_L_252 ⟨by decide, by decide⟩ rfl rfl (by decide) ⟨rfl, rfl⟩ ⟨by show c1 + 1 ≤ 600000; omega, by show c2 + 120 ≤ 7302250; omega⟩ (h_equals (shXm hwc) shXe (by omega) (fun j _ _ => by rw [e2])) (fun z ρ2 μ2 hz => ?_)
  obtain ⟨rfl, rfl, rfl⟩ := hz
  exact nx _ _ L' O
/-- where the next step begins -/
def NXT (W : Int → Int) (X : List Sh) (c1 c2 : Nat) (k : Int) : Prop := ∀ (X' : List Sh) (b1 b2 : Nat) (σ' : Sg) (ρ' : Rf) (μ' : Mem), X10 X' → X'.length ≤ X.length + 4 → (GX X').2[179]? = some (10, 200) → b1 ≤ c1 + 6 → b2 ≤ c2 + 500 → LEr σ' ρ' μ' → LPl W σ' → σ' 0 6 = 0 → μ' 179 = W → qXF mL_law FIN (GX X') (b1, b2) 36 [some (qP sid), some (qP 0), none, some (qP 179), some (qI k), none, none, none, none, none, none] [] ρ' μ'
theorem law_415 (hk : 0 ≤ k ∧ k ≤ 100) {v5 v6 v7 v8 v9 v10 : Option AV} (h : qXF mL_law FIN (GX X) (c1, c2) 36 [some (qP sid), some (qP 0), none, some (qP 179), some (qI (k + 1)), none, none, none, none, none, none] [] ρ μ) : qXF mL_law FIN (GX X) (c1, c2) 415 [some (qP sid), some (qP 0), none, some (qP 179), some (qI k), v5, v6, v7, v8, v9, v10] [] ρ μ := by
  refine qR_iinc (i := 4) dL_law_415 rfl (by decide) rfl (by unfold i32; omega) ?_
  refine qX_goto 36 dL_law_418 rfl ?_
  refine qX_mask [true, true, false, true, true, false, false, false, false, false, false] ?_
  exact h
theorem law_fail (hk : 0 ≤ k ∧ k ≤ 100) {v5 v6 v9 v10 : Option AV} {d : Int} (P : LPl W σ) (h6 : σ 0 6 = 0) (L : LEr σ ρ μ) (hX : X10 X) (hl : X.length < 800) (hx : (GX X).2[179]? = some (10, 200)) (hw : μ 179 = W) (hwc : (GX X).2[w]? = some (10, 120)) (hw178 : 178 ≤ w) (hwe : μ w = pcut (σ 2) (10 + 4 * σ 2 87)) (k1 : c1 < 100000) (k2 : c2 < 1000000) (nx : ∀ (X' : List Sh) (b1 b2 : Nat) (σ' : Sg) (ρ' : Rf) (μ' : Mem), X10 X' → X'.length ≤ X.length + 3 → (GX X').2[179]? = some (10, 200) → b1 ≤ c1 + 4 → b2 ≤ c2 + 370 → LEr σ' ρ' μ' → LPl W σ' → σ' 0 6 = 0 → μ' 179 = W → qXF mL_law FIN (GX X') (b1, b2) 36 [some (qP sid), some (qP 0), none, some (qP 179), some (qI (k + 1)), none, none, none, none, none, none] [] ρ' μ') : qXF mL_law FIN (GX X) (c1, c2) 318 [some (qP sid), some (qP 0), none, some (qP 179), some (qI k), v5, v6, some (qP w), some (qI d), v9, v10] [] ρ μ := by
  have l179 := ltX hx
  refine q_eqS 7 dL_law_318 dL_law_320 dL_law_321 dL_law_324 rfl rfl hwc hw178 hwe P (by omega) L (by omega) (by omega) (fun ρ' μ' L' O => ?_)
  refine qX_if_ne 415 dL_law_327 rfl (fun _ => ?_) (fun hc => absurd hc (by decide))
  refine law_415 hk ?_
  exact nx _ _ _ _ _ _ hX.s (by rw [lenX]; omega) (shXm hx) (by omega) (by omega) L' P h6 (by rw [(O 179 (by decide)).2 (by omega), hw])
theorem law_succ (hk : 0 ≤ k ∧ k ≤ 100) {v5 v6 v9 v10 : Option AV} {d : Int} {q : Pl} (P : LPl W σ) (h6 : σ 0 6 = 0) (hq : PLW W q) (L : LEr (sCh σ q) ρ μ) (hX : X10 X) (hl : X.length < 800) (hx : (GX X).2[179]? = some (10, 200)) (hw : μ 179 = W) (hwc : (GX X).2[w]? = some (10, 120)) (hw178 : 178 ≤ w) (hwe : μ w = pcut (σ 2) (10 + 4 * σ 2 87)) (k1 : c1 < 100000) (k2 : c2 < 1000000) (nx : ∀ (X' : List Sh) (b1 b2 : Nat) (σ' : Sg) (ρ' : Rf) (μ' : Mem), X10 X' → X'.length ≤ X.length + 3 → (GX X').2[179]? = some (10, 200) → b1 ≤ c1 + 4 → b2 ≤ c2 + 370 → LEr σ' ρ' μ' → LPl W σ' → σ' 0 6 = 0 → μ' 179 = W → qXF mL_law FIN (GX X') (b1, b2) 36 [some (qP sid), some (qP 0), none, some (qP 179), some (qI (k + 1)), none, none, none, none, none, none] [] ρ' μ') : qXF mL_law FIN (GX X) (c1, c2) 332 [some (qP sid), some (qP 0), none, some (qP 179), some (qI k), v5, v6, some (qP w), some (qI d), v9, v10] [] ρ μ := by
  have l179 := ltX hx
  have lw := ltX hwc
  have hN : hN (σ 0 6) = 1 := by rw [h6]; rfl
  have P1 : LPl W (sCh σ q) := ⟨(sCh_0 (by decide) (by decide)).trans P.1, hq⟩
  have e16 : sCh σ q 0 6 = 1 := by rw [sCh_6, hN]
  have eh1 : hs (sCh σ q) 0 = σ 2 := by
    show sCh σ q (4 + (0 : Int).toNat) = σ 2
    rw [sCh_h (by decide)]
    show (if (0 : Int) = _root_.Jvm.Pilot.CTrolleyPlannerLaw_law_r6991_22c8a8.hN (σ 0 6) - 1 then σ 2 else _) = σ 2
    rw [if_pos (by rw [hN]; rfl)]
  -- what there is now
  refine q_seen dL_law_332 dL_law_333 rfl (by decide) P1 (by omega) L (by omega) (by omega) (fun ρ1 μ1 L1 O1 et => ?_)
  refine qM_astore (i := 9) dL_law_336 (by decide) rfl shXe ?_
  have w1 : μ1 179 = W := by rw [(O1 179 (by decide)).2 (by omega), hw]
  have ww1 : μ1 w = pcut (σ 2) (10 + 4 * σ 2 87) := by rw [(O1 w hw178).2 (by omega), hwe]
  -- all holds
  refine q_holds dL_law_338 dL_law_339 dL_law_340 rfl rfl P1 (shXm hx) w1 (by omega) hX.s (by rw [lenX]; omega) L1 (by omega) (by omega) (fun σ2 ρ2 μ2 S2 L2 O2 => ?_)
  refine qX_if_eq 413 dL_law_343 rfl (fun hc => absurd hc (by decide)) (fun _ => ?_)
  have P2 := S2.pl P1
  have e26 : σ2 0 6 = 1 := (S2.2.1 6 (by decide)).trans e16
  have e22 : σ2 2 = q := S2.1
  have eh2 : hs σ2 0 = σ 2 := (S2.2.2.2 e16).trans eh1
  -- saved
  refine qM_aload_n 1 dL_law_346 rfl rfl shX0 ?_
  refine qM_callV mX7_save [] 0 7 [] dL_law_347 cm_L_256 ⟨by decide, by decide⟩ rfl rfl shX0 (by decide) ⟨rfl, rfl⟩ ⟨by show c1 + 1 + 1 ≤ 600000; omega, by show c2 + 120 + 3 ≤ 7302250; omega⟩ (g_save L2 P2.1) (fun z ρ3 μ3 hz => ?_)
  obtain ⟨rfl, L3, O3⟩ := hz
  refine qX_if_ne 413 dL_law_350 rfl (fun hc => absurd rfl hc) (fun _ => ?_)
  have e36 : sSv σ2 0 6 = 1 := e26
  have e34 : sSv σ2 0 4 = 1 := P2.1
  -- undone
  refine qM_aload_n 1 dL_law_353 rfl rfl shX0 ?_
  refine qM_callV mX7_undo [] 0 7 [] dL_law_354 cm_L_259 ⟨by decide, by decide⟩ rfl rfl shX0 (by decide) ⟨rfl, rfl⟩ ⟨by show c1 + 1 + 1 ≤ 600000; omega, by show c2 + 120 + 3 ≤ 7302250; omega⟩ (g_undo L3 e34 (by omega)) (fun z ρ4 μ4 hz => ?_)
  obtain ⟨hz4, L4, O4⟩ := hz
  obtain rfl : z = 0 := by omega
  refine qX_if_ne 413 dL_law_357 rfl (fun hc => absurd rfl hc) (fun _ => ?_)
  have e42 : sUn (sSv σ2) 2 = σ 2 := by
    rw [← eh2]
    funext j
    show hs (sSv σ2) (sSv σ2 0 6 - 1) j = hs σ2 0 j
    rw [e36]
    rfl
  have e44 : sUn (sSv σ2) 0 4 = 1 := P2.1
  have e45 : sUn (sSv σ2) 0 5 = 1 := rfl
  have e43 : sUn (sSv σ2) 3 = q := e22
  have P4 : LPl W (sUn (sSv σ2)) := ⟨e44, by rw [e42]; exact P.2⟩
  generalize sUn (sSv σ2) = σ4 at L4 e42 e44 e45 e43 P4
  have O24 := O2.trans (O3.trans O4)
  have w4 : μ4 w = pcut (σ4 2) (10 + 4 * σ4 2 87) := by rw [(O24 w hw178).2, ww1, e42]
  refine q_eqS 7 dL_law_360 dL_law_362 dL_law_363 dL_law_366 rfl rfl (shXm hwc) hw178 w4 P4 (by rw [lenX]; omega) L4 (by omega) (by omega) (fun ρ5 μ5 L5 O5 => ?_)
  refine qX_if_eq 413 dL_law_369 rfl (fun hc => absurd hc (by decide)) (fun _ => ?_)
  -- gone back to the saved state
  refine qM_aload_n 1 dL_law_372 rfl rfl shX0 ?_
  refine qM_callV mX7_restore [] 0 7 [] dL_law_373 cm_L_262 ⟨by decide, by decide⟩ rfl rfl shX0 (by decide) ⟨rfl, rfl⟩ ⟨by show c1 + 1 + 1 + 1 ≤ 600000; omega, by show c2 + 120 + 3 + 120 ≤ 7302250; omega⟩ (g_restore L5 e44 e45) (fun z ρ6 μ6 hz => ?_)
  obtain ⟨hz6, L6, O6⟩ := hz
  have e62 : sRe σ4 2 = q := e43
  have e64 : sRe σ4 0 4 = 1 := e44
  have e66 : sRe σ4 0 6 = 0 := rfl
  have P6 : LPl W (sRe σ4) := ⟨e64, by rw [e62]; exact hq⟩
  generalize sRe σ4 = σ6 at L6 e62 e64 e66 P6
  have lx : (X ++ [((10, 120) : Sh)]).length = X.length + 1 := lenX
  have t6 : μ6 (178 + X.length) = pcut q (10 + 4 * q 87) := by
    rw [(O6 _ (by omega)).2, (O5 _ (by omega)).2 (by omega), (O24 _ (by omega)).2, et]
    rfl
  refine qM_aload dL_law_376 rfl (shXm shXe) ?_
  refine qX_iconst dL_law_378 (i32_of rfl) ?_
  refine qX_iald dL_law_379 (shXm shXe) (by decide) ?_
  have t0 : μ6 (178 + X.length) 0 = z := by
    rw [t6, hz6, e43]
    have n87 : 0 ≤ q 87 := by
      have a := (L6.okp e64).1.n.2.2.2.2.2.2.1
      rwa [e62] at a
    unfold pcut
    rw [if_pos (by omega)]
    rfl
  rw [t0]
  refine qX_icmp_ne 413 dL_law_380 rfl (fun hc => absurd rfl hc) (fun _ => ?_)
  refine q_eqS 9 dL_law_383 dL_law_385 dL_law_386 dL_law_389 rfl rfl (shXm shXe) (by omega) (by rw [t6, e62]) P6 (by rw [lenX, lenX]; omega) L6 (by omega) (by omega) (fun ρ7 μ7 L7 O7 => ?_)
  refine qX_if_eq 413 dL_law_392 rfl (fun hc => absurd hc (by decide)) (fun _ => ?_)
  -- nothing left to undo
  refine qM_aload_n 1 dL_law_395 rfl rfl shX0 ?_
  refine qM_callV mX7_undo [] 0 7 [] dL_law_396 cm_L_259 ⟨by decide, by decide⟩ rfl rfl shX0 (by decide) ⟨rfl, rfl⟩ ⟨by show c1 + 1 + 1 + 1 + 1 ≤ 600000; omega, by show c2 + 120 + 3 + 120 + 120 ≤ 7302250; omega⟩ (g_undoF L7 e64 e66) (fun z8 ρ8 μ8 hz => ?_)
  obtain ⟨rfl, L8, O8⟩ := hz
  refine qX_ldc dL_law_399 kK_L_168 (i32_of rfl) ?_
  refine qX_icmp_ne 413 dL_law_401 rfl (fun hc => absurd rfl hc) (fun _ => ?_)
  refine qM_aload_n 1 dL_law_404 rfl rfl shX0 ?_
  refine qM_callV mX7_error [] 0 7 [] dL_law_405 cm_L_169 ⟨by decide, by decide⟩ rfl rfl shX0 (by decide) ⟨rfl, rfl⟩ ⟨by show c1 + 1 + 1 + 1 + 1 ≤ 600000; omega, by show c2 + 120 + 3 + 120 + 120 ≤ 7302250; omega⟩ (g_error L8) (fun z9 ρ9 μ9 hz => ?_)
  obtain ⟨rfl, L9, O9⟩ := hz
  refine qX_bip dL_law_408 rfl ?_
  refine qX_icmp_eq 415 dL_law_410 rfl (fun _ => ?_) (fun hc => absurd rfl hc)
  refine law_415 hk ?_
  refine nx _ _ _ σ6 ρ9 μ9 hX.s.s.s (by rw [lenX, lenX, lenX]; omega) (shXm (shXm (shXm hx))) (by omega) (by omega) L9 P6 e66 ?_
  rw [(O9 179 (by decide)).2, (O8 179 (by decide)).2, (O7 179 (by decide)).2 (by rw [lenX, lenX]; omega), (O6 179 (by decide)).2, (O5 179 (by decide)).2 (by rw [lenX]; omega), (O24 179 (by decide)).2, w1]
end LAW
