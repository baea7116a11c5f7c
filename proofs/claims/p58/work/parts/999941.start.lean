/-! ===== the law from its entry to its end ===== -/
section LST
variable {ρ : Rf} {μ : Mem} {W : Int → Int}
set_option maxRecDepth 100000 in
theorem law_loop : ∀ (m : Nat) (k : Nat) (X : List Sh) (c1 c2 : Nat) (σ : Sg) (ρ : Rf) (μ : Mem), 8 - k < m → k ≤ 8 → X10 X → X.length ≤ 2 + 4 * k → (GX X).2[179]? = some (10, 200) → c1 ≤ 300 + 6 * k → c2 ≤ 6000 + 500 * k → LEr σ ρ μ → LPl W σ → σ 0 6 = 0 → μ 179 = W → qXF mL_law FIN (GX X) (c1, c2) 36 [some (qP sid), some (qP 0), none, some (qP 179), some (qI (k : Int)), none, none, none, none, none, none] [] ρ μ := by
  intro m
  induction m with
  | zero => intro k X c1 c2 σ ρ μ h; omega
  | succ m ih =>
    intro k X c1 c2 σ ρ μ hm hk hX hl hx k1 k2 L P h6 hw
    have l179 := ltX hx
    refine qX_iload (i := 4) dL_law_36 rfl ?_
    refine qX_bip dL_law_38 rfl ?_
    refine qX_icmp_ge 421 dL_law_40 rfl (fun _ => ?_) (fun hc => ?_)
    · refine q_holds dL_law_421 dL_law_422 dL_law_423 rfl rfl P hx hw (by omega) hX (by omega) L (by omega) (by omega) (fun σ' ρ' μ' S L' O => ?_)
      exact qXF_zreturn (M := mL_law) (kc := (c1 + 1, c2 + 3)) rfl dL_law_426 ⟨by show c1 + 1 ≤ 600000; omega, by show c2 + 3 ≤ 7302250; omega⟩ (Or.inr rfl) rfl
    · refine q_holds dL_law_43 dL_law_44 dL_law_45 rfl rfl P hx hw (by omega) hX (by omega) L (by omega) (by omega) (fun σ1 ρ1 μ1 S1 L1 O1 => ?_)
      refine qX_if_ne 53 dL_law_48 rfl (fun _ => ?_) (fun hc => absurd hc (by decide))
      have P1 := S1.pl P
      have h61 : σ1 0 6 = 0 := (S1.2.1 6 (by decide)).trans h6
      have w1 : μ1 179 = W := by rw [(O1 179 (by decide)).2, hw]
      refine qX_aload_n 0 dL_law_53 rfl rfl (by decide) ?_
      refine qX_bip dL_law_54 rfl ?_
      refine qX_iload (i := 4) dL_law_56 rfl ?_
      refine qR_iadd dL_law_58 (by unfold i32; omega) ?_
      refine qM_callS mL_cell [qP sid, qI _] [] dL_law_59 cm_L_25 ⟨by decide, by decide⟩ rfl rfl (by decide) ⟨rfl, rfl⟩ ⟨by show c1 + 1 ≤ 600000; omega, by show c2 + 3 ≤ 7302250; omega⟩ (h_cell (by omega)) (fun c ρ2 μ2 hz => ?_)
      obtain ⟨-, rfl, rfl⟩ := hz
      refine qX_istore (i := 5) dL_law_62 (by decide) rfl ?_
      refine qX_iload (i := 5) dL_law_64 rfl ?_
      refine qX_iconst dL_law_66 (i32_of rfl) ?_
      refine qX_ishr dL_law_67 ?_
      refine qX_bip dL_law_68 rfl ?_
      refine qX_iand dL_law_70 ?_
      refine qX_istore (i := 6) dL_law_71 (by decide) rfl ?_
      refine q_seen dL_law_73 dL_law_74 rfl (by decide) P1 (by omega) L1 (by omega) (by omega) (fun ρ3 μ3 L3 O3 e3 => ?_)
      refine qM_astore (i := 7) dL_law_77 (by decide) rfl shXe ?_
      have w3 : μ3 179 = W := by rw [(O3 179 (by decide)).2 (by omega), w1]
      have b15 := and_m (x := c) (m := 15) (by decide)
      refine qX_iload (i := 5) dL_law_79 rfl ?_
      refine qX_bip dL_law_81 rfl ?_
      refine qX_iand dL_law_83 ?_
      refine qX_bip dL_law_84 rfl ?_
      refine qR_irem dL_law_86 ⟨by omega, by decide⟩ ?_
      have nx : ∀ (X' : List Sh) (b1 b2 : Nat) (σ' : Sg) (ρ' : Rf) (μ' : Mem), X10 X' → X'.length ≤ (X ++ [((10, 120) : Sh)]).length + 3 → (GX X').2[179]? = some (10, 200) → b1 ≤ c1 + 1 + 1 + 4 → b2 ≤ c2 + 3 + 120 + 370 → LEr σ' ρ' μ' → LPl W σ' → σ' 0 6 = 0 → μ' 179 = W → qXF mL_law FIN (GX X') (b1, b2) 36 [some (qP sid), some (qP 0), none, some (qP 179), some (qI ((k : Int) + 1)), none, none, none, none, none, none] [] ρ' μ' := fun X' b1 b2 σ' ρ' μ' a1 a2 a3 a4 a5 a6 a7 a8 a9 => by
        rw [lenX] at a2
        rw [show ((k : Int) + 1) = ((k + 1 : Nat) : Int) by omega]
        exact ih (k + 1) X' b1 b2 σ' ρ' μ' (by omega) (by omega) a1 (by omega) a3 (by omega) (by omega) a6 a7 a8 a9
      have lX : (X ++ [((10, 120) : Sh)]).length < 800 := by rw [lenX]; omega
      obtain hs | hs | hs | hs | hs | hs : and32 c 15 % 6 = 0 ∨ and32 c 15 % 6 = 1 ∨ and32 c 15 % 6 = 2 ∨ and32 c 15 % 6 = 3 ∨ and32 c 15 % 6 = 4 ∨ and32 c 15 % 6 = 5 := by omega
      · rw [hs]
        refine qX_tsw 120 dL_law_87 (by decide) (by decide) (off := 33) rfl rfl ?_
        exact law_c0 (by omega) P1 h61 L3 hX.s lX (shXm hx) w3 shXe (by omega) e3 (by omega) (by omega) nx
      · rw [hs]
        refine qX_tsw 167 dL_law_87 (by decide) (by decide) (off := 80) rfl rfl ?_
        exact law_c1 (by omega) P1 h61 L3 hX.s lX (shXm hx) w3 shXe (by omega) e3 (by omega) (by omega) nx
      · rw [hs]
        refine qX_tsw 178 dL_law_87 (by decide) (by decide) (off := 91) rfl rfl ?_
        exact law_c2 (by omega) P1 h61 L3 hX.s lX (shXm hx) w3 shXe (by omega) e3 (by omega) (by omega) nx
      · rw [hs]
        refine qX_tsw 197 dL_law_87 (by decide) (by decide) (off := 110) rfl rfl ?_
        exact law_c3 (by omega) P1 h61 L3 hX.s lX (shXm hx) w3 shXe (by omega) e3 (by omega) (by omega) nx
      · rw [hs]
        refine qX_tsw 222 dL_law_87 (by decide) (by decide) (off := 135) rfl rfl ?_
        exact law_c4 (by omega) P1 h61 L3 hX.s lX (shXm hx) w3 shXe (by omega) e3 (by omega) (by omega) nx
      · rw [hs]
        refine qX_tswd 253 dL_law_87 (Or.inr (by decide)) rfl ?_
        exact law_c5 (by omega) P1 h61 L3 hX.s lX (shXm hx) w3 shXe (by omega) e3 (by omega) (by omega) nx
/-! ### from the entry to the loop -/
theorem qX_frz {M : MI} {Fi : Gx → Int → Rf → Mem → Prop} {S : List Sh} {kc : Nat × Nat} {pc : Nat} {lv : List (Option AV)} {st : List AV} (hlay : Lay S ρ) (h : MOk (true, S) ρ μ → qXF M Fi (true, S) kc pc lv st ρ μ) : qXF M Fi (false, S) kc pc lv st ρ μ := by
  intro p l e s m args below meth c D cA ad A n0 φ0 Q C φ H locs ls hφ hn hM hl hkl hks hP hD hS
  have hM' : MOk (true, S) ρ μ := ⟨hM.1, hM.2.1, fun _ => hlay, hM.2.2.2⟩
  exact h hM' p l e s m args below meth c D cA ad A n0 φ0 Q C φ H locs ls hφ hn hM' hl hkl hks hP hD hS
theorem LY_lay {ρ : Rf} (y : LY 0 ((7, 0) :: al7) ρ) : Lay ((7, 0) :: al7) ρ := by
  intro o sh h k off hk
  have := y o sh h k off hk
  rw [Nat.zero_add] at this
  exact this
theorem GX_0 : GX [] = (true, (7, 0) :: al7) := by
  show (true, SH ++ []) = _
  rw [List.append_nil, SH_eq]
set_option maxRecDepth 100000 in
set_option maxHeartbeats 4000000 in
theorem law_start : qXF mL_law FIN (false, []) (0, 0) 0 [some (qP sid), none, none, none, none, none, none, none, none, none, none] [] (fun _ _ => nid) (fun _ _ => 0) := by
  refine qX_new 7 dL_law_0 rfl kL_L_14 kN_X7 kZ_X7 rfl (by show 0 + 1 < nid; unfold nid; omega) ⟨by decide, by decide⟩ ?_
  refine qX_dup dL_law_3 rfl ?_
  refine qX_callI mX7_init 0 [qP 0] (Gc := (false, (7, 0) :: al7)) (sh := (7, 0)) dL_law_4 cm_L_208 ⟨by decide, by decide⟩ rfl (by decide) ⟨by decide, by decide⟩ ct_X7 (by decide) (fun z ρ1 μ1 hz => ?_)
  obtain ⟨y, ⟨z8, z9, z5, z6, zh⟩, rfl⟩ := hz
  refine qM_astore_n 1 (sh := (7, 0)) dL_law_7 rfl (by decide) rfl rfl ?_
  refine qX_frz (LY_lay y) (fun hM => ?_)
  rw [← GX_0] at hM ⊢
  have eR : cR ρ1 = ρ1 := by
    funext o j
    by_cases c : o < 178
    · exact if_pos c
    · exact (if_neg c).trans (hM.2.2.2 o (by rw [GX_len]; show 178 + 0 ≤ o; omega) j).1.symm
  have eM : cM mem0 = mem0 := by
    funext o j
    by_cases c : o < 178
    · exact if_pos c
    · exact (if_neg c).trans (hM.2.2.2 o (by rw [GX_len]; show 178 + 0 ≤ o; omega) j).2.symm
  have eG : GX [] = GG := by rw [GX_0]; show _ = (true, SH); rw [SH_eq]
  have L0 : LI ρ1 mem0 sg0 := ⟨sg0_SI, by rw [eR, eM]; exact sg0_CI z8 z9 z5 z6 zh, by rw [eR, eM, ← eG]; exact hM⟩
  have m178 : mem0 178 = fun _ => 0 := by
    funext j
    exact (hM.2.2.2 178 (by rw [GX_len]; exact Nat.le_refl _) j).2
  change qXF mL_law FIN (GX []) _ _ _ _ ρ1 mem0
  clear hM eR y z8 z9 z5 z6 zh
  refine qX_bip dL_law_8 rfl ?_
  refine qM_newI 7 dL_law_10 rfl (by decide) ⟨by decide, by decide⟩ (by decide) ?_
  refine qM_astore_n 2 dL_law_12 rfl (by decide) rfl shXe ?_
  refine qX_aload_n 0 dL_law_13 rfl rfl (by decide) ?_
  refine qX_callS mL_drawn [qP sid] [] dL_law_14 cm_L_209 ⟨by decide, by decide⟩ rfl rfl (by decide) ⟨by decide, by decide⟩ (h_drawn (by decide)) GX_le (fun z ρ2 μ2 hz => ?_)
  obtain ⟨rfl, E, ⟨rfl, o2, e2, -⟩, hW⟩ := hz
  have L2 : LI ρ2 μ2 sg0 := by
    have ec : cM μ2 = cM mem0 := by
      funext o j
      unfold cM
      by_cases c : o < 178
      · rw [if_pos c, if_pos c, o2 o (by show o ≠ 178 + 1; omega)]
      · rw [if_neg c, if_neg c]
    unfold LI
    rw [ec]
    exact L0
  have m2 : μ2 178 = fun _ => 0 := by rw [o2 178 (by show 178 ≠ 178 + 1; omega), m178]
  have e2 : μ2 179 = E := e2
  have h178 : (GX (([] ++ [((10, 7) : Sh)]) ++ [(10, 200)])).2[178]? = some (10, 7) := shXm (shXe (X := []))
  have h179 : (GX (([] ++ [((10, 7) : Sh)]) ++ [(10, 200)])).2[179]? = some (10, 200) := shXe (X := [] ++ [((10, 7) : Sh)])
  refine qM_astore_n 3 dL_law_17 rfl (by decide) rfl h179 ?_
  refine qM_aload_n 1 dL_law_18 rfl rfl shX0 ?_
  refine qM_aload_n 2 dL_law_19 rfl rfl h178 ?_
  refine qM_aload_n 3 dL_law_20 rfl rfl h179 ?_
  refine qM_callS mL_says [qP 0, qP 178, qP 179] [] dL_law_21 cm_L_212 ⟨by decide, by decide⟩ rfl rfl (by decide) ⟨rfl, rfl⟩ ⟨by decide, by decide⟩ (l_load ⟨h178, h179, by decide, by decide, by decide⟩ L2 rfl (by rw [m2]) (by rw [m2]) (by rw [e2]; exact hW)) (fun z ρ3 μ3 hz => ?_)
  obtain ⟨hz, σ, L3, P, h6, O⟩ := hz
  have w3 : μ3 179 = μ2 179 := (O 179 (by decide)).2 (by decide)
  refine qM_aload_n 3 dL_law_24 rfl rfl h179 ?_
  refine qX_bip dL_law_25 rfl ?_
  refine qX_iald dL_law_27 h179 (by decide) ?_
  refine qX_icmp_eq 33 dL_law_28 rfl (fun _ => ?_) (fun hc => absurd (by rw [hz]; exact (congrFun w3 70).symm) hc)
  refine qX_iconst dL_law_33 (i32_of rfl) ?_
  refine qX_istore (i := 4) dL_law_34 (by decide) rfl ?_
  refine qX_mask [true, true, false, true, true, false, false, false, false, false, false] ?_
  exact law_loop (W := μ2 179) _ 0 _ _ _ σ ρ3 μ3 (Nat.lt_succ_self _) (by decide) (X10.s (X10.s (fun _ h => by cases h))) (by decide) h179 (by decide) (by decide) (LEr.of L3) P h6 w3
end LST
