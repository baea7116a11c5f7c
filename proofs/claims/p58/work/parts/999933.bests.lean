/-! ===== the law's questions: best sets, delays, the worst job ===== -/
theorem cap_w {W p : Int → Int} {i : Int} (h : PLW W p) (hi : 0 ≤ i ∧ i < 3) : p (62 + 5 * i + 1) = W (51 + 5 * i) := by
  obtain ⟨-, -, -, -, -, -, h0, h1, h2⟩ := h
  obtain rfl | rfl | rfl : i = 0 ∨ i = 1 ∨ i = 2 := by omega
  · exact h0
  · exact h1
  · exact h2
section BHO
variable {ρ ρ0 : Rf} {μ μ0 : Mem} {σ σ0 : Sg} {X : List Sh} {W : Int → Int} {x : Nat} {i t : Int}
theorem g_ndP (L : LEr σ ρ μ) (h4 : σ 0 4 = 1) (h1 : 0 ≤ t ∧ t < 2) (h : 0 ≤ nd (σ 2) t) : qE mX7_neededDelay (GX X) (GX X) [qP 0, qI t] ρ μ (fun z ρ' μ' => z = nd (σ 2) t ∧ LEr σ ρ' μ' ∧ OUT ρ μ ρ' μ') := by
  have a := g_neededDelay (X := X) L h4 h1
  rw [if_pos h] at a
  exact a
theorem g_ndN (L : LEr σ ρ μ) (h4 : σ 0 4 = 1) (h1 : 0 ≤ t ∧ t < 2) (h : ¬ 0 ≤ nd (σ 2) t) : qE mX7_neededDelay (GX X) (GX X) [qP 0, qI t] ρ μ (fun z ρ' μ' => z = -2147483648 ∧ LEr σ ρ' μ' ∧ OUT ρ μ ρ' μ') := by
  have a := g_neededDelay (X := X) L h4 h1
  rw [if_neg h] at a
  exact a
theorem LQ.ch {M : MI} {as : List AV} {σ' : Sg} {v : Int} (C : LQ σ ρ0 μ0 ρ μ) (h : LEr σ ρ μ → qE M (GX X) (GX X) as ρ μ (fun z ρ' μ' => z = v ∧ LEr σ' ρ' μ' ∧ OUT ρ μ ρ' μ')) : qE M (GX X) (GX X) as ρ μ (fun z ρ' μ' => z = v ∧ LQ σ' ρ0 μ0 ρ' μ') := qE_post (fun _ _ _ h2 => ⟨h2.1, h2.2.1, C.2.trans h2.2.2⟩) (h C.1)
theorem b_22 (P : LPl W σ) (hx : (GX X).2[x]? = some (10, 200)) (h178 : 178 ≤ x) (hw : μ0 x = W) (hi : 0 ≤ i ∧ i < 3) (nx : ∀ ρ' μ', LQ σ ρ0 μ0 ρ' μ' → qX mL_bestsHold (GX X) (fun z ρ' μ' => z = 1 ∧ ∃ σ', SEq σ0 σ' ∧ LQ σ' ρ0 μ0 ρ' μ') (GX X) (0, 0) 2 [some (qP 0), some (qP x), some (qI (i + 1)), none, none, none, none, none] [] ρ' μ') : ∀ (m k : Nat) (ρ : Rf) (μ : Mem), pc8 (bst (σ 2) i) - k < m → k ≤ pc8 (bst (σ 2) i) → LQ σ ρ0 μ0 ρ μ → qX mL_bestsHold (GX X) (fun z ρ' μ' => z = 1 ∧ ∃ σ', SEq σ0 σ' ∧ LQ σ' ρ0 μ0 ρ' μ') (GX X) (0, 0) 22 [some (qP 0), some (qP x), some (qI i), some (qI ((bst (σ 2) i) : Int)), some (qI (oSum (σ 2) i (spd (σ 2) i) (bst (σ 2) i) k)), some (qI (k : Int)), some (qI (k : Int)), none] [] ρ μ := by
  intro m
  induction m with
  | zero => intro k ρ μ hk; omega
  | succ m ih =>
    intro k ρ μ hm hk C
    have ok := C.1.okp P.1
    have hv := ok.1
    have n := hv.n
    have p61 := P.2.2.2.2.2.2.1
    have c0 : 0 ≤ cnt (σ 2) i := (owC_b (p := σ 2) (i := i) hv.n.2.2.2.2.2.2.1).1
    have hc := ok.2.2.2.1 i
    have bb := bst_b (p := σ 2) (i := i) c0
    have lt := bw_lt (cnt (σ 2) i).toNat (by omega)
    have v0 : 1 ≤ (spd (σ 2) i) := hv.v hi.1 (by omega)
    obtain ⟨nz, z0, sq⟩ := oS_nz hv hc v0 bb.1 bb.2
    have sb := oSum_b hv hc v0 bb.1 bb.2 k hk
    have pn := pc_n (cnt (σ 2) i).toNat (by omega) (bst (σ 2) i) bb.1
    have dw : 0 ≤ s_I (sGo (σ 2) i (-1) Z0 199) (σ 2 87) := (s_Ib (b := 99) (by omega) (fun j j0 j1 => go_ub (wo := i) (out := -1) (J := Z0) hv j j0 j1)).1
    by_cases hq : k = pc8 (bst (σ 2) i)
    · subst hq
      rw [sq]
      refine w_L_bestsHold_22 hx ?_
      refine ⟨_, h_bitCount (by omega), ?_⟩
      rintro z1 ρ2 μ3 ⟨hq1_1, hq1_2, hq1_3⟩
      obtain rfl := hq1_1.symm
      obtain rfl := hq1_2.symm
      obtain rfl := hq1_3.symm
      refine ⟨fun hc2 => ?_, fun hc2 => ?_⟩
      · refine ⟨_, C.c (fun L => g_bestMeals L P (by omega)), ?_⟩
        rintro z5 ρ6 μ7 ⟨hq3_1, C⟩
        obtain rfl := hq3_1.symm
        refine ⟨fun hc4 => ?_, fun hc4 => ?_⟩
        · omega
        · refine ⟨_, g_bestOrderF C.1 P hi z0, ?_⟩
          rintro z9 ρ10 μ11 ⟨hq6_1, L6, O6⟩
          obtain rfl := hq6_1.symm
          refine ⟨fun hc7 => ?_, fun hc7 => ?_⟩
          · omega
          · refine ⟨_, g_error L6, ?_⟩
            rintro z13 ρ14 μ15 ⟨hq9_1, L7, O7⟩
            obtain rfl := hq9_1.symm
            refine ⟨fun hc10 => ?_, fun hc10 => ?_⟩
            · have C : LQ σ ρ0 μ0 ρ14 μ15 := ⟨L7, C.2.trans (O6.trans O7)⟩
              refine ⟨_, C.c (fun L => g_deliveredWithout L P (by omega)), ?_⟩
              rintro z17 ρ18 μ19 ⟨hq11_1, C⟩
              obtain rfl := hq11_1.symm
              refine ⟨fun hc12 => ?_, fun hc12 => ?_⟩
              · refine ⟨(by unfold i32; omega), ?_⟩
                exact nx _ _ C
              · omega
            · omega
      · omega
    · have z := nz k (by omega)
      have kb := oK_b hv hc v0 bb.1 bb.2 z
      have ob := o_b hv (v := 1) kb.1 kb.2.1 (by decide)
      have eMe : min (σ 2 (88 + 5 * oK (σ 2) i (spd (σ 2) i) (bst (σ 2) i) k + 4)) (W (51 + 5 * i)) = oMe (σ 2) (oK (σ 2) i (spd (σ 2) i) (bst (σ 2) i) k) := by
        unfold oMe
        rw [kb.2.2, cap_w P.2 hi]
      refine w_L_bestsHold_22 hx ?_
      refine ⟨_, h_bitCount (by omega), ?_⟩
      rintro z1 ρ2 μ3 ⟨hq1_1, hq1_2, hq1_3⟩
      obtain rfl := hq1_1.symm
      obtain rfl := hq1_2.symm
      obtain rfl := hq1_3.symm
      refine ⟨fun hc2 => ?_, fun hc2 => ?_⟩
      · omega
      · refine ⟨_, C.c (fun L => g_bestOrder L P hi z), ?_⟩
        rintro z21 ρ22 μ23 ⟨hq17_1, C⟩
        obtain rfl := hq17_1.symm
        refine ⟨_, C.c (fun L => g_jobTrolley L P (by omega)), ?_⟩
        rintro z25 ρ26 μ27 ⟨hq18_1, C⟩
        obtain rfl := hq18_1.symm
        rw [kb.2.2]
        refine ⟨fun hc19 => ?_, fun hc19 => ?_⟩
        · refine ⟨_, C.c (fun L => g_jobQuantity L P (by omega)), ?_⟩
          rintro z29 ρ30 μ31 ⟨hq20_1, C⟩
          obtain rfl := hq20_1.symm
          refine ⟨(by unfold i32; omega), ?_⟩
          refine ⟨(by unfold i32; omega), ?_⟩
          refine ⟨(by omega), ?_⟩
          rw [(C.2 x h178).2, hw, eMe]
          refine ⟨(by unfold i32; omega), ?_⟩
          refine ⟨(by unfold i32; omega), ?_⟩
          refine ⟨(by unfold i32; omega), ?_⟩
          rw [show ((k : Int) + 1) = ((k + 1 : Nat) : Int) by omega]
          exact ih (k + 1) _ _ (by omega) (by omega) C
        · omega
theorem b_227 (ht : 0 ≤ t ∧ t < 2) (h : qX mL_bestsHold (GX X) (fun z ρ' μ' => z = 1 ∧ ∃ σ', SEq σ0 σ' ∧ LQ σ' ρ0 μ0 ρ' μ') (GX X) (0, 0) 134 [some (qP 0), none, some (qI (t + 1)), none, none, none, none, none] [] ρ μ) : qX mL_bestsHold (GX X) (fun z ρ' μ' => z = 1 ∧ ∃ σ', SEq σ0 σ' ∧ LQ σ' ρ0 μ0 ρ' μ') (GX X) (0, 0) 227 [some (qP 0), none, some (qI t), none, none, none, none, none] [] ρ μ := by
  refine w_L_bestsHold_227 ?_
  refine ⟨(by unfold i32; omega), ?_⟩
  exact h
theorem b_2 (P : LPl W σ) (hx : (GX X).2[x]? = some (10, 200)) (h178 : 178 ≤ x) (hw : μ0 x = W) (C : LQ σ ρ0 μ0 ρ μ) (hi : 0 ≤ i ∧ i < 3) (nx : ∀ ρ' μ', LQ σ ρ0 μ0 ρ' μ' → qX mL_bestsHold (GX X) (fun z ρ' μ' => z = 1 ∧ ∃ σ', SEq σ0 σ' ∧ LQ σ' ρ0 μ0 ρ' μ') (GX X) (0, 0) 2 [some (qP 0), some (qP x), some (qI (i + 1)), none, none, none, none, none] [] ρ' μ') : qX mL_bestsHold (GX X) (fun z ρ' μ' => z = 1 ∧ ∃ σ', SEq σ0 σ' ∧ LQ σ' ρ0 μ0 ρ' μ') (GX X) (0, 0) 2 [some (qP 0), some (qP x), some (qI i), none, none, none, none, none] [] ρ μ := by
  refine w_L_bestsHold_2 hx ?_
  refine ⟨fun hc1 => ?_, fun hc1 => ?_⟩
  · omega
  · refine ⟨_, C.c (fun L => g_bestSet L P (by omega)), ?_⟩
    rintro z1 ρ2 μ3 ⟨hq3_1, C⟩
    obtain rfl := hq3_1.symm
    exact b_22 P hx h178 hw hi nx _ 0 _ _ (Nat.lt_succ_self _) (Nat.zero_le _) C
theorem b_dep (P : LPl W σ) (S : SEq σ0 σ) (h6 : 0 ≤ σ0 0 6 ∧ σ0 0 6 ≤ 1) (C : LQ σ ρ0 μ0 ρ μ) (ht : 0 ≤ t ∧ t < 2) (nx : ∀ σ' ρ' μ', SEq σ0 σ' → LQ σ' ρ0 μ0 ρ' μ' → qX mL_bestsHold (GX X) (fun z ρ' μ' => z = 1 ∧ ∃ σ', SEq σ0 σ' ∧ LQ σ' ρ0 μ0 ρ' μ') (GX X) (0, 0) 134 [some (qP 0), none, some (qI (t + 1)), none, none, none, none, none] [] ρ' μ') : qX mL_bestsHold (GX X) (fun z ρ' μ' => z = 1 ∧ ∃ σ', SEq σ0 σ' ∧ LQ σ' ρ0 μ0 ρ' μ') (GX X) (0, 0) 134 [some (qP 0), none, some (qI t), none, none, none, none, none] [] ρ μ := by
  have hv := C.1.pv P
  have tt := hv.t ht.1 ht.2
  have e6 := S.2.1 6 (by decide)
  have dp : σ 2 (2 + t) ≤ 255 := by
    obtain rfl | rfl : t = 0 ∨ t = 1 := by omega
    · exact P.2.1.1
    · exact P.2.1.2
  have hU : ∀ q, SEq σ (sUn (sCh σ q)) := fun q => SEq.un (by omega)
  have un : ∀ q, sCh σ q 0 4 = 1 ∧ 0 < sCh σ q 0 6 ∧ 0 ≤ sCh σ q 0 6 - 1 := fun q => by
    have a : sCh σ q 0 4 = 1 := (sCh_0 (by decide) (by decide)).trans P.1
    have b : sCh σ q 0 6 = σ 0 6 + 1 := by rw [sCh_6]; exact if_neg (by omega)
    omega
  by_cases hd : 0 ≤ nd (σ 2) t
  · have np := nd_p hd
    refine w_L_bestsHold_134 ?_
    refine ⟨fun hc1 => ?_, fun hc1 => ?_⟩
    · omega
    · refine ⟨_, C.c (fun L => g_ndP L P.1 ht hd), ?_⟩
      rintro z25 ρ26 μ27 ⟨hq17_1, C⟩
      obtain rfl := hq17_1.symm
      refine ⟨fun hc18 => ?_, fun hc18 => ?_⟩
      · refine ⟨_, C.c (fun L => g_departure L P (by omega)), ?_⟩
        rintro z29 ρ30 μ31 ⟨hq19_1, C⟩
        obtain rfl := hq19_1.symm
        refine ⟨(by unfold i32; omega), ?_⟩
        refine ⟨_, C.ch (fun L => g_setDeparture L P.1 ht (by omega)), ?_⟩
        rintro z33 ρ34 μ35 ⟨hq21_1, C⟩
        obtain rfl := hq21_1.symm
        refine ⟨fun hc22 => ?_, fun hc22 => ?_⟩
        · omega
        · refine ⟨_, C.c (fun L => g_ndP L (un _).1 ht (by rw [sCh_2, np.2.1]; decide)), ?_⟩
          rintro z37 ρ38 μ39 ⟨hq24_1, C⟩
          obtain rfl := hq24_1.symm
          rw [sCh_2, np.2.1]
          refine ⟨fun hc25 => ?_, fun hc25 => ?_⟩
          · omega
          · refine ⟨_, C.ch (fun L => g_undo L (un _).1 (un _).2.1), ?_⟩
            rintro z41 ρ42 μ43 ⟨hq27_1, C⟩
            obtain rfl := hq27_1.symm
            refine ⟨fun hc28 => ?_, fun hc28 => ?_⟩
            · refine ⟨fun hc29 => ?_, fun hc29 => ?_⟩
              · exact b_227 ht (nx _ _ _ (S.trans (hU _)) C)
              · have S1 := S.trans (hU (u1 (σ 2) (2 + t) (σ 2 (2 + t) + nd (σ 2) t)))
                have P1 := (hU (u1 (σ 2) (2 + t) (σ 2 (2 + t) + nd (σ 2) t))).pl P
                have E1 : sUn (sCh σ (u1 (σ 2) (2 + t) (σ 2 (2 + t) + nd (σ 2) t))) 2 = σ 2 := (hU _).1
                revert C S1 P1 E1
                generalize sUn (sCh σ (u1 (σ 2) (2 + t) (σ 2 (2 + t) + nd (σ 2) t))) = τ
                intro C S1 P1 E1
                have e7 := S1.2.1 6 (by decide)
                have un2 : ∀ q, sCh τ q 0 4 = 1 ∧ 0 < sCh τ q 0 6 ∧ 0 ≤ sCh τ q 0 6 - 1 := fun q => by
                  have a : sCh τ q 0 4 = 1 := (sCh_0 (by decide) (by decide)).trans P1.1
                  have b : sCh τ q 0 6 = τ 0 6 + 1 := by rw [sCh_6]; exact if_neg (by omega)
                  omega
                have hU2 : ∀ q, SEq τ (sUn (sCh τ q)) := fun q => SEq.un (by omega)
                have np2 := np.2.2 (by omega)
                refine ⟨(by unfold i32; omega), ?_⟩
                refine ⟨(by unfold i32; omega), ?_⟩
                refine ⟨_, C.ch (fun L => g_setDeparture L P1.1 ht (by rw [E1]; omega)), ?_⟩
                rintro z45 ρ46 μ47 ⟨hq33_1, C⟩
                obtain rfl := hq33_1.symm
                rw [E1]
                refine ⟨fun hc34 => ?_, fun hc34 => ?_⟩
                · omega
                · refine ⟨_, C.c (fun L => g_neededDelay L (un2 _).1 ht), ?_⟩
                  rintro z49 ρ50 μ51 ⟨hz, C⟩
                  rw [sCh_2, E1] at hz
                  refine ⟨fun hc37 => ?_, fun hc37 => ?_⟩
                  · split at hz <;> omega
                  · refine ⟨_, C.ch (fun L => g_undo L (un2 _).1 (un2 _).2.1), ?_⟩
                    rintro z53 ρ54 μ55 ⟨hq39_1, C⟩
                    obtain rfl := hq39_1.symm
                    have u3 := un2 (u1 (τ 2) (2 + t) (σ 2 (2 + t) + nd (σ 2) t - 1))
                    refine ⟨fun hc40 => ?_, fun hc40 => ?_⟩
                    · exact b_227 ht (nx _ _ _ (S1.trans (hU2 _)) C)
                    · omega
            · have u3 := un (u1 (σ 2) (2 + t) (σ 2 (2 + t) + nd (σ 2) t))
              omega
      · omega
  · refine w_L_bestsHold_134 ?_
    refine ⟨fun hc1 => ?_, fun hc1 => ?_⟩
    · omega
    · refine ⟨_, C.c (fun L => g_ndN L P.1 ht hd), ?_⟩
      rintro z25 ρ26 μ27 ⟨hq17_1, C⟩
      obtain rfl := hq17_1.symm
      refine ⟨fun hc18 => ?_, fun hc18 => ?_⟩
      · omega
      · exact b_227 ht (nx _ _ _ S C)
theorem b_wj (P : LPl W σ) (S : SEq σ0 σ) (h6 : 0 ≤ σ0 0 6 ∧ σ0 0 6 ≤ 1) (C : LQ σ ρ0 μ0 ρ μ) : qX mL_bestsHold (GX X) (fun z ρ' μ' => z = 1 ∧ ∃ σ', SEq σ0 σ' ∧ LQ σ' ρ0 μ0 ρ' μ') (GX X) (0, 0) 134 [some (qP 0), none, some (qI 2), none, none, none, none, none] [] ρ μ := by
  have hv := C.1.pv P
  have n := hv.n
  have e6 := S.2.1 6 (by decide)
  have un : ∀ q, sCh σ q 0 4 = 1 ∧ 0 < sCh σ q 0 6 ∧ 0 ≤ sCh σ q 0 6 - 1 := fun q => by
    have a : sCh σ q 0 4 = 1 := (sCh_0 (by decide) (by decide)).trans P.1
    have b : sCh σ q 0 6 = σ 0 6 + 1 := by rw [sCh_6]; exact if_neg (by omega)
    omega
  by_cases hd : 0 ≤ wj (σ 2)
  · have wp := wj_p n.2.2.2.2.2.2.1 hd
    have P2 : LPl W (sCh σ (pDrop (σ 2) (wj (σ 2)))) := by
      refine ⟨(un _).1, ?_⟩
      rw [sCh_2]
      unfold PLW
      rw [drop_lo hd (by decide), drop_lo hd (by decide), drop_lo hd (by decide), drop_lo hd (by decide), drop_lo hd (by decide), drop_lo hd (by decide), drop_lo hd (by decide), drop_lo hd (by decide), drop_lo hd (by decide), drop_lo hd (by decide)]
      exact P.2
    refine w_L_bestsHold_134 ?_
    refine ⟨fun hc1 => ?_, fun hc1 => ?_⟩
    · refine ⟨_, qE_post (fun z ρ' μ' h => (⟨h.1.trans (if_pos hd), h.2.1, C.2.trans h.2.2⟩ : z = wj (σ 2) ∧ LQ σ ρ0 μ0 ρ' μ')) (g_worstJob C.1 P.1), ?_⟩
      rintro z1 ρ2 μ3 ⟨hq2_1, C⟩
      obtain rfl := hq2_1.symm
      refine ⟨fun hc3 => ?_, fun hc3 => ?_⟩
      · refine ⟨_, C.c (fun L => g_deliveredTotal L P), ?_⟩
        rintro z5 ρ6 μ7 ⟨hq4_1, C⟩
        obtain rfl := hq4_1.symm
        refine ⟨_, C.ch (fun L => g_removeJob L P.1 ⟨hd, wp.1⟩), ?_⟩
        rintro z9 ρ10 μ11 ⟨hq5_1, C⟩
        obtain rfl := hq5_1.symm
        refine ⟨_, C.c (fun L => g_jobCount L P2), ?_⟩
        rintro z13 ρ14 μ15 ⟨hq6_1, C⟩
        obtain rfl := hq6_1.symm
        rw [sCh_2, drop_87]
        refine ⟨fun hc7 => ?_, fun hc7 => ?_⟩
        · omega
        · refine ⟨_, C.c (fun L => g_deliveredTotal L P2), ?_⟩
          rintro z17 ρ18 μ19 ⟨hq9_1, C⟩
          obtain rfl := hq9_1.symm
          refine ⟨fun hc10 => ?_, fun hc10 => ?_⟩
          · have e1 : s_I (GS (sCh σ (pDrop (σ 2) (wj (σ 2)))) 199) (sCh σ (pDrop (σ 2) (wj (σ 2))) 2 87) = tot (pDrop (σ 2) (wj (σ 2))) := rfl
            have e2 : s_I (GS σ 199) (σ 2 87) = tot (σ 2) := rfl
            omega
          · refine ⟨_, C.ch (fun L => g_undo L (un _).1 (un _).2.1), ?_⟩
            rintro z21 ρ22 μ23 ⟨hq12_1, C⟩
            obtain rfl := hq12_1.symm
            refine ⟨fun hc13 => ?_, fun hc13 => ?_⟩
            · have u3 := un (pDrop (σ 2) (wj (σ 2))); omega
            · exact ⟨rfl, _, S.trans (SEq.un (by omega)), C⟩
      · omega
    · omega
  · refine w_L_bestsHold_134 ?_
    refine ⟨fun hc1 => ?_, fun hc1 => ?_⟩
    · refine ⟨_, qE_post (fun z ρ' μ' h => (⟨h.1.trans (if_neg hd), h.2.1, C.2.trans h.2.2⟩ : z = -2147483648 ∧ LQ σ ρ0 μ0 ρ' μ')) (g_worstJob C.1 P.1), ?_⟩
      rintro z1 ρ2 μ3 ⟨hq2_1, C⟩
      obtain rfl := hq2_1.symm
      refine ⟨fun hc3 => ?_, fun hc3 => ?_⟩
      · omega
      · exact ⟨rfl, _, S, C⟩
    · omega
end BHO
theorem h_bestsHold {ρ ρ0 : Rf} {μ μ0 : Mem} {σ : Sg} {X : List Sh} {W : Int → Int} {x : Nat} (P : LPl W σ) (hx : (GX X).2[x]? = some (10, 200)) (h178 : 178 ≤ x) (hw : μ0 x = W) (h6 : 0 ≤ σ 0 6 ∧ σ 0 6 ≤ 1) (C : LQ σ ρ0 μ0 ρ μ) : qE mL_bestsHold (GX X) (GX X) [qP 0, qP x] ρ μ (fun z ρ' μ' => z = 1 ∧ ∃ σ', SEq σ σ' ∧ LQ σ' ρ0 μ0 ρ' μ') := by
  refine e_L_bestsHold hx ?_
  refine b_2 P hx h178 hw C (by decide) (fun _ _ C => ?_)
  refine b_2 P hx h178 hw C (by decide) (fun _ _ C => ?_)
  refine b_2 P hx h178 hw C (by decide) (fun _ _ C => ?_)
  refine w_L_bestsHold_2 hx ?_
  refine ⟨fun _ => ?_, fun hc => absurd hc (by decide)⟩
  refine b_dep P SEq.refl h6 C (by decide) (fun τ _ _ S C => ?_)
  refine b_dep (S.pl P) S h6 C (by decide) (fun τ2 _ _ S2 C => ?_)
  exact b_wj (S2.pl P) S2 h6 C
