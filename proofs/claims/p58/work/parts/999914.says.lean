/-! ===== the law writes its plan ===== -/
def traL (W : Int → Int) (t : Int) : List Tkn := [kT trainW, nT t, bT fromW, nT (W t), bT toW, nT (W (2 + t)), cT]
def carL (W : Int → Int) (k : Int) : List Tkn := [kT carW, nT (k / 2), nT (W (10 + 3 * k + 0)), nT (W (10 + 3 * k + 1)), nT (W (10 + 3 * k + 2)), cT]
def meaL (W : Int → Int) (k : Int) : List Tkn := [kT mealW, mT k, nT (W (30 + 2 * k)), nT (W (31 + 2 * k)), cT]
def kitL (W : Int → Int) (k : Int) : List Tkn := [kT kitW, nT (W (40 + k)), cT]
def stoL (W : Int → Int) (k i : Int) : List Tkn := [kT stoW, nT k, mT i, nT (W (42 + 2 * k + i)), cT]
def troL (W : Int → Int) (i : Int) : List Tkn := [kT troW, nT (W (50 + 5 * i + 0)), nT (W (50 + 5 * i + 1)), nT (W (50 + 5 * i + 2)), nT (W (50 + 5 * i + 3)), nT (W (50 + 5 * i + 4))]
def jobL (W : Int → Int) (j : Int) : List Tkn := [cT, kT jobW, nT (W (71 + 5 * j + 0)), nT (W (71 + 5 * j + 1)), nT (W (71 + 5 * j + 2)), mT (W (74 + 5 * j)), nT (W (75 + 5 * j))]
def jobsL (W : Int → Int) : Nat → Int → List Tkn
  | 0, _ => []
  | n + 1, j => jobL W j ++ jobsL W n (j + 1)
def txtL (W : Int → Int) : List Tkn := traL W 1 ++ (traL W 0 ++ (carL W 0 ++ (carL W 1 ++ (carL W 2 ++ (carL W 3 ++ (meaL W 0 ++ (meaL W 1 ++ (kitL W 0 ++ (stoL W 0 0 ++ (stoL W 0 1 ++ (kitL W 1 ++ (stoL W 1 0 ++ (stoL W 1 1 ++ (troL W 0 ++ ([cT] ++ (troL W 1 ++ ([cT] ++ (troL W 2 ++ jobsL W (W 70).toNat 0))))))))))))))))))
def WOK2 (W : Int → Int) : Prop := ∀ k, 0 ≤ k → k < 200 → 0 ≤ W k ∧ W k ≤ 999
section SAYS
variable {ρ ρ0 : Rf} {μ μ0 : Mem} {σ : Sg} {X : List Sh} {x y : Nat} {ts r TS : List Tkn} {W : Int → Int} {P : Int → Rf → Mem → Prop} {k : Int}
theorem WOK2.at' (h : WOK2 W) {k : Int} (h0 : 0 ≤ k) (h1 : k < 200) : 0 ≤ W k ∧ W k ≤ 999 := h k h0 h1
theorem s_tra (k0 : 0 ≤ k) (k1 : k < 2) (H : HX X x y) (hl : (enS TS).length < 800) (hW : WOK2 W) (C : WX x y W ρ0 μ0 ts ρ μ σ) (e : ts ++ (traL W k ++ r) = TS) (nx : ∀ ρ' μ' σ', WX x y W ρ0 μ0 (ts ++ traL W k) ρ' μ' σ' → qX mL_says (GX X) P (GX X) (0, 0) 2 [some (qP 0), some (qP x), some (qP y), some (qI (k + (-1))), none] [] ρ' μ') : qX mL_says (GX X) P (GX X) (0, 0) 2 [some (qP 0), some (qP x), some (qP y), some (qI k), none] [] ρ μ := by
  refine w_L_says_2 H.1 H.2.1 ?_
  refine ⟨fun hc1 => ?_, fun hc1 => ?_⟩
  · omega
  · refine ⟨_, t_say k_train H hl C (tk := [kT trainW]) e, ?_⟩
    rintro z1 ρ2 μ3 ⟨σ1, C1⟩
    replace e := adv e
    refine ⟨_, t_part H hl C1 e (by omega), ?_⟩
    rintro z5 ρ6 μ7 ⟨σ2, C2⟩
    replace e := adv e
    refine ⟨_, t_say k_from H hl C2 (tk := [bT fromW]) e, ?_⟩
    rintro z9 ρ10 μ11 ⟨σ3, C3⟩
    replace e := adv e
    refine ⟨(by omega), ?_⟩
    rw [C3.2.2.1]
    refine ⟨_, t_part H hl C3 e (hW.at' (by omega) (by omega)), ?_⟩
    rintro z13 ρ14 μ15 ⟨σ4, C4⟩
    replace e := adv e
    refine ⟨_, t_say k_to H hl C4 (tk := [bT toW]) e, ?_⟩
    rintro z17 ρ18 μ19 ⟨σ5, C5⟩
    replace e := adv e
    refine ⟨(by unfold i32; omega), ?_⟩
    refine ⟨(by omega), ?_⟩
    rw [C5.2.2.1]
    refine ⟨_, t_part H hl C5 e (hW.at' (by omega) (by omega)), ?_⟩
    rintro z21 ρ22 μ23 ⟨σ6, C6⟩
    replace e := adv e
    refine ⟨_, t_put H hl C6 e, ?_⟩
    rintro z25 ρ26 μ27 ⟨σ7, C7⟩
    refine ⟨(by unfold i32; omega), ?_⟩
    refine nx _ _ σ7 ?_
    simp only [List.append_assoc, List.cons_append, List.nil_append] at C7
    exact C7
theorem s_93 (c : Int) (c0 : 0 ≤ c) (c1 : c < 3) (k0 : 0 ≤ k) (k1 : k < 4) (H : HX X x y) (hl : (enS TS).length < 800) (hW : WOK2 W) (C : WX x y W ρ0 μ0 ts ρ μ σ) (e : ts ++ (nT (W (10 + 3 * k + c)) :: r) = TS) (nx : ∀ ρ' μ' σ', WX x y W ρ0 μ0 (ts ++ [nT (W (10 + 3 * k + c))]) ρ' μ' σ' → qX mL_says (GX X) P (GX X) (0, 0) 93 [some (qP 0), some (qP x), some (qP y), some (qI k), some (qI (c + 1))] [] ρ' μ') : qX mL_says (GX X) P (GX X) (0, 0) 93 [some (qP 0), some (qP x), some (qP y), some (qI k), some (qI c)] [] ρ μ := by
  refine w_L_says_93 H.1 H.2.1 ?_
  refine ⟨fun hc1 => ?_, fun hc1 => ?_⟩
  · omega
  · refine ⟨(by unfold i32; omega), ?_⟩
    refine ⟨(by unfold i32; omega), ?_⟩
    refine ⟨(by unfold i32; omega), ?_⟩
    refine ⟨(by omega), ?_⟩
    rw [C.2.2.1]
    refine ⟨_, t_part H hl C e (hW.at' (by omega) (by omega)), ?_⟩
    rintro z5 ρ6 μ7 ⟨σ1, C1⟩
    refine ⟨(by unfold i32; omega), ?_⟩
    exact nx _ _ σ1 C1
theorem s_93e (H : HX X x y) (hl : (enS TS).length < 800) (hW : WOK2 W) (C : WX x y W ρ0 μ0 ts ρ μ σ) (e : ts ++ (cT :: r) = TS) (k1 : 0 ≤ k ∧ k < 4) (nx : ∀ ρ' μ' σ', WX x y W ρ0 μ0 (ts ++ [cT]) ρ' μ' σ' → qX mL_says (GX X) P (GX X) (0, 0) 69 [some (qP 0), some (qP x), some (qP y), some (qI (k + 1)), none] [] ρ' μ') : qX mL_says (GX X) P (GX X) (0, 0) 93 [some (qP 0), some (qP x), some (qP y), some (qI k), some (qI 3)] [] ρ μ := by
  refine w_L_says_93 H.1 H.2.1 ?_
  refine ⟨fun hc1 => ?_, fun hc1 => ?_⟩
  · refine ⟨_, t_put H hl C e, ?_⟩
    rintro z1 ρ2 μ3 ⟨σ6, C6⟩
    refine ⟨(by unfold i32; omega), ?_⟩
    exact nx _ _ σ6 C6
  · omega
theorem s_car (k0 : 0 ≤ k) (k1 : k < 4) (H : HX X x y) (hl : (enS TS).length < 800) (hW : WOK2 W) (C : WX x y W ρ0 μ0 ts ρ μ σ) (e : ts ++ (carL W k ++ r) = TS) (nx : ∀ ρ' μ' σ', WX x y W ρ0 μ0 (ts ++ carL W k) ρ' μ' σ' → qX mL_says (GX X) P (GX X) (0, 0) 69 [some (qP 0), some (qP x), some (qP y), some (qI (k + 1)), none] [] ρ' μ') : qX mL_says (GX X) P (GX X) (0, 0) 69 [some (qP 0), some (qP x), some (qP y), some (qI k), none] [] ρ μ := by
  refine w_L_says_69 H.1 H.2.1 ?_
  refine ⟨fun hc1 => ?_, fun hc1 => ?_⟩
  · omega
  · refine ⟨_, t_say k_car H hl C (tk := [kT carW]) e, ?_⟩
    rintro z1 ρ2 μ3 ⟨σ1, C1⟩
    replace e := adv e
    refine ⟨(by omega), ?_⟩
    refine ⟨_, t_part H hl C1 e (by omega), ?_⟩
    rintro z5 ρ6 μ7 ⟨σ2, C2⟩
    replace e := adv e
    refine s_93 0 (by omega) (by omega) k0 k1 H hl hW C2 e (fun ρ3 μ3 σ3 C3 => ?_)
    replace e := adv e
    refine s_93 1 (by omega) (by omega) k0 k1 H hl hW C3 e (fun ρ4 μ4 σ4 C4 => ?_)
    replace e := adv e
    refine s_93 2 (by omega) (by omega) k0 k1 H hl hW C4 e (fun ρ5 μ5 σ5 C5 => ?_)
    replace e := adv e
    refine s_93e H hl hW C5 e ⟨k0, k1⟩ (fun ρ6 μ6 σ6 C6 => ?_)
    refine nx _ _ σ6 ?_
    simp only [List.append_assoc, List.cons_append, List.nil_append] at C6
    exact C6
theorem s_mea (k0 : 0 ≤ k) (k1 : k < 2) (H : HX X x y) (hl : (enS TS).length < 800) (hW : WOK2 W) (C : WX x y W ρ0 μ0 ts ρ μ σ) (e : ts ++ (meaL W k ++ r) = TS) (nx : ∀ ρ' μ' σ', WX x y W ρ0 μ0 (ts ++ meaL W k) ρ' μ' σ' → qX mL_says (GX X) P (GX X) (0, 0) 136 [some (qP 0), some (qP x), some (qP y), some (qI (k + 1)), none] [] ρ' μ') : qX mL_says (GX X) P (GX X) (0, 0) 136 [some (qP 0), some (qP x), some (qP y), some (qI k), none] [] ρ μ := by
  refine w_L_says_136 H.1 H.2.1 ?_
  refine ⟨fun hc1 => ?_, fun hc1 => ?_⟩
  · omega
  · refine ⟨_, t_say k_meal H hl C (tk := [kT mealW]) e, ?_⟩
    rintro z1 ρ2 μ3 ⟨σ1, C1⟩
    replace e := adv e
    refine ⟨_, t_meal H hl C1 e, ?_⟩
    rintro z5 ρ6 μ7 ⟨σ2, C2⟩
    replace e := adv e
    refine ⟨(by unfold i32; omega), ?_⟩
    refine ⟨(by unfold i32; omega), ?_⟩
    refine ⟨(by omega), ?_⟩
    rw [C2.2.2.1]
    refine ⟨_, t_part H hl C2 e (hW.at' (by omega) (by omega)), ?_⟩
    rintro z9 ρ10 μ11 ⟨σ3, C3⟩
    replace e := adv e
    refine ⟨(by unfold i32; omega), ?_⟩
    refine ⟨(by unfold i32; omega), ?_⟩
    refine ⟨(by omega), ?_⟩
    rw [C3.2.2.1]
    refine ⟨_, t_part H hl C3 e (hW.at' (by omega) (by omega)), ?_⟩
    rintro z13 ρ14 μ15 ⟨σ4, C4⟩
    replace e := adv e
    refine ⟨_, t_put H hl C4 e, ?_⟩
    rintro z17 ρ18 μ19 ⟨σ5, C5⟩
    refine ⟨(by unfold i32; omega), ?_⟩
    refine nx _ _ σ5 ?_
    simp only [List.append_assoc, List.cons_append, List.nil_append] at C5
    exact C5
theorem s_sto (c : Int) (c0 : 0 ≤ c) (c1 : c < 2) (k0 : 0 ≤ k) (k1 : k < 2) (H : HX X x y) (hl : (enS TS).length < 800) (hW : WOK2 W) (C : WX x y W ρ0 μ0 ts ρ μ σ) (e : ts ++ (stoL W k c ++ r) = TS) (nx : ∀ ρ' μ' σ', WX x y W ρ0 μ0 (ts ++ stoL W k c) ρ' μ' σ' → qX mL_says (GX X) P (GX X) (0, 0) 230 [some (qP 0), some (qP x), some (qP y), some (qI k), some (qI (c + 1))] [] ρ' μ') : qX mL_says (GX X) P (GX X) (0, 0) 230 [some (qP 0), some (qP x), some (qP y), some (qI k), some (qI c)] [] ρ μ := by
  refine w_L_says_230 H.1 H.2.1 ?_
  refine ⟨fun hc1 => ?_, fun hc1 => ?_⟩
  · omega
  · refine ⟨_, t_say k_sto H hl C (tk := [kT stoW]) e, ?_⟩
    rintro z1 ρ2 μ3 ⟨σ1, C1⟩
    replace e := adv e
    refine ⟨_, t_part H hl C1 e (by omega), ?_⟩
    rintro z5 ρ6 μ7 ⟨σ2, C2⟩
    replace e := adv e
    refine ⟨_, t_meal H hl C2 e, ?_⟩
    rintro z9 ρ10 μ11 ⟨σ3, C3⟩
    replace e := adv e
    refine ⟨(by unfold i32; omega), ?_⟩
    refine ⟨(by unfold i32; omega), ?_⟩
    refine ⟨(by unfold i32; omega), ?_⟩
    refine ⟨(by omega), ?_⟩
    rw [C3.2.2.1]
    refine ⟨_, t_part H hl C3 e (hW.at' (by omega) (by omega)), ?_⟩
    rintro z13 ρ14 μ15 ⟨σ4, C4⟩
    replace e := adv e
    refine ⟨_, t_put H hl C4 e, ?_⟩
    rintro z17 ρ18 μ19 ⟨σ5, C5⟩
    refine ⟨(by unfold i32; omega), ?_⟩
    refine nx _ _ σ5 ?_
    simp only [List.append_assoc, List.cons_append, List.nil_append] at C5
    exact C5
theorem s_230e (k1 : 0 ≤ k ∧ k < 2) (nx : qX mL_says (GX X) P (GX X) (0, 0) 196 [some (qP 0), some (qP x), some (qP y), some (qI (k + 1)), none] [] ρ μ) (H : HX X x y) : qX mL_says (GX X) P (GX X) (0, 0) 230 [some (qP 0), some (qP x), some (qP y), some (qI k), some (qI 2)] [] ρ μ := by
  refine w_L_says_230 H.1 H.2.1 ?_
  refine ⟨fun hc1 => ?_, fun hc1 => ?_⟩
  · refine ⟨(by unfold i32; omega), ?_⟩
    exact nx
  · omega
theorem s_kit (k0 : 0 ≤ k) (k1 : k < 2) (H : HX X x y) (hl : (enS TS).length < 800) (hW : WOK2 W) (C : WX x y W ρ0 μ0 ts ρ μ σ) (e : ts ++ (kitL W k ++ (stoL W k 0 ++ (stoL W k 1 ++ r))) = TS) (nx : ∀ ρ' μ' σ', WX x y W ρ0 μ0 (((ts ++ kitL W k) ++ stoL W k 0) ++ stoL W k 1) ρ' μ' σ' → qX mL_says (GX X) P (GX X) (0, 0) 196 [some (qP 0), some (qP x), some (qP y), some (qI (k + 1)), none] [] ρ' μ') : qX mL_says (GX X) P (GX X) (0, 0) 196 [some (qP 0), some (qP x), some (qP y), some (qI k), none] [] ρ μ := by
  have e0 := e
  refine w_L_says_196 H.1 H.2.1 ?_
  refine ⟨fun hc1 => ?_, fun hc1 => ?_⟩
  · omega
  · refine ⟨_, t_say k_kit H hl C (tk := [kT kitW]) e, ?_⟩
    rintro z1 ρ2 μ3 ⟨σ1, C1⟩
    replace e := adv e
    refine ⟨(by unfold i32; omega), ?_⟩
    refine ⟨(by omega), ?_⟩
    rw [C1.2.2.1]
    refine ⟨_, t_part H hl C1 e (hW.at' (by omega) (by omega)), ?_⟩
    rintro z5 ρ6 μ7 ⟨σ2, C2⟩
    replace e := adv e
    refine ⟨_, t_put H hl C2 e, ?_⟩
    rintro z9 ρ10 μ11 ⟨σ3, C3⟩
    have C3 : WX x y W ρ0 μ0 (ts ++ kitL W k) ρ10 μ11 σ3 := by
      simp only [List.append_assoc, List.cons_append, List.nil_append] at C3
      exact C3
    replace e0 := adv2 e0
    refine s_sto 0 (by omega) (by omega) k0 k1 H hl hW C3 e0 (fun ρ4 μ4 σ4 C4 => ?_)
    replace e0 := adv2 e0
    refine s_sto 1 (by omega) (by omega) k0 k1 H hl hW C4 e0 (fun ρ5 μ5 σ5 C5 => ?_)
    exact s_230e ⟨k0, k1⟩ (nx _ _ σ5 C5) H
theorem s_321 (c : Int) (c0 : 0 ≤ c) (c1 : c < 5) (k0 : 0 ≤ k) (k1 : k < 3) (H : HX X x y) (hl : (enS TS).length < 800) (hW : WOK2 W) (C : WX x y W ρ0 μ0 ts ρ μ σ) (e : ts ++ (nT (W (50 + 5 * k + c)) :: r) = TS) (nx : ∀ ρ' μ' σ', WX x y W ρ0 μ0 (ts ++ [nT (W (50 + 5 * k + c))]) ρ' μ' σ' → qX mL_says (GX X) P (GX X) (0, 0) 321 [some (qP 0), some (qP x), some (qP y), some (qI k), some (qI (c + 1))] [] ρ' μ') : qX mL_says (GX X) P (GX X) (0, 0) 321 [some (qP 0), some (qP x), some (qP y), some (qI k), some (qI c)] [] ρ μ := by
  refine w_L_says_321 H.1 H.2.1 ?_
  refine ⟨fun hc1 => ?_, fun hc1 => ?_⟩
  · omega
  · refine ⟨(by unfold i32; omega), ?_⟩
    refine ⟨(by unfold i32; omega), ?_⟩
    refine ⟨(by unfold i32; omega), ?_⟩
    refine ⟨(by omega), ?_⟩
    rw [C.2.2.1]
    refine ⟨_, t_part H hl C e (hW.at' (by omega) (by omega)), ?_⟩
    rintro z1 ρ2 μ3 ⟨σ1, C1⟩
    refine ⟨(by unfold i32; omega), ?_⟩
    exact nx _ _ σ1 C1
theorem s_321e (k1 : 0 ≤ k ∧ k < 3) (nx : qX mL_says (GX X) P (GX X) (0, 0) 294 [some (qP 0), some (qP x), some (qP y), some (qI (k + 1)), none] [] ρ μ) (H : HX X x y) : qX mL_says (GX X) P (GX X) (0, 0) 321 [some (qP 0), some (qP x), some (qP y), some (qI k), some (qI 5)] [] ρ μ := by
  refine w_L_says_321 H.1 H.2.1 ?_
  refine ⟨fun hc1 => ?_, fun hc1 => ?_⟩
  · refine ⟨(by unfold i32; omega), ?_⟩
    exact nx
  · omega
theorem s_tro (k0 : 0 ≤ k) (k1 : k < 3) (H : HX X x y) (hl : (enS TS).length < 800) (hW : WOK2 W) (C : WX x y W ρ0 μ0 ts ρ μ σ) (e : ts ++ (troL W k ++ r) = TS) (nx : ∀ ρ' μ' σ', WX x y W ρ0 μ0 (ts ++ troL W k) ρ' μ' σ' → qX mL_says (GX X) P (GX X) (0, 0) 294 [some (qP 0), some (qP x), some (qP y), some (qI (k + 1)), none] [] ρ' μ') : qX mL_says (GX X) P (GX X) (0, 0) 310 [some (qP 0), some (qP x), some (qP y), some (qI k), none] [] ρ μ := by
  refine w_L_says_310 H.1 H.2.1 ?_
  refine ⟨_, t_say k_tro H hl C (tk := [kT troW]) e, ?_⟩
  rintro z1 ρ2 μ3 ⟨σ1, C1⟩
  replace e := adv e
  refine s_321 0 (by omega) (by omega) k0 k1 H hl hW C1 e (fun ρ3 μ3 σ3 C3 => ?_)
  replace e := adv e
  refine s_321 1 (by omega) (by omega) k0 k1 H hl hW C3 e (fun ρ4 μ4 σ4 C4 => ?_)
  replace e := adv e
  refine s_321 2 (by omega) (by omega) k0 k1 H hl hW C4 e (fun ρ5 μ5 σ5 C5 => ?_)
  replace e := adv e
  refine s_321 3 (by omega) (by omega) k0 k1 H hl hW C5 e (fun ρ6 μ6 σ6 C6 => ?_)
  replace e := adv e
  refine s_321 4 (by omega) (by omega) k0 k1 H hl hW C6 e (fun ρ7 μ7 σ7 C7 => ?_)
  refine s_321e ⟨k0, k1⟩ (nx _ _ σ7 ?_) H
  simp only [List.append_assoc, List.cons_append, List.nil_append] at C7
  exact C7
theorem s_376 (c : Int) (c0 : 0 ≤ c) (c1 : c < 3) (k0 : 0 ≤ k) (k1 : k < 20) (H : HX X x y) (hl : (enS TS).length < 800) (hW : WOK2 W) (C : WX x y W ρ0 μ0 ts ρ μ σ) (e : ts ++ (nT (W (71 + 5 * k + c)) :: r) = TS) (nx : ∀ ρ' μ' σ', WX x y W ρ0 μ0 (ts ++ [nT (W (71 + 5 * k + c))]) ρ' μ' σ' → qX mL_says (GX X) P (GX X) (0, 0) 376 [some (qP 0), some (qP x), some (qP y), some (qI k), some (qI (c + 1))] [] ρ' μ') : qX mL_says (GX X) P (GX X) (0, 0) 376 [some (qP 0), some (qP x), some (qP y), some (qI k), some (qI c)] [] ρ μ := by
  refine w_L_says_376 H.1 H.2.1 ?_
  refine ⟨fun hc1 => ?_, fun hc1 => ?_⟩
  · omega
  · refine ⟨(by unfold i32; omega), ?_⟩
    refine ⟨(by unfold i32; omega), ?_⟩
    refine ⟨(by unfold i32; omega), ?_⟩
    refine ⟨(by omega), ?_⟩
    rw [C.2.2.1]
    refine ⟨_, t_part H hl C e (hW.at' (by omega) (by omega)), ?_⟩
    rintro z9 ρ10 μ11 ⟨σ1, C1⟩
    refine ⟨(by unfold i32; omega), ?_⟩
    exact nx _ _ σ1 C1
theorem s_376e (k0 : 0 ≤ k) (k1 : k < 20) (H : HX X x y) (hl : (enS TS).length < 800) (hW : WOK2 W) (C : WX x y W ρ0 μ0 ts ρ μ σ) (e : ts ++ (mT (W (74 + 5 * k)) :: nT (W (75 + 5 * k)) :: r) = TS) (nx : ∀ ρ' μ' σ', WX x y W ρ0 μ0 ((ts ++ [mT (W (74 + 5 * k))]) ++ [nT (W (75 + 5 * k))]) ρ' μ' σ' → qX mL_says (GX X) P (GX X) (0, 0) 357 [some (qP 0), some (qP x), some (qP y), some (qI (k + 1)), none] [] ρ' μ') : qX mL_says (GX X) P (GX X) (0, 0) 376 [some (qP 0), some (qP x), some (qP y), some (qI k), some (qI 3)] [] ρ μ := by
  refine w_L_says_376 H.1 H.2.1 ?_
  refine ⟨fun hc1 => ?_, fun hc1 => ?_⟩
  · refine ⟨(by unfold i32; omega), ?_⟩
    refine ⟨(by unfold i32; omega), ?_⟩
    refine ⟨(by omega), ?_⟩
    rw [C.2.2.1]
    refine ⟨_, t_meal H hl C e, ?_⟩
    rintro z1 ρ2 μ3 ⟨σ6, C6⟩
    replace e := adv e
    refine ⟨(by unfold i32; omega), ?_⟩
    refine ⟨(by unfold i32; omega), ?_⟩
    refine ⟨(by omega), ?_⟩
    rw [C6.2.2.1]
    refine ⟨_, t_part H hl C6 e (hW.at' (by omega) (by omega)), ?_⟩
    rintro z5 ρ6 μ7 ⟨σ7, C7⟩
    refine ⟨(by unfold i32; omega), ?_⟩
    exact nx _ _ σ7 C7
  · omega
theorem s_job (k0 : 0 ≤ k) (k1 : k < 20) (k2 : k < W 70) (H : HX X x y) (hl : (enS TS).length < 800) (hW : WOK2 W) (C : WX x y W ρ0 μ0 ts ρ μ σ) (e : ts ++ (jobL W k ++ r) = TS) (nx : ∀ ρ' μ' σ', WX x y W ρ0 μ0 (ts ++ jobL W k) ρ' μ' σ' → qX mL_says (GX X) P (GX X) (0, 0) 357 [some (qP 0), some (qP x), some (qP y), some (qI (k + 1)), none] [] ρ' μ') : qX mL_says (GX X) P (GX X) (0, 0) 357 [some (qP 0), some (qP x), some (qP y), some (qI k), none] [] ρ μ := by
  refine w_L_says_357 H.1 H.2.1 ?_
  refine ⟨(by omega), ?_⟩
  rw [C.2.2.1]
  refine ⟨fun hc2 => ?_, fun hc2 => ?_⟩
  · omega
  · refine ⟨_, t_say k_job H hl C (tk := [cT, kT jobW]) e, ?_⟩
    rintro z9 ρ10 μ11 ⟨σ1, C1⟩
    replace e := adv2 (tk := [cT, kT jobW]) e
    refine s_376 0 (by omega) (by omega) k0 k1 H hl hW C1 e (fun ρ3 μ3 σ3 C3 => ?_)
    replace e := adv e
    refine s_376 1 (by omega) (by omega) k0 k1 H hl hW C3 e (fun ρ4 μ4 σ4 C4 => ?_)
    replace e := adv e
    refine s_376 2 (by omega) (by omega) k0 k1 H hl hW C4 e (fun ρ5 μ5 σ5 C5 => ?_)
    replace e := adv e
    refine s_376e k0 k1 H hl hW C5 e (fun ρ7 μ7 σ7 C7 => ?_)
    refine nx _ _ σ7 ?_
    simp only [List.append_assoc, List.cons_append, List.nil_append] at C7
    exact C7
/-- the plan is loaded -/
def LD (TS : List Tkn) (x : Nat) (ρ0 : Rf) (μ0 : Mem) : Int → Rf → Mem → Prop := fun z ρ' μ' => ∃ b : Int → Int, (∀ k : Nat, k < (enS TS).length → b k = (enS TS).getD k 0) ∧ ((pT b (enS TS).length).1 = 0 → z = (pZ b (enS TS).length).1 1 87 ∧ ∃ σ', LI ρ' μ' σ' ∧ σ' 2 = (pZ b (enS TS).length).1 1 ∧ σ' 0 4 = 1 ∧ σ' 0 6 = 0 ∧ OUX x ρ0 μ0 ρ' μ')
theorem SI_load {σ : Sg} {x : Int} (h : SI σ) : SI (if 0 ≤ x ∧ x ≤ σ 0 0 then (if (pT (σ 1) x).1 = 0 then sLo σ (pT (σ 1) x).1 (pT (σ 1) x).2.1 ((pZ (σ 1) x).1 1) else sLf σ (pT (σ 1) x).1 (pT (σ 1) x).2.1) else sE σ 2) := by
  by_cases q : 0 ≤ x ∧ x ≤ σ 0 0
  · rw [if_pos q]
    by_cases q2 : (pT (σ 1) x).1 = 0
    · rw [if_pos q2]
      exact h.lo (DV.ok (pZ_v q.1) (pT_0 q2))
    · rw [if_neg q2]
      exact h.lf
  · rw [if_neg q]
    exact h.e
theorem s_end (k0 : W 70 ≤ k) (H : HX X x y) (hl : (enS TS).length < 800) (hW : WOK2 W) (C : WX x y W ρ0 μ0 TS ρ μ σ) : qX mL_says (GX X) (LD TS x ρ0 μ0) (GX X) (0, 0) 357 [some (qP 0), some (qP x), some (qP y), some (qI k), none] [] ρ μ := by
  refine w_L_says_357 H.1 H.2.1 ?_
  refine ⟨(by omega), ?_⟩
  rw [C.2.2.1]
  refine ⟨fun hc2 => ?_, fun hc2 => ?_⟩
  · refine ⟨_, l_said H.1 H.2.2.1 C.1 C.2.1 (by omega), ?_⟩
    rintro z1 ρ2 μ3 ⟨hq3_1, σ1, L1, n1, b1, O1⟩
    obtain rfl := hq3_1.symm
    refine ⟨_, lc L1 (c_load L1.2.1 L1.1) (SI_load L1.1) (by decide) rfl, ?_⟩
    rintro z5 ρ6 μ7 ⟨hz, L2, O2⟩
    have q : 0 ≤ ((enS TS).length : Int) ∧ ((enS TS).length : Int) ≤ σ1 0 0 := ⟨by omega, n1⟩
    refine ⟨σ1 1, b1, fun h => ?_⟩
    rw [if_pos q, if_pos h] at L2
    refine ⟨?_, _, L2, rfl, rfl, rfl, (C.2.2.2.trans O1).trans (O2.x x)⟩
    rw [hz Z0, if_pos ⟨q, h⟩]
  · omega
theorem s_jobs (H : HX X x y) (hl : (enS TS).length < 800) (hW : WOK2 W) (h70 : W 70 ≤ 19) : ∀ (n : Nat) (j : Int) (ts : List Tkn) (ρ : Rf) (μ : Mem) (σ : Sg), 0 ≤ j → (W 70 - j).toNat = n → WX x y W ρ0 μ0 ts ρ μ σ → ts ++ jobsL W n j = TS → qX mL_says (GX X) (LD TS x ρ0 μ0) (GX X) (0, 0) 357 [some (qP 0), some (qP x), some (qP y), some (qI j), none] [] ρ μ := by
  intro n
  induction n with
  | zero =>
    intro j ts ρ μ σ j0 hn C e
    have e : ts ++ [] = TS := e
    rw [List.append_nil] at e
    subst e
    exact s_end (by omega) H hl hW C
  | succ n ih =>
    intro j ts ρ μ σ j0 hn C e
    have e : ts ++ (jobL W j ++ jobsL W n (j + 1)) = TS := e
    refine s_job j0 (by omega) (by omega) H hl hW C e (fun ρ' μ' σ' C' => ?_)
    exact ih (j + 1) _ ρ' μ' σ' (by omega) (by omega) C' (adv2 e)
end SAYS
