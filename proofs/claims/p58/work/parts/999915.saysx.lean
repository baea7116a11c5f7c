/-! ===== the law's plan, whole ===== -/
theorem digs_len (v : Int) : (digs v).length ≤ 3 := by
  unfold digs
  split
  · exact Nat.le_of_ble_eq_true rfl
  · split <;> exact Nat.le_of_ble_eq_true rfl
theorem nT_len (v : Int) : (enT (nT v)).length ≤ 4 := by
  have := digs_len v
  show ([32] ++ digs v).length ≤ 4
  rw [List.length_append]
  simp
  omega
theorem mT_len (v : Int) : (enT (mT v)).length ≤ 5 := by
  show ([32] ++ (if v = 0 then teaW else riceW)).length ≤ 5
  split <;> exact Nat.le_of_ble_eq_true rfl
theorem len_c {t : Tkn} {r : List Tkn} : (enS (t :: r)).length = (enT t).length + (enS r).length := by
  show (enT t ++ enS r).length = _
  rw [List.length_append]
theorem len_n : (enS []).length = 0 := rfl
theorem kw_len : (enT (kT trainW)).length = 5 ∧ (enT (bT fromW)).length = 5 ∧ (enT (bT toW)).length = 3 ∧ (enT (kT carW)).length = 3 ∧ (enT (kT mealW)).length = 4 ∧ (enT (kT kitW)).length = 7 ∧ (enT (kT stoW)).length = 5 ∧ (enT (kT troW)).length = 7 ∧ (enT (kT jobW)).length = 3 ∧ (enT cT).length = 1 := ⟨rfl, rfl, rfl, rfl, rfl, rfl, rfl, rfl, rfl, rfl⟩
section LEN
variable {W : Int → Int} {k i : Int}
theorem tra_len : (enS (traL W k)).length ≤ 28 := by
  have a := kw_len
  have b := nT_len k
  have c := nT_len (W k)
  have d := nT_len (W (2 + k))
  simp only [traL, len_c, len_n]
  omega
theorem car_len : (enS (carL W k)).length ≤ 28 := by
  have a := kw_len
  have b := nT_len (k / 2)
  have c := nT_len (W (10 + 3 * k + 0))
  have d := nT_len (W (10 + 3 * k + 1))
  have e := nT_len (W (10 + 3 * k + 2))
  simp only [carL, len_c, len_n]
  omega
theorem mea_len : (enS (meaL W k)).length ≤ 28 := by
  have a := kw_len
  have b := mT_len k
  have c := nT_len (W (30 + 2 * k))
  have d := nT_len (W (31 + 2 * k))
  simp only [meaL, len_c, len_n]
  omega
theorem kit_len : (enS (kitL W k)).length ≤ 28 := by
  have a := kw_len
  have c := nT_len (W (40 + k))
  simp only [kitL, len_c, len_n]
  omega
theorem sto_len : (enS (stoL W k i)).length ≤ 28 := by
  have a := kw_len
  have b := nT_len k
  have c := mT_len i
  have d := nT_len (W (42 + 2 * k + i))
  simp only [stoL, len_c, len_n]
  omega
theorem tro_len : (enS (troL W k)).length ≤ 28 := by
  have a := kw_len
  have b := nT_len (W (50 + 5 * k + 0))
  have c := nT_len (W (50 + 5 * k + 1))
  have d := nT_len (W (50 + 5 * k + 2))
  have e := nT_len (W (50 + 5 * k + 3))
  have f := nT_len (W (50 + 5 * k + 4))
  simp only [troL, len_c, len_n]
  omega
theorem job_len : (enS (jobL W k)).length ≤ 28 := by
  have a := kw_len
  have b := nT_len (W (71 + 5 * k + 0))
  have c := nT_len (W (71 + 5 * k + 1))
  have d := nT_len (W (71 + 5 * k + 2))
  have e := mT_len (W (74 + 5 * k))
  have f := nT_len (W (75 + 5 * k))
  simp only [jobL, len_c, len_n]
  omega
theorem jobs_len : ∀ (n : Nat) (j : Int), (enS (jobsL W n j)).length ≤ 28 * n
  | 0, _ => Nat.le_refl _
  | n + 1, j => by
    have a := job_len (W := W) (k := j)
    have b := jobs_len n (j + 1)
    show (enS (jobL W j ++ jobsL W n (j + 1))).length ≤ _
    rw [enS_app, List.length_append]
    omega
theorem txt_len (h : W 70 ≤ 6) : (enS (txtL W)).length < 800 := by
  have t0 := tra_len (W := W) (k := 0)
  have t1 := tra_len (W := W) (k := 1)
  have c0 := car_len (W := W) (k := 0)
  have c1 := car_len (W := W) (k := 1)
  have c2 := car_len (W := W) (k := 2)
  have c3 := car_len (W := W) (k := 3)
  have m0 := mea_len (W := W) (k := 0)
  have m1 := mea_len (W := W) (k := 1)
  have k0 := kit_len (W := W) (k := 0)
  have k1 := kit_len (W := W) (k := 1)
  have s0 := sto_len (W := W) (k := 0) (i := 0)
  have s1 := sto_len (W := W) (k := 0) (i := 1)
  have s2 := sto_len (W := W) (k := 1) (i := 0)
  have s3 := sto_len (W := W) (k := 1) (i := 1)
  have y0 := tro_len (W := W) (k := 0)
  have y1 := tro_len (W := W) (k := 1)
  have y2 := tro_len (W := W) (k := 2)
  have j := jobs_len (W := W) (W 70).toNat 0
  have cc := kw_len.2.2.2.2.2.2.2.2.2
  simp only [txtL, enS_app, List.length_append, len_c, len_n]
  omega
end LEN
section SAYX
variable {ρ ρ0 : Rf} {μ μ0 : Mem} {σ : Sg} {X : List Sh} {x y : Nat} {ts r TS : List Tkn} {W : Int → Int} {P : Int → Rf → Mem → Prop} {k : Int}
theorem s_294 (H : HX X x y) (hl : (enS TS).length < 800) (hW : WOK2 W) (k0 : 0 < k) (k1 : k < 3) (C : WX x y W ρ0 μ0 ts ρ μ σ) (e : ts ++ ([cT] ++ r) = TS) (nx : ∀ ρ' μ' σ', WX x y W ρ0 μ0 (ts ++ [cT]) ρ' μ' σ' → qX mL_says (GX X) P (GX X) (0, 0) 310 [some (qP 0), some (qP x), some (qP y), some (qI k), none] [] ρ' μ') : qX mL_says (GX X) P (GX X) (0, 0) 294 [some (qP 0), some (qP x), some (qP y), some (qI k), none] [] ρ μ := by
  refine w_L_says_294 H.1 H.2.1 ?_
  refine ⟨fun hc1 => ?_, fun hc1 => ?_⟩
  · omega
  · refine ⟨fun hc3 => ?_, fun hc3 => ?_⟩
    · omega
    · refine ⟨_, t_put H hl C e, ?_⟩
      rintro z1 ρ2 μ3 ⟨σ1, C1⟩
      exact nx _ _ σ1 C1
theorem l_says (H : HX X x y) (L : LI ρ μ σ) (h0 : σ 0 0 = 0) (h5 : μ x 5 = 0) (h6 : μ x 6 = 0) (hW : WOK2 (μ y)) (h70 : μ y 70 ≤ 6) (hl : (enS (txtL (μ y))).length < 800) : qE mL_says (GX X) (GX X) [qP 0, qP x, qP y] ρ μ (LD (txtL (μ y)) x ρ μ) := by
  have h70' : μ y 70 ≤ 19 := by omega
  have h70n : 0 ≤ μ y 70 := (hW 70 (by decide) (by decide)).1
  have C0 : WX x y (μ y) ρ μ [] ρ μ σ := ⟨L, ⟨0, 0, ⟨rfl, rfl⟩, by decide, h0, fun k hk => by omega, h5, h6, fun j hj => by omega⟩, rfl, OUX.refl⟩
  revert hW h70 hl h70' h70n C0
  generalize hTS : txtL (μ y) = TS
  generalize hWW : μ y = W at hTS ⊢
  intro hW h70 hl h70' h70n C0
  have e : ([] : List Tkn) ++ txtL W = TS := hTS
  refine e_L_says H.1 H.2.1 ?_
  refine s_tra (by omega) (by omega) H hl hW C0 e (fun ρ1 μ1 σ1 C1 => ?_)
  replace e := adv2 e
  refine s_tra (k := 1 + (-1)) (by omega) (by omega) H hl hW C1 e (fun ρ2 μ2 σ2 C2 => ?_)
  replace e := adv2 e
  refine w_L_says_2 H.1 H.2.1 ⟨fun _ => ?_, fun h => by omega⟩
  refine s_car (by omega) (by omega) H hl hW C2 e (fun ρ3 μ3 σ3 C3 => ?_)
  replace e := adv2 e
  refine s_car (k := 1) (by omega) (by omega) H hl hW C3 e (fun ρ4 μ4 σ4 C4 => ?_)
  replace e := adv2 e
  refine s_car (k := 2) (by omega) (by omega) H hl hW C4 e (fun ρ5 μ5 σ5 C5 => ?_)
  replace e := adv2 e
  refine s_car (k := 3) (by omega) (by omega) H hl hW C5 e (fun ρ6 μ6 σ6 C6 => ?_)
  replace e := adv2 e
  refine w_L_says_69 H.1 H.2.1 ⟨fun _ => ?_, fun h => by omega⟩
  refine s_mea (by omega) (by omega) H hl hW C6 e (fun ρ7 μ7 σ7 C7 => ?_)
  replace e := adv2 e
  refine s_mea (k := 1) (by omega) (by omega) H hl hW C7 e (fun ρ8 μ8 σ8 C8 => ?_)
  replace e := adv2 e
  refine w_L_says_136 H.1 H.2.1 ⟨fun _ => ?_, fun h => by omega⟩
  refine s_kit (by omega) (by omega) H hl hW C8 e (fun ρ9 μ9 σ9 C9 => ?_)
  replace e := adv2 (adv2 (adv2 e))
  refine s_kit (k := 1) (by omega) (by omega) H hl hW C9 e (fun ρ10 μ10 σ10 C10 => ?_)
  replace e := adv2 (adv2 (adv2 e))
  refine w_L_says_196 H.1 H.2.1 ⟨fun _ => ?_, fun h => by omega⟩
  refine w_L_says_294 H.1 H.2.1 ⟨fun h => by omega, fun _ => ⟨fun _ => ?_, fun h => by omega⟩⟩
  refine s_tro (by omega) (by omega) H hl hW C10 e (fun ρ11 μ11 σ11 C11 => ?_)
  replace e := adv2 e
  refine s_294 (k := 1) H hl hW (by omega) (by omega) C11 e (fun ρ12 μ12 σ12 C12 => ?_)
  replace e := adv2 e
  refine s_tro (by omega) (by omega) H hl hW C12 e (fun ρ13 μ13 σ13 C13 => ?_)
  replace e := adv2 e
  refine s_294 (k := 2) H hl hW (by omega) (by omega) C13 e (fun ρ14 μ14 σ14 C14 => ?_)
  replace e := adv2 e
  refine s_tro (by omega) (by omega) H hl hW C14 e (fun ρ15 μ15 σ15 C15 => ?_)
  replace e := adv2 e
  refine w_L_says_294 H.1 H.2.1 ⟨fun _ => ?_, fun h => by omega⟩
  exact s_jobs H hl hW h70' (W 70).toNat 0 _ _ _ _ (by omega) (by omega) C15 e
end SAYX
