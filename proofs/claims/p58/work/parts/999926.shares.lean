/-! ===== the law's questions: shares, parts of demands ===== -/
section SHA
variable {ρ ρ0 : Rf} {μ μ0 : Mem} {σ : Sg} {X : List Sh} {W : Int → Int} {t m : Int}
/-- what is known of the shares of both cars -/
theorem shr_all (P : LPl W σ) (hv : PV (σ 2)) (ht : 0 ≤ t ∧ t < 2) (hm : 0 ≤ m ∧ m < 2) : (0 ≤ dem (σ 2) t 0 m ∧ dem (σ 2) t 0 m ≤ 396) ∧ (0 ≤ dem (σ 2) t 1 m ∧ dem (σ 2) t 1 m ≤ 396) ∧ (0 ≤ dlv (σ 2) (GS σ 199) t 0 m ∧ dlv (σ 2) (GS σ 199) t 0 m ≤ 1980) ∧ (0 ≤ dlv (σ 2) (GS σ 199) t 1 m ∧ dlv (σ 2) (GS σ 199) t 1 m ≤ 1980) ∧ dlT (σ 2) (GS σ 199) t m = dlv (σ 2) (GS σ 199) t 0 m + dlv (σ 2) (GS σ 199) t 1 m ∧ dmT (σ 2) t m = dem (σ 2) t 0 m + dem (σ 2) t 1 m ∧ lSh (σ 2 (4 + t)) (fun c => dem (σ 2) t c m) (dlT (σ 2) (GS σ 199) t m) 0 + lSh (σ 2 (4 + t)) (fun c => dem (σ 2) t c m) (dlT (σ 2) (GS σ 199) t m) 1 = min (dlv (σ 2) (GS σ 199) t 0 m + dlv (σ 2) (GS σ 199) t 1 m) (dem (σ 2) t 0 m + dem (σ 2) t 1 m) ∧ ∀ c, 0 ≤ c ∧ c < 2 → 0 ≤ lSh (σ 2 (4 + t)) (fun c => dem (σ 2) t c m) (dlT (σ 2) (GS σ 199) t m) c ∧ lSh (σ 2 (4 + t)) (fun c => dem (σ 2) t c m) (dlT (σ 2) (GS σ 199) t m) c ≤ 397 ∧ (0 < dem (σ 2) t 0 m + dem (σ 2) t 1 m → -(dem (σ 2) t 0 m + dem (σ 2) t 1 m) < lSh (σ 2 (4 + t)) (fun c => dem (σ 2) t c m) (dlT (σ 2) (GS σ 199) t m) c * (dem (σ 2) t 0 m + dem (σ 2) t 1 m) - min (dlv (σ 2) (GS σ 199) t 0 m + dlv (σ 2) (GS σ 199) t 1 m) (dem (σ 2) t 0 m + dem (σ 2) t 1 m) * dem (σ 2) t c m ∧ lSh (σ 2 (4 + t)) (fun c => dem (σ 2) t c m) (dlT (σ 2) (GS σ 199) t m) c * (dem (σ 2) t 0 m + dem (σ 2) t 1 m) - min (dlv (σ 2) (GS σ 199) t 0 m + dlv (σ 2) (GS σ 199) t 1 m) (dem (σ 2) t 0 m + dem (σ 2) t 1 m) * dem (σ 2) t c m < dem (σ 2) t 0 m + dem (σ 2) t 1 m) := by
  have n := hv.n
  have p36 := P.2.2.2.2.1
  have p4 := P.t4 ht
  have d0 := dem_b hv ht.1 ht.2 (show (0 : Int) ≤ 0 by decide) (by omega) hm.1 (by omega : m < σ 2 36)
  have d1 := dem_b hv ht.1 ht.2 (show (0 : Int) ≤ 1 by decide) (by omega) hm.1 (by omega : m < σ 2 36)
  have l0 : 0 ≤ dlv (σ 2) (GS σ 199) t 0 m ∧ dlv (σ 2) (GS σ 199) t 0 m ≤ 1980 := dlv_b (by omega) (go_ub hv)
  have l1 : 0 ≤ dlv (σ 2) (GS σ 199) t 1 m ∧ dlv (σ 2) (GS σ 199) t 1 m ≤ 1980 := dlv_b (by omega) (go_ub hv)
  have eT : dlT (σ 2) (GS σ 199) t m = dlv (σ 2) (GS σ 199) t 0 m + dlv (σ 2) (GS σ 199) t 1 m := by unfold dlT; rw [p4]; exact s_I2
  have eD : dmT (σ 2) t m = dem (σ 2) t 0 m + dem (σ 2) t 1 m := by unfold dmT; rw [p4]; exact s_I2
  refine ⟨d0, d1, l0, l1, eT, eD, ?_⟩
  rw [p4, eT]
  have a := share2 (cl := fun c => dem (σ 2) t c m) (a := dlv (σ 2) (GS σ 199) t 0 m + dlv (σ 2) (GS σ 199) t 1 m) (b := 396) (by omega) d0 d1
  exact ⟨a.1, fun c hc => by have := a.2 c hc; exact ⟨this.1, by omega, this.2.2⟩⟩
theorem h_sha1 {c : Int} (P : LPl W σ) (C : LQ σ ρ0 μ0 ρ μ) (hm : 0 ≤ m ∧ m < 2) (ht : 0 ≤ t ∧ t < 2) (hc : 0 ≤ c ∧ c < 2) (nx : ∀ ρ' μ', LQ σ ρ0 μ0 ρ' μ' → qX mL_sharesHold (GX X) (fun z ρ' μ' => z = 1 ∧ LQ σ ρ0 μ0 ρ' μ') (GX X) (0, 0) 80 [some (qP 0), some (qI t), some (qI m), some (qI (dem (σ 2) t 0 m + dem (σ 2) t 1 m)), some (qI (dlv (σ 2) (GS σ 199) t 0 m + dlv (σ 2) (GS σ 199) t 1 m)), none, some (qI (c + 1)), none, none, none] [] ρ' μ') : qX mL_sharesHold (GX X) (fun z ρ' μ' => z = 1 ∧ LQ σ ρ0 μ0 ρ' μ') (GX X) (0, 0) 80 [some (qP 0), some (qI t), some (qI m), some (qI (dem (σ 2) t 0 m + dem (σ 2) t 1 m)), some (qI (dlv (σ 2) (GS σ 199) t 0 m + dlv (σ 2) (GS σ 199) t 1 m)), none, some (qI c), none, none, none] [] ρ μ := by
  have hv := C.1.pv P
  obtain ⟨d0, d1, l0, l1, eT, eD, hs, hc2⟩ := shr_all P hv ht hm
  obtain ⟨a0, a1, a2⟩ := hc2 c hc
  have dc : 0 ≤ dem (σ 2) t c m ∧ dem (σ 2) t c m ≤ 396 := by
    obtain rfl | rfl : c = 0 ∨ c = 1 := by omega
    · exact d0
    · exact d1
  have m1 := mulb a0 a1 (show 0 ≤ dem (σ 2) t 0 m + dem (σ 2) t 1 m by omega) (show dem (σ 2) t 0 m + dem (σ 2) t 1 m ≤ 792 by omega)
  have m2 := mulb (show 0 ≤ min (dlv (σ 2) (GS σ 199) t 0 m + dlv (σ 2) (GS σ 199) t 1 m) (dem (σ 2) t 0 m + dem (σ 2) t 1 m) by omega) (show min (dlv (σ 2) (GS σ 199) t 0 m + dlv (σ 2) (GS σ 199) t 1 m) (dem (σ 2) t 0 m + dem (σ 2) t 1 m) ≤ 792 by omega) dc.1 dc.2
  refine w_L_sharesHold_80 ?_
  refine ⟨fun hc => absurd hc (by omega), fun _ => ?_⟩
  refine ⟨_, C.c (fun L => g_share L P (by omega) (by omega) (by omega)), ?_⟩
  rintro z1 ρ1 μ1 ⟨h1, C⟩
  obtain rfl := h1.symm
  refine ⟨by unfold i32; omega, ?_⟩
  refine ⟨_, C.c (fun L => g_demand L P (by omega) (by omega) (by omega)), ?_⟩
  rintro z1 ρ2 μ2 ⟨h2, C⟩
  obtain rfl := h2.symm
  refine ⟨by unfold i32; omega, by unfold i32; omega, by unfold i32; omega, ?_⟩
  have fin : qX mL_sharesHold (GX X) (fun z ρ' μ' => z = 1 ∧ LQ σ ρ0 μ0 ρ' μ') (GX X) (0, 0) 125 [some (qP 0), some (qI t), some (qI m), some (qI (dem (σ 2) t 0 m + dem (σ 2) t 1 m)), some (qI (dlv (σ 2) (GS σ 199) t 0 m + dlv (σ 2) (GS σ 199) t 1 m)), none, some (qI c), none, none, none] [] ρ2 μ2 := by
    refine w_L_sharesHold_125 ?_
    exact ⟨by unfold i32; omega, nx _ _ C⟩
  refine ⟨fun _ => fin, fun h => ?_⟩
  refine ⟨fun _ => fin, fun h2 => ?_⟩
  have := a2 (by omega)
  omega
theorem h_sha2 (P : LPl W σ) (C : LQ σ ρ0 μ0 ρ μ) (hm : 0 ≤ m ∧ m < 2) (ht : 0 ≤ t ∧ t < 2) (nx : ∀ ρ' μ', LQ σ ρ0 μ0 ρ' μ' → qX mL_sharesHold (GX X) (fun z ρ' μ' => z = 1 ∧ LQ σ ρ0 μ0 ρ' μ') (GX X) (0, 0) 9 [some (qP 0), some (qI t), some (qI (m + 1)), none, none, none, none, none, none, none] [] ρ' μ') : qX mL_sharesHold (GX X) (fun z ρ' μ' => z = 1 ∧ LQ σ ρ0 μ0 ρ' μ') (GX X) (0, 0) 80 [some (qP 0), some (qI t), some (qI m), some (qI (dem (σ 2) t 0 m + dem (σ 2) t 1 m)), some (qI (dlv (σ 2) (GS σ 199) t 0 m + dlv (σ 2) (GS σ 199) t 1 m)), none, some (qI 2), none, none, none] [] ρ μ := by
  have hv := C.1.pv P
  have n := hv.n
  have p36 := P.2.2.2.2.1
  have p4 := P.t4 ht
  obtain ⟨d0, d1, l0, l1, eT, eD, -, -⟩ := shr_all P hv ht hm
  have ub : UB (σ 2) (GS σ 199) := go_ub hv
  obtain ⟨c0, c1, c2, c3, c4, c5⟩ := cov2 (u := GS σ 199) hv ub ht (m := m) (by omega)
  rw [eD, eT] at c1
  rw [eD] at c0
  have lc := lcN_b (p := σ 2) (u := GS σ 199) (t := t) 2
  have lc2 := lc.2 (by decide)
  obtain ⟨-, -, e2, e3, e4, e5⟩ := cov2 (u := GS σ 199) hv ub ht (m := lcN (σ 2) (GS σ 199) t 2) (by omega)
  have lv := lcov2 (u := GS σ 199) hv ub ht p36 hm
  have m1 := mulb c2 c3 (show 0 ≤ dem (σ 2) t 0 m + dem (σ 2) t 1 m by omega) (show dem (σ 2) t 0 m + dem (σ 2) t 1 m ≤ 792 by omega)
  have m2 := mulb (show 0 ≤ cov (σ 2) (GS σ 199) t m 1 by omega) c5 (show 0 ≤ min (dlv (σ 2) (GS σ 199) t 0 m + dlv (σ 2) (GS σ 199) t 1 m) (dem (σ 2) t 0 m + dem (σ 2) t 1 m) by omega) (show min (dlv (σ 2) (GS σ 199) t 0 m + dlv (σ 2) (GS σ 199) t 1 m) (dem (σ 2) t 0 m + dem (σ 2) t 1 m) ≤ 792 by omega)
  have m3 := mulb e2 e3 (show 0 ≤ cov (σ 2) (GS σ 199) t m 1 by omega) c5
  have m4 := mulb c2 c3 (show 0 ≤ cov (σ 2) (GS σ 199) t (lcN (σ 2) (GS σ 199) t 2) 1 by omega) e5
  have fin : ∀ ρ μ, LQ σ ρ0 μ0 ρ μ → qX mL_sharesHold (GX X) (fun z ρ' μ' => z = 1 ∧ LQ σ ρ0 μ0 ρ' μ') (GX X) (0, 0) 191 [some (qP 0), some (qI t), some (qI m), none, none, none, some (qJ (cov (σ 2) (GS σ 199) t m 0)), none, some (qJ (cov (σ 2) (GS σ 199) t m 1)), none] [] ρ μ := by
    intro ρ μ C
    refine w_L_sharesHold_191 ?_
    refine ⟨_, C.c (fun L => g_leastCoverage L P (by omega)), ?_⟩
    rintro z1 ρ2 μ3 ⟨hq1_1, C⟩
    obtain rfl := hq1_1.symm
    refine ⟨(by unfold i64; omega), ?_⟩
    refine ⟨_, C.c (fun L => g_leastCoverage L P (by omega)), ?_⟩
    rintro z5 ρ6 μ7 ⟨hq3_1, C⟩
    obtain rfl := hq3_1.symm
    refine ⟨(by unfold i64; omega), ?_⟩
    refine ⟨fun hc5 => ?_, fun hc5 => ?_⟩
    · refine ⟨(by unfold i32; omega), ?_⟩
      exact nx _ _ C
    · omega
  refine w_L_sharesHold_80 ?_
  refine ⟨fun hc1 => ?_, fun hc1 => ?_⟩
  · refine ⟨_, C.c (fun L => g_coverage L P (by omega) (by omega)), ?_⟩
    rintro z1 ρ2 μ3 ⟨hq2_1, C⟩
    obtain rfl := hq2_1.symm
    refine ⟨_, C.c (fun L => g_coverage L P (by omega) (by omega)), ?_⟩
    rintro z5 ρ6 μ7 ⟨hq3_1, C⟩
    obtain rfl := hq3_1.symm
    refine ⟨fun hc4 => ?_, fun hc4 => ?_⟩
    · refine ⟨(by unfold i64; omega), ?_⟩
      refine ⟨(by unfold i64; omega), ?_⟩
      refine ⟨fun hc7 => ?_, fun hc7 => ?_⟩
      · exact fin _ _ C
      · omega
    · refine ⟨fun hc10 => ?_, fun hc10 => ?_⟩
      · have := c0 (by omega); omega
      · refine ⟨fun hc12 => ?_, fun hc12 => ?_⟩
        · exact fin _ _ C
        · have := c0 (by omega); omega
  · omega
theorem h_sha3 (P : LPl W σ) (C : LQ σ ρ0 μ0 ρ μ) (hm : 0 ≤ m ∧ m < 2) (ht : 0 ≤ t ∧ t < 2) (nx : ∀ ρ' μ', LQ σ ρ0 μ0 ρ' μ' → qX mL_sharesHold (GX X) (fun z ρ' μ' => z = 1 ∧ LQ σ ρ0 μ0 ρ' μ') (GX X) (0, 0) 9 [some (qP 0), some (qI t), some (qI (m + 1)), none, none, none, none, none, none, none] [] ρ' μ') : qX mL_sharesHold (GX X) (fun z ρ' μ' => z = 1 ∧ LQ σ ρ0 μ0 ρ' μ') (GX X) (0, 0) 9 [some (qP 0), some (qI t), some (qI m), none, none, none, none, none, none, none] [] ρ μ := by
  have hv := C.1.pv P
  obtain ⟨d0, d1, l0, l1, eT, eD, hs, hc2⟩ := shr_all P hv ht hm
  have s0 := hc2 0 (by decide)
  have s1 := hc2 1 (by decide)
  refine w_L_sharesHold_9 ?_
  refine ⟨fun hc1 => ?_, fun hc1 => ?_⟩
  · omega
  · refine ⟨_, C.c (fun L => g_demand L P (by omega) (by omega) (by omega)), ?_⟩
    rintro z1 ρ2 μ3 ⟨hq4_1, C⟩
    obtain rfl := hq4_1.symm
    refine ⟨_, C.c (fun L => g_demand L P (by omega) (by omega) (by omega)), ?_⟩
    rintro z5 ρ6 μ7 ⟨hq5_1, C⟩
    obtain rfl := hq5_1.symm
    refine ⟨(by unfold i32; omega), ?_⟩
    refine ⟨_, C.c (fun L => g_delivered L P (by omega) (by omega) (by omega)), ?_⟩
    rintro z9 ρ10 μ11 ⟨hq7_1, C⟩
    obtain rfl := hq7_1.symm
    refine ⟨_, C.c (fun L => g_delivered L P (by omega) (by omega) (by omega)), ?_⟩
    rintro z13 ρ14 μ15 ⟨hq8_1, C⟩
    obtain rfl := hq8_1.symm
    refine ⟨(by unfold i32; omega), ?_⟩
    refine ⟨_, C.c (fun L => g_share L P (by omega) (by omega) (by omega)), ?_⟩
    rintro z17 ρ18 μ19 ⟨hq10_1, C⟩
    obtain rfl := hq10_1.symm
    refine ⟨_, C.c (fun L => g_share L P (by omega) (by omega) (by omega)), ?_⟩
    rintro z21 ρ22 μ23 ⟨hq11_1, C⟩
    obtain rfl := hq11_1.symm
    refine ⟨(by unfold i32; omega), ?_⟩
    refine ⟨fun hc13 => ?_, fun hc13 => ?_⟩
    · refine h_sha1 P C hm ht (by decide) (fun ρ' μ' C => ?_)
      refine h_sha1 P C hm ht (by decide) (fun ρ' μ' C => ?_)
      exact h_sha2 P C hm ht nx
    · omega
theorem h_sha4 (P : LPl W σ) (C : LQ σ ρ0 μ0 ρ μ) (ht : 0 ≤ t ∧ t < 2) (nx : ∀ ρ' μ', LQ σ ρ0 μ0 ρ' μ' → qX mL_sharesHold (GX X) (fun z ρ' μ' => z = 1 ∧ LQ σ ρ0 μ0 ρ' μ') (GX X) (0, 0) 2 [some (qP 0), some (qI (t + 1)), none, none, none, none, none, none, none, none] [] ρ' μ') : qX mL_sharesHold (GX X) (fun z ρ' μ' => z = 1 ∧ LQ σ ρ0 μ0 ρ' μ') (GX X) (0, 0) 2 [some (qP 0), some (qI t), none, none, none, none, none, none, none, none] [] ρ μ := by
  refine w_L_sharesHold_2 ?_
  refine ⟨fun hc1 => ?_, fun hc1 => ?_⟩
  · omega
  · refine h_sha3 P C (by decide) ht (fun ρ' μ' C => ?_)
    refine h_sha3 P C (by decide) ht (fun ρ' μ' C => ?_)
    refine w_L_sharesHold_9 ?_
    refine ⟨fun _ => ?_, fun hc => absurd hc (by decide)⟩
    exact ⟨by unfold i32; omega, nx _ _ C⟩
theorem h_sharesHold (P : LPl W σ) (C : LQ σ ρ0 μ0 ρ μ) : qE mL_sharesHold (GX X) (GX X) [qP 0] ρ μ (fun z ρ' μ' => z = 1 ∧ LQ σ ρ0 μ0 ρ' μ') := by
  refine e_L_sharesHold ?_
  refine h_sha4 P C (by decide) (fun ρ' μ' C => ?_)
  refine h_sha4 P C (by decide) (fun ρ' μ' C => ?_)
  refine w_L_sharesHold_2 ?_
  refine ⟨fun hc1 => ?_, fun hc1 => ?_⟩
  · exact ⟨rfl, C⟩
  · omega
end SHA
