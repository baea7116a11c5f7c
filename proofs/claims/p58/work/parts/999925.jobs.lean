/-! ===== the law's questions: jobs ===== -/
theorem go_job {p : Pl} {J : Mem} (hv : PV p) {j : Int} (j0 : 0 ≤ j) (j1 : j < p 87) : ROk p (sGo p (-1) (-1) J) j ∧ PrevT p (sGo p (-1) (-1) J) (p (88 + 5 * j + 0)) j (sGo p (-1) (-1) J 195 j) ∧ sGo p (-1) (-1) J 196 j ≤ p (88 + 5 * j + 4) ∧ 0 ≤ sGo p (-1) (-1) J 199 j ∧ sGo p (-1) (-1) J 199 j ≤ 99 ∧ 0 ≤ sGo p (-1) (-1) J 196 j ∧ sGo p (-1) (-1) J 196 j ≤ 99 := by
  have n := hv.n
  have b := hv.j j0 j1
  obtain ⟨a, a7⟩ := go_all (J := J) hv
  have c := a7 (p (88 + 5 * j + 0)) b.1 (by omega)
  refine ⟨a.2.2.2.1 j j0 j1 (by rw [c]; exact j1), a.2.2.2.2.2.2 j j0 j1 (Or.inl (by rw [c]; exact j1)), QL_go hv j j0 j1, ?_⟩
  exact a.1.2.2.2 j j0 (by omega)
def lfS (S : Mem) : Int → Int := fun j => S 196 j - S 199 j
/-- the law's row: when the last job of each trolley was finished -/
def EOK (σ : Sg) (E : Int → Int) (j : Int) : Prop := ∀ i, 0 ≤ i → i < 3 → PrevT (σ 2) (GS σ) i j (E i)
theorem EOK.s {σ : Sg} {E : Int → Int} {j : Int} (h : EOK σ E j) (hj : 0 ≤ j) : EOK σ (u1 E (σ 2 (88 + 5 * j + 0)) (GS σ 200 j)) (j + 1) := fun i i0 i1 => by
  by_cases c : i = σ 2 (88 + 5 * j + 0)
  · rw [c, u1_s]
    exact PrevT_s hj rfl
  · rw [u1_n c]
    exact PrevT_n hj (h i i0 i1) (fun z => c z.symm)
theorem lft_3 {p : Pl} {S : Mem} (hv : PV p) (h61 : p 61 = 3) : s_I (lft p S 0) (p 87) + s_I (lft p S 1) (p 87) + s_I (lft p S 2) (p 87) = s_I (lfS S) (p 87) := by
  have n := hv.n
  rw [Int.add_assoc, ← s_Id (by omega), ← s_Id (by omega)]
  refine s_Ic (by omega) (fun j j0 j1 => ?_)
  have a := hv.j j0 j1
  unfold lft lfS
  obtain t | t | t : p (88 + 5 * j + 0) = 0 ∨ p (88 + 5 * j + 0) = 1 ∨ p (88 + 5 * j + 0) = 2 := by omega
  · rw [t]; simp
  · rw [t]; simp
  · rw [t]; simp
section JOB
variable {ρ ρ0 : Rf} {μ μ0 : Mem} {σ : Sg} {X : List Sh} {W : Int → Int} {x : Nat} {E : Int → Int} {j : Int}
theorem h_job3 (P : LPl W σ) (hx : (GX X).2[x]? = some (10, 3)) (h178 : 178 ≤ x) (C : LQX σ x E ρ0 μ0 ρ μ) (hj : 0 ≤ j ∧ j < σ 2 87) (hE : EOK σ E j) (nx : ∀ ρ' μ' E', LQX σ x E' ρ0 μ0 ρ' μ' → EOK σ E' (j + 1) → qX mL_jobsHold (GX X) (fun z ρ' μ' => z = 1 ∧ ∃ E, LQX σ x E ρ0 μ0 ρ' μ') (GX X) (1, 3) 11 [some (qP 0), some (qP x), some (qI (s_I (GS σ 199) (j + 1))), some (qI (s_I (lfS (GS σ)) (j + 1))), some (qI (j + 1)), none] [] ρ' μ') : qX mL_jobsHold (GX X) (fun z ρ' μ' => z = 1 ∧ ∃ E, LQX σ x E ρ0 μ0 ρ' μ') (GX X) (1, 3) 163 [some (qP 0), some (qP x), some (qI (s_I (GS σ 199) j)), some (qI (s_I (lfS (GS σ)) j)), some (qI j), some (qI (σ 2 (88 + 5 * j + 0)))] [] ρ μ := by
  have hv := C.1.pv P
  have n := hv.n
  have p61 := P.2.2.2.2.2.2.1
  have tr := hv.j hj.1 hj.2
  have g := go_job (J := Z0) hv hj.1 hj.2
  have s1 := s_Ib (f := GS σ 199) (n := j) (b := 99) hj.1 (fun k k0 k1 => by have := go_job (J := Z0) hv k0 (by omega : k < σ 2 87); exact ⟨this.2.2.2.1, this.2.2.2.2.1⟩)
  have s2 := s_Ib (f := lfS (GS σ)) (n := j) (b := 99) hj.1 (fun k k0 k1 => by have := go_job (J := Z0) hv k0 (by omega : k < σ 2 87); show 0 ≤ GS σ 196 k - GS σ 199 k ∧ GS σ 196 k - GS σ 199 k ≤ 99; unfold GS; have r := this.1.2.2.2.2.1; omega)
  have b1 : 0 ≤ GS σ 199 j ∧ GS σ 199 j ≤ 99 := ⟨g.2.2.2.1, g.2.2.2.2.1⟩
  have b2 : 0 ≤ GS σ 196 j ∧ GS σ 196 j ≤ 99 := g.2.2.2.2.2
  refine w_L_jobsHold_163 hx ?_
  refine ⟨_, C.c h178 (fun L => g_finishTime L P (by omega)), ?_⟩
  rintro z1 ρ2 μ3 ⟨hq1_1, C⟩
  obtain rfl := hq1_1.symm
  refine ⟨(by omega), ?_⟩
  intro μ5 eμ5
  subst eμ5
  replace C := C.up (k := σ 2 (88 + 5 * j + 0)) (v := GS σ 200 j) h178
  refine ⟨_, C.c h178 (fun L => g_unloaded L P (by omega)), ?_⟩
  rintro z6 ρ7 μ8 ⟨hq4_1, C⟩
  obtain rfl := hq4_1.symm
  refine ⟨(by unfold i32; omega), ?_⟩
  refine ⟨_, C.c h178 (fun L => g_loaded L P (by omega)), ?_⟩
  rintro z10 ρ11 μ12 ⟨hq6_1, C⟩
  obtain rfl := hq6_1.symm
  refine ⟨_, C.c h178 (fun L => g_unloaded L P (by omega)), ?_⟩
  rintro z14 ρ15 μ16 ⟨hq7_1, C⟩
  obtain rfl := hq7_1.symm
  refine ⟨(by unfold i32; omega), ?_⟩
  refine ⟨(by unfold i32; omega), ?_⟩
  refine ⟨(by unfold i32; omega), ?_⟩
  have e1 := s_Is (f := GS σ 199) hj.1
  have e2 : s_I (lfS (GS σ)) (j + 1) = s_I (lfS (GS σ)) j + (GS σ 196 j - GS σ 199 j) := s_Is hj.1
  rw [← e1, ← e2]
  exact nx _ _ _ C (hE.s hj.1)
theorem h_job2 (P : LPl W σ) (hx : (GX X).2[x]? = some (10, 3)) (h178 : 178 ≤ x) (C : LQX σ x E ρ0 μ0 ρ μ) (hj : 0 ≤ j ∧ j < σ 2 87) (hE : EOK σ E j) (nx : ∀ ρ' μ' E', LQX σ x E' ρ0 μ0 ρ' μ' → EOK σ E' (j + 1) → qX mL_jobsHold (GX X) (fun z ρ' μ' => z = 1 ∧ ∃ E, LQX σ x E ρ0 μ0 ρ' μ') (GX X) (1, 3) 11 [some (qP 0), some (qP x), some (qI (s_I (GS σ 199) (j + 1))), some (qI (s_I (lfS (GS σ)) (j + 1))), some (qI (j + 1)), none] [] ρ' μ') : qX mL_jobsHold (GX X) (fun z ρ' μ' => z = 1 ∧ ∃ E, LQX σ x E ρ0 μ0 ρ' μ') (GX X) (1, 3) 108 [some (qP 0), some (qP x), some (qI (s_I (GS σ 199) j)), some (qI (s_I (lfS (GS σ)) j)), some (qI j), some (qI (σ 2 (88 + 5 * j + 0)))] [] ρ μ := by
  have hv := C.1.pv P
  have n := hv.n
  have p61 := P.2.2.2.2.2.2.1
  have tr := hv.j hj.1 hj.2
  have tp := hv.i tr.1 tr.2.1
  obtain ⟨r, g⟩ := go_job (J := Z0) hv hj.1 hj.2
  have b1 : 0 ≤ GS σ 199 j ∧ GS σ 199 j ≤ 99 := ⟨g.2.2.1, g.2.2.2.1⟩
  have b2 : 0 ≤ GS σ 196 j ∧ GS σ 196 j ≤ 99 := g.2.2.2.2
  have r : ROk (σ 2) (GS σ) j := r
  obtain ⟨r1, r2, r3, r4, r5, r6, r7⟩ := r
  have k1 : GS σ 196 j ≤ GS σ 196 j * σ 2 (62 + 5 * σ 2 (88 + 5 * j + 0) + 3) := by
    have := Int.mul_le_mul_of_nonneg_left (show 1 ≤ σ 2 (62 + 5 * σ 2 (88 + 5 * j + 0) + 3) by omega) b2.1
    omega
  have k2 : GS σ 199 j ≤ GS σ 199 j * σ 2 (62 + 5 * σ 2 (88 + 5 * j + 0) + 4) := by
    have := Int.mul_le_mul_of_nonneg_left (show 1 ≤ σ 2 (62 + 5 * σ 2 (88 + 5 * j + 0) + 4) by omega) b1.1
    omega
  have r8 : GS σ 199 j ≠ 0 → GS σ 195 j + GS σ 196 j ≤ GS σ 198 j ∧ GS σ 198 j + GS σ 199 j ≤ GS σ 200 j := fun h => by
    have q := r7 (by omega)
    have q2 := q.2.2 h
    omega
  refine w_L_jobsHold_108 hx ?_
  refine ⟨_, C.c h178 (fun L => g_unloaded L P (by omega)), ?_⟩
  rintro z1 ρ2 μ3 ⟨hq1_1, C⟩
  obtain rfl := hq1_1.symm
  refine ⟨fun hc2 => ?_, fun hc2 => ?_⟩
  · exact h_job3 P hx h178 C hj hE nx
  · refine ⟨_, C.c h178 (fun L => g_unloadTime L P (by omega) (by omega)), ?_⟩
    rintro z5 ρ6 μ7 ⟨hq4_1, C⟩
    obtain rfl := hq4_1.symm
    refine ⟨_, C.c h178 (fun L => g_startTime L P (by omega)), ?_⟩
    rintro z9 ρ10 μ11 ⟨hq5_1, C⟩
    obtain rfl := hq5_1.symm
    refine ⟨_, C.c h178 (fun L => g_loaded L P (by omega)), ?_⟩
    rintro z13 ρ14 μ15 ⟨hq6_1, C⟩
    obtain rfl := hq6_1.symm
    refine ⟨(by unfold i32; have := r8 (by omega); omega), ?_⟩
    refine ⟨fun hc8 => ?_, fun hc8 => ?_⟩
    · have := r8 (by omega); omega
    · refine ⟨_, C.c h178 (fun L => g_finishTime L P (by omega)), ?_⟩
      rintro z17 ρ18 μ19 ⟨hq10_1, C⟩
      obtain rfl := hq10_1.symm
      refine ⟨_, C.c h178 (fun L => g_unloadTime L P (by omega) (by omega)), ?_⟩
      rintro z21 ρ22 μ23 ⟨hq11_1, C⟩
      obtain rfl := hq11_1.symm
      refine ⟨_, C.c h178 (fun L => g_unloaded L P (by omega)), ?_⟩
      rintro z25 ρ26 μ27 ⟨hq12_1, C⟩
      obtain rfl := hq12_1.symm
      refine ⟨(by unfold i32; have := r8 (by omega); omega), ?_⟩
      refine ⟨fun hc14 => ?_, fun hc14 => ?_⟩
      · exact h_job3 P hx h178 C hj hE nx
      · have := r8 (by omega); omega
theorem h_job1 (P : LPl W σ) (hx : (GX X).2[x]? = some (10, 3)) (h178 : 178 ≤ x) : ∀ (k : Nat) (j : Int) (E : Int → Int) (ρ : Rf) (μ : Mem), (σ 2 87 - j).toNat < k → 0 ≤ j ∧ j ≤ σ 2 87 → LQX σ x E ρ0 μ0 ρ μ → EOK σ E j → qX mL_jobsHold (GX X) (fun z ρ' μ' => z = 1 ∧ ∃ E, LQX σ x E ρ0 μ0 ρ' μ') (GX X) (1, 3) 11 [some (qP 0), some (qP x), some (qI (s_I (GS σ 199) j)), some (qI (s_I (lfS (GS σ)) j)), some (qI j), none] [] ρ μ := by
  intro k
  induction k with
  | zero => intro j E ρ μ hk; omega
  | succ k ih =>
    intro j E ρ μ hk hj C hE
    have hv := C.1.pv P
    have n := hv.n
    have p61 := P.2.2.2.2.2.2.1
    have e3 := lft_3 (S := GS σ) hv p61
    have lb : ∀ i, 0 ≤ s_I (lft (σ 2) (GS σ) i) (σ 2 87) ∧ s_I (lft (σ 2) (GS σ) i) (σ 2 87) ≤ σ 2 87 * 99 := fun i => s_Ib (by omega) (fun k k0 k1 => by
      have g := go_job (J := Z0) hv k0 k1
      have r := g.1.2.2.2.2.1
      show 0 ≤ (if σ 2 (88 + 5 * k + 0) = i then GS σ 196 k - GS σ 199 k else 0) ∧ (if σ 2 (88 + 5 * k + 0) = i then GS σ 196 k - GS σ 199 k else 0) ≤ 99
      unfold GS
      split <;> omega)
    have l0 := lb 0
    have l1 := lb 1
    have l2 := lb 2
    refine w_L_jobsHold_11 hx ?_
    refine ⟨_, C.c h178 (fun L => g_jobCount L P), ?_⟩
    rintro z1 ρ2 μ3 ⟨hq1_1, C⟩
    obtain rfl := hq1_1.symm
    refine ⟨fun hc2 => ?_, fun hc2 => ?_⟩
    · obtain rfl : j = σ 2 87 := by omega
      refine ⟨_, C.c h178 (fun L => g_deliveredTotal L P), ?_⟩
      rintro z5 ρ6 μ7 ⟨hq3_1, C⟩
      obtain rfl := hq3_1.symm
      refine ⟨fun hc4 => ?_, fun hc4 => ?_⟩
      · omega
      · refine ⟨_, C.c h178 (fun L => g_leftBehind L P (by omega)), ?_⟩
        rintro z9 ρ10 μ11 ⟨hq6_1, C⟩
        obtain rfl := hq6_1.symm
        refine ⟨_, C.c h178 (fun L => g_leftBehind L P (by omega)), ?_⟩
        rintro z13 ρ14 μ15 ⟨hq7_1, C⟩
        obtain rfl := hq7_1.symm
        refine ⟨(by unfold i32; omega), ?_⟩
        refine ⟨_, C.c h178 (fun L => g_leftBehind L P (by omega)), ?_⟩
        rintro z17 ρ18 μ19 ⟨hq9_1, C⟩
        obtain rfl := hq9_1.symm
        refine ⟨(by unfold i32; omega), ?_⟩
        refine ⟨fun hc11 => ?_, fun hc11 => ?_⟩
        · omega
        · exact ⟨rfl, _, C⟩
    · have tr := hv.j hj.1 (by omega : j < σ 2 87)
      obtain ⟨r, pt, ql, g⟩ := go_job (J := Z0) hv hj.1 (by omega : j < σ 2 87)
      have r : ROk (σ 2) (GS σ) j := r
      obtain ⟨r1, r2, r3, r4, r5, r6, r7⟩ := r
      have pe : E (σ 2 (88 + 5 * j + 0)) = GS σ 195 j := PrevT_u hj.1 (hE _ tr.1 (by omega)) pt
      have ql : GS σ 196 j ≤ σ 2 (88 + 5 * j + 4) := ql
      refine ⟨_, C.c h178 (fun L => g_jobTrolley L P (by omega)), ?_⟩
      rintro z21 ρ22 μ23 ⟨hq14_1, C⟩
      obtain rfl := hq14_1.symm
      refine ⟨_, C.c h178 (fun L => g_startTime L P (by omega)), ?_⟩
      rintro z25 ρ26 μ27 ⟨hq15_1, C⟩
      obtain rfl := hq15_1.symm
      refine ⟨(by omega), ?_⟩
      rw [C.2.2, pe]
      refine ⟨fun hc17 => ?_, fun hc17 => ?_⟩
      · omega
      · refine ⟨_, C.c h178 (fun L => g_finishTime L P (by omega)), ?_⟩
        rintro z29 ρ30 μ31 ⟨hq19_1, C⟩
        obtain rfl := hq19_1.symm
        refine ⟨(by omega), ?_⟩
        rw [C.2.2, pe]
        refine ⟨fun hc21 => ?_, fun hc21 => ?_⟩
        · omega
        · refine ⟨_, C.c h178 (fun L => g_loaded L P (by omega)), ?_⟩
          rintro z33 ρ34 μ35 ⟨hq23_1, C⟩
          obtain rfl := hq23_1.symm
          refine ⟨_, C.c h178 (fun L => g_jobQuantity L P (by omega)), ?_⟩
          rintro z37 ρ38 μ39 ⟨hq24_1, C⟩
          obtain rfl := hq24_1.symm
          refine ⟨fun hc25 => ?_, fun hc25 => ?_⟩
          · omega
          · refine ⟨_, C.c h178 (fun L => g_unloaded L P (by omega)), ?_⟩
            rintro z41 ρ42 μ43 ⟨hq27_1, C⟩
            obtain rfl := hq27_1.symm
            refine ⟨_, C.c h178 (fun L => g_loaded L P (by omega)), ?_⟩
            rintro z45 ρ46 μ47 ⟨hq28_1, C⟩
            obtain rfl := hq28_1.symm
            refine ⟨fun hc29 => ?_, fun hc29 => ?_⟩
            · omega
            · refine ⟨_, C.c h178 (fun L => g_loaded L P (by omega)), ?_⟩
              rintro z49 ρ50 μ51 ⟨hq31_1, C⟩
              obtain rfl := hq31_1.symm
              refine ⟨fun hc32 => ?_, fun hc32 => ?_⟩
              · exact h_job2 P hx h178 C ⟨hj.1, by omega⟩ hE (fun ρ' μ' E' C' hE' => ih _ _ _ _ (by omega) ⟨by omega, by omega⟩ C' hE')
              · refine ⟨_, C.c h178 (fun L => g_finishTime L P (by omega)), ?_⟩
                rintro z53 ρ54 μ55 ⟨hq34_1, C⟩
                obtain rfl := hq34_1.symm
                refine ⟨(by omega), ?_⟩
                rw [C.2.2, pe]
                refine ⟨fun hc36 => ?_, fun hc36 => ?_⟩
                · exact h_job2 P hx h178 C ⟨hj.1, by omega⟩ hE (fun ρ' μ' E' C' hE' => ih _ _ _ _ (by omega) ⟨by omega, by omega⟩ C' hE')
                · have := r6 (by omega); omega
end JOB
theorem h_jobsHold {ρ ρ0 : Rf} {μ μ0 : Mem} {σ : Sg} {X : List Sh} {W : Int → Int} (P : LPl W σ) (C : LQ σ ρ0 μ0 ρ μ) (hX : X10 X) (hl : X.length < 1000) : qE mL_jobsHold (GX X) (GX X) [qP 0] ρ μ (fun z ρ' μ' => z = 1 ∧ LQ σ ρ0 μ0 ρ' μ') := by
  refine qE_pre fun hM _ => ?_
  have hM4 : ∀ o, 178 + X.length ≤ o → ∀ k : Int, ρ o k = nid ∧ μ o k = 0 := fun o ho k => hM.2.2.2 o (by rw [GX_len]; exact ho) k
  refine qE_post (fun z ρ' μ' h => ?_) (qE_drop (sh := (10, 3)) (by decide) hX (fun z ρ1 μ1 (h : z = 1 ∧ ∃ E, LQX σ (178 + X.length) E ρ μ ρ1 μ1) => by obtain ⟨-, E, ⟨c, L⟩, -⟩ := h; exact L.2.2) ?_)
  · obtain ⟨ρ1, μ1, ⟨hz, E, L, O, -⟩, rfl, rfl⟩ := h
    exact ⟨hz, L.dp (by omega), C.2.trans (O.dp hM4)⟩
  · refine e_L_jobsHold ⟨hl, ?_⟩
    refine h_job1 P shXe (by omega) _ 0 (μ (178 + X.length)) ρ μ (Nat.lt_succ_self _) ⟨Int.le_refl _, by have := (C.1.pv P).n; omega⟩ ⟨C.1, OUX.refl, rfl⟩ (fun i i0 i1 => ?_)
    refine ⟨fun j j0 j1 => by omega, fun _ => (hM4 _ (Nat.le_refl _) i).2⟩
