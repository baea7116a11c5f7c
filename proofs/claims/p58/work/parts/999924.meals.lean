/-! ===== the law's questions: no meal is lost ===== -/
/-- the class is in this state, and nothing of the law's cells changed -/
def LQ (σ : Sg) (ρ0 : Rf) (μ0 : Mem) (ρ : Rf) (μ : Mem) : Prop := LEr σ ρ μ ∧ OUT ρ0 μ0 ρ μ
def LQX (σ : Sg) (x : Nat) (E : Int → Int) (ρ0 : Rf) (μ0 : Mem) (ρ : Rf) (μ : Mem) : Prop := LEr σ ρ μ ∧ OUX x ρ0 μ0 ρ μ ∧ μ x = E
theorem LEr.up {ρ : Rf} {μ : Mem} {σ : Sg} {x : Nat} {k v : Int} (h : LEr σ ρ μ) (hx : 178 ≤ x) : LEr σ ρ (up2 μ x k v) := by
  obtain ⟨c, L⟩ := h
  exact ⟨c, L.up hx⟩
theorem LEr.pv {ρ : Rf} {μ : Mem} {σ : Sg} {W : Int → Int} (h : LEr σ ρ μ) (P : LPl W σ) : PV (σ 2) := by
  obtain ⟨c, L⟩ := h
  have a := (L.2.1.pl L.1 (by rw [sE_04]; exact P.1)).1
  rwa [sE_2] at a
theorem LQ.c {M : MI} {as : List AV} {ρ ρ0 : Rf} {μ μ0 : Mem} {X : List Sh} {σ : Sg} {v : Int} (C : LQ σ ρ0 μ0 ρ μ) (h : LEr σ ρ μ → qE M (GX X) (GX X) as ρ μ (fun z ρ' μ' => z = v ∧ LEr σ ρ' μ' ∧ OUT ρ μ ρ' μ')) : qE M (GX X) (GX X) as ρ μ (fun z ρ' μ' => z = v ∧ LQ σ ρ0 μ0 ρ' μ') := qE_post (fun _ _ _ h2 => ⟨h2.1, h2.2.1, C.2.trans h2.2.2⟩) (h C.1)
theorem LQX.c {M : MI} {as : List AV} {ρ ρ0 : Rf} {μ μ0 : Mem} {X : List Sh} {σ : Sg} {x : Nat} {E : Int → Int} {v : Int} (C : LQX σ x E ρ0 μ0 ρ μ) (hx : 178 ≤ x) (h : LEr σ ρ μ → qE M (GX X) (GX X) as ρ μ (fun z ρ' μ' => z = v ∧ LEr σ ρ' μ' ∧ OUT ρ μ ρ' μ')) : qE M (GX X) (GX X) as ρ μ (fun z ρ' μ' => z = v ∧ LQX σ x E ρ0 μ0 ρ' μ') := qE_post (fun _ _ _ h2 => ⟨h2.1, h2.2.1, C.2.1.trans (h2.2.2.x x), ((h2.2.2 x hx).2).trans C.2.2⟩) (h C.1)
theorem LQX.up {ρ ρ0 : Rf} {μ μ0 : Mem} {σ : Sg} {x : Nat} {E : Int → Int} {k v : Int} (C : LQX σ x E ρ0 μ0 ρ μ) (hx : 178 ≤ x) : LQX σ x (u1 E k v) ρ0 μ0 ρ (up2 μ x k v) := ⟨C.1.up hx, C.2.1.up, by rw [up2_u, C.2.2]⟩
section MEA
variable {ρ ρ0 : Rf} {μ μ0 : Mem} {σ : Sg} {X : List Sh} {W : Int → Int}
theorem h_mea1 {m t c a b d : Int} (P : LPl W σ) (C : LQ σ ρ0 μ0 ρ μ) (hm : 0 ≤ m ∧ m < 2) (ht : 0 ≤ t ∧ t < 2) (hc : 0 ≤ c ∧ c < 2) (hb : 0 ≤ b ∧ b ≤ 100000) (ha : 0 ≤ a ∧ a ≤ 100000) (nx : ∀ ρ' μ', LQ σ ρ0 μ0 ρ' μ' → qX mL_mealsHold (GX X) (fun z ρ' μ' => z = 1 ∧ LQ σ ρ0 μ0 ρ' μ') (GX X) (0, 0) 50 [some (qP 0), some (qI (a + dlv (σ 2) (GS σ 199) t c m)), some (qI m), some (qI d), some (qI (b + dlv (σ 2) (GS σ 199) t c m)), some (qI t), some (qI (c + 1)), none] [] ρ' μ') : qX mL_mealsHold (GX X) (fun z ρ' μ' => z = 1 ∧ LQ σ ρ0 μ0 ρ' μ') (GX X) (0, 0) 50 [some (qP 0), some (qI a), some (qI m), some (qI d), some (qI b), some (qI t), some (qI c), none] [] ρ μ := by
  have hv := C.1.pv P
  have dd : 0 ≤ dlv (σ 2) (GS σ 199) t c m ∧ dlv (σ 2) (GS σ 199) t c m ≤ 1980 := dlv_b (by have := hv.n; omega) (go_ub hv)
  have p36 := P.2.2.2.2.1
  have p4 := P.t4 ht
  have de := dem_b hv ht.1 ht.2 hc.1 (by omega) hm.1 (by omega : m < σ 2 36)
  refine w_L_mealsHold_50 ?_
  refine ⟨fun hc1 => ?_, fun hc1 => ?_⟩
  · omega
  · refine ⟨_, C.c (fun L => g_delivered L P (by omega) (by omega) (by omega)), ?_⟩
    rintro z1 ρ2 μ3 ⟨hq4_1, C⟩
    obtain rfl := hq4_1.symm
    refine ⟨_, C.c (fun L => g_shortage L P (by omega) (by omega) (by omega)), ?_⟩
    rintro z5 ρ6 μ7 ⟨hq5_1, C⟩
    obtain rfl := hq5_1.symm
    refine ⟨_, C.c (fun L => g_demand L P (by omega) (by omega) (by omega)), ?_⟩
    rintro z9 ρ10 μ11 ⟨hq6_1, C⟩
    obtain rfl := hq6_1.symm
    refine ⟨(by unfold i32; omega), ?_⟩
    refine ⟨fun hc8 => ?_, fun hc8 => ?_⟩
    · refine ⟨(by unfold i32; omega), ?_⟩
      refine ⟨(by unfold i32; omega), ?_⟩
      refine ⟨(by unfold i32; omega), ?_⟩
      exact nx _ _ C
    · omega
theorem h_mea2 {m t a b d : Int} (P : LPl W σ) (C : LQ σ ρ0 μ0 ρ μ) (hm : 0 ≤ m ∧ m < 2) (ht : 0 ≤ t ∧ t < 2) (hb : 0 ≤ b ∧ b ≤ 50000) (ha : 0 ≤ a ∧ a ≤ 50000) (nx : ∀ ρ' μ', LQ σ ρ0 μ0 ρ' μ' → qX mL_mealsHold (GX X) (fun z ρ' μ' => z = 1 ∧ LQ σ ρ0 μ0 ρ' μ') (GX X) (0, 0) 41 [some (qP 0), some (qI (a + dlv (σ 2) (GS σ 199) t 0 m + dlv (σ 2) (GS σ 199) t 1 m)), some (qI m), some (qI d), some (qI (b + dlv (σ 2) (GS σ 199) t 0 m + dlv (σ 2) (GS σ 199) t 1 m)), some (qI (t + 1)), none, none] [] ρ' μ') : qX mL_mealsHold (GX X) (fun z ρ' μ' => z = 1 ∧ LQ σ ρ0 μ0 ρ' μ') (GX X) (0, 0) 41 [some (qP 0), some (qI a), some (qI m), some (qI d), some (qI b), some (qI t), none, none] [] ρ μ := by
  have hv := C.1.pv P
  have d0 : 0 ≤ dlv (σ 2) (GS σ 199) t 0 m ∧ dlv (σ 2) (GS σ 199) t 0 m ≤ 1980 := dlv_b (by have := hv.n; omega) (go_ub hv)
  have d1 : 0 ≤ dlv (σ 2) (GS σ 199) t 1 m ∧ dlv (σ 2) (GS σ 199) t 1 m ≤ 1980 := dlv_b (by have := hv.n; omega) (go_ub hv)
  refine w_L_mealsHold_41 ?_
  refine ⟨fun hc1 => ?_, fun hc1 => ?_⟩
  · omega
  · refine h_mea1 P C hm ht (by decide) (by omega) (by omega) (fun ρ' μ' C => ?_)
    refine h_mea1 P C hm ht (by decide) (by omega) (by omega) (fun ρ' μ' C => ?_)
    refine w_L_mealsHold_50 ?_
    refine ⟨fun hc1 => ?_, fun hc1 => absurd hc1 (by omega)⟩
    refine ⟨by unfold i32; omega, ?_⟩
    exact nx _ _ C
theorem h_mea3 {m a : Int} (P : LPl W σ) (C : LQ σ ρ0 μ0 ρ μ) (hm : 0 ≤ m ∧ m < 2) (ha : 0 ≤ a ∧ a ≤ 20000) (nx : ∀ ρ' μ', LQ σ ρ0 μ0 ρ' μ' → qX mL_mealsHold (GX X) (fun z ρ' μ' => z = 1 ∧ LQ σ ρ0 μ0 ρ' μ') (GX X) (0, 0) 4 [some (qP 0), some (qI (a + dlv (σ 2) (GS σ 199) 0 0 m + dlv (σ 2) (GS σ 199) 0 1 m + dlv (σ 2) (GS σ 199) 1 0 m + dlv (σ 2) (GS σ 199) 1 1 m)), some (qI (m + 1)), none, none, none, none, none] [] ρ' μ') : qX mL_mealsHold (GX X) (fun z ρ' μ' => z = 1 ∧ LQ σ ρ0 μ0 ρ' μ') (GX X) (0, 0) 4 [some (qP 0), some (qI a), some (qI m), none, none, none, none, none] [] ρ μ := by
  have hv := C.1.pv P
  have dd : ∀ t c, 0 ≤ dlv (σ 2) (GS σ 199) t c m ∧ dlv (σ 2) (GS σ 199) t c m ≤ 1980 := fun t c => dlv_b (by have := hv.n; omega) (go_ub hv)
  have d00 := dd 0 0
  have d01 := dd 0 1
  have d10 := dd 1 0
  have d11 := dd 1 1
  have e1 : (4 * 0 + m : Int) = m := by omega
  have e2 : (4 * 1 + m : Int) = 4 + m := by omega
  have e3 : (49 + 4 * 0 + m : Int) = 49 + m := by omega
  have e4 : (49 + 4 * 1 + m : Int) = 49 + (4 + m) := by omega
  have H : GS σ 193 (4 * 0 + m) + GS σ 193 (4 * 1 + m) + (dlv (σ 2) (GS σ 199) 0 0 m + dlv (σ 2) (GS σ 199) 0 1 m + (dlv (σ 2) (GS σ 199) 1 0 m + dlv (σ 2) (GS σ 199) 1 1 m)) = σ 2 (49 + 4 * 0 + m) + σ 2 (49 + 4 * 1 + m) := by
    rw [e1, e2, e3, e4]
    exact meals_hold hv P.2.2.1 P.2.2.2.1 P.2.2.2.2.1 P.2.2.2.2.2.1 hm
  have s0 := hv.s (k := 4 * 0 + m) (by omega) (by omega)
  have s1 := hv.s (k := 4 * 1 + m) (by omega) (by omega)
  rw [show (49 + (4 * 0 + m) : Int) = 49 + 4 * 0 + m by omega] at s0
  rw [show (49 + (4 * 1 + m) : Int) = 49 + 4 * 1 + m by omega] at s1
  have f0 : 0 ≤ GS σ 193 (4 * 0 + m) := ((go_all (J := Z0) hv).1.1.2.1 _ (by omega) (by omega)).1
  have f1 : 0 ≤ GS σ 193 (4 * 1 + m) := ((go_all (J := Z0) hv).1.1.2.1 _ (by omega) (by omega)).1
  refine w_L_mealsHold_4 ?_
  refine ⟨fun hc => absurd hc (by omega), fun hc => ?_⟩
  refine ⟨_, C.c (fun L => g_stock L P (by omega) (by omega)), ?_⟩
  rintro z1 ρ1 μ1 ⟨h1, C⟩
  obtain rfl := h1.symm
  refine ⟨_, C.c (fun L => g_stock L P (by omega) (by omega)), ?_⟩
  rintro z1 ρ2 μ2 ⟨h2, C⟩
  obtain rfl := h2.symm
  refine ⟨by unfold i32; omega, ?_⟩
  refine ⟨_, C.c (fun L => g_finalStock L P (by omega) (by omega)), ?_⟩
  rintro z1 ρ3 μ3 ⟨h3, C⟩
  obtain rfl := h3.symm
  refine ⟨_, C.c (fun L => g_finalStock L P (by omega) (by omega)), ?_⟩
  rintro z1 ρ4 μ4 ⟨h4, C⟩
  obtain rfl := h4.symm
  refine ⟨by unfold i32; omega, ?_⟩
  refine h_mea2 P C hm (by decide) (by omega) (by omega) (fun ρ' μ' C => ?_)
  rw [show (0 + 1 : Int) = 1 from rfl]
  refine h_mea2 P C hm (by decide) (by omega) (by omega) (fun ρ' μ' C => ?_)
  refine w_L_mealsHold_41 ?_
  refine ⟨fun hc1 => ?_, fun hc1 => absurd hc1 (by omega)⟩
  refine ⟨fun hc2 => ?_, fun hc2 => absurd hc2 (by omega)⟩
  refine ⟨by unfold i32; omega, ?_⟩
  exact nx _ _ C
theorem h_mealsHold {ρ : Rf} {μ : Mem} (P : LPl W σ) (C : LQ σ ρ0 μ0 ρ μ) : qE mL_mealsHold (GX X) (GX X) [qP 0] ρ μ (fun z ρ' μ' => z = 1 ∧ LQ σ ρ0 μ0 ρ' μ') := by
  have hv := C.1.pv P
  have dd : ∀ t c m, 0 ≤ dlv (σ 2) (GS σ 199) t c m ∧ dlv (σ 2) (GS σ 199) t c m ≤ 1980 := fun t c m => dlv_b (by have := hv.n; omega) (go_ub hv)
  have d00 := dd 0 0 0
  have d01 := dd 0 1 0
  have d10 := dd 1 0 0
  have d11 := dd 1 1 0
  have H := meals_all (u := GS σ 199) hv P.2.2.1 P.2.2.2.1 P.2.2.2.2.1
  refine e_L_mealsHold ?_
  refine h_mea3 P C (by decide) (by decide) (fun ρ' μ' C => ?_)
  rw [show (0 + 1 : Int) = 1 from rfl]
  refine h_mea3 P C (by decide) (by omega) (fun ρ' μ' C => ?_)
  refine w_L_mealsHold_4 ?_
  refine ⟨fun hc1 => ?_, fun hc1 => ?_⟩
  · refine ⟨_, C.c (fun L => g_deliveredTotal L P), ?_⟩
    rintro z1 ρ2 μ3 ⟨hq2_1, C⟩
    obtain rfl := hq2_1.symm
    refine ⟨fun hc3 => ?_, fun hc3 => ?_⟩
    · omega
    · exact ⟨rfl, C⟩
  · omega
end MEA
