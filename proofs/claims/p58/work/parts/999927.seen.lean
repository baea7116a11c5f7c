/-! ===== the law's row of what changes touch ===== -/
def SN (p : Pl) (k : Int) : Int :=
  if k < 1 then p 87 else if k < 3 then p (2 + (k - 1)) else if k < 7 then p (49 + 4 * ((k - 3) / 2) + (k - 3) % 2) else if k < 10 then sm p (k - 7) (bst p (k - 7))
  else if (k - 10) % 4 = 0 then p (88 + 5 * ((k - 10) / 4) + 0) else if (k - 10) % 4 = 1 then p (88 + 5 * ((k - 10) / 4) + 4) else if (k - 10) % 4 = 2 then sGo p (-1) (-1) Z0 199 ((k - 10) / 4) else sGo p (-1) (-1) Z0 200 ((k - 10) / 4)
def pcut (p : Pl) (n : Int) : Int → Int := fun k => if 0 ≤ k ∧ k < n then SN p k else 0
theorem pcut_s {p : Pl} {n v : Int} (hn : 0 ≤ n) (hv : v = SN p n) : u1 (pcut p n) n v = pcut p (n + 1) := by
  funext k
  by_cases c : k = n
  · rw [c, u1_s]
    unfold pcut
    rw [if_pos (by omega)]
    exact hv
  · rw [u1_n c]
    unfold pcut
    by_cases d : 0 ≤ k ∧ k < n
    · rw [if_pos d, if_pos (by omega)]
    · rw [if_neg d, if_neg (by omega)]
theorem SN_0 {p : Pl} : SN p 0 = p 87 := rfl
theorem SN_1 {p : Pl} {t : Int} (h : 0 ≤ t ∧ t < 2) : SN p (1 + t) = p (2 + t) := by
  unfold SN
  rw [if_neg (by omega), if_pos (by omega), show 2 + (1 + t - 1) = 2 + t by omega]
theorem SN_3 {p : Pl} {k : Int} (h : 0 ≤ k ∧ k < 4) : SN p (3 + k) = p (49 + 4 * (k / 2) + k % 2) := by
  unfold SN
  rw [if_neg (by omega), if_neg (by omega), if_pos (by omega), show 3 + k - 3 = k by omega]
theorem SN_7 {p : Pl} {i : Int} (h : 0 ≤ i ∧ i < 3) : SN p (7 + i) = sm p i (bst p i) := by
  unfold SN
  rw [if_neg (by omega), if_neg (by omega), if_neg (by omega), if_pos (by omega), show 7 + i - 7 = i by omega]
theorem SN_j {p : Pl} {j : Int} (h : 0 ≤ j) : SN p (10 + 4 * j) = p (88 + 5 * j + 0) ∧ SN p (10 + 4 * j + 1) = p (88 + 5 * j + 4) ∧ SN p (10 + 4 * j + 1 + 1) = sGo p (-1) (-1) Z0 199 j ∧ SN p (10 + 4 * j + 1 + 1 + 1) = sGo p (-1) (-1) Z0 200 j := by
  refine ⟨?_, ?_, ?_, ?_⟩
  · unfold SN
    rw [if_neg (by omega), if_neg (by omega), if_neg (by omega), if_neg (by omega), if_pos (by omega), show (10 + 4 * j - 10) / 4 = j by omega]
  · unfold SN
    rw [if_neg (by omega), if_neg (by omega), if_neg (by omega), if_neg (by omega), if_neg (by omega), if_pos (by omega), show (10 + 4 * j + 1 - 10) / 4 = j by omega]
  · unfold SN
    rw [if_neg (by omega), if_neg (by omega), if_neg (by omega), if_neg (by omega), if_neg (by omega), if_neg (by omega), if_pos (by omega), show (10 + 4 * j + 1 + 1 - 10) / 4 = j by omega]
  · unfold SN
    rw [if_neg (by omega), if_neg (by omega), if_neg (by omega), if_neg (by omega), if_neg (by omega), if_neg (by omega), if_neg (by omega), show (10 + 4 * j + 1 + 1 + 1 - 10) / 4 = j by omega]
theorem LQX.put {ρ ρ0 : Rf} {μ μ0 : Mem} {σ : Sg} {x : Nat} {n v : Int} (C : LQX σ x (pcut (σ 2) n) ρ0 μ0 ρ μ) (hx : 178 ≤ x) (hn : 0 ≤ n) (hv : v = SN (σ 2) n) : LQX σ x (pcut (σ 2) (n + 1)) ρ0 μ0 ρ (up2 μ x n v) := by
  have a := C.up (k := n) (v := v) hx
  rw [pcut_s hn hv] at a
  exact a
section SEE
variable {ρ ρ0 : Rf} {μ μ0 : Mem} {σ : Sg} {X : List Sh} {W : Int → Int} {x : Nat} {j : Int}
theorem h_see4 (P : LPl W σ) (hx : (GX X).2[x]? = some (10, 120)) (h178 : 178 ≤ x) : ∀ (k : Nat) (j : Int) (ρ : Rf) (μ : Mem), (σ 2 87 - j).toNat < k → 0 ≤ j ∧ j ≤ σ 2 87 → LQX σ x (pcut (σ 2) (10 + 4 * j)) ρ0 μ0 ρ μ → qX mL_seen (GX X) (fun z ρ' μ' => z = ((x : Nat) : Int) ∧ LQX σ x (pcut (σ 2) (10 + 4 * σ 2 87)) ρ0 μ0 ρ' μ') (GX X) (1, 120) 96 [some (qP 0), some (qP x), some (qI (10 + 4 * j)), some (qI j)] [] ρ μ := by
  intro k
  induction k with
  | zero => intro j ρ μ hk; omega
  | succ k ih =>
    intro j ρ μ hk hj C
    have hv := C.1.pv P
    have n := hv.n
    have sn := SN_j (p := σ 2) hj.1
    refine w_L_seen_96 hx ?_
    refine ⟨_, C.c h178 (fun L => g_jobCount L P), ?_⟩
    rintro z1 ρ2 μ3 ⟨hq1_1, C⟩
    obtain rfl := hq1_1.symm
    refine ⟨fun hc2 => ?_, fun hc2 => ?_⟩
    · obtain rfl : j = σ 2 87 := by omega
      exact ⟨rfl, C⟩
    · refine ⟨(by unfold i32; omega), ?_⟩
      refine ⟨_, C.c h178 (fun L => g_jobTrolley L P (by omega)), ?_⟩
      rintro z5 ρ6 μ7 ⟨hq5_1, C⟩
      obtain rfl := hq5_1.symm
      refine ⟨(by omega), ?_⟩
      intro μ9 eμ9
      subst eμ9
      replace C := C.put h178 (by omega) sn.1.symm
      refine ⟨(by unfold i32; omega), ?_⟩
      refine ⟨_, C.c h178 (fun L => g_jobQuantity L P (by omega)), ?_⟩
      rintro z10 ρ11 μ12 ⟨hq9_1, C⟩
      obtain rfl := hq9_1.symm
      refine ⟨(by omega), ?_⟩
      intro μ14 eμ14
      subst eμ14
      replace C := C.put h178 (by omega) sn.2.1.symm
      refine ⟨(by unfold i32; omega), ?_⟩
      refine ⟨_, C.c h178 (fun L => g_unloaded L P (by omega)), ?_⟩
      rintro z15 ρ16 μ17 ⟨hq13_1, C⟩
      obtain rfl := hq13_1.symm
      refine ⟨(by omega), ?_⟩
      intro μ19 eμ19
      subst eμ19
      replace C := C.put h178 (by omega) sn.2.2.1.symm
      refine ⟨(by unfold i32; omega), ?_⟩
      refine ⟨_, C.c h178 (fun L => g_finishTime L P (by omega)), ?_⟩
      rintro z20 ρ21 μ22 ⟨hq17_1, C⟩
      obtain rfl := hq17_1.symm
      refine ⟨(by omega), ?_⟩
      intro μ24 eμ24
      subst eμ24
      replace C := C.put h178 (by omega) sn.2.2.2.symm
      refine ⟨(by unfold i32; omega), ?_⟩
      rw [show 10 + 4 * j + 1 + 1 + 1 + 1 = 10 + 4 * (j + 1) by omega] at C ⊢
      exact ih (j + 1) _ _ (by omega) ⟨by omega, by omega⟩ C
theorem h_see3 {i : Int} (P : LPl W σ) (hx : (GX X).2[x]? = some (10, 120)) (h178 : 178 ≤ x) (hi : 0 ≤ i ∧ i < 3) (C : LQX σ x (pcut (σ 2) (7 + i)) ρ0 μ0 ρ μ) (nx : ∀ ρ' μ', LQX σ x (pcut (σ 2) (7 + (i + 1))) ρ0 μ0 ρ' μ' → qX mL_seen (GX X) (fun z ρ' μ' => z = ((x : Nat) : Int) ∧ LQX σ x (pcut (σ 2) (10 + 4 * σ 2 87)) ρ0 μ0 ρ' μ') (GX X) (1, 120) 72 [some (qP 0), some (qP x), some (qI (7 + (i + 1))), some (qI (i + 1))] [] ρ' μ') : qX mL_seen (GX X) (fun z ρ' μ' => z = ((x : Nat) : Int) ∧ LQX σ x (pcut (σ 2) (10 + 4 * σ 2 87)) ρ0 μ0 ρ' μ') (GX X) (1, 120) 72 [some (qP 0), some (qP x), some (qI (7 + i)), some (qI i)] [] ρ μ := by
  refine w_L_seen_72 hx ?_
  refine ⟨fun hc1 => ?_, fun hc1 => ?_⟩
  · omega
  · refine ⟨(by unfold i32; omega), ?_⟩
    refine ⟨_, C.c h178 (fun L => g_bestMeals L P (by omega)), ?_⟩
    rintro z1 ρ2 μ3 ⟨hq4_1, C⟩
    obtain rfl := hq4_1.symm
    refine ⟨(by omega), ?_⟩
    intro μ5 eμ5
    subst eμ5
    replace C := C.put h178 (by omega) (SN_7 hi).symm
    refine ⟨(by unfold i32; omega), ?_⟩
    rw [show 7 + i + 1 = 7 + (i + 1) by omega] at C ⊢
    exact nx _ _ C
theorem h_see2 {i : Int} (P : LPl W σ) (hx : (GX X).2[x]? = some (10, 120)) (h178 : 178 ≤ x) (hi : 0 ≤ i ∧ i < 4) (C : LQX σ x (pcut (σ 2) (3 + i)) ρ0 μ0 ρ μ) (nx : ∀ ρ' μ', LQX σ x (pcut (σ 2) (3 + (i + 1))) ρ0 μ0 ρ' μ' → qX mL_seen (GX X) (fun z ρ' μ' => z = ((x : Nat) : Int) ∧ LQX σ x (pcut (σ 2) (10 + 4 * σ 2 87)) ρ0 μ0 ρ' μ') (GX X) (1, 120) 43 [some (qP 0), some (qP x), some (qI (3 + (i + 1))), some (qI (i + 1))] [] ρ' μ') : qX mL_seen (GX X) (fun z ρ' μ' => z = ((x : Nat) : Int) ∧ LQX σ x (pcut (σ 2) (10 + 4 * σ 2 87)) ρ0 μ0 ρ' μ') (GX X) (1, 120) 43 [some (qP 0), some (qP x), some (qI (3 + i)), some (qI i)] [] ρ μ := by
  refine w_L_seen_43 hx ?_
  refine ⟨fun hc1 => ?_, fun hc1 => ?_⟩
  · omega
  · refine ⟨(by unfold i32; omega), ?_⟩
    refine ⟨(by omega), ?_⟩
    refine ⟨(by omega), ?_⟩
    refine ⟨_, C.c h178 (fun L => g_stock L P (by omega) (by omega)), ?_⟩
    rintro z1 ρ2 μ3 ⟨hq6_1, C⟩
    obtain rfl := hq6_1.symm
    refine ⟨(by omega), ?_⟩
    intro μ5 eμ5
    subst eμ5
    replace C := C.put h178 (by omega) (SN_3 hi).symm
    refine ⟨(by unfold i32; omega), ?_⟩
    rw [show 3 + i + 1 = 3 + (i + 1) by omega] at C ⊢
    exact nx _ _ C
theorem h_see1 {i : Int} (P : LPl W σ) (hx : (GX X).2[x]? = some (10, 120)) (h178 : 178 ≤ x) (hi : 0 ≤ i ∧ i < 2) (C : LQX σ x (pcut (σ 2) (1 + i)) ρ0 μ0 ρ μ) (nx : ∀ ρ' μ', LQX σ x (pcut (σ 2) (1 + (i + 1))) ρ0 μ0 ρ' μ' → qX mL_seen (GX X) (fun z ρ' μ' => z = ((x : Nat) : Int) ∧ LQX σ x (pcut (σ 2) (10 + 4 * σ 2 87)) ρ0 μ0 ρ' μ') (GX X) (1, 120) 19 [some (qP 0), some (qP x), some (qI (1 + (i + 1))), some (qI (i + 1))] [] ρ' μ') : qX mL_seen (GX X) (fun z ρ' μ' => z = ((x : Nat) : Int) ∧ LQX σ x (pcut (σ 2) (10 + 4 * σ 2 87)) ρ0 μ0 ρ' μ') (GX X) (1, 120) 19 [some (qP 0), some (qP x), some (qI (1 + i)), some (qI i)] [] ρ μ := by
  refine w_L_seen_19 hx ?_
  refine ⟨fun hc1 => ?_, fun hc1 => ?_⟩
  · omega
  · refine ⟨(by unfold i32; omega), ?_⟩
    refine ⟨_, C.c h178 (fun L => g_departure L P (by omega)), ?_⟩
    rintro z1 ρ2 μ3 ⟨hq4_1, C⟩
    obtain rfl := hq4_1.symm
    refine ⟨(by omega), ?_⟩
    intro μ5 eμ5
    subst eμ5
    replace C := C.put h178 (by omega) (SN_1 hi).symm
    refine ⟨(by unfold i32; omega), ?_⟩
    rw [show 1 + i + 1 = 1 + (i + 1) by omega] at C ⊢
    exact nx _ _ C
end SEE
theorem h_seen {ρ : Rf} {μ : Mem} {σ : Sg} {X : List Sh} {W : Int → Int} (P : LPl W σ) (L : LEr σ ρ μ) (hl : X.length < 1000) : qE mL_seen (GX (X ++ [(10, 120)])) (GX X) [qP 0] ρ μ (fun z ρ' μ' => z = ((178 + X.length : Nat) : Int) ∧ LQX σ (178 + X.length) (pcut (σ 2) (10 + 4 * σ 2 87)) ρ μ ρ' μ') := by
  refine qE_pre fun hM _ => ?_
  have hM4 : μ (178 + X.length) = fun _ => 0 := by
    funext k
    exact (hM.2.2.2 _ (by rw [GX_len]; exact Nat.le_refl _) k).2
  have h178 : 178 ≤ 178 + X.length := by omega
  have C : LQX σ (178 + X.length) (pcut (σ 2) 0) ρ μ ρ μ := ⟨L, OUX.refl, by
    rw [hM4]
    funext k
    unfold pcut
    rw [if_neg (by omega)]⟩
  refine e_L_seen ⟨hl, by unfold i32; omega, _, C.c h178 (fun L => g_jobCount L P), ?_⟩
  rintro z1 ρ2 μ3 ⟨hz, C⟩ μ5 e5
  subst e5
  subst hz
  replace C := C.put h178 (by decide) SN_0.symm
  rw [show (0 : Int) + 1 = 1 + 0 from rfl] at C ⊢
  refine h_see1 P shXe h178 (by decide) C (fun _ _ C => ?_)
  refine h_see1 P shXe h178 (by decide) C (fun _ _ C => ?_)
  refine w_L_seen_19 shXe ?_
  refine ⟨fun _ => ?_, fun hc => absurd hc (by decide)⟩
  rw [show (1 : Int) + (0 + 1 + 1) = 3 + 0 from rfl] at C ⊢
  refine h_see2 P shXe h178 (by decide) C (fun _ _ C => ?_)
  refine h_see2 P shXe h178 (by decide) C (fun _ _ C => ?_)
  refine h_see2 P shXe h178 (by decide) C (fun _ _ C => ?_)
  refine h_see2 P shXe h178 (by decide) C (fun _ _ C => ?_)
  refine w_L_seen_43 shXe ?_
  refine ⟨fun _ => ?_, fun hc => absurd hc (by decide)⟩
  rw [show (3 : Int) + (0 + 1 + 1 + 1 + 1) = 7 + 0 from rfl] at C ⊢
  refine h_see3 P shXe h178 (by decide) C (fun _ _ C => ?_)
  refine h_see3 P shXe h178 (by decide) C (fun _ _ C => ?_)
  refine h_see3 P shXe h178 (by decide) C (fun _ _ C => ?_)
  refine w_L_seen_72 shXe ?_
  refine ⟨fun _ => ?_, fun hc => absurd hc (by decide)⟩
  rw [show (7 : Int) + (0 + 1 + 1 + 1) = 10 + 4 * 0 from rfl] at C ⊢
  exact h_see4 P shXe h178 _ 0 _ _ (Nat.lt_succ_self _) ⟨Int.le_refl _, by have := (L.pv P).n; omega⟩ C
