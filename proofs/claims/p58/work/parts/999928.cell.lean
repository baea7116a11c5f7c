/-! ===== the law reads its script ===== -/
theorem ofN_le {L : Nat} : (Int32.ofNat L).toInt ≤ (L : Int) := by
  rw [Int32.toInt_ofNat', Int.bmod_def, show Int32.size = 4294967296 from rfl]
  split <;> omega
theorem h_cell {ρ : Rf} {μ : Mem} {X : List Sh} {k : Int} (hk : 0 ≤ k ∧ k < 100000) : qE mL_cell (GX X) (GX X) [qP sid, qI k] ρ μ (fun z ρ' μ' => i32 z ∧ ρ' = ρ ∧ μ' = μ) := by
  have hk32 : i32 k := by unfold i32; omega
  refine qE_intro pl_L_cell (Nat.le_of_ble_eq_true rfl) (Nat.le_refl _) ?_
  refine qX_iload_n 1 dL_cell_0 rfl rfl ?_
  refine qX_aload_n 0 dL_cell_1 rfl rfl (by decide) ?_
  have hA : ∀ z, i32 z → qX mL_cell (GX X) (fun z ρ' μ' => i32 z ∧ ρ' = ρ ∧ μ' = μ) (GX X) (0, 0) 9 [some (qP sid), some (qI k)] [qI z] ρ μ := fun z hz => by
    refine qX_goto 13 dL_cell_9 rfl ?_
    exact qX_ireturn rfl dL_cell_13 rfl ⟨Nat.le_refl _, Nat.le_refl _⟩ ⟨hz, rfl, rfl⟩
  have hB : qX mL_cell (GX X) (fun z ρ' μ' => i32 z ∧ ρ' = ρ ∧ μ' = μ) (GX X) (0, 0) 12 [some (qP sid), some (qI k)] [] ρ μ := by
    refine qX_iconst dL_cell_12 (i32_of rfl) ?_
    exact qX_ireturn rfl dL_cell_13 rfl ⟨Nat.le_refl _, Nat.le_refl _⟩ ⟨i32_of rfl, rfl, rfl⟩
  intro p l e s m args below meth c D cA ad A n0 φ0 Q C φ H locs ls hφ hn hM hl hkl hks hP hD hS
  have hsid : φ sid = ad.2.1 := (hφ sid (Or.inr (by decide))).trans C.2.2.2.2.2.1.2.1
  have hX : va_X ad.2.1 ad.2.2.1 ad.2.2.2 s s.heap := C.2.2.2.2.2.1.1.2.2.1
  have hbA : ¬ A ad.2.1 := C.2.2.2.2.2.1.1.2.2.2.1
  have hbl : ad.2.1 < s.heap.size := by
    obtain ⟨scr, h1, -⟩ := hX
    exact (Array.getElem?_eq_some_iff.mp h1).1
  have e1 : vlf φ (qP sid) = .ref ad.2.1 := by rw [vlf_nn (by decide), hsid]
  have l0 := qlv_at (i := 0) (v := qP sid) hl rfl
  have l1 := qlv_at (i := 1) (v := qI k) hl rfl
  rw [e1] at l0
  show W p l e _ s m args below meth c H locs 0 0 Q (F0 m 2 ls [vlf φ (qP sid), vlf φ (qI k)])
  rw [e1]
  refine va_slen C.1 C.2.1 hX hbl hbA hS dL_cell_2 ?_
  have eL : Int32.ofInt (Int32.ofNat ad.2.2.1).toInt = Int32.ofNat ad.2.2.1 := Int32.ofInt_toInt _
  rw [← eL]
  refine lv_icmp_ge C.1 C.2.1 dL_cell_3 (show ((3 : Nat) : Int) + 9 = ((12 : Nat) : Int) from rfl) (fun _ => ?_) (fun z => ?_)
  · exact hB p l e s m args below meth c D cA ad A n0 φ0 Q C φ H locs ls hφ hn hM hl hkl okS_0 hP hD hS
  · have z2 : k < (Int32.ofNat ad.2.2.1).toInt := Int.not_le.mp (fun y => z ((q_le (i32_toInt _) hk32).mpr y))
    have z3 := ofN_le (L := ad.2.2.1)
    refine lv_aload_n C.1 C.2.1 dL_cell_6 rfl l0 ?_
    refine lv_iload_n C.1 C.2.1 dL_cell_7 rfl l1 ?_
    refine va_sld C.1 C.2.1 hX hbl hbA hS (q_in hk32 ⟨hk.1, by omega⟩) dL_cell_8 ?_
    have h9 := hA _ (i32_toInt (ad.2.2.2 (Int32.ofInt k).toNatClampNeg)) p l e s m args below meth c D cA ad A n0 φ0 Q C φ H locs ls hφ hn hM hl hkl (okS_c (i32_toInt _) okS_0) hP hD hS
    have e9 : vlf φ (qI (ad.2.2.2 (Int32.ofInt k).toNatClampNeg).toInt) = .int (ad.2.2.2 (Int32.ofInt k).toNatClampNeg) := by
      show Value.int (Int32.ofInt _) = _
      rw [Int32.ofInt_toInt]
    rw [← e9]
    exact h9
