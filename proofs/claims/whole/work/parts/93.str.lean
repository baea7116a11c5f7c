/-! ===== length and charAt of the text constant ===== -/
def resC (i : Int) : Int := (resB.getD i.toNat 0).toInt
theorem res_tab : ∀ j : Nat, j < 50 → (0 ≤ resC j ∧ resC j ≤ 127) ∧ (((resB.getD j 0) &&& 255).toUInt32 % 65536).toInt32 = Int32.ofInt (resC j) ∧ ((Int32.ofInt (resC j)).toUInt32 % 65536).toInt32 = Int32.ofInt (resC j) := by decide +kernel
theorem res_i {i : Int} (h0 : 0 ≤ i) (h1 : i < 50) : (0 ≤ resC i ∧ resC i ≤ 127) ∧ (((resB.getD i.toNat 0) &&& 255).toUInt32 % 65536).toInt32 = Int32.ofInt (resC i) ∧ narrow .char (.int (Int32.ofInt (resC i))) = .int (Int32.ofInt (resC i)) := by
  have e : ((i.toNat : Nat) : Int) = i := Int.toNat_of_nonneg h0
  have t := res_tab i.toNat (by omega)
  rw [e] at t
  refine ⟨t.1, t.2.1, ?_⟩
  have : narrow .char (.int (Int32.ofInt (resC i))) = .int ((Int32.ofInt (resC i)).toUInt32 % 65536).toInt32 := rfl
  rw [this, t.2.2]
theorem jm_check0 {ad : Nat × Nat} {i n : Int} (h0 : 0 ≤ i) (h1 : i < n) (hn : n ≤ 50) : jE yJ0_checkIndex_df160 cJ0_checkIndex_df160 2 none rmC 0 ad [.int (Int32.ofInt i), .int (Int32.ofInt n)] 0 := by
  refine jE_intro (by decide +kernel) (Nat.le_of_ble_eq_true rfl) (Or.inl ⟨rfl, rfl, rfl⟩) ?_
  intro p l e s m args below meth c D cA A Q G ρ μ φ ls C hM hml hP hD hl hR
  have hS : va_S A s.heap s.heap [] := va_S.rf
  have hE := C.2.2.2.2.1
  have hl : lv_has ls 2 [(0, .int (Int32.ofInt i)), (1, .int (Int32.ofInt n))] := hl
  refine lv_iload_n C.1 C.2.1 dJ0_checkIndex_df160_0 rfl (lv_at hl 0 rfl) ?_
  refine lv_iload_n C.1 C.2.1 dJ0_checkIndex_df160_1 rfl (lv_at hl 1 rfl) ?_
  have K : ∀ f : Value, f.category = 1 → va_Z "jdk/internal/util/Preconditions" "SIOOBE_FORMATTER" "Ljava/util/function/BiFunction;" f A s s.heap → W p l e rmC s m args below meth c s.heap [] 0 0 Q (F0 m 2 ls [.int (Int32.ofInt n), .int (Int32.ofInt i)]) := by
    intro f hf hz
    refine va_gets C.1 C.2.1 hz hS C.2.2.1 (C.2.2.2.1 _ kF_J0_1053) (fun _ h => h) dJ0_checkIndex_df160_2 ?_
    refine w_callS (st := []) C (jm_check3 (ad := ad) hf h0 h1 hn G ρ μ hM l D cA φ s.heap.size) kM_J0_1059 kT_J3_checkIndex_8e157 kZ_J3 kC_J3_checkIndex_8e157 ⟨by decide +kernel, by decide +kernel⟩ (na := 3) (by decide +kernel) ⟨Nat.le_of_ble_eq_true rfl, Nat.le_of_ble_eq_true rfl⟩ rfl (hl.1.trans hml.symm) (Nat.zero_le 8) rfl dJ0_checkIndex_df160_5 ⟨Nat.le_refl _, Nat.le_refl _⟩ hP hD hS (fun z φ' ρ' μ' H1 locs1 hz hr hφ hM' hP' hD' hS' => ?_)
    obtain ⟨rfl, rfl, rfl⟩ := hz
    refine lv_pop C.1 C.2.1 dJ0_checkIndex_df160_8 rfl ?_
    exact hR φ' H1 locs1 9 ls hφ hP' hD' hS' dJ0_checkIndex_df160_9
  rcases hE.2.2.2.2.2 with hz | ⟨t, hz⟩
  · exact K _ rfl hz
  · exact K _ rfl hz
theorem jm_charL {ad : Nat × Nat} {i : Int} (h0 : 0 ≤ i) (h1 : i < 50) : jE yJ1_charAt_3b067 cJ1_charAt_3b067 2 (some .char) rmA 1 ad [.ref ad.2, .int (Int32.ofInt i)] (resC i) := by
  have t := res_i h0 h1
  have hi : i32 i := by unfold i32; omega
  refine jE_intro (by decide +kernel) (Nat.le_of_ble_eq_true rfl) (Or.inr ⟨rfl, by unfold i32; omega, .char, rfl, t.2.2⟩) ?_
  intro p l e s m args below meth c D cA A Q G ρ μ φ ls C hM hml hP hD hl hR
  have hS : va_S A s.heap s.heap [] := va_S.rf
  have hE := C.2.2.2.2.1
  have hT : va_T .byte ad.2 50 (fun j => .int (resB.getD j 0)) A s s.heap := (hE.2.2.2.1.1 0 (by decide)).2.2.2
  have hl : lv_has ls 2 [(0, .ref ad.2), (1, .int (Int32.ofInt i))] := hl
  refine lv_iload_n C.1 C.2.1 dJ1_charAt_3b067_0 rfl (lv_at hl 1 rfl) ?_
  refine lv_aload_n C.1 C.2.1 dJ1_charAt_3b067_1 rfl (lv_at hl 0 rfl) ?_
  refine va_tlen C.1 C.2.1 hT hS (v := Int32.ofInt 50) (by decide) dJ1_charAt_3b067_2 ?_
  refine w_callS (st := []) C (jm_check0 (ad := ad) h0 h1 (by decide) G ρ μ hM l D cA φ s.heap.size) kM_J1_9 kT_J0_checkIndex_df160 kZ_J0 kC_J0_checkIndex_df160 ⟨by decide +kernel, by decide +kernel⟩ (na := 2) (by decide +kernel) ⟨Nat.le_of_ble_eq_true rfl, Nat.le_of_ble_eq_true rfl⟩ rfl (hl.1.trans hml.symm) (Nat.zero_le 8) rfl dJ1_charAt_3b067_3 ⟨Nat.le_refl _, Nat.le_refl _⟩ hP hD hS (fun z φ' ρ' μ' H1 locs1 hz hr hφ hM' hP' hD' hS' => ?_)
  obtain ⟨rfl, rfl, rfl⟩ := hz
  refine lv_aload_n C.1 C.2.1 dJ1_charAt_3b067_6 rfl (lv_at hl 0 rfl) ?_
  refine lv_iload_n C.1 C.2.1 dJ1_charAt_3b067_7 rfl (lv_at hl 1 rfl) ?_
  have hcl := q_cl hi h0
  have ec : (Int32.ofInt i).toNatClampNeg = i.toNat := by omega
  refine va_tb C.1 C.2.1 hT hS' (q_in hi ⟨h0, h1⟩) (v := .int (resB.getD i.toNat 0)) (by rw [ec]) dJ1_charAt_3b067_8 ?_
  refine lv_sipush C.1 C.2.1 dJ1_charAt_3b067_9 (v := 255) (by decide) ?_
  refine lv_iand C.1 C.2.1 dJ1_charAt_3b067_12 ?_
  refine lv_i2c C.1 C.2.1 dJ1_charAt_3b067_13 t.2.1 ?_
  exact hR φ' H1 locs1 14 ls hφ hP' hD' hS' dJ1_charAt_3b067_14
theorem jm_charAt {ad : Nat × Nat} {i : Int} (h0 : 0 ≤ i) (h1 : i < 50) : jE yJ0_charAt_5068e cJ0_charAt_5068e 2 (some .char) rmT 1 ad [.ref ad.1, .int (Int32.ofInt i)] (resC i) := by
  have t := res_i h0 h1
  refine jE_intro (by decide +kernel) (Nat.le_of_ble_eq_true rfl) (Or.inr ⟨rfl, by unfold i32; omega, .char, rfl, t.2.2⟩) ?_
  intro p l e s m args below meth c D cA A Q G ρ μ φ ls C hM hml hP hD hl hR
  have hS : va_S A s.heap s.heap [] := va_S.rf
  have hE := C.2.2.2.2.1
  have hl : lv_has ls 2 [(0, .ref ad.1), (1, .int (Int32.ofInt i))] := hl
  refine lv_aload_n C.1 C.2.1 dJ0_charAt_5068e_0 rfl (lv_at hl 0 rfl) ?_
  refine w_callV (Cn := RJ0) (as := []) (st := []) C (jm_isLatin1 (ad := ad) G ρ μ hM l D cA φ s.heap.size) kM_J0_492 kI_J0_isLatin1_aae02 kS_J0_isLatin1_aae02 kZ_J0 kC_J0_isLatin1_aae02 ⟨by decide +kernel, by decide +kernel⟩ (na := 0) (by decide +kernel) ⟨Nat.le_of_ble_eq_true rfl, Nat.le_of_ble_eq_true rfl⟩ (vk_recv hE.2.2.2.1 (i := 0) (by decide) hS) rfl (hl.1.trans hml.symm) (Nat.zero_le 8) rfl dJ0_charAt_5068e_1 ⟨Nat.le_refl _, Nat.le_refl _⟩ hP hD hS (fun z φ' ρ' μ' H1 locs1 hz hr hφ hM' hP' hD' hS' => ?_)
  obtain ⟨rfl, rfl, rfl⟩ := hz
  refine lv_if_eq (tgt := 16) C.1 C.2.1 dJ0_charAt_5068e_4 (by decide) (fun hc => absurd hc (by decide)) (fun _ => ?_)
  refine lv_aload_n C.1 C.2.1 dJ0_charAt_5068e_7 rfl (lv_at hl 0 rfl) ?_
  refine vk_getf C.1 C.2.1 (hE.2.2.2.1.1 0 (by decide)).2.2.1 hS' C.2.2.1 (C.2.2.2.1 _ kF_J0_9) (fun _ h => h) dJ0_charAt_5068e_8 ?_
  refine lv_iload_n C.1 C.2.1 dJ0_charAt_5068e_11 rfl (lv_at hl 1 rfl) ?_
  refine w_callS (st := []) C (jm_charL (ad := ad) h0 h1 G _ _ hM' l D cA φ' H1.size) kM_J0_495 kT_J1_charAt_3b067 kZ_J1 kC_J1_charAt_3b067 ⟨by decide +kernel, by decide +kernel⟩ (na := 2) (by decide +kernel) ⟨Nat.le_of_ble_eq_true rfl, Nat.le_of_ble_eq_true rfl⟩ rfl (hl.1.trans hml.symm) (Nat.zero_le 8) rfl dJ0_charAt_5068e_12 ⟨Nat.le_refl _, Nat.le_refl _⟩ hP' hD' hS' (fun z φ2 ρ2 μ2 H2 locs2 hz hr2 hφ2 hM2 hP2 hD2 hS2 => ?_)
  obtain ⟨rfl, rfl, rfl⟩ := hz
  exact hR φ2 H2 locs2 15 ls (fun i hi => (hφ2 i hi).trans (hφ i hi)) hP2 hD2 hS2 dJ0_charAt_5068e_15
theorem jm_length {ad : Nat × Nat} : jE yJ0_length_8abf5 cJ0_length_8abf5 1 (some .int) rmC 1 ad [.ref ad.1] 50 := by
  refine jE_intro (by decide +kernel) (Nat.le_of_ble_eq_true rfl) (Or.inr ⟨rfl, by unfold i32; omega, .int, rfl, rfl⟩) ?_
  intro p l e s m args below meth c D cA A Q G ρ μ φ ls C hM hml hP hD hl hR
  have hS : va_S A s.heap s.heap [] := va_S.rf
  have hE := C.2.2.2.2.1
  have hT : va_T .byte ad.2 50 (fun j => .int (resB.getD j 0)) A s s.heap := (hE.2.2.2.1.1 0 (by decide)).2.2.2
  have hl : lv_has ls 1 [(0, .ref ad.1)] := hl
  refine lv_aload_n C.1 C.2.1 dJ0_length_8abf5_0 rfl (lv_at hl 0 rfl) ?_
  refine vk_getf C.1 C.2.1 (hE.2.2.2.1.1 0 (by decide)).2.2.1 hS C.2.2.1 (C.2.2.2.1 _ kF_J0_9) (fun _ h => h) dJ0_length_8abf5_1 ?_
  refine va_tlen C.1 C.2.1 hT hS (v := Int32.ofInt 50) (by decide) dJ0_length_8abf5_4 ?_
  refine lv_aload_n C.1 C.2.1 dJ0_length_8abf5_5 rfl (lv_at hl 0 rfl) ?_
  refine w_callV (Cn := RJ0) (as := []) (st := [.int (Int32.ofInt 50)]) C (jm_coder (ad := ad) G ρ μ hM l D cA φ s.heap.size) kM_J0_335 kI_J0_coder_7d493 kS_J0_coder_7d493 kZ_J0 kC_J0_coder_7d493 ⟨by decide +kernel, by decide +kernel⟩ (na := 0) (by decide +kernel) ⟨Nat.le_of_ble_eq_true rfl, Nat.le_of_ble_eq_true rfl⟩ (vk_recv hE.2.2.2.1 (i := 0) (by decide) hS) rfl (hl.1.trans hml.symm) (by decide) rfl dJ0_length_8abf5_6 ⟨Nat.le_refl _, Nat.le_refl _⟩ hP hD hS (fun z φ' ρ' μ' H1 locs1 hz hr hφ hM' hP' hD' hS' => ?_)
  obtain ⟨rfl, rfl, rfl⟩ := hz
  refine lv_ishr C.1 C.2.1 dJ0_length_8abf5_9 ?_
  exact hR φ' H1 locs1 10 ls hφ hP' hD' hS' dJ0_length_8abf5_10
/-! ### rows for the reference's reserved() -/
section QSTR
variable {Gf G : Gx} {Post : Int → Rf → Mem → Prop} {kc : Nat × Nat} {pc : Nat} {lv : List (Option AV)} {st : List AV} {ρ : Rf} {μ : Mem}
theorem qX_len (hd : decode cX8_reserved pc = .ok (.ldc 153, 2)) (hd2 : decode cX8_reserved (pc + 2) = .ok (.invokevirtual 155, 3)) (hcat : csz st ≤ 8) (hcap : kc.1 ≤ 0 ∧ kc.2 ≤ 0) (h : qX mX8_reserved Gf Post G kc (pc + 2 + 3) lv (qI 50 :: st) ρ μ) : qX mX8_reserved Gf Post G kc pc lv st ρ μ := by
  intro p l e s m args below meth c D cA ad A n0 φ0 Q C φ H locs ls hφ hn hM hl hkl hks hP hD hS
  have RR : RC RX8 cX8_reserved p s m args c D cA ad A := ⟨C.1, C.2.1, C.2.2.2.1, C.2.2.2.2.1, C.2.2.2.2.2.1, C.2.2.2.2.2.2.1, C.2.2.2.2.2.2.2.1⟩
  refine va_ldcS C.1 C.2.1 C.2.2.2.1 C.2.2.2.2.2.1.2.2.1 hd ?_
  refine w_callV (Cn := RJ0) (as := []) (st := st.map (vlf φ)) RR (jm_length (ad := ad) G ρ μ hM l D cA φ H.size) kM_X8_155 kI_J0_length_8abf5 kS_J0_length_8abf5 kZ_J0 kC_J0_length_8abf5 ⟨by decide +kernel, by decide +kernel⟩ (na := 0) (by decide +kernel) ⟨Nat.le_of_ble_eq_true rfl, Nat.le_of_ble_eq_true rfl⟩ (vk_recv C.2.2.2.2.2.1.2.2.2.1 (i := 0) (by decide) hS) rfl (hl.1.trans C.2.2.1.symm) (Nat.le_trans (vlf_csz _) hcat) rfl hd2 hcap hP hD hS (fun z φ' ρ' μ' H1 locs1 hz hr hφ' hM' hP' hD' hS' => ?_)
  obtain ⟨rfl, rfl, rfl⟩ := hz
  have h2 := h p l e s m args below meth c D cA ad A n0 φ0 Q C φ' H1 locs1 ls (fun i hi => (hφ' i (by omega)).trans (hφ i hi)) hn hM' (qlv_ext hl hkl hφ') hkl (okS_c (by show i32 50; unfold i32; omega) hks) hP' hD' hS'
  have e1 : (qI 50 :: st).map (vlf φ') = .int (Int32.ofInt 50) :: st.map (vlf φ) := by
    rw [List.map_cons, st_ext hks hφ']
    rfl
  rw [e1] at h2
  exact h2
theorem ch_fin {p : Program} {l : Launch} {e : Env} {s : State} {m : MethodId} {args : Array Value} {below : List Frame} {meth : Method} {c : Code} {D : va_G} {cA : Nat → ClassId} {ad : Nat × Nat} {A : Nat → Prop} {n0 : Nat} {φ0 : Nat → Nat} {Q : State → Prop} (C : Cx mX8_reserved Gf Post p l e s m args below meth c D cA ad A n0 φ0 Q) {φ : Nat → Nat} {H : Heap} {locs : List Loc} {ls : Array Slot} (hφ : ∀ i, i < n0 → φ i = φ0 i) (hn : n0 ≤ G.2.length) (hM : MOk G ρ μ) (hl : qlv φ ls 4 lv) (hkl : okL G.2.length lv) (hks : okS G.2.length st) (hP : va_P D vwCl (wsOf φ cA G.2 ρ μ) H) (hD : va_D A (wsOf φ cA G.2 ρ μ)) (hS : va_S A s.heap H locs)
    (hd : decode cX8_reserved pc = .ok (.invokevirtual 161, 3)) (hcat : csz st ≤ 8) (hcap : kc.1 ≤ 0 ∧ kc.2 ≤ 0) {i : Int} (h0 : 0 ≤ i) (h1 : i < 50) (h : qX mX8_reserved Gf Post G kc (pc + 3) lv (qI (resC i) :: st) ρ μ) : W p l e mX8_reserved.2.2.2.2 s m args below meth c H locs kc.1 kc.2 Q (F0 m pc ls (.int (Int32.ofInt i) :: .ref ad.1 :: st.map (vlf φ))) := by
  have RR : RC RX8 cX8_reserved p s m args c D cA ad A := ⟨C.1, C.2.1, C.2.2.2.1, C.2.2.2.2.1, C.2.2.2.2.2.1, C.2.2.2.2.2.2.1, C.2.2.2.2.2.2.2.1⟩
  refine w_callV (Cn := RJ0) (as := [.int (Int32.ofInt i)]) (st := st.map (vlf φ)) RR (jm_charAt (ad := ad) h0 h1 G ρ μ hM l D cA φ H.size) kM_X8_161 kI_J0_charAt_5068e kS_J0_charAt_5068e kZ_J0 kC_J0_charAt_5068e ⟨by decide +kernel, by decide +kernel⟩ (na := 1) (by decide +kernel) ⟨Nat.le_of_ble_eq_true rfl, Nat.le_of_ble_eq_true rfl⟩ (vk_recv C.2.2.2.2.2.1.2.2.2.1 (i := 0) (by decide) hS) rfl (hl.1.trans C.2.2.1.symm) (Nat.le_trans (vlf_csz _) hcat) rfl hd hcap hP hD hS (fun z φ' ρ' μ' H1 locs1 hz hr hφ' hM' hP' hD' hS' => ?_)
  obtain ⟨rfl, rfl, rfl⟩ := hz
  have h2 := h p l e s m args below meth c D cA ad A n0 φ0 Q C φ' H1 locs1 ls (fun i hi => (hφ' i (by omega)).trans (hφ i hi)) hn hM' (qlv_ext hl hkl hφ') hkl (okS_c (by have := (res_i h0 h1).1; show i32 _; unfold i32; omega) hks) hP' hD' hS'
  have e1 : (qI (resC i) :: st).map (vlf φ') = .int (Int32.ofInt (resC i)) :: st.map (vlf φ) := by
    rw [List.map_cons, st_ext hks hφ']
    rfl
  rw [e1] at h2
  exact h2
/-- the constant's char at the sum of the locals 2 and 3 -/
theorem qX_ch2 {a b : Int} (hd : decode cX8_reserved pc = .ok (.ldc 153, 2)) (hd1 : decode cX8_reserved (pc + 2) = .ok (.iload_n 2, 1)) (hd2 : decode cX8_reserved (pc + 2 + 1) = .ok (.iload_n 3, 1)) (hd3 : decode cX8_reserved (pc + 2 + 1 + 1) = .ok (.iadd, 1)) (hd4 : decode cX8_reserved (pc + 2 + 1 + 1 + 1) = .ok (.invokevirtual 161, 3)) (hv2 : lv[2]? = some (some (qI a))) (hv3 : lv[3]? = some (some (qI b))) (h0 : 0 ≤ a + b) (h1 : a + b < 50) (hcat : csz st ≤ 8) (hcap : kc.1 ≤ 0 ∧ kc.2 ≤ 0) (h : qX mX8_reserved Gf Post G kc (pc + 2 + 1 + 1 + 1 + 3) lv (qI (resC (a + b)) :: st) ρ μ) : qX mX8_reserved Gf Post G kc pc lv st ρ μ := by
  intro p l e s m args below meth c D cA ad A n0 φ0 Q C φ H locs ls hφ hn hM hl hkl hks hP hD hS
  refine va_ldcS C.1 C.2.1 C.2.2.2.1 C.2.2.2.2.2.1.2.2.1 hd ?_
  refine lv_iload_n C.1 C.2.1 hd1 rfl (qlv_at hl hv2) ?_
  refine lv_iload_n C.1 C.2.1 hd2 rfl (qlv_at hl hv3) ?_
  refine lv_iadd C.1 C.2.1 hd3 ?_
  rw [q_add, w32_id (by unfold i32; omega)]
  exact ch_fin C hφ hn hM hl hkl hks hP hD hS hd4 hcat hcap h0 h1 h
theorem qX_ch1 {a : Int} (hd : decode cX8_reserved pc = .ok (.ldc 153, 2)) (hd1 : decode cX8_reserved (pc + 2) = .ok (.iload_n 2, 1)) (hd4 : decode cX8_reserved (pc + 2 + 1) = .ok (.invokevirtual 161, 3)) (hv2 : lv[2]? = some (some (qI a))) (h0 : 0 ≤ a) (h1 : a < 50) (hcat : csz st ≤ 8) (hcap : kc.1 ≤ 0 ∧ kc.2 ≤ 0) (h : qX mX8_reserved Gf Post G kc (pc + 2 + 1 + 3) lv (qI (resC a) :: st) ρ μ) : qX mX8_reserved Gf Post G kc pc lv st ρ μ := by
  intro p l e s m args below meth c D cA ad A n0 φ0 Q C φ H locs ls hφ hn hM hl hkl hks hP hD hS
  refine va_ldcS C.1 C.2.1 C.2.2.2.1 C.2.2.2.2.2.1.2.2.1 hd ?_
  refine lv_iload_n C.1 C.2.1 hd1 rfl (qlv_at hl hv2) ?_
  exact ch_fin C hφ hn hM hl hkl hks hP hD hS hd4 hcat hcap h0 h1 h
end QSTR
