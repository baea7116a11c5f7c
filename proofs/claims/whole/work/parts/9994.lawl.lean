/-! ===== the law's loop ===== -/
theorem and63 (x : Int32) : 0 ≤ (x &&& 63).toInt ∧ (x &&& 63).toInt ≤ 63 := by
  have h : (x &&& 63).toInt = (x.toBitVec &&& 63#32).toInt := rfl
  have h2 : (x.toBitVec &&& 63#32).toNat ≤ 63 := by
    rw [BitVec.toNat_and]
    exact Nat.and_le_right
  rw [h, BitVec.toInt_eq_toNat_cond, if_pos (by omega)]
  omega
section LAWL
variable {p : Program} {l : Launch} {e : Env} {s : State} {m : MethodId} {b L : Nat} {xs : Nat → Int32} {below : List Frame} {meth : Method} {c : Code} {D : va_G} {cA : Nat → ClassId} {ad : Nat × Nat} {Q : State → Prop}
theorem l_disp (h53 : (∀ (i : Int) (φ : Nat → Nat) (ρ : Rf) (μ : Mem) (H : Heap) (locs : List Loc) (cells slots : Nat) (ls : Array Slot), LJ s D cA φ ρ μ H locs → lv_has ls 7 (LLv b φ i) → 0 ≤ i → i + 5 < L → (cells + 20 ≤ room_1.cells ∧ slots + 200 ≤ room_1.slots) → (∀ (φ' : Nat → Nat) (ρ' : Rf) (μ' : Mem) (H1 : Heap) (locs1 : List Loc) (cells1 slots1 : Nat) (ls1 : Array Slot), LJ s D cA φ' ρ' μ' H1 locs1 → lv_has ls1 7 (LLv b φ' i) → cells1 ≤ cells + 10 → slots1 ≤ slots + 100 → W p l e room_1 s m #[Value.ref b] below meth c H1 locs1 cells1 slots1 Q (F0 m 1956 ls1 [])) → W p l e room_1 s m #[Value.ref b] below meth c H locs cells slots Q (F0 m 1887 ls []))) {i : Int} {φ : Nat → Nat} {ρ : Rf} {μ : Mem} {H : Heap} {locs : List Loc} {cells slots : Nat} {ls : Array Slot} (hN : (∀ (φ' : Nat → Nat) (ρ' : Rf) (μ' : Mem) (H1 : Heap) (locs1 : List Loc) (cells1 slots1 : Nat) (ls1 : Array Slot), LJ s D cA φ' ρ' μ' H1 locs1 → lv_has ls1 7 (LLv b φ' i) → cells1 ≤ cells + 10 → slots1 ≤ slots + 100 → W p l e room_1 s m #[Value.ref b] below meth c H1 locs1 cells1 slots1 Q (F0 m 1956 ls1 []))) (C : LC p s m b L xs c D cA ad) (J : LJ s D cA φ ρ μ H locs) (hl : lv_has ls 7 (LLv b φ i)) (hi : 0 ≤ i) (hL : i + 5 < L) (hcap : cells + 20 ≤ room_1.cells ∧ slots + 200 ≤ room_1.slots) (k : Nat) (hk : k < 55) (x : Int32) (hx : x.toInt = (k : Int)) : W p l e room_1 s m #[Value.ref b] below meth c H locs cells slots Q (F0 m 40 ls [.int x]) := by
  have R := C.1
  have hM : (∀ (φ' : Nat → Nat) (ρ' : Rf) (μ' : Mem) (H1 : Heap) (locs1 : List Loc) (cells1 slots1 : Nat), LJ s D cA φ' ρ' μ' H1 locs1 → lv_has ls 7 (LLv b φ' i) → cells1 ≤ cells + 10 → slots1 ≤ slots + 100 → W p l e room_1 s m #[Value.ref b] below meth c H1 locs1 cells1 slots1 Q (F0 m 1956 ls [])) := fun φ' ρ' μ' H1 locs1 c1 s1 => hN φ' ρ' μ' H1 locs1 c1 s1 ls
  match k, hk, hx with
  | 0, _, hx => exact lv_tableIn (off := 236) (tgt := 276) R.1 R.2.1 dL_law_40 (by rw [hx]; decide) (by rw [hx]; decide) (by rw [hx]; rfl) rfl (lw_0 (fun φ1 ρ1 μ1 H1 locs1 j1 l1 => hM φ1 ρ1 μ1 H1 locs1 cells slots j1 l1 (by omega) (by omega)) C J hl hi hL ⟨by omega, by omega⟩)
  | 1, _, hx => exact lv_tableIn (off := 309) (tgt := 349) R.1 R.2.1 dL_law_40 (by rw [hx]; decide) (by rw [hx]; decide) (by rw [hx]; rfl) rfl (lw_1 (fun φ1 ρ1 μ1 H1 locs1 j1 l1 => hM φ1 ρ1 μ1 H1 locs1 cells slots j1 l1 (by omega) (by omega)) C J hl hi hL ⟨by omega, by omega⟩)
  | 2, _, hx => exact lv_tableIn (off := 334) (tgt := 374) R.1 R.2.1 dL_law_40 (by rw [hx]; decide) (by rw [hx]; decide) (by rw [hx]; rfl) rfl (lw_2 (fun φ1 ρ1 μ1 H1 locs1 j1 l1 => hM φ1 ρ1 μ1 H1 locs1 cells slots j1 l1 (by omega) (by omega)) C J hl hi hL ⟨by omega, by omega⟩)
  | 3, _, hx => exact lv_tableIn (off := 347) (tgt := 387) R.1 R.2.1 dL_law_40 (by rw [hx]; decide) (by rw [hx]; decide) (by rw [hx]; rfl) rfl (lw_3 (fun φ1 ρ1 μ1 H1 locs1 j1 l1 => hM φ1 ρ1 μ1 H1 locs1 cells slots j1 l1 (by omega) (by omega)) C J hl hi hL ⟨by omega, by omega⟩)
  | 4, _, hx => exact lv_tableIn (off := 360) (tgt := 400) R.1 R.2.1 dL_law_40 (by rw [hx]; decide) (by rw [hx]; decide) (by rw [hx]; rfl) rfl (lw_4 (fun φ1 ρ1 μ1 H1 locs1 j1 l1 => hM φ1 ρ1 μ1 H1 locs1 cells slots j1 l1 (by omega) (by omega)) C J hl hi hL ⟨by omega, by omega⟩)
  | 5, _, hx => exact lv_tableIn (off := 373) (tgt := 413) R.1 R.2.1 dL_law_40 (by rw [hx]; decide) (by rw [hx]; decide) (by rw [hx]; rfl) rfl (lw_5 (fun φ1 ρ1 μ1 H1 locs1 j1 l1 => hM φ1 ρ1 μ1 H1 locs1 cells slots j1 l1 (by omega) (by omega)) C J hl hi hL ⟨by omega, by omega⟩)
  | 6, _, hx => exact lv_tableIn (off := 398) (tgt := 438) R.1 R.2.1 dL_law_40 (by rw [hx]; decide) (by rw [hx]; decide) (by rw [hx]; rfl) rfl (lw_6 (fun φ1 ρ1 μ1 H1 locs1 j1 l1 => hM φ1 ρ1 μ1 H1 locs1 cells slots j1 l1 (by omega) (by omega)) C J hl hi hL ⟨by omega, by omega⟩)
  | 7, _, hx => exact lv_tableIn (off := 411) (tgt := 451) R.1 R.2.1 dL_law_40 (by rw [hx]; decide) (by rw [hx]; decide) (by rw [hx]; rfl) rfl (lw_7 (fun φ1 ρ1 μ1 H1 locs1 j1 l1 => hM φ1 ρ1 μ1 H1 locs1 cells slots j1 l1 (by omega) (by omega)) C J hl hi hL ⟨by omega, by omega⟩)
  | 8, _, hx => exact lv_tableIn (off := 424) (tgt := 464) R.1 R.2.1 dL_law_40 (by rw [hx]; decide) (by rw [hx]; decide) (by rw [hx]; rfl) rfl (lw_8 (fun φ1 ρ1 μ1 H1 locs1 j1 l1 => hM φ1 ρ1 μ1 H1 locs1 cells slots j1 l1 (by omega) (by omega)) C J hl hi hL ⟨by omega, by omega⟩)
  | 9, _, hx => exact lv_tableIn (off := 437) (tgt := 477) R.1 R.2.1 dL_law_40 (by rw [hx]; decide) (by rw [hx]; decide) (by rw [hx]; rfl) rfl (lw_9 (fun φ1 ρ1 μ1 H1 locs1 j1 l1 => hM φ1 ρ1 μ1 H1 locs1 cells slots j1 l1 (by omega) (by omega)) C J hl hi hL ⟨by omega, by omega⟩)
  | 10, _, hx => exact lv_tableIn (off := 462) (tgt := 502) R.1 R.2.1 dL_law_40 (by rw [hx]; decide) (by rw [hx]; decide) (by rw [hx]; rfl) rfl (lw_10 (fun φ1 ρ1 μ1 H1 locs1 j1 l1 => hM φ1 ρ1 μ1 H1 locs1 cells slots j1 l1 (by omega) (by omega)) C J hl hi hL ⟨by omega, by omega⟩)
  | 11, _, hx => exact lv_tableIn (off := 499) (tgt := 539) R.1 R.2.1 dL_law_40 (by rw [hx]; decide) (by rw [hx]; decide) (by rw [hx]; rfl) rfl (lw_11 (fun φ1 ρ1 μ1 H1 locs1 j1 l1 => hM φ1 ρ1 μ1 H1 locs1 cells slots j1 l1 (by omega) (by omega)) C J hl hi hL ⟨by omega, by omega⟩)
  | 12, _, hx => exact lv_tableIn (off := 548) (tgt := 588) R.1 R.2.1 dL_law_40 (by rw [hx]; decide) (by rw [hx]; decide) (by rw [hx]; rfl) rfl (lw_12 (fun φ1 ρ1 μ1 H1 locs1 j1 l1 => hM φ1 ρ1 μ1 H1 locs1 cells slots j1 l1 (by omega) (by omega)) C J hl hi hL ⟨by omega, by omega⟩)
  | 13, _, hx => exact lv_tableIn (off := 573) (tgt := 613) R.1 R.2.1 dL_law_40 (by rw [hx]; decide) (by rw [hx]; decide) (by rw [hx]; rfl) rfl (lw_13 (fun φ1 ρ1 μ1 H1 locs1 j1 l1 => hM φ1 ρ1 μ1 H1 locs1 cells slots j1 l1 (by omega) (by omega)) C J hl hi hL ⟨by omega, by omega⟩)
  | 14, _, hx => exact lv_tableIn (off := 598) (tgt := 638) R.1 R.2.1 dL_law_40 (by rw [hx]; decide) (by rw [hx]; decide) (by rw [hx]; rfl) rfl (lw_14 (fun φ1 ρ1 μ1 H1 locs1 j1 l1 => hM φ1 ρ1 μ1 H1 locs1 cells slots j1 l1 (by omega) (by omega)) C J hl hi hL ⟨by omega, by omega⟩)
  | 15, _, hx => exact lv_tableIn (off := 623) (tgt := 663) R.1 R.2.1 dL_law_40 (by rw [hx]; decide) (by rw [hx]; decide) (by rw [hx]; rfl) rfl (lw_15 (fun φ1 ρ1 μ1 H1 locs1 j1 l1 => hM φ1 ρ1 μ1 H1 locs1 cells slots j1 l1 (by omega) (by omega)) C J hl hi hL ⟨by omega, by omega⟩)
  | 16, _, hx => exact lv_tableIn (off := 648) (tgt := 688) R.1 R.2.1 dL_law_40 (by rw [hx]; decide) (by rw [hx]; decide) (by rw [hx]; rfl) rfl (lw_16 (fun φ1 ρ1 μ1 H1 locs1 j1 l1 => hM φ1 ρ1 μ1 H1 locs1 cells slots j1 l1 (by omega) (by omega)) C J hl hi hL ⟨by omega, by omega⟩)
  | 17, _, hx => exact lv_tableIn (off := 673) (tgt := 713) R.1 R.2.1 dL_law_40 (by rw [hx]; decide) (by rw [hx]; decide) (by rw [hx]; rfl) rfl (lw_17 (fun φ1 ρ1 μ1 H1 locs1 j1 l1 => hM φ1 ρ1 μ1 H1 locs1 cells slots j1 l1 (by omega) (by omega)) C J hl hi hL ⟨by omega, by omega⟩)
  | 18, _, hx => exact lv_tableIn (off := 698) (tgt := 738) R.1 R.2.1 dL_law_40 (by rw [hx]; decide) (by rw [hx]; decide) (by rw [hx]; rfl) rfl (lw_18 (fun φ1 ρ1 μ1 H1 locs1 j1 l1 => hM φ1 ρ1 μ1 H1 locs1 cells slots j1 l1 (by omega) (by omega)) C J hl hi hL ⟨by omega, by omega⟩)
  | 19, _, hx => exact lv_tableIn (off := 723) (tgt := 763) R.1 R.2.1 dL_law_40 (by rw [hx]; decide) (by rw [hx]; decide) (by rw [hx]; rfl) rfl (lw_19 (fun φ1 ρ1 μ1 H1 locs1 j1 l1 => hM φ1 ρ1 μ1 H1 locs1 cells slots j1 l1 (by omega) (by omega)) C J hl hi hL ⟨by omega, by omega⟩)
  | 20, _, hx => exact lv_tableIn (off := 772) (tgt := 812) R.1 R.2.1 dL_law_40 (by rw [hx]; decide) (by rw [hx]; decide) (by rw [hx]; rfl) rfl (lw_20 (fun φ1 ρ1 μ1 H1 locs1 j1 l1 => hM φ1 ρ1 μ1 H1 locs1 cells slots j1 l1 (by omega) (by omega)) C J hl hi hL ⟨by omega, by omega⟩)
  | 21, _, hx => exact lv_tableIn (off := 785) (tgt := 825) R.1 R.2.1 dL_law_40 (by rw [hx]; decide) (by rw [hx]; decide) (by rw [hx]; rfl) rfl (lw_21 (fun φ1 ρ1 μ1 H1 locs1 j1 l1 => hM φ1 ρ1 μ1 H1 locs1 cells slots j1 l1 (by omega) (by omega)) C J hl hi hL ⟨by omega, by omega⟩)
  | 22, _, hx => exact lv_tableIn (off := 810) (tgt := 850) R.1 R.2.1 dL_law_40 (by rw [hx]; decide) (by rw [hx]; decide) (by rw [hx]; rfl) rfl (lw_22 (fun φ1 ρ1 μ1 H1 locs1 j1 l1 => hM φ1 ρ1 μ1 H1 locs1 cells slots j1 l1 (by omega) (by omega)) C J hl hi hL ⟨by omega, by omega⟩)
  | 23, _, hx => exact lv_tableIn (off := 847) (tgt := 887) R.1 R.2.1 dL_law_40 (by rw [hx]; decide) (by rw [hx]; decide) (by rw [hx]; rfl) rfl (lw_23 (fun φ1 ρ1 μ1 H1 locs1 j1 l1 => hM φ1 ρ1 μ1 H1 locs1 cells slots j1 l1 (by omega) (by omega)) C J hl hi hL ⟨by omega, by omega⟩)
  | 24, _, hx => exact lv_tableIn (off := 896) (tgt := 936) R.1 R.2.1 dL_law_40 (by rw [hx]; decide) (by rw [hx]; decide) (by rw [hx]; rfl) rfl (lw_24 (fun φ1 ρ1 μ1 H1 locs1 j1 l1 => hM φ1 ρ1 μ1 H1 locs1 cells slots j1 l1 (by omega) (by omega)) C J hl hi hL ⟨by omega, by omega⟩)
  | 25, _, hx => exact lv_tableIn (off := 921) (tgt := 961) R.1 R.2.1 dL_law_40 (by rw [hx]; decide) (by rw [hx]; decide) (by rw [hx]; rfl) rfl (lw_25 (fun φ1 ρ1 μ1 H1 locs1 j1 l1 => hM φ1 ρ1 μ1 H1 locs1 cells slots j1 l1 (by omega) (by omega)) C J hl hi hL ⟨by omega, by omega⟩)
  | 26, _, hx => exact lv_tableIn (off := 958) (tgt := 998) R.1 R.2.1 dL_law_40 (by rw [hx]; decide) (by rw [hx]; decide) (by rw [hx]; rfl) rfl (lw_26 (fun φ1 ρ1 μ1 H1 locs1 j1 l1 => hM φ1 ρ1 μ1 H1 locs1 cells slots j1 l1 (by omega) (by omega)) C J hl hi hL ⟨by omega, by omega⟩)
  | 27, _, hx => exact lv_tableIn (off := 995) (tgt := 1035) R.1 R.2.1 dL_law_40 (by rw [hx]; decide) (by rw [hx]; decide) (by rw [hx]; rfl) rfl (lw_27 (fun φ1 ρ1 μ1 H1 locs1 j1 l1 => hM φ1 ρ1 μ1 H1 locs1 cells slots j1 l1 (by omega) (by omega)) C J hl hi hL ⟨by omega, by omega⟩)
  | 28, _, hx => exact lv_tableIn (off := 1032) (tgt := 1072) R.1 R.2.1 dL_law_40 (by rw [hx]; decide) (by rw [hx]; decide) (by rw [hx]; rfl) rfl (lw_28 (fun φ1 ρ1 μ1 H1 locs1 j1 l1 => hM φ1 ρ1 μ1 H1 locs1 cells slots j1 l1 (by omega) (by omega)) C J hl hi hL ⟨by omega, by omega⟩)
  | 29, _, hx => exact lv_tableIn (off := 1081) (tgt := 1121) R.1 R.2.1 dL_law_40 (by rw [hx]; decide) (by rw [hx]; decide) (by rw [hx]; rfl) rfl (lw_29 (fun φ1 ρ1 μ1 H1 locs1 j1 l1 => hM φ1 ρ1 μ1 H1 locs1 cells slots j1 l1 (by omega) (by omega)) C J hl hi hL ⟨by omega, by omega⟩)
  | 30, _, hx => exact lv_tableIn (off := 1118) (tgt := 1158) R.1 R.2.1 dL_law_40 (by rw [hx]; decide) (by rw [hx]; decide) (by rw [hx]; rfl) rfl (lw_30 (fun φ1 ρ1 μ1 H1 locs1 j1 l1 => hM φ1 ρ1 μ1 H1 locs1 cells slots j1 l1 (by omega) (by omega)) C J hl hi hL ⟨by omega, by omega⟩)
  | 31, _, hx => exact lv_tableIn (off := 1167) (tgt := 1207) R.1 R.2.1 dL_law_40 (by rw [hx]; decide) (by rw [hx]; decide) (by rw [hx]; rfl) rfl (lw_31 (fun φ1 ρ1 μ1 H1 locs1 j1 l1 => hM φ1 ρ1 μ1 H1 locs1 cells slots j1 l1 (by omega) (by omega)) C J hl hi hL ⟨by omega, by omega⟩)
  | 32, _, hx => exact lv_tableIn (off := 1233) (tgt := 1273) R.1 R.2.1 dL_law_40 (by rw [hx]; decide) (by rw [hx]; decide) (by rw [hx]; rfl) rfl (lw_32 (fun φ1 ρ1 μ1 H1 locs1 j1 l1 => hM φ1 ρ1 μ1 H1 locs1 cells slots j1 l1 (by omega) (by omega)) C J hl hi hL ⟨by omega, by omega⟩)
  | 33, _, hx => exact lv_tableIn (off := 1287) (tgt := 1327) R.1 R.2.1 dL_law_40 (by rw [hx]; decide) (by rw [hx]; decide) (by rw [hx]; rfl) rfl (lw_33 (fun φ1 ρ1 μ1 H1 locs1 j1 l1 => hM φ1 ρ1 μ1 H1 locs1 cells slots j1 l1 (by omega) (by omega)) C J hl hi hL ⟨by omega, by omega⟩)
  | 34, _, hx => exact lv_tableIn (off := 1312) (tgt := 1352) R.1 R.2.1 dL_law_40 (by rw [hx]; decide) (by rw [hx]; decide) (by rw [hx]; rfl) rfl (lw_34 (fun φ1 ρ1 μ1 H1 locs1 j1 l1 => hM φ1 ρ1 μ1 H1 locs1 cells slots j1 l1 (by omega) (by omega)) C J hl hi hL ⟨by omega, by omega⟩)
  | 35, _, hx => exact lv_tableIn (off := 1337) (tgt := 1377) R.1 R.2.1 dL_law_40 (by rw [hx]; decide) (by rw [hx]; decide) (by rw [hx]; rfl) rfl (lw_35 (fun φ1 ρ1 μ1 H1 locs1 j1 l1 => hM φ1 ρ1 μ1 H1 locs1 cells slots j1 l1 (by omega) (by omega)) C J hl hi hL ⟨by omega, by omega⟩)
  | 36, _, hx => exact lv_tableIn (off := 1362) (tgt := 1402) R.1 R.2.1 dL_law_40 (by rw [hx]; decide) (by rw [hx]; decide) (by rw [hx]; rfl) rfl (lw_36 (fun φ1 ρ1 μ1 H1 locs1 j1 l1 => hM φ1 ρ1 μ1 H1 locs1 cells slots j1 l1 (by omega) (by omega)) C J hl hi hL ⟨by omega, by omega⟩)
  | 37, _, hx => exact lv_tableIn (off := 1399) (tgt := 1439) R.1 R.2.1 dL_law_40 (by rw [hx]; decide) (by rw [hx]; decide) (by rw [hx]; rfl) rfl (lw_37 (fun φ1 ρ1 μ1 H1 locs1 j1 l1 => hM φ1 ρ1 μ1 H1 locs1 cells slots j1 l1 (by omega) (by omega)) C J hl hi hL ⟨by omega, by omega⟩)
  | 38, _, hx => exact lv_tableIn (off := 1424) (tgt := 1464) R.1 R.2.1 dL_law_40 (by rw [hx]; decide) (by rw [hx]; decide) (by rw [hx]; rfl) rfl (lw_38 (fun φ1 ρ1 μ1 H1 locs1 j1 l1 => hM φ1 ρ1 μ1 H1 locs1 cells slots j1 l1 (by omega) (by omega)) C J hl hi hL ⟨by omega, by omega⟩)
  | 39, _, hx => exact lv_tableIn (off := 1449) (tgt := 1489) R.1 R.2.1 dL_law_40 (by rw [hx]; decide) (by rw [hx]; decide) (by rw [hx]; rfl) rfl (lw_39 (fun φ1 ρ1 μ1 H1 locs1 j1 l1 => hM φ1 ρ1 μ1 H1 locs1 cells slots j1 l1 (by omega) (by omega)) C J hl hi hL ⟨by omega, by omega⟩)
  | 40, _, hx => exact lv_tableIn (off := 1474) (tgt := 1514) R.1 R.2.1 dL_law_40 (by rw [hx]; decide) (by rw [hx]; decide) (by rw [hx]; rfl) rfl (lw_40 (fun φ1 ρ1 μ1 H1 locs1 j1 l1 => hM φ1 ρ1 μ1 H1 locs1 cells slots j1 l1 (by omega) (by omega)) C J hl hi hL ⟨by omega, by omega⟩)
  | 41, _, hx => exact lv_tableIn (off := 1487) (tgt := 1527) R.1 R.2.1 dL_law_40 (by rw [hx]; decide) (by rw [hx]; decide) (by rw [hx]; rfl) rfl (lw_41 (fun φ1 ρ1 μ1 H1 locs1 j1 l1 => hM φ1 ρ1 μ1 H1 locs1 cells slots j1 l1 (by omega) (by omega)) C J hl hi hL ⟨by omega, by omega⟩)
  | 42, _, hx => exact lv_tableIn (off := 1512) (tgt := 1552) R.1 R.2.1 dL_law_40 (by rw [hx]; decide) (by rw [hx]; decide) (by rw [hx]; rfl) rfl (lw_42 (fun φ1 ρ1 μ1 H1 locs1 j1 l1 => hM φ1 ρ1 μ1 H1 locs1 cells slots j1 l1 (by omega) (by omega)) C J hl hi hL ⟨by omega, by omega⟩)
  | 43, _, hx => exact lv_tableIn (off := 1525) (tgt := 1565) R.1 R.2.1 dL_law_40 (by rw [hx]; decide) (by rw [hx]; decide) (by rw [hx]; rfl) rfl (lw_43 (fun φ1 ρ1 μ1 H1 locs1 j1 l1 => hM φ1 ρ1 μ1 H1 locs1 cells slots j1 l1 (by omega) (by omega)) C J hl hi hL ⟨by omega, by omega⟩)
  | 44, _, hx => exact lv_tableIn (off := 1598) (tgt := 1638) R.1 R.2.1 dL_law_40 (by rw [hx]; decide) (by rw [hx]; decide) (by rw [hx]; rfl) rfl (lw_44 (fun φ1 ρ1 μ1 H1 locs1 j1 l1 => hM φ1 ρ1 μ1 H1 locs1 cells slots j1 l1 (by omega) (by omega)) C J hl hi hL ⟨by omega, by omega⟩)
  | 45, _, hx => exact lv_tableIn (off := 1623) (tgt := 1663) R.1 R.2.1 dL_law_40 (by rw [hx]; decide) (by rw [hx]; decide) (by rw [hx]; rfl) rfl (lw_45 (fun φ1 ρ1 μ1 H1 locs1 j1 l1 => hM φ1 ρ1 μ1 H1 locs1 cells slots j1 l1 (by omega) (by omega)) C J hl hi hL ⟨by omega, by omega⟩)
  | 46, _, hx => exact lv_tableIn (off := 1660) (tgt := 1700) R.1 R.2.1 dL_law_40 (by rw [hx]; decide) (by rw [hx]; decide) (by rw [hx]; rfl) rfl (lw_46 (fun φ1 ρ1 μ1 H1 locs1 j1 l1 => hM φ1 ρ1 μ1 H1 locs1 cells slots j1 l1 (by omega) (by omega)) C J hl hi hL ⟨by omega, by omega⟩)
  | 47, _, hx => exact lv_tableIn (off := 1697) (tgt := 1737) R.1 R.2.1 dL_law_40 (by rw [hx]; decide) (by rw [hx]; decide) (by rw [hx]; rfl) rfl (lw_47 (fun φ1 ρ1 μ1 H1 locs1 j1 l1 => hM φ1 ρ1 μ1 H1 locs1 cells slots j1 l1 (by omega) (by omega)) C J hl hi hL ⟨by omega, by omega⟩)
  | 48, _, hx => exact lv_tableIn (off := 1746) (tgt := 1786) R.1 R.2.1 dL_law_40 (by rw [hx]; decide) (by rw [hx]; decide) (by rw [hx]; rfl) rfl (lw_48 (fun φ1 ρ1 μ1 H1 locs1 j1 l1 => hM φ1 ρ1 μ1 H1 locs1 cells slots j1 l1 (by omega) (by omega)) C J hl hi hL ⟨by omega, by omega⟩)
  | 49, _, hx => exact lv_tableIn (off := 1783) (tgt := 1823) R.1 R.2.1 dL_law_40 (by rw [hx]; decide) (by rw [hx]; decide) (by rw [hx]; rfl) rfl (lw_49 (fun φ1 ρ1 μ1 H1 locs1 j1 l1 => hM φ1 ρ1 μ1 H1 locs1 cells slots j1 l1 (by omega) (by omega)) C J hl hi hL ⟨by omega, by omega⟩)
  | 50, _, hx => exact lv_tableIn (off := 1808) (tgt := 1848) R.1 R.2.1 dL_law_40 (by rw [hx]; decide) (by rw [hx]; decide) (by rw [hx]; rfl) rfl (lw_50 (fun φ1 ρ1 μ1 H1 locs1 j1 l1 => hM φ1 ρ1 μ1 H1 locs1 cells slots j1 l1 (by omega) (by omega)) C J hl hi hL ⟨by omega, by omega⟩)
  | 51, _, hx => exact lv_tableIn (off := 1821) (tgt := 1861) R.1 R.2.1 dL_law_40 (by rw [hx]; decide) (by rw [hx]; decide) (by rw [hx]; rfl) rfl (lw_51 (fun φ1 ρ1 μ1 H1 locs1 j1 l1 => hM φ1 ρ1 μ1 H1 locs1 cells slots j1 l1 (by omega) (by omega)) C J hl hi hL ⟨by omega, by omega⟩)
  | 52, _, hx => exact lv_tableIn (off := 1834) (tgt := 1874) R.1 R.2.1 dL_law_40 (by rw [hx]; decide) (by rw [hx]; decide) (by rw [hx]; rfl) rfl (lw_52 (fun φ1 ρ1 μ1 H1 locs1 j1 l1 => hM φ1 ρ1 μ1 H1 locs1 cells slots j1 l1 (by omega) (by omega)) C J hl hi hL ⟨by omega, by omega⟩)
  | 53, _, hx => exact lv_tableIn (off := 1847) (tgt := 1887) R.1 R.2.1 dL_law_40 (by rw [hx]; decide) (by rw [hx]; decide) (by rw [hx]; rfl) rfl (h53 i φ ρ μ H locs cells slots ls J hl hi hL hcap hN)
  | 54, _, hx => exact lv_tableIn (off := 1903) (tgt := 1943) R.1 R.2.1 dL_law_40 (by rw [hx]; decide) (by rw [hx]; decide) (by rw [hx]; rfl) rfl (lw_54 (fun φ1 ρ1 μ1 H1 locs1 j1 l1 => hM φ1 ρ1 μ1 H1 locs1 cells slots j1 l1 (by omega) (by omega)) C J hl hi hL ⟨by omega, by omega⟩)
  | k + 55, hk, _ => omega
theorem l_loop (h53 : (∀ (i : Int) (φ : Nat → Nat) (ρ : Rf) (μ : Mem) (H : Heap) (locs : List Loc) (cells slots : Nat) (ls : Array Slot), LJ s D cA φ ρ μ H locs → lv_has ls 7 (LLv b φ i) → 0 ≤ i → i + 5 < L → (cells + 20 ≤ room_1.cells ∧ slots + 200 ≤ room_1.slots) → (∀ (φ' : Nat → Nat) (ρ' : Rf) (μ' : Mem) (H1 : Heap) (locs1 : List Loc) (cells1 slots1 : Nat) (ls1 : Array Slot), LJ s D cA φ' ρ' μ' H1 locs1 → lv_has ls1 7 (LLv b φ' i) → cells1 ≤ cells + 10 → slots1 ≤ slots + 100 → W p l e room_1 s m #[Value.ref b] below meth c H1 locs1 cells1 slots1 Q (F0 m 1956 ls1 [])) → W p l e room_1 s m #[Value.ref b] below meth c H locs cells slots Q (F0 m 1887 ls []))) (C : LC p s m b L xs c D cA ad) (hE : ∀ (H : Heap) (locs : List Loc) (cells slots : Nat) (ls : Array Slot), va_S (LA s) s.heap H locs → cells ≤ room_1.cells → slots ≤ room_1.slots → W p l e room_1 s m #[Value.ref b] below meth c H locs cells slots Q (F0 m 1963 ls [.int 1])) : ∀ (n : Nat) (i : Int) (φ : Nat → Nat) (ρ : Rf) (μ : Mem) (H : Heap) (locs : List Loc) (cells slots : Nat) (ls : Array Slot), ((L : Int) - i).toNat < n → 0 ≤ i → i ≤ L → LJ s D cA φ ρ μ H locs → lv_has ls 7 (LLv b φ i) → (cells : Int) ≤ 1000 + 10 * i → (slots : Int) ≤ 10000 + 100 * i → W p l e room_1 s m #[Value.ref b] below meth c H locs cells slots Q (F0 m 23 ls []) := by
  intro n
  induction n with
  | zero => intro i φ ρ μ H locs cells slots ls hn; omega
  | succ n ih =>
    intro i φ ρ μ H locs cells slots ls hn hi hi2 J hl hc1 hc2
    have R := C.1
    have hL2 := C.2.2.2.2
    have hbA : ¬ LA s b := fun h => absurd C.2.2.2.1 (Nat.not_lt.mpr h)
    have ii : i32 i := by unfold i32; omega
    have ll : i32 ((L : Int) - 6) := by unfold i32; omega
    have rc : room_1.cells = 601024 := rfl
    have rs : room_1.slots = 7293034 := rfl
    refine lv_iload R.1 R.2.1 dL_law_23 (lv_at hl 0 rfl) ?_
    refine lv_aload_n R.1 R.2.1 dL_law_25 rfl (lv_at hl 4 rfl) ?_
    refine va_slen R.1 R.2.1 C.2.2.1 C.2.2.2.1 hbA J.1.2.2.2 dL_law_26 ?_
    refine lv_bipush R.1 R.2.1 dL_law_27 rfl ?_
    refine lv_isub R.1 R.2.1 dL_law_29 ?_
    have e1 : Int32.ofNat L - (Int8.ofInt 6).toInt32 = Int32.ofInt ((L : Int) - 6) := by
      rw [show (Int8.ofInt 6).toInt32 = Int32.ofInt 6 from rfl, show Int32.ofNat L = Int32.ofInt (L : Int) from rfl, q_sub, w32_id ll]
    rw [e1]
    refine lv_icmp_gt (tgt := 1962) R.1 R.2.1 dL_law_30 rfl (fun _ => ?_) (fun h => ?_)
    · refine lv_iconst (v := 1) R.1 R.2.1 dL_law_1962 rfl ?_
      exact hE H locs cells slots ls J.1.2.2.2 (by omega) (by omega)
    · have hL : i + 5 < L := by
        have : ¬ ((L : Int) - 6 < i) := fun y => h ((q_lt ll ii).mpr y)
        omega
      refine lv_aload_n R.1 R.2.1 dL_law_33 rfl (lv_at hl 4 rfl) ?_
      refine lv_iload R.1 R.2.1 dL_law_34 (lv_at hl 0 rfl) ?_
      refine va_sld (i := Int32.ofInt i) R.1 R.2.1 C.2.2.1 C.2.2.2.1 hbA J.1.2.2.2 (q_in (n := L) ii (by omega)) dL_law_36 ?_
      refine lv_bipush (v := 63) R.1 R.2.1 dL_law_37 rfl ?_
      refine lv_iand R.1 R.2.1 dL_law_39 ?_
      have nx : ∀ (φ' : Nat → Nat) (ρ' : Rf) (μ' : Mem) (H1 : Heap) (locs1 : List Loc) (cells1 slots1 : Nat) (ls1 : Array Slot), LJ s D cA φ' ρ' μ' H1 locs1 → lv_has ls1 7 (LLv b φ' i) → cells1 ≤ cells + 10 → slots1 ≤ slots + 100 → W p l e room_1 s m #[Value.ref b] below meth c H1 locs1 cells1 slots1 Q (F0 m 1956 ls1 []) := by
        intro φ' ρ' μ' H1 locs1 cells1 slots1 ls1 J1 l1 k1 k2
        have i6 : i32 (i + 6) := by unfold i32; omega
        refine lv_iinc (nL := 7) (k := 0) (v := Int32.ofInt (i + 6)) (lv' := LLv b φ' (i + 6)) R.1 R.2.1 dL_law_1956 l1 rfl (by rw [q_add, w32_id i6]) (by decide) rfl (fun ls2 l2 => ?_)
        refine lv_goto (tgt := 23) R.1 R.2.1 dL_law_1959 rfl ?_
        exact ih (i + 6) φ' ρ' μ' H1 locs1 cells1 slots1 ls2 (by omega) (by omega) (by omega) J1 l2 (by omega) (by omega)
      have hb := and63 (xs (Int32.ofInt i).toNatClampNeg)
      generalize xs (Int32.ofInt i).toNatClampNeg &&& 63 = x at hb
      by_cases h55 : x.toInt < 55
      · exact l_disp h53 nx C J hl hi hL ⟨by omega, by omega⟩ x.toInt.toNat (by omega) x (by omega)
      · refine lv_tableOut (tgt := 1956) R.1 R.2.1 dL_law_40 (Or.inr (by omega)) rfl ?_
        exact nx φ ρ μ H locs cells slots ls J hl (by omega) (by omega)
end LAWL
