/-! ===== the law from its entry to its loop ===== -/
theorem ciL_15 : CIn RL 15 mX7_init := ⟨kM_L_15, rfl, kI_X7_init, kZ_X7, kC_X7_init, ⟨by decide +kernel, by decide +kernel⟩, by decide +kernel, rfl⟩
theorem ciL_18 : CIn RL 18 mX8_init := ⟨kM_L_18, rfl, kI_X8_init, kZ_X8, kC_X8_init, ⟨by decide +kernel, by decide +kernel⟩, by decide +kernel, rfl⟩
section LENT
variable {p : Program} {l : Launch} {e : Env} {s : State} {m : MethodId} {b L : Nat} {xs : Nat → Int32} {below : List Frame} {meth : Method} {c : Code} {D : va_G} {cA : Nat → ClassId} {ad : Nat × Nat} {Q : State → Prop}
def s7 : List Sh := (7, 0) :: al7
set_option maxRecDepth 100000 in
theorem s7_len : s7.length = 178 := rfl
def s8 : List Sh := (s7 ++ [(8, 0)]) ++ al8
set_option maxRecDepth 100000 in
theorem s8_len : s8.length = 208 := rfl
set_option maxRecDepth 100000 in
theorem SH_8 : SH = s8 ++ [(11, 1)] := rfl
set_option maxRecDepth 100000 in
theorem LY_SH {ρ2 ρ3 : Rf} (y : LY 0 ((7, 0) :: al7) ρ2) (h : ρ3 = upsF 178 fl8 ρ2) : Lay SH ρ3 := by
  obtain ⟨y8, f8⟩ := ly8 h
  have a : LY 0 ((((7, 0) :: al7) ++ ((8, 0) :: al8)) ++ [(11, 1)]) ρ3 := by
    refine LY.app (LY.app (LY.fr y (fun a a0 a1 => f8 a ?_)) y8) (LY.ar (by decide))
    have a1 : a < 0 + 178 := a1
    omega
  rw [← SH_eq] at a
  intro o sh h k off hk
  have := a o sh h k off hk
  rw [Nat.zero_add] at this
  exact this
set_option maxRecDepth 100000 in
set_option maxHeartbeats 4000000 in
theorem l_entry (C : LC p s m b L xs c D cA ad) {ls : Array Slot} (hl : lv_has ls 7 [(0, .ref b)]) (hN : ∀ (φ : Nat → Nat) (ρ : Rf) (μ : Mem) (H : Heap) (locs : List Loc) (cells slots : Nat) (ls : Array Slot), LJ s D cA φ ρ μ H locs → lv_has ls 7 (LLv b φ 0) → cells ≤ 1000 → slots ≤ 10000 → W p l e room_1 s m #[Value.ref b] below meth c H locs cells slots Q (F0 m 23 ls [])) : W p l e room_1 s m #[Value.ref b] below meth c s.heap [] 0 0 Q (F0 m 0 ls []) := by
  have R := C.1
  have hml := C.2.1
  have M0 : MOk (false, ([] : List Sh)) (fun _ _ => nid) (fun _ _ => 0) := ⟨by show 0 < nid; unfold nid; omega, fun o sh h => (by cases h), fun h => (by cases h), fun o _ k => ⟨rfl, rfl⟩⟩
  have P0 : va_P D vwCl (wsOf (fun _ => 0) cA [] (fun _ _ => nid) (fun _ _ => 0)) s.heap := fun k q h => by cases h
  have D0 : va_D (LA s) (wsOf (fun _ => 0) cA [] (fun _ _ => nid) (fun _ _ => 0)) := ⟨fun i j p q h => (by cases h), fun k q h => (by cases h)⟩
  refine w_new (G := (false, [])) R 7 dL_law_0 rfl kL_L_8 kN_X7 kZ_X7 rfl (by show 0 + 1 < nid; unfold nid; omega) (by decide) M0 P0 D0 va_S.rf (fun φ1 H1 f1 m1 p1 d1 s1 => ?_)
  refine lv_dup R.1 R.2.1 dL_law_3 rfl ?_
  refine w_callI (G := (false, [(7, 0)])) (Gc := (false, (7, 0) :: al7)) (o := 0) (sh := (7, 0)) (φ := φ1) R ciL_15 ct_X7 rfl (by decide) (hl.1.trans hml.symm) (by show (1 : Nat) ≤ 8; decide) (by decide) dL_law_4 m1 p1 d1 s1 (fun φ2 ρ2 μ2 H2 locs2 q2 f2 m2 p2 d2 s2 => ?_)
  obtain ⟨y2, ⟨z8, z9, z5, z6, zh⟩, rfl⟩ := q2
  refine lv_astore_n (lv' := [(1, .ref (φ1 0)), (0, .ref b)]) R.1 R.2.1 dL_law_7 rfl hl (by decide) rfl (fun ls hl => ?_)
  have e0 : φ2 0 = φ1 0 := f2 0 (by decide)
  rw [← e0] at hl
  refine w_new (G := (false, s7)) (φ := φ2) R 8 dL_law_8 rfl kL_L_16 kN_X8 kZ_X8 rfl (by rw [s7_len]; unfold nid; omega) (by decide) m2 p2 d2 s2 (fun φ3 H3 f3 m3 p3 d3 s3 => ?_)
  refine lv_dup R.1 R.2.1 dL_law_11 rfl ?_
  refine w_callI (G := (false, s7 ++ [(8, 0)])) (Gc := (false, s8)) (o := s7.length) (sh := (8, 0)) (φ := φ3) R ciL_18 (ct_X8 (S := s7) (by rw [s7_len]; omega)) rfl (by decide) (hl.1.trans hml.symm) (by show (1 : Nat) ≤ 8; decide) (by decide) dL_law_12 m3 p3 d3 s3 (fun φ4 ρ4 μ4 H4 locs4 q4 f4 m4 p4 d4 s4 => ?_)
  obtain ⟨r4, rfl⟩ := q4
  refine lv_astore_n (lv' := [(2, .ref (φ3 178)), (1, .ref (φ2 0)), (0, .ref b)]) R.1 R.2.1 dL_law_15 rfl hl (by decide) rfl (fun ls hl => ?_)
  have e1 : φ4 178 = φ3 178 := f4 178 (by decide)
  have e2 : φ4 0 = φ2 0 := (f4 0 (by decide)).trans (f3 0 (by decide))
  rw [← e1, ← e2] at hl
  refine lv_iconst R.1 R.2.1 dL_law_16 rfl ?_
  refine w_newJ (G := (false, s8)) (φ := φ4) R 1 (by unfold i32; omega) dL_law_17 rfl (by decide) rfl (by rw [s8_len]; unfold nid; omega) (by decide) m4 p4 d4 s4 (fun φ5 H5 f5 m5 p5 d5 s5 => ?_)
  refine lv_astore_n (lv' := [(3, .ref (φ5 208)), (2, .ref (φ4 178)), (1, .ref (φ4 0)), (0, .ref b)]) R.1 R.2.1 dL_law_19 rfl hl (by decide) rfl (fun ls hl => ?_)
  have e3 : φ5 178 = φ4 178 := f5 178 (by decide)
  have e4 : φ5 0 = φ4 0 := f5 0 (by decide)
  rw [← e3, ← e4] at hl
  refine lv_iconst R.1 R.2.1 dL_law_20 rfl ?_
  refine lv_istore (lv' := LLv b φ5 0) R.1 R.2.1 dL_law_21 hl (by decide) rfl (fun ls hl => ?_)
  have hlay := LY_SH y2 r4
  have g8 : ∀ a, a < 178 → ρ4 a = ρ2 a := (ly8 r4).2
  have m5' : MOk GG ρ4 (up2 (up2 (fun _ _ => 0) 1 ((4 : Nat) : Int) (-1)) s7.length ((7 : Nat) : Int) (-1)) := ⟨m5.1, m5.2.1, fun _ => hlay, m5.2.2.2⟩
  refine hN φ5 ρ4 mem0 H5 locs4 _ _ ls ⟨⟨m5', p5, d5, s5⟩, sg0, sg0_SI, sg0_CI ?_ ?_ ?_ ?_ (fun j hj => ?_), sg0_MJ⟩ hl (by decide) (by decide)
  · rw [g8 0 (by decide)]; exact z8
  · rw [g8 0 (by decide)]; exact z9
  · rw [g8 1 (by decide)]; exact z5
  · rw [g8 1 (by decide)]; exact z6
  · rw [g8 70 (by decide)]; exact zh j hj
end LENT
