/-! ===== the law's cases with a truth value ===== -/
noncomputable def bz (xs : Nat → Int32) (j : Int) : Int := if xI xs j = 0 then 0 else 1
theorem bz_i {xs : Nat → Int32} {j : Int} : i32 (bz xs j) := by unfold bz i32; split <;> omega
def BD (pc : Nat) (k : Int) : Prop := AD pc k ∧ decode cL_law (pc + 6) = .ok (.ifCond .eq 7, 3) ∧ decode cL_law (pc + 6 + 3) = .ok (.iconst 1, 1) ∧ decode cL_law (pc + 6 + 3 + 1) = .ok (.goto 4, 3) ∧ decode cL_law (pc + 13) = .ok (.iconst 0, 1)
section LAWB
variable {p : Program} {l : Launch} {e : Env} {s : State} {m : MethodId} {b L : Nat} {xs : Nat → Int32} {below : List Frame} {meth : Method} {c : Code} {D : va_G} {cA : Nat → ClassId} {ad : Nat × Nat} {Q : State → Prop} {φ : Nat → Nat} {ρ : Rf} {μ : Mem} {H : Heap} {locs : List Loc} {cells slots : Nat} {ls : Array Slot} {st : List Value} {pc : Nat} {i : Int}
theorem l_boo (k : Int) (C : LC p s m b L xs c D cA ad) (hl : lv_has ls 7 (LLv b φ i)) (hS : va_S (LA s) s.heap H locs) (hi : 0 ≤ i) (hk : 0 ≤ k ∧ k ≤ 5) (hL : i + k < L) (hd : BD pc k)
    (kk : W p l e room_1 s m #[Value.ref b] below meth c H locs cells slots Q (F0 m (pc + 14) ls (.int (Int32.ofInt (bz xs (i + k))) :: st))) : W p l e room_1 s m #[Value.ref b] below meth c H locs cells slots Q (F0 m pc ls st) := by
  obtain ⟨⟨d0, d1, d2, d3, d4⟩, e1, e2, e3, e4⟩ := hd
  have R := C.1
  refine l_arg k C (lv_at hl 4 rfl) (lv_at hl 0 rfl) hS hi hk hL d0 d1 d2 d3 d4 ?_
  have x0 := q_eq (a := xI xs (i + k)) (b := 0) xI_i i32_0
  refine lv_if_eq (tgt := pc + 13) R.1 R.2.1 e1 (by omega) (fun h => ?_) (fun h => ?_)
  · have hz : xI xs (i + k) = 0 := x0.mp h
    refine lv_iconst R.1 R.2.1 e4 rfl ?_
    unfold bz at kk
    rw [if_pos hz] at kk
    exact kk
  · have hz : ¬ xI xs (i + k) = 0 := fun y => h (x0.mpr y)
    refine lv_iconst R.1 R.2.1 e2 rfl ?_
    refine lv_goto (tgt := pc + 14) R.1 R.2.1 e3 (by omega) ?_
    unfold bz at kk
    rw [if_neg hz] at kk
    exact kk
theorem l_caseB (n : Nat) {mc mm : MI} {ixc ixm : Nat} {P : Nat} {k off : Int} (hN : (∀ (φ' : Nat → Nat) (ρ' : Rf) (μ' : Mem) (H1 : Heap) (locs1 : List Loc), LJ s D cA φ' ρ' μ' H1 locs1 → lv_has ls 7 (LLv b φ' i) → W p l e room_1 s m #[Value.ref b] below meth c H1 locs1 cells slots Q (F0 m 1956 ls []))) (C : LC p s m b L xs c D cA ad) (J : LJ s D cA φ ρ μ H locs) (hl : lv_has ls 7 (LLv b φ i)) (hi : 0 ≤ i) (hL : i + 5 < L) (hcap : cells ≤ room_1.cells ∧ slots ≤ room_1.slots) (hn : n ≤ 4) (h0 : k = n + 1) (hk : mc.2.2.2.1 = 2 ∧ mm.2.2.2.1 = 2) (pr : PAIR mc mm (ar xs i 1 n ++ [qI (bz xs (i + k))])) (hcc : CM RL ixc 7 (n + 1) mc) (hcm : CM RL ixm 8 (n + 1) mm) (hrc : LR mc) (hrm : LR mm)
    (d1 : decode cL_law P = .ok (.aload_n 1, 1)) (a1 : ADs (P + 1) 1 n) (b1 : BD (P + 1 + 6 * n) k) (d2 : decode cL_law (P + 1 + 6 * n + 14) = .ok (.invokevirtual ixc, 3)) (d3 : decode cL_law (P + 1 + 6 * n + 14 + 3) = .ok (.aload_n 2, 1)) (a2 : ADs (P + 1 + 6 * n + 14 + 3 + 1) 1 n) (b2 : BD (P + 1 + 6 * n + 14 + 3 + 1 + 6 * n) k) (d4 : decode cL_law (P + 1 + 6 * n + 14 + 3 + 1 + 6 * n + 14) = .ok (.invokevirtual ixm, 3)) (d5 : decode cL_law (P + 1 + 6 * n + 14 + 3 + 1 + 6 * n + 14 + 3) = .ok (.lcmp, 1)) (d6 : decode cL_law (P + 1 + 6 * n + 14 + 3 + 1 + 6 * n + 14 + 3 + 1) = .ok (.ifCond .eq off, 3)) (ht : ((P + 1 + 6 * n + 14 + 3 + 1 + 6 * n + 14 + 3 + 1 : Nat) : Int) + off = (1956 : Nat)) :
    W p l e room_1 s m #[Value.ref b] below meth c H locs cells slots Q (F0 m P ls []) := by
  have R := C.1
  have hst : ∀ (φ : Nat → Nat) (st : List Value), .int (Int32.ofInt (bz xs (i + k))) :: (((ar xs i 1 n).map (vlf φ)).reverse ++ st) = ((ar xs i 1 n ++ [qI (bz xs (i + k))]).map (vlf φ)).reverse ++ st := fun φ st => by
    rw [List.map_append, List.reverse_append]
    rfl
  have hok : okS GG.2.length (ar xs i 1 n ++ [qI (bz xs (i + k))]) := fun v hv => by
    rcases List.mem_append.mp hv with h | h
    · exact ar_ok n 1 v h
    · rw [List.mem_singleton.mp h]; exact bz_i
  refine lv_aload_n R.1 R.2.1 d1 rfl (lv_at hl 3 rfl) ?_
  refine l_args C hl J.1.2.2.2 hi hL n 1 (P + 1) _ (by omega) (by omega) a1 ?_
  refine l_boo k C hl J.1.2.2.2 hi (by omega) (by omega) b1 ?_
  rw [hst]
  refine l_pair hk C J pr hcc hcm hrc hrm hok (by rw [List.length_append, ar_len]; rfl) hl.1 hcap d2 d4 (fun φ1 H1 locs1 z f1 s1 z1 h => ?_) (fun φ1 ρ1 μ1 H1 locs1 z f1 j1 z1 => ?_)
  · have hl1 : lv_has ls 7 (LLv b φ1 i) := by rw [LLv_eq f1]; exact hl
    refine lv_aload_n R.1 R.2.1 d3 rfl (lv_at hl1 2 rfl) ?_
    refine l_args C hl1 s1 hi hL n 1 _ _ (by omega) (by omega) a2 ?_
    refine l_boo k C hl1 s1 hi (by omega) (by omega) b2 ?_
    rw [hst]
    exact h
  · have e0 : lg_cmp (Int64.ofInt z) (Int64.ofInt z) = Int32.ofInt 0 := by
      rw [cmpL_eq z1 z1, cmpL_eq0.mpr rfl]
    refine W.lcmp R.1 R.2.1 d5 ?_
    rw [e0]
    refine lv_if_eq (tgt := 1956) R.1 R.2.1 d6 ht (fun _ => ?_) (fun h => absurd rfl h)
    exact hN φ1 ρ1 μ1 H1 locs1 j1 (by rw [LLv_eq f1]; exact hl)
theorem lw_31 (hN : (∀ (φ' : Nat → Nat) (ρ' : Rf) (μ' : Mem) (H1 : Heap) (locs1 : List Loc), LJ s D cA φ' ρ' μ' H1 locs1 → lv_has ls 7 (LLv b φ' i) → W p l e room_1 s m #[Value.ref b] below meth c H1 locs1 cells slots Q (F0 m 1956 ls []))) (C : LC p s m b L xs c D cA ad) (J : LJ s D cA φ ρ μ H locs) (hl : lv_has ls 7 (LLv b φ i)) (hi : 0 ≤ i) (hL : i + 5 < L) (hcap : cells ≤ room_1.cells ∧ slots ≤ room_1.slots) : W p l e room_1 s m #[Value.ref b] below meth c H locs cells slots Q (F0 m 1207 ls []) :=
  l_caseB 2 hN C J hl hi hL hcap (by decide) rfl ⟨rfl, rfl⟩ pr_coverage cmL_147 cmL_151 lr_X7_coverage lr_X8_coverage dL_law_1207 ⟨aL_1208, aL_1214, trivial⟩ ⟨aL_1220, dL_law_1226, dL_law_1229, dL_law_1230, dL_law_1233⟩ dL_law_1234 dL_law_1237 ⟨aL_1238, aL_1244, trivial⟩ ⟨aL_1250, dL_law_1256, dL_law_1259, dL_law_1260, dL_law_1263⟩ dL_law_1264 dL_law_1267 dL_law_1268 (by decide)
theorem lw_32 (hN : (∀ (φ' : Nat → Nat) (ρ' : Rf) (μ' : Mem) (H1 : Heap) (locs1 : List Loc), LJ s D cA φ' ρ' μ' H1 locs1 → lv_has ls 7 (LLv b φ' i) → W p l e room_1 s m #[Value.ref b] below meth c H1 locs1 cells slots Q (F0 m 1956 ls []))) (C : LC p s m b L xs c D cA ad) (J : LJ s D cA φ ρ μ H locs) (hl : lv_has ls 7 (LLv b φ i)) (hi : 0 ≤ i) (hL : i + 5 < L) (hcap : cells ≤ room_1.cells ∧ slots ≤ room_1.slots) : W p l e room_1 s m #[Value.ref b] below meth c H locs cells slots Q (F0 m 1273 ls []) :=
  l_caseB 1 hN C J hl hi hL hcap (by decide) rfl ⟨rfl, rfl⟩ pr_leastCoverage cmL_152 cmL_156 lr_X7_leastCoverage lr_X8_leastCoverage dL_law_1273 ⟨aL_1274, trivial⟩ ⟨aL_1280, dL_law_1286, dL_law_1289, dL_law_1290, dL_law_1293⟩ dL_law_1294 dL_law_1297 ⟨aL_1298, trivial⟩ ⟨aL_1304, dL_law_1310, dL_law_1313, dL_law_1314, dL_law_1317⟩ dL_law_1318 dL_law_1321 dL_law_1322 (by decide)
end LAWB
