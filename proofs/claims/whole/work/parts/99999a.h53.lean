/-! ===== the law's case of served ===== -/
theorem q_thrown {ρ : Rf} {μ : Mem} : qE mX8_thrown GG GG [qP 178] ρ μ (fun z ρ' μ' => z = μ 178 0 ∧ ρ' = ρ ∧ μ' = μ) := by
  refine e_X8_thrown ?_
  exact ⟨rfl, rfl, rfl⟩
theorem cmL_242 : CM RL 242 8 1 mX8_served := ⟨(RX8, TX8, 50), rfl, kM_L_242, kI_X8_served, kS_X8_served, kZ_X8, kC_X8_served, ⟨by decide +kernel, by decide +kernel⟩, by decide +kernel⟩
theorem cmL_243 : CM RL 243 8 0 mX8_thrown := ⟨(RX8, TX8, 50), rfl, kM_L_243, kI_X8_thrown, kS_X8_thrown, kZ_X8, kC_X8_thrown, ⟨by decide +kernel, by decide +kernel⟩, by decide +kernel⟩
theorem kW_L_served : Cond.codeWith yL_served cL_served 4 (some .int) [(0, 9, 12, 13)] ∈ Wd := List.mem_filter.mpr ⟨by decide +kernel, by decide +kernel⟩
theorem aL_1901 : AD 1901 1 := ⟨dL_law_1901, dL_law_1902, dL_law_1904, dL_law_1905, dL_law_1906⟩
section L53
variable {p : Program} {l : Launch} {e : Env} {s : State} {m : MethodId} {b L : Nat} {xs : Nat → Int32} {below : List Frame} {meth : Method} {c : Code} {D : va_G} {cA : Nat → ClassId} {ad : Nat × Nat} {Q : State → Prop}
set_option maxRecDepth 100000 in
set_option maxHeartbeats 4000000 in
theorem l_53 (hfl : l.stackTraces = false) (hZ : XZ (LA s) s s.heap) (C : LC p s m b L xs c D cA ad) : ∀ (i : Int) (φ : Nat → Nat) (ρ : Rf) (μ : Mem) (H : Heap) (locs : List Loc) (cells slots : Nat) (ls : Array Slot), LJ s D cA φ ρ μ H locs → lv_has ls 7 (LLv b φ i) → 0 ≤ i → i + 5 < L → (cells + 20 ≤ room_1.cells ∧ slots + 200 ≤ room_1.slots) → (∀ (φ' : Nat → Nat) (ρ' : Rf) (μ' : Mem) (H1 : Heap) (locs1 : List Loc) (cells1 slots1 : Nat) (ls1 : Array Slot), LJ s D cA φ' ρ' μ' H1 locs1 → lv_has ls1 7 (LLv b φ' i) → cells1 ≤ cells + 10 → slots1 ≤ slots + 100 → W p l e room_1 s m #[Value.ref b] below meth c H1 locs1 cells1 slots1 Q (F0 m 1956 ls1 [])) → W p l e room_1 s m #[Value.ref b] below meth c H locs cells slots Q (F0 m 1887 ls []) := by
  intro i φ ρ μ H locs cells slots ls J hl hi hL hcap hN
  have R := C.1
  have hml := C.2.1
  have rc : room_1.cells = 601024 := rfl
  have rs : room_1.slots = 7293034 := rfl
  obtain ⟨⟨hM, hP, hD, hS⟩, σ, sS, sC, sM⟩ := J
  have hF := AofH_in hD R.2.2.2.2.2.2 hS
  refine lv_aload_n R.1 R.2.1 dL_law_1887 rfl (lv_at hl 3 rfl) ?_
  refine l_args C hl hS hi hL 1 1 1888 _ (by omega) (by omega) ⟨aL_1888, trivial⟩ ?_
  refine lv_aload_n R.1 R.2.1 dL_law_1894 rfl (lv_at hl 1 rfl) ?_
  have hv0 : vlf φ (qP 0) = .ref (φ 0) := vlf_P hM sh0
  have hv8 : vlf φ (qP 208) = .ref (φ 208) := vlf_P hM sh208
  have hpre : PreS s H (fun a U => PcX [qP 0, qI (xI xs (i + 1)), qP 208] GG ρ μ D cA ad φ H.size a U ∧ XZ (va_A (wsOf φ cA GG.2 ρ μ) H.size) U U.heap) [.ref (φ 0), .int (Int32.ofInt (xI xs (i + 1))), .ref (φ 208)] := by
    refine ⟨fun a U g mk q => ⟨PcX_blind a U g mk q.1, XZ.moved (s := U) (U := U.calling g mk a) (State.WarmedH.refl U) (fun _ h => h) q.2⟩, fun U hU hW => ⟨?_, ?_⟩⟩
    · have h1 := RC_pre (as := [.ref (φ 0), .int (Int32.ofInt (xI xs (i + 1))), .ref (φ 208)]) R hP hD hS U hU hW
      show PcX [qP 0, qI (xI xs (i + 1)), qP 208] GG ρ μ D cA ad φ H.size _ U
      unfold PcX
      rw [List.map_cons, List.map_cons, List.map_cons, hv0, hv8]
      exact h1
    · rw [hU]
      exact XZ.moved hW hF (hZ.kept hS.2.1)
  have hcs := c_served (i := xI xs (i + 1)) xI_i hM sC sS l hfl D cA ad φ H.size
  refine w_after (k := 1) R.2.2.2.2.2.2 hD hS (vx_runSW (As := [.ref (φ 0), .int (Int32.ofInt (xI xs (i + 1))), .ref (φ 208)]) (own := RL) (n := 3) (rest := []) ⟨R.1, R.2.1, rfl, R.2.2.1, R.2.2.2.1⟩ hcs ⟨⟨rfl, rfl, by decide, by decide, pay_in R.2.2.2.1 (fun w hw => ?_), List.mem_cons_self⟩, R.2.2.2.1 _ kW_L_served, R.2.2.2.1 _ kZ_L, ⟨by decide +kernel, by decide +kernel⟩, na_of (by decide +kernel), R.2.2.2.1 _ kM_L_237, R.2.2.2.1 _ kT_L_served⟩ hpre rfl rfl (hl.1.trans hml.symm) rfl (lv_room (by show (0 : Nat) ≤ 8; decide)) dL_law_1895 ⟨by omega, by omega⟩) ?_
  · rcases List.mem_cons.mp hw with e | e
    · subst e; exact ⟨kW_L_served, good_of_word (Wd_good kW_L_served)⟩
    · exact ⟨e, good_of_word (Wd_good e)⟩
  intro z φ1 ρ1 μ1 H1 locs1 p1 z1 f1 m1 P1 D1 S1
  obtain ⟨rfl, q1⟩ := p1
  have sC1 : CI ρ1 μ1 σ := by
    rcases q1 with ⟨_, _, e⟩ | ⟨_, _, e⟩
    · rw [e]; exact sC
    · rw [e]; exact sC.fr sS (fun a ha => up2_c (by omega))
  have sM1 : MJ μ1 σ := by
    rcases q1 with ⟨_, _, e⟩ | ⟨_, _, e⟩
    · rw [e]; exact sM
    · rw [e]; exact sM.cell (Or.inl (by decide))
  have hz : (svd σ (xI xs (i + 1)) = -1 ∧ z = 1) ∨ (0 ≤ svd σ (xI xs (i + 1)) ∧ z = 0 ∧ μ1 208 0 = svd σ (xI xs (i + 1))) := by
    rcases q1 with ⟨v, e1, e⟩ | ⟨v, e1, e⟩
    · exact Or.inl ⟨v, e1⟩
    · exact Or.inr ⟨v, e1, by rw [e, up2_s]⟩
  refine lv_istore (lv' := (5, .int (Int32.ofInt z)) :: LLv b φ i) R.1 R.2.1 dL_law_1898 hl (by decide) rfl (fun ls hl => ?_)
  have hl : lv_has ls 7 ((5, .int (Int32.ofInt z)) :: LLv b φ1 i) := by rw [LLv_eq f1]; exact hl
  refine lv_aload_n R.1 R.2.1 dL_law_1900 rfl (lv_at hl 3 rfl) ?_
  refine l_args C (lv_sub hl [1, 2, 3, 4, 5] rfl) S1 hi hL 1 1 1901 _ (by omega) (by omega) ⟨aL_1901, trivial⟩ ?_
  refine l_call (Mc := mX8_served) (as := ar xs i 1 1) (o := 178) (st := []) (φ := φ1) C cmL_242 (q_served xI_i.2 sM1 sS) sh178 (ar_ok 1 1) rfl (by decide) ⟨rfl, rfl⟩ hl.1 (by show (0 : Nat) ≤ 8; decide) ⟨by omega, by omega⟩ rfl dL_law_1907 ⟨m1, P1, D1, S1⟩ (fun z2 φ2 ρ2 μ2 H2 locs2 p2 y2 f2 m2 => ?_)
  obtain ⟨rfl, sM2, fr2, o2⟩ := p2
  refine lv_istore (lv' := (6, .int (Int32.ofInt z2)) :: (5, .int (Int32.ofInt z)) :: LLv b φ1 i) R.1 R.2.1 dL_law_1910 hl (by decide) rfl (fun ls hl => ?_)
  have hl : lv_has ls 7 ((6, .int (Int32.ofInt z2)) :: (5, .int (Int32.ofInt z)) :: LLv b φ2 i) := by rw [LLv_eq f2]; exact hl
  refine lv_aload_n R.1 R.2.1 dL_law_1912 rfl (lv_at hl 4 rfl) ?_
  refine l_call (Mc := mX8_thrown) (as := []) (o := 178) (st := []) (φ := φ2) C cmL_243 q_thrown sh178 (fun _ h => nomatch h) rfl (by decide) ⟨rfl, rfl⟩ hl.1 (by show (0 : Nat) ≤ 8; decide) ⟨by omega, by omega⟩ rfl dL_law_1913 m2 (fun z3 φ3 ρ3 μ3 H3 locs3 p3 y3 f3 m3 => ?_)
  obtain ⟨hz3, rfl, rfl⟩ := p3
  have hl : lv_has ls 7 ((6, .int (Int32.ofInt z2)) :: (5, .int (Int32.ofInt z)) :: LLv b φ3 i) := by rw [LLv_eq f3]; exact hl
  have e208 : μ3 208 = μ1 208 := fr2 208 (by omega)
  have e3z : z3 = z := by omega
  have i1 : i32 z := z1
  have y2 : i32 z2 := y2
  have fin : W p l e room_1 s m #[Value.ref b] below meth c H3 locs3 (cells + 1) (slots + 6) Q (F0 m 1940 ls []) := by
    refine lv_goto (tgt := 1956) R.1 R.2.1 dL_law_1940 rfl ?_
    exact hN φ3 _ μ3 H3 locs3 _ _ ls ⟨m3, σ, sS, sC1.fr sS (fun a ha => fr2 a (by omega)), sM2⟩ (lv_sub hl [2, 3, 4, 5, 6] rfl) (by omega) (by omega)
  refine lv_iload R.1 R.2.1 dL_law_1916 (lv_at hl 1 rfl) ?_
  refine lv_icmp_eq (tgt := 1923) R.1 R.2.1 dL_law_1918 rfl (fun _ => ?_) (fun hc => absurd (by rw [e3z]) hc)
  refine lv_iload R.1 R.2.1 dL_law_1923 (lv_at hl 1 rfl) ?_
  refine lv_if_ne (tgt := 1940) R.1 R.2.1 dL_law_1925 rfl (fun _ => fin) (fun he => ?_)
  have z0 : z = 0 := (q_eq i1 i32_0).mp he
  refine lv_aload_n R.1 R.2.1 dL_law_1928 rfl (lv_at hl 3 rfl) ?_
  refine lv_iconst R.1 R.2.1 dL_law_1929 rfl ?_
  refine w_lald R (a := 208) (n := 1) (i := 0) i32_0 dL_law_1930 sh208 ⟨by decide, by decide⟩ m3.2.1 ?_
  refine lv_iload R.1 R.2.1 dL_law_1931 (lv_at hl 0 rfl) ?_
  refine lv_i2l (v := Int64.ofInt z2) R.1 R.2.1 dL_law_1933 (q_i2l y2) ?_
  have e2 : μ3 208 0 = z2 := by rw [e208]; omega
  have h64 : i64 z2 := by unfold i32 at y2; unfold i64; omega
  rw [e2]
  have e0 : lg_cmp (Int64.ofInt z2) (Int64.ofInt z2) = Int32.ofInt 0 := by
    rw [cmpL_eq h64 h64, cmpL_eq0.mpr rfl]
  refine W.lcmp R.1 R.2.1 dL_law_1934 ?_
  rw [e0]
  exact lv_if_eq (tgt := 1940) R.1 R.2.1 dL_law_1935 rfl (fun _ => fin) (fun h => absurd rfl h)
end L53
