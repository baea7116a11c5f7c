/-! ===== one turn of the law's loop ===== -/
theorem CI.fr {ρ : Rf} {μ μ' : Mem} {σ : Sg} (h : CI ρ μ σ) (hS : SI σ) (hm : ∀ a, a < 178 → μ' a = μ a) : CI ρ μ' σ := by
  obtain ⟨g1, g2, g3, g4, g5, g6, g7, g8, g9, g10⟩ := h
  have cf : (ρ 0 8 = 155 ∧ ρ 0 9 = 171 ∧ ρ 1 5 = 4 ∧ ρ 1 6 = 20) ∨ (ρ 0 8 = 4 ∧ ρ 0 9 = 20 ∧ ρ 1 5 = 155 ∧ ρ 1 6 = 171) := g1
  unfold CI
  rw [hm 0 (by decide), hm 1 (by decide), hm 2 (by decide)]
  refine ⟨g1, g2, g3, g4, g5, g6, g7, g8, g9, fun hp => ?_⟩
  obtain ⟨d1, d2, d3, d4, d5⟩ := g10 hp
  refine ⟨d1.ag (fun a x y => hm a (by omega)), d2.ag (fun a x y => hm a (by omega)), ?_, ⟨by rw [hm 69 (by decide)]; exact d4.1, fun i i0 i1 => ?_⟩, fun hq => (d5 hq).ag (fun a x y => hm a (by omega))⟩
  · unfold RP CJ
    rw [hm (27 + 1) (by omega), hm (27 + 2) (by omega), hm (27 + 3) (by omega), hm (27 + 4) (by omega), hm (27 + 5) (by omega), hm (27 + 6) (by omega), hm (27 + 7) (by omega), hm (27 + 8) (by omega), hm (27 + 9) (by omega), hm 27 (by omega)]
    exact d3
  · have q := g2.1 i i0 (by have := hS.2.2.2.2.2.1; omega)
    exact (d4.2 i i0 i1).ag (fun a x y => hm a (by omega))
theorem MJ.ff {μ μ' : Mem} {σ : Sg} (h : MJ μ σ) (hm : ∀ a, 178 ≤ a → μ' a = μ a) : MJ μ' σ :=
  h.fr (hm 179 (by decide)) (hm 180 (by decide)) (hm 182 (by decide)) (hm 183 (by decide)) (fun k _ _ _ _ _ _ _ _ _ _ _ => by rw [hm 178 (by decide)])
def PAIR (mc mm : MI) (as : List AV) : Prop := ∀ σ, SI σ → ∃ (v : Mem → Int) (σ' : Sg), (∀ ρ μ, CI ρ μ σ → qE mc GG GG (qP 0 :: as) ρ μ (PC μ ρ v σ')) ∧ (∀ ρ μ, MJ μ σ → qE mm GG GG (qP 178 :: as) ρ μ (PM μ ρ v σ')) ∧ SI σ'
def LJ (s : State) (D : va_G) (cA : Nat → ClassId) (φ : Nat → Nat) (ρ : Rf) (μ : Mem) (H : Heap) (locs : List Loc) : Prop := LM s D cA φ ρ μ H locs ∧ ∃ σ, SI σ ∧ CI ρ μ σ ∧ MJ μ σ
theorem LLv_eq {b : Nat} {φ φ' : Nat → Nat} {i : Int} (h : ∀ j, j < GG.2.length → φ' j = φ j) : LLv b φ' i = LLv b φ i := by
  unfold LLv
  rw [h 208 (List.getElem?_eq_some_iff.mp sh208).1, h 178 (List.getElem?_eq_some_iff.mp sh178).1, h 0 (List.getElem?_eq_some_iff.mp sh0).1]
section LAWC
variable {p : Program} {l : Launch} {e : Env} {s : State} {m : MethodId} {b L : Nat} {xs : Nat → Int32} {below : List Frame} {meth : Method} {c : Code} {D : va_G} {cA : Nat → ClassId} {ad : Nat × Nat} {Q : State → Prop} {φ : Nat → Nat} {ρ : Rf} {μ : Mem} {H : Heap} {locs : List Loc} {cells slots : Nat} {ls : Array Slot} {st : List Value} {pc : Nat}
def LR (Mc : MI) : Prop := (Mc.2.2.2.2.frames + 1 ≤ room_1.frames ∧ 8 + (Mc.2.2.1 + 11) + Mc.2.2.2.2.locals ≤ room_1.locals) ∧ Mc.2.2.2.2.cells = 0 ∧ Mc.2.2.2.2.slots = 0
theorem l_pair {mc mm : MI} {as : List AV} {ixc ixm na k : Nat} {pc2 : Nat} (hk : mc.2.2.2.1 = k ∧ mm.2.2.2.1 = k) (C : LC p s m b L xs c D cA ad) (J : LJ s D cA φ ρ μ H locs) (pr : PAIR mc mm as) (hcc : CM RL ixc 7 na mc) (hcm : CM RL ixm 8 na mm) (hrc : LR mc) (hrm : LR mm) (has : okS GG.2.length as) (hna : as.length = na) (hsz : ls.size = 7) (hcap : cells ≤ room_1.cells ∧ slots ≤ room_1.slots) (hd : decode cL_law pc = .ok (.invokevirtual ixc, 3)) (hd2 : decode cL_law pc2 = .ok (.invokevirtual ixm, 3))
    (mid : ∀ (φ' : Nat → Nat) (H1 : Heap) (locs1 : List Loc) (z : Int), (∀ j, j < GG.2.length → φ' j = φ j) → va_S (LA s) s.heap H1 locs1 → retOk k z → W p l e room_1 s m #[Value.ref b] below meth c H1 locs1 cells slots Q (F0 m pc2 ls ((as.map (vlf φ')).reverse ++ .ref (φ' 178) :: retV k z)) → W p l e room_1 s m #[Value.ref b] below meth c H1 locs1 cells slots Q (F0 m (pc + 3) ls (retV k z)))
    (fin : ∀ (φ' : Nat → Nat) (ρ' : Rf) (μ' : Mem) (H1 : Heap) (locs1 : List Loc) (z : Int), (∀ j, j < GG.2.length → φ' j = φ j) → LJ s D cA φ' ρ' μ' H1 locs1 → retOk k z → W p l e room_1 s m #[Value.ref b] below meth c H1 locs1 cells slots Q (F0 m (pc2 + 3) ls (retV k z ++ retV k z))) :
    W p l e room_1 s m #[Value.ref b] below meth c H locs cells slots Q (F0 m pc ls ((as.map (vlf φ)).reverse ++ [.ref (φ 0)])) := by
  obtain ⟨M0, σ, hS, hC, hJ⟩ := J
  obtain ⟨v, σ', e1, e2, e3⟩ := pr σ hS
  have hcat : ∀ z, ((retV k z).map fun v => v.category).sum ≤ 8 := fun z => by
    match k with
    | 0 => show (0 : Nat) ≤ 8; decide
    | 1 => show (1 : Nat) ≤ 8; decide
    | 2 => show (2 : Nat) ≤ 8; decide
    | k + 3 => show (1 : Nat) ≤ 8; decide
  refine l_call C hcc (e1 ρ μ hC) sh0 has hna hrc.1 hrc.2 hsz (by show (0 : Nat) ≤ 8; decide) hcap rfl hd M0 ?_
  intro z φ1 ρ1 μ1 H1 locs1 p1 z1 f1 m1
  obtain ⟨v1, c1, fr1, r1⟩ := p1
  have j1 : MJ μ1 σ := hJ.ff (fun a ha => fr1 a (by omega))
  rw [hk.1, List.append_nil]
  rw [hk.1] at z1
  refine mid φ1 H1 locs1 z f1 m1.2.2.2 z1 ?_
  refine l_call C hcm (e2 ρ1 μ1 j1) sh178 has hna hrm.1 hrm.2 hsz (hcat z) hcap rfl hd2 m1 ?_
  intro z' φ2 ρ2 μ2 H2 locs2 p2 z2 f2 m2
  obtain ⟨⟨J', v2⟩, rfl, j2, fr2⟩ := p2
  have ez : z' = z := by rw [v2, v1 J']
  subst ez
  rw [hk.2]
  exact fin φ2 ρ2 μ2 H2 locs2 z' (fun j hj => (f2 j hj).trans (f1 j hj)) ⟨m2, σ', e3, c1.fr e3 (fun a ha => fr2 a (by omega)), j2⟩ z1
theorem l_case (n : Nat) {mc mm : MI} {ixc ixm : Nat} {P : Nat} {i off : Int} (hN : (∀ (φ' : Nat → Nat) (ρ' : Rf) (μ' : Mem) (H1 : Heap) (locs1 : List Loc), LJ s D cA φ' ρ' μ' H1 locs1 → lv_has ls 7 (LLv b φ' i) → W p l e room_1 s m #[Value.ref b] below meth c H1 locs1 cells slots Q (F0 m 1956 ls []))) (C : LC p s m b L xs c D cA ad) (J : LJ s D cA φ ρ μ H locs) (hl : lv_has ls 7 (LLv b φ i)) (hi : 0 ≤ i) (hL : i + 5 < L) (hcap : cells ≤ room_1.cells ∧ slots ≤ room_1.slots) (hn : n ≤ 5) (hk : mc.2.2.2.1 = 1 ∧ mm.2.2.2.1 = 1) (pr : PAIR mc mm (ar xs i 1 n)) (hcc : CM RL ixc 7 n mc) (hcm : CM RL ixm 8 n mm) (hrc : LR mc) (hrm : LR mm)
    (d1 : decode cL_law P = .ok (.aload_n 1, 1)) (a1 : ADs (P + 1) 1 n) (d2 : decode cL_law (P + 1 + 6 * n) = .ok (.invokevirtual ixc, 3)) (d3 : decode cL_law (P + 1 + 6 * n + 3) = .ok (.aload_n 2, 1)) (a2 : ADs (P + 1 + 6 * n + 3 + 1) 1 n) (d4 : decode cL_law (P + 1 + 6 * n + 3 + 1 + 6 * n) = .ok (.invokevirtual ixm, 3)) (d5 : decode cL_law (P + 1 + 6 * n + 3 + 1 + 6 * n + 3) = .ok (.if_icmp .eq off, 3)) (ht : ((P + 1 + 6 * n + 3 + 1 + 6 * n + 3 : Nat) : Int) + off = (1956 : Nat)) :
    W p l e room_1 s m #[Value.ref b] below meth c H locs cells slots Q (F0 m P ls []) := by
  have R := C.1
  refine lv_aload_n R.1 R.2.1 d1 rfl (lv_at hl 3 rfl) ?_
  refine l_args C hl J.1.2.2.2 hi hL n 1 (P + 1) _ (by omega) (by omega) a1 ?_
  refine l_pair hk C J pr hcc hcm hrc hrm (ar_ok n 1) (ar_len n 1) hl.1 hcap d2 d4 (fun φ1 H1 locs1 z f1 s1 z1 h => ?_) (fun φ1 ρ1 μ1 H1 locs1 z f1 j1 z1 => ?_)
  · have hl1 : lv_has ls 7 (LLv b φ1 i) := by rw [LLv_eq f1]; exact hl
    refine lv_aload_n R.1 R.2.1 d3 rfl (lv_at hl1 2 rfl) ?_
    exact l_args C hl1 s1 hi hL n 1 _ _ (by omega) (by omega) a2 h
  · refine lv_icmp_eq (tgt := 1956) R.1 R.2.1 d5 ht (fun _ => ?_) (fun h => absurd rfl h)
    exact hN φ1 ρ1 μ1 H1 locs1 j1 (by rw [LLv_eq f1]; exact hl)
end LAWC
