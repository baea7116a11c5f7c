/-! ===== the law's walk: what holds between its calls ===== -/
def LA (s : State) : Nat → Prop := fun q => s.heap.size ≤ q
def LC (p : Program) (s : State) (m : MethodId) (b L : Nat) (xs : Nat → Int32) (c : Code) (D : va_G) (cA : Nat → ClassId) (ad : Nat × Nat) : Prop :=
  RC RL cL_law p s m #[Value.ref b] c D cA ad (LA s) ∧ c.maxLocals = 7 ∧ va_X b L xs s s.heap ∧ b < s.heap.size ∧ L ≤ 3072
def xI (xs : Nat → Int32) (j : Int) : Int := (xs j.toNat).toInt
theorem xI_i {xs : Nat → Int32} {j : Int} : i32 (xI xs j) := i32_toInt _
def LLv (b : Nat) (φ : Nat → Nat) (i : Int) : List (Nat × Value) := [(4, .int (Int32.ofInt i)), (3, .ref (φ 208)), (2, .ref (φ 178)), (1, .ref (φ 0)), (0, .ref b)]
def LM (s : State) (D : va_G) (cA : Nat → ClassId) (φ : Nat → Nat) (ρ : Rf) (μ : Mem) (H : Heap) (locs : List Loc) : Prop :=
  MOk GG ρ μ ∧ va_P D vwCl (wsOf φ cA GG.2 ρ μ) H ∧ va_D (LA s) (wsOf φ cA GG.2 ρ μ) ∧ va_S (LA s) s.heap H locs
section LAWM
variable {p : Program} {l : Launch} {e : Env} {s : State} {m : MethodId} {b L : Nat} {xs : Nat → Int32} {below : List Frame} {meth : Method} {c : Code} {D : va_G} {cA : Nat → ClassId} {ad : Nat × Nat} {Q : State → Prop} {φ : Nat → Nat} {ρ : Rf} {μ : Mem} {H : Heap} {locs : List Loc} {cells slots : Nat} {ls : Array Slot} {st : List Value} {pc : Nat}
theorem l_arg (k : Int) {i : Int} (C : LC p s m b L xs c D cA ad) (h0 : ls[0]? = some (.val (.ref b))) (h4 : ls[4]? = some (.val (.int (Int32.ofInt i)))) (hS : va_S (LA s) s.heap H locs) (hi : 0 ≤ i) (hk : 0 ≤ k ∧ k ≤ 5) (hL : i + k < L)
    (d0 : decode cL_law pc = .ok (.aload_n 0, 1)) (d1 : decode cL_law (pc + 1) = .ok (.iload 4, 2)) (d2 : decode cL_law (pc + 1 + 2) = .ok (.iconst k, 1)) (d3 : decode cL_law (pc + 1 + 2 + 1) = .ok (.iadd, 1)) (d4 : decode cL_law (pc + 1 + 2 + 1 + 1) = .ok (.iaload, 1))
    (kk : W p l e room_1 s m #[Value.ref b] below meth c H locs cells slots Q (F0 m (pc + 6) ls (.int (Int32.ofInt (xI xs (i + k))) :: st))) : W p l e room_1 s m #[Value.ref b] below meth c H locs cells slots Q (F0 m pc ls st) := by
  obtain ⟨R, hml, hX, hbl, hL2⟩ := C
  have hbA : ¬ LA s b := fun h => absurd hbl (Nat.not_lt.mpr h)
  refine lv_aload_n R.1 R.2.1 d0 rfl h0 ?_
  refine lv_iload R.1 R.2.1 d1 h4 ?_
  refine lv_iconst R.1 R.2.1 d2 rfl ?_
  refine lv_iadd R.1 R.2.1 d3 ?_
  have hik : i32 (i + k) := by unfold i32; omega
  have hw : w32 (i + k) = i + k := w32_id hik
  rw [q_add, hw]
  refine va_sld (i := Int32.ofInt (i + k)) R.1 R.2.1 hX hbl hbA hS (q_in (n := L) hik (by omega)) d4 ?_
  have e1 : (Int32.ofInt (i + k)).toNatClampNeg = (i + k).toNat := by
    have := q_cl hik (by omega)
    omega
  rw [e1]
  have e2 : Int32.ofInt (xI xs (i + k)) = xs (i + k).toNat := Int32.ofInt_toInt _
  rw [e2] at kk
  exact kk
def AD (pc : Nat) (k : Int) : Prop := decode cL_law pc = .ok (.aload_n 0, 1) ∧ decode cL_law (pc + 1) = .ok (.iload 4, 2) ∧ decode cL_law (pc + 1 + 2) = .ok (.iconst k, 1) ∧ decode cL_law (pc + 1 + 2 + 1) = .ok (.iadd, 1) ∧ decode cL_law (pc + 1 + 2 + 1 + 1) = .ok (.iaload, 1)
def ADs (pc : Nat) (k : Int) : Nat → Prop
  | 0 => True
  | n + 1 => AD pc k ∧ ADs (pc + 6) (k + 1) n
def ar (xs : Nat → Int32) (i k : Int) : Nat → List AV
  | 0 => []
  | n + 1 => qI (xI xs (i + k)) :: ar xs i (k + 1) n
theorem ar_len {i : Int} : ∀ (n : Nat) (k : Int), (ar xs i k n).length = n
  | 0, _ => rfl
  | n + 1, k => by show (ar xs i (k + 1) n).length + 1 = n + 1; rw [ar_len n (k + 1)]
theorem ar_ok {i : Int} {N : Nat} : ∀ (n : Nat) (k : Int), okS N (ar xs i k n)
  | 0, _ => fun _ h => nomatch h
  | n + 1, k => okS_c xI_i (ar_ok n (k + 1))
theorem l_args {i : Int} (C : LC p s m b L xs c D cA ad) (hl : lv_has ls 7 (LLv b φ i)) (hS : va_S (LA s) s.heap H locs) (hi : 0 ≤ i) (hL : i + 5 < L) : ∀ (n : Nat) (k : Int) (pc : Nat) (st : List Value), 1 ≤ k → k + n ≤ 6 → ADs pc k n →
    W p l e room_1 s m #[Value.ref b] below meth c H locs cells slots Q (F0 m (pc + 6 * n) ls (((ar xs i k n).map (vlf φ)).reverse ++ st)) → W p l e room_1 s m #[Value.ref b] below meth c H locs cells slots Q (F0 m pc ls st)
  | 0, _, _, _, _, _, _, h => h
  | n + 1, k, pc, st, k1, kn, hd, h => by
    obtain ⟨⟨d0, d1, d2, d3, d4⟩, hd⟩ := hd
    refine l_arg k C (lv_at hl 4 rfl) (lv_at hl 0 rfl) hS hi (by omega) (by omega) d0 d1 d2 d3 d4 ?_
    refine l_args C hl hS hi hL n (k + 1) (pc + 6) _ (by omega) (by omega) hd ?_
    have e : pc + 6 + 6 * n = pc + 6 * (n + 1) := by omega
    rw [e]
    have e2 : ((ar xs i (k + 1) n).map (vlf φ)).reverse ++ (.int (Int32.ofInt (xI xs (i + k))) :: st) = ((ar xs i k (n + 1)).map (vlf φ)).reverse ++ st := by
      show _ = ((vlf φ (qI (xI xs (i + k))) :: (ar xs i (k + 1) n).map (vlf φ)).reverse) ++ st
      rw [List.reverse_cons, List.append_assoc]
      rfl
    rw [e2]
    exact h
theorem l_call {Mc : MI} {as : List AV} {o ci na n ix : Nat} {Post' : Int → Rf → Mem → Prop} {g : List Value} (C : LC p s m b L xs c D cA ad) (hc : CM RL ix ci na Mc) (hE : qE Mc GG GG (qP o :: as) ρ μ Post') (ho : GG.2[o]? = some (ci, n)) (has : okS GG.2.length as) (hna : as.length = na) (hR : Mc.2.2.2.2.frames + 1 ≤ room_1.frames ∧ 8 + (Mc.2.2.1 + 11) + Mc.2.2.2.2.locals ≤ room_1.locals) (h0 : Mc.2.2.2.2.cells = 0 ∧ Mc.2.2.2.2.slots = 0) (hsz : ls.size = 7) (hcat : (st.map fun v => v.category).sum ≤ 8) (hcap : cells ≤ room_1.cells ∧ slots ≤ room_1.slots)
    (hst : g = (as.map (vlf φ)).reverse ++ .ref (φ o) :: st) (hd : decode cL_law pc = .ok (.invokevirtual ix, 3)) (hM : LM s D cA φ ρ μ H locs)
    (kk : ∀ (z : Int) (φ' : Nat → Nat) (ρ' : Rf) (μ' : Mem) (H1 : Heap) (locs1 : List Loc), Post' z ρ' μ' → retOk Mc.2.2.2.1 z → (∀ i, i < GG.2.length → φ' i = φ i) → LM s D cA φ' ρ' μ' H1 locs1 → W p l e room_1 s m #[Value.ref b] below meth c H1 locs1 cells slots Q (F0 m (pc + 3) ls (retV Mc.2.2.2.1 z ++ st))) : W p l e room_1 s m #[Value.ref b] below meth c H locs cells slots Q (F0 m pc ls g) := by
  obtain ⟨R, hml, hX, hbl, hL2⟩ := C
  obtain ⟨q, hq, w1, w2, w3, w4, w5, w6, w7⟩ := hc
  obtain ⟨hM, hP, hD, hS⟩ := hM
  have ho1 : okS GG.2.length (qP o :: as) := okS_c (Or.inl (MOk_lt hM ho).1) has
  have hMet := hE hM ho1 l D cA ad φ H.size
  have hpc : PcX (qP o :: as) GG ρ μ D cA ad φ H.size = PcV (.ref (φ o) :: as.map (vlf φ)) GG ρ μ D cA ad φ H.size := by
    unfold PcX PcV
    rw [List.map_cons, vlf_P hM ho]
  rw [hpc] at hMet
  have he := wsOf_get (φ := φ) (cA := cA) (ρ := ρ) (μ := μ) ho
  rw [cellE_obj (vwCl_lt hq)] at he
  refine w_callV (Cn := q.1) (b := φ o) (as := as.map (vlf φ)) (st := st) R hMet w1 w2 w3 w4 w5 w6 w7 hR (va_recv R.2.2.2.2.2.1 hP hq he) (by rw [List.length_map]; exact hna) (by rw [hml]; exact hsz) hcat hst hd (by rw [h0.1, h0.2]; exact hcap) hP hD hS ?_
  intro z φ' ρ' μ' H1 locs1 h1 h2 h3 h4 h5 h6 h7
  rw [h0.1, h0.2]
  exact kk z φ' ρ' μ' H1 locs1 h1 h2 h3 ⟨h4, h5, h6, h7⟩
end LAWM
