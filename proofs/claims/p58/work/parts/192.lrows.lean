/-! ===== rows for the law's methods ===== -/
theorem cmpL_lt0 {a b : Int} (h : cmpL a b < 0) : a < b := by
  unfold cmpL at h
  split at h
  · omega
  · split at h <;> omega
theorem cmpL_ge0 {a b : Int} (h : 0 ≤ cmpL a b) : b ≤ a := by
  unfold cmpL at h
  split at h
  · omega
  · split at h <;> omega
theorem cmpL_gt0 {a b : Int} (h : 0 < cmpL a b) : b < a := by
  unfold cmpL at h
  split at h
  · omega
  · split at h <;> omega
theorem cmpL_le0 {a b : Int} (h : cmpL a b ≤ 0) : a ≤ b := by
  unfold cmpL at h
  split at h
  · omega
  · split at h <;> omega
section LROWS
variable {M : MI} {G : Gx} {Fi : Gx → Int → Rf → Mem → Prop} {kc : Nat × Nat} {pc : Nat} {lv : List (Option AV)} {st : List AV} {ρ : Rf} {μ : Mem}
theorem qM_aload_n {k : Fin 4} (i : Nat) {o : Nat} {sh : Sh} (hd : decode M.2.1 pc = .ok (.aload_n k, 1)) (hi : (k : Nat) = i) (hv : lv[i]? = some (some (qP o))) (ho : G.2[o]? = some sh) (h : qXF M Fi G kc (pc + 1) lv (qP o :: st) ρ μ) : qXF M Fi G kc pc lv st ρ μ := by
  intro p l e s m args below meth c D cA ad A n0 φ0 Q C φ H locs ls hφ hn hM hl hkl hks hP hD hS
  exact qX_aload_n i hd hi hv (MOk_lt hM ho).2 h p l e s m args below meth c D cA ad A n0 φ0 Q C φ H locs ls hφ hn hM hl hkl hks hP hD hS
theorem qM_aload {i : Nat} {o : Nat} {sh : Sh} (hd : decode M.2.1 pc = .ok (.aload i, 2)) (hv : lv[i]? = some (some (qP o))) (ho : G.2[o]? = some sh) (h : qXF M Fi G kc (pc + 2) lv (qP o :: st) ρ μ) : qXF M Fi G kc pc lv st ρ μ := by
  intro p l e s m args below meth c D cA ad A n0 φ0 Q C φ H locs ls hφ hn hM hl hkl hks hP hD hS
  exact qX_aload hd hv (MOk_lt hM ho).2 h p l e s m args below meth c D cA ad A n0 φ0 Q C φ H locs ls hφ hn hM hl hkl hks hP hD hS
theorem qM_astore_n {k : Fin 4} (i : Nat) {o : Nat} {sh : Sh} (hd : decode M.2.1 pc = .ok (.astore_n k, 1)) (hi : (k : Nat) = i) (hn1 : i < M.2.2.1) (hL : qnoL lv i = true) (ho : G.2[o]? = some sh) (h : qXF M Fi G kc (pc + 1) (lv.set i (some (qP o))) st ρ μ) : qXF M Fi G kc pc lv (qP o :: st) ρ μ := by
  intro p l e s m args below meth c D cA ad A n0 φ0 Q C φ H locs ls hφ hn hM hl hkl hks hP hD hS
  exact qX_astore_n i hd hi hn1 hL (MOk_lt hM ho).2 h p l e s m args below meth c D cA ad A n0 φ0 Q C φ H locs ls hφ hn hM hl hkl hks hP hD hS
theorem qM_astore {i : Nat} {o : Nat} {sh : Sh} (hd : decode M.2.1 pc = .ok (.astore i, 2)) (hn1 : i < M.2.2.1) (hL : qnoL lv i = true) (ho : G.2[o]? = some sh) (h : qXF M Fi G kc (pc + 2) (lv.set i (some (qP o))) st ρ μ) : qXF M Fi G kc pc lv (qP o :: st) ρ μ := by
  intro p l e s m args below meth c D cA ad A n0 φ0 Q C φ H locs ls hφ hn hM hl hkl hks hP hD hS
  exact qX_astore hd hn1 hL (MOk_lt hM ho).2 h p l e s m args below meth c D cA ad A n0 φ0 Q C φ H locs ls hφ hn hM hl hkl hks hP hD hS
theorem qMF_areturn {o : Nat} {sh : Sh} (hk : M.2.2.2.1 = 4) (hd : decode M.2.1 pc = .ok (.areturn, 1)) (hc : kc.1 ≤ M.2.2.2.2.cells ∧ kc.2 ≤ M.2.2.2.2.slots) (ho : G.2[o]? = some sh) (h : Fi G o ρ μ) : qXF M Fi G kc pc lv (qP o :: []) ρ μ := by
  intro p l e s m args below meth c D cA ad A n0 φ0 Q C φ H locs ls hφ hn hM hl hkl hks hP hD hS
  have h1 := MOk_lt hM ho
  exact qXF_areturn hk hd hc ⟨h1.2, h1.1⟩ h p l e s m args below meth c D cA ad A n0 φ0 Q C φ H locs ls hφ hn hM hl hkl hks hP hD hS
theorem qM_areturn {Gf : Gx} {Post : Int → Rf → Mem → Prop} {o : Nat} {sh : Sh} (hk : M.2.2.2.1 = 4) (hd : decode M.2.1 pc = .ok (.areturn, 1)) (hG : G = Gf) (hc : kc.1 ≤ M.2.2.2.2.cells ∧ kc.2 ≤ M.2.2.2.2.slots) (ho : G.2[o]? = some sh) (h : Post o ρ μ) : qX M Gf Post G kc pc lv (qP o :: []) ρ μ := qMF_areturn hk hd hc ho ⟨hG, h⟩
theorem sto_10 (k : Nat) : sto 10 k = none := by
  unfold sto
  split <;> first | rfl | (exfalso; omega)
theorem qM_newI {X : List Sh} (N : Nat) {z : Int} (hd : decode M.2.1 pc = .ok (.newarray .int, 2)) (hzN : z = (N : Int)) (hN : N ≤ 100000) (hcap : kc.1 + 1 ≤ M.2.2.2.2.cells ∧ kc.2 + N ≤ M.2.2.2.2.slots) (hX : X.length < 1000) (h : qXF M Fi (GX (X ++ [(10, N)])) (kc.1 + 1, kc.2 + N) (pc + 2) lv (qP (178 + X.length) :: st) ρ μ) : qXF M Fi (GX X) kc pc lv (qI z :: st) ρ μ := by
  refine qX_newarr 10 0 (ty := .int) (a0 := (N, .inl fun _ => 0)) hd rfl kA_int (fun _ => rfl) (fun _ => rfl) (fun φ cA r f hrf => by
    show _ = (.inl (cA 0, N, .inl fun j => Int32.ofInt (f j)) : va_E)
    congr 4; funext j; rw [(hrf j).2]; rfl) hzN (by show N * 4 ≤ _; omega) (Or.inr sto_10) (by rw [GX_len]; unfold nid; omega) hcap ?_
  rw [GX_push, GX_len]
  exact h
theorem qM_callV (Mc : MI) (as : List AV) (o ci : Nat) (st : List AV) {stk : List AV} {Post' : Int → Rf → Mem → Prop} {ix na n : Nat} (hd : decode M.2.1 pc = .ok (.invokevirtual ix, 3)) (hc : CM M.1.cls ix ci na Mc) (hR : CR M Mc) (hst : stk = as.reverse ++ qP o :: st) (hna : as.length = na) (ho : G.2[o]? = some (ci, n)) (hcat : csz st ≤ 8) (hz : Mc.2.2.2.2.cells = 0 ∧ Mc.2.2.2.2.slots = 0) (hcap : kc.1 ≤ M.2.2.2.2.cells ∧ kc.2 ≤ M.2.2.2.2.slots) (hE : qE Mc G G (qP o :: as) ρ μ Post')
    (kk : ∀ (z : Int) (ρ' : Rf) (μ' : Mem), Post' z ρ' μ' → qXF M Fi G kc (pc + 3) lv (retA Mc.2.2.2.1 z ++ st) ρ' μ') : qXF M Fi G kc pc lv stk ρ μ := by
  refine qX_callV Mc as o ci st hd hc hR hst hna ho hcat ?_ hE (Nat.le_refl _) ?_
  · rw [hz.1, hz.2]; exact hcap
  · rw [hz.1, hz.2]; exact kk
theorem qM_callS (Mc : MI) (as : List AV) (st : List AV) {stk : List AV} {Post' : Int → Rf → Mem → Prop} {ix na : Nat} (hd : decode M.2.1 pc = .ok (.invokestatic ix, 3)) (hc : CSt M.1.cls ix na Mc) (hR : CR M Mc) (hst : stk = as.reverse ++ st) (hna : as.length = na) (hcat : csz st ≤ 8) (hz : Mc.2.2.2.2.cells = 0 ∧ Mc.2.2.2.2.slots = 0) (hcap : kc.1 ≤ M.2.2.2.2.cells ∧ kc.2 ≤ M.2.2.2.2.slots) (hE : qE Mc G G as ρ μ Post')
    (kk : ∀ (z : Int) (ρ' : Rf) (μ' : Mem), Post' z ρ' μ' → qXF M Fi G kc (pc + 3) lv (retA Mc.2.2.2.1 z ++ st) ρ' μ') : qXF M Fi G kc pc lv stk ρ μ := by
  refine qX_callS Mc as st hd hc hR hst hna hcat ?_ hE (Nat.le_refl _) ?_
  · rw [hz.1, hz.2]; exact hcap
  · rw [hz.1, hz.2]; exact kk
end LROWS
