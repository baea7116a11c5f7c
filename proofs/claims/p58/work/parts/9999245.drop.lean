/-! ===== a row of the law's own is forgotten ===== -/
def dpR (n : Nat) (ρ : Rf) : Rf := fun o k => if o < n then ρ o k else nid
def dpM (n : Nat) (μ : Mem) : Mem := fun o k => if o < n then μ o k else 0
theorem dpR_lt {n : Nat} {ρ : Rf} {o : Nat} (h : o < n) : dpR n ρ o = ρ o := by
  funext k
  exact if_pos h
theorem dpM_lt {n : Nat} {μ : Mem} {o : Nat} (h : o < n) : dpM n μ o = μ o := by
  funext k
  exact if_pos h
theorem dpR_c {n : Nat} {ρ : Rf} (h : 178 ≤ n) : cR (dpR n ρ) = cR ρ := by
  funext o k
  unfold cR
  by_cases c : o < 178
  · rw [if_pos c, if_pos c, dpR_lt (by omega)]
  · rw [if_neg c, if_neg c]
theorem dpM_c {n : Nat} {μ : Mem} (h : 178 ≤ n) : cM (dpM n μ) = cM μ := by
  funext o k
  unfold cM
  by_cases c : o < 178
  · rw [if_pos c, if_pos c, dpM_lt (by omega)]
  · rw [if_neg c, if_neg c]
theorem LEr.dp {n : Nat} {ρ : Rf} {μ : Mem} {σ : Sg} (h : LEr σ ρ μ) (hn : 178 ≤ n) : LEr σ (dpR n ρ) (dpM n μ) := by
  obtain ⟨c, L⟩ := h
  refine ⟨c, ?_⟩
  unfold LI
  rw [dpR_c hn, dpM_c hn]
  exact L
theorem OUX.dp {x : Nat} {ρ ρ1 : Rf} {μ μ1 : Mem} (hM : ∀ o, x ≤ o → ∀ k : Int, ρ o k = nid ∧ μ o k = 0) (h : OUX x ρ μ ρ1 μ1) : OUT ρ μ (dpR x ρ1) (dpM x μ1) := by
  intro o ho
  by_cases c : o < x
  · rw [dpR_lt c, dpM_lt c]
    exact ⟨(h o ho).1, (h o ho).2 (by omega)⟩
  · constructor
    · funext k
      exact (if_neg c).trans (hM o (by omega) k).1.symm
    · funext k
      exact (if_neg c).trans (hM o (by omega) k).2.symm
theorem ty10 {sh : Sh} {k : Nat} (h : sh.1 = 10) : tyOf sh k = 0 := by
  obtain ⟨a, b⟩ := sh
  have h : a = 10 := h
  subst h
  rfl
def X10 (X : List Sh) : Prop := ∀ sh, sh ∈ X → sh.1 = 10
theorem MOk_dp {X : List Sh} {sh : Sh} {ρ : Rf} {μ : Mem} (hX : X10 X) (hM : MOk (GX (X ++ [sh])) ρ μ) (h1 : MOk GG (cR ρ) (cM μ)) : MOk (GX X) (dpR (178 + X.length) ρ) (dpM (178 + X.length) μ) := by
  have hl : GG.2.length = 178 := SH_len
  have hle := GX_le (X := X) (sh := sh)
  refine ⟨by have := hM.1; omega, fun o s ho k => ?_, fun e o s ho k off hk => ?_, fun o ho k => ?_⟩
  · have hol := (List.getElem?_eq_some_iff.mp ho).1
    rw [GX_len] at hol
    rw [dpR_lt hol, dpM_lt hol]
    have h2 := hM.2.1 o s (shXm ho) k
    refine ⟨h2.1, h2.2.1, fun e => ?_⟩
    by_cases c : o < 178
    · have h3 := (h1.2.1 o s (GX_get c ho) k).2.2 e
      rw [cR_lt c, hl] at h3
      rw [GX_len]
      exact h3.imp (fun z => by omega) id
    · obtain ⟨q, rfl⟩ : ∃ q, o = 178 + q := ⟨o - 178, by omega⟩
      rw [shXx] at ho
      have h4 := hX s (List.mem_of_getElem? ho)
      rw [ty10 h4] at e
      omega
  · have hol := (List.getElem?_eq_some_iff.mp ho).1
    rw [GX_len] at hol
    rw [dpR_lt hol]
    exact hM.2.2.1 e o s (shXm ho) k off hk
  · rw [GX_len] at ho
    exact ⟨if_neg (by omega), if_neg (by omega)⟩
theorem ws_dp {φ : Nat → Nat} {cA : Nat → ClassId} {ρ : Rf} {μ : Mem} {X : List Sh} {sh : Sh} {k : Nat} (hk : k < 178 + X.length) : (wsOf φ cA (GX X).2 (dpR (178 + X.length) ρ) (dpM (178 + X.length) μ))[k]? = (wsOf φ cA (GX (X ++ [sh])).2 ρ μ)[k]? := by
  obtain ⟨s, hs⟩ : ∃ s, (GX X).2[k]? = some s := ⟨_, List.getElem?_eq_getElem (by rw [GX_len]; exact hk)⟩
  rw [wsOf_get hs, wsOf_get (shXm hs), dpR_lt hk, dpM_lt hk]
set_option maxHeartbeats 1000000 in
theorem qE_drop {M : MI} {as : List AV} {ρ : Rf} {μ : Mem} {Post : Int → Rf → Mem → Prop} {X : List Sh} {sh : Sh} (hk : M.2.2.2.1 ≠ 4) (hX : X10 X) (hP : ∀ z ρ1 μ1, Post z ρ1 μ1 → MOk GG (cR ρ1) (cM μ1)) (h : qE M (GX (X ++ [sh])) (GX X) as ρ μ Post) : qE M (GX X) (GX X) as ρ μ (fun z ρ' μ' => ∃ ρ1 μ1, Post z ρ1 μ1 ∧ ρ' = dpR (178 + X.length) ρ1 ∧ μ' = dpM (178 + X.length) μ1) := by
  intro hM hks l D cA ad φ sz
  refine Met.conseq (h hM hks l D cA ad φ sz) (fun _ _ z => z) ?_ (fun _ z => z)
  rintro a s oc t _ hQ
  refine QcX_conv hk (fun _ z => z) (fun u hu hb hF => ?_) hQ
  obtain ⟨φ1, ρ1, μ1, z⟩ := u
  obtain ⟨q1, q2, q3, q4, q5⟩ := hu
  obtain ⟨b1, b2⟩ := hb
  have q2 : MOk (GX (X ++ [sh])) ρ1 μ1 := q2
  have q3 : Post z ρ1 μ1 := q3
  refine ⟨(φ1, dpR (178 + X.length) ρ1, dpM (178 + X.length) μ1, z), rfl, ⟨q1, MOk_dp hX q2 (hP _ _ _ q3), ⟨ρ1, μ1, q3, rfl, rfl⟩, q4, fun e => absurd e hk⟩, ?_, ?_⟩
  · intro k q hq
    have hk1 := (wsOf_at hq).1
    rw [GX_len] at hk1
    refine b1 k q ?_
    rw [← hq]
    exact (ws_dp hk1).symm
  · have tr : ∀ {k : Nat} {q : Nat × va_E}, (wsOf φ1 cA (GX X).2 (dpR (178 + X.length) ρ1) (dpM (178 + X.length) μ1))[k]? = some q → (wsOf φ1 cA (GX (X ++ [sh])).2 ρ1 μ1)[k]? = some q := fun {k q} hq => by
      have hk1 := (wsOf_at hq).1
      rw [GX_len] at hk1
      rw [← hq]
      exact (ws_dp hk1).symm
    exact ⟨fun i j p q hi hj => b2.1 i j p q (tr hi) (tr hj), fun k q hq => b2.2 k q (tr hq)⟩
