/-! ===== calls of the class from the law ===== -/
def LI (ρ : Rf) (μ : Mem) (σ : Sg) : Prop := SI σ ∧ CI (cR ρ) (cM μ) σ ∧ MOk GG (cR ρ) (cM μ)
/-- nothing of the law's own cells changed -/
def OUT (ρ : Rf) (μ : Mem) (ρ' : Rf) (μ' : Mem) : Prop := ∀ o, 178 ≤ o → ρ' o = ρ o ∧ μ' o = μ o
/-- of the law's own cells x alone changed -/
def OUX (x : Nat) (ρ : Rf) (μ : Mem) (ρ' : Rf) (μ' : Mem) : Prop := ∀ o, 178 ≤ o → ρ' o = ρ o ∧ (o ≠ x → μ' o = μ o)
theorem OUT.refl {ρ : Rf} {μ : Mem} : OUT ρ μ ρ μ := fun _ _ => ⟨rfl, rfl⟩
theorem OUT.trans {ρ ρ1 ρ2 : Rf} {μ μ1 μ2 : Mem} (h1 : OUT ρ μ ρ1 μ1) (h2 : OUT ρ1 μ1 ρ2 μ2) : OUT ρ μ ρ2 μ2 := fun o ho => ⟨(h2 o ho).1.trans (h1 o ho).1, (h2 o ho).2.trans (h1 o ho).2⟩
theorem OUT.x {ρ ρ1 : Rf} {μ μ1 : Mem} (h1 : OUT ρ μ ρ1 μ1) (x : Nat) : OUX x ρ μ ρ1 μ1 := fun o ho => ⟨(h1 o ho).1, fun _ => (h1 o ho).2⟩
theorem OUX.refl {x : Nat} {ρ : Rf} {μ : Mem} : OUX x ρ μ ρ μ := fun _ _ => ⟨rfl, fun _ => rfl⟩
theorem OUX.trans {x : Nat} {ρ ρ1 ρ2 : Rf} {μ μ1 μ2 : Mem} (h1 : OUX x ρ μ ρ1 μ1) (h2 : OUX x ρ1 μ1 ρ2 μ2) : OUX x ρ μ ρ2 μ2 := fun o ho => ⟨(h2 o ho).1.trans (h1 o ho).1, fun hx => ((h2 o ho).2 hx).trans ((h1 o ho).2 hx)⟩
theorem OUX.up {x : Nat} {k v : Int} {ρ ρ1 : Rf} {μ μ1 : Mem} (h : OUX x ρ μ ρ1 μ1) : OUX x ρ μ ρ1 (up2 μ1 x k v) := fun o ho => ⟨(h o ho).1, fun hx => by rw [up2_c hx]; exact (h o ho).2 hx⟩
theorem cM_up {μ : Mem} {x : Nat} {k v : Int} (h : 178 ≤ x) : cM (up2 μ x k v) = cM μ := by
  funext o b
  unfold cM
  by_cases c : o < 178
  · rw [if_pos c, if_pos c, up2_c (by omega)]
  · rw [if_neg c, if_neg c]
theorem LI.up {ρ : Rf} {μ : Mem} {σ : Sg} {x : Nat} {k v : Int} (h : LI ρ μ σ) (hx : 178 ≤ x) : LI ρ (up2 μ x k v) σ := by
  unfold LI
  rw [cM_up hx]
  exact h
def rfs : List AV → Bool
  | [] => true
  | .inr (.inr i) :: r => decide (i < 178) && rfs r
  | _ :: r => rfs r
theorem rfs_ok {n : Nat} : ∀ {as : List AV}, rfs as = true → okS n as → okS 178 as
  | [], _, _ => okS_0
  | .inl z :: r, h, k => okS_c (okS_h k : avOk n (.inl z)) (rfs_ok (as := r) h (okS_t k))
  | .inr (.inl z) :: r, h, k => okS_c (okS_h k : avOk n (.inr (.inl z))) (rfs_ok (as := r) h (okS_t k))
  | .inr (.inr i) :: r, h, k => by
    have h : (decide (i < 178) && rfs r) = true := h
    rw [Bool.and_eq_true, decide_eq_true_eq] at h
    exact okS_c (Or.inl h.1) (rfs_ok (as := r) h.2 (okS_t k))
theorem lc {M : MI} {as : List AV} {ρ : Rf} {μ : Mem} {X : List Sh} {σ σ' : Sg} {v : Mem → Int} (L : LI ρ μ σ) (hE : qE M GG GG as (cR ρ) (cM μ) (PC (cM μ) (cR ρ) v σ')) (hS : SI σ') (hk : M.2.2.2.1 ≠ 4) (has : rfs as = true) : qE M (GX X) (GX X) as ρ μ (fun z ρ' μ' => (∀ J, z = v J) ∧ LI ρ' μ' σ' ∧ OUT ρ μ ρ' μ') := by
  refine qE_pre fun _ hks => qE_post (fun z ρ' μ' h => ?_) (qE_frame hk (rfs_ok has hks) L.2.2 hE)
  obtain ⟨⟨h1, h2, h3, h4⟩, h5, h6⟩ := h
  exact ⟨h1, ⟨hS, h2, h5⟩, h6⟩
