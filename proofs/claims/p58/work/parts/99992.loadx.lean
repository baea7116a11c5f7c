/-! ===== the law's text is read as the plan that it is ===== -/
theorem wf1 {t : Tkn} {r : List Tkn} (h1 : okT t) (h2 : sepH t r = true) (h3 : WF r) : WF (t :: r) := ⟨h1, h2, h3⟩
theorem sep_c (r : List Tkn) : sepH cT r = true := by cases r <;> rfl
theorem sep_j {v : Int} {W : Int → Int} : ∀ (n : Nat) (j : Int), sepH (nT v) (jobsL W n j) = true
  | 0, _ => rfl
  | n + 1, _ => rfl
section WFS
variable {W : Int → Int} {r : List Tkn} {k i : Int}
theorem wf_n (hW : DW W) (h0 : 0 ≤ k) (h1 : k < 200) : okT (nT (W k)) := (nT_ok (hW.1 k h0 h1)).1
theorem wf_k (h : 0 ≤ k ∧ k ≤ 999) : okT (nT k) := (nT_ok h).1
theorem wf_m : okT (mT k) := (mT_ok k).1
theorem wf_tra (hW : DW W) (hk : 0 ≤ k ∧ k ≤ 1) (h : WF r) : WF (traL W k ++ r) :=
  wf1 (w_ok (by decide)) rfl (wf1 (wf_k (by omega)) rfl (wf1 (w_ok (by decide)) rfl (wf1 (wf_n hW (by omega) (by omega)) rfl (wf1 (w_ok (by decide)) rfl (wf1 (wf_n hW (by omega) (by omega)) rfl (wf1 cT_ok (sep_c _) h))))))
theorem wf_car (hW : DW W) (hk : 0 ≤ k ∧ k ≤ 3) (h : WF r) : WF (carL W k ++ r) :=
  wf1 (w_ok (by decide)) rfl (wf1 (wf_k (by omega)) rfl (wf1 (wf_n hW (by omega) (by omega)) rfl (wf1 (wf_n hW (by omega) (by omega)) rfl (wf1 (wf_n hW (by omega) (by omega)) rfl (wf1 cT_ok (sep_c _) h)))))
theorem sep_m {l : List Tkn} {v : Int} : sepH (mT k) (nT v :: l) = true := by
  show (((mT k).2.1 == 3) || true || ((nT v).2.1 == 3)) = true
  rw [Bool.or_true]
  rfl
theorem wf_mea (hW : DW W) (hk : 0 ≤ k ∧ k ≤ 1) (h : WF r) : WF (meaL W k ++ r) :=
  wf1 (w_ok (by decide)) rfl (wf1 wf_m sep_m (wf1 (wf_n hW (by omega) (by omega)) rfl (wf1 (wf_n hW (by omega) (by omega)) rfl (wf1 cT_ok (sep_c _) h))))
theorem wf_kit (hW : DW W) (hk : 0 ≤ k ∧ k ≤ 1) (h : WF r) : WF (kitL W k ++ r) :=
  wf1 (w_ok (by decide)) rfl (wf1 (wf_n hW (by omega) (by omega)) rfl (wf1 cT_ok (sep_c _) h))
theorem wf_sto (hW : DW W) (hk : 0 ≤ k ∧ k ≤ 1) (hi : 0 ≤ i ∧ i ≤ 1) (h : WF r) : WF (stoL W k i ++ r) :=
  wf1 (w_ok (by decide)) rfl (wf1 (wf_k (by omega)) rfl (wf1 wf_m sep_m (wf1 (wf_n hW (by omega) (by omega)) rfl (wf1 cT_ok (sep_c _) h))))
theorem wf_tro (hW : DW W) (hk : 0 ≤ k ∧ k ≤ 2) (hs : ∀ v, sepH (nT v) r = true) (h : WF r) : WF (troL W k ++ r) :=
  wf1 (w_ok (by decide)) rfl (wf1 (wf_n hW (by omega) (by omega)) rfl (wf1 (wf_n hW (by omega) (by omega)) rfl (wf1 (wf_n hW (by omega) (by omega)) rfl (wf1 (wf_n hW (by omega) (by omega)) rfl (wf1 (wf_n hW (by omega) (by omega)) (hs _) h)))))
theorem wf_jobs (hW : DW W) : ∀ (n : Nat) (j : Int), 0 ≤ j → j + n ≤ 6 → WF (jobsL W n j)
  | 0, _, _, _ => trivial
  | n + 1, j, h0, h1 => by
    have ih := wf_jobs hW n (j + 1) (by omega) (by omega)
    exact wf1 cT_ok (sep_c _) (wf1 (w_ok (by decide)) rfl (wf1 (wf_n hW (by omega) (by omega)) rfl (wf1 (wf_n hW (by omega) (by omega)) rfl (wf1 (wf_n hW (by omega) (by omega)) rfl (wf1 wf_m sep_m (wf1 (wf_n hW (by omega) (by omega)) (sep_j _ _) ih))))))
theorem wf_txt (hW : DW W) : WF (txtL W) := by
  have w := hW.2.2.2.2.2.1
  unfold txtL
  refine wf_tra hW (by decide) (wf_tra hW (by decide) (wf_car hW (by decide) (wf_car hW (by decide) (wf_car hW (by decide) (wf_car hW (by decide) (wf_mea hW (by decide) (wf_mea hW (by decide) (wf_kit hW (by decide) (wf_sto hW (by decide) (by decide) (wf_sto hW (by decide) (by decide) (wf_kit hW (by decide) (wf_sto hW (by decide) (by decide) (wf_sto hW (by decide) (by decide) ?_)))))))))))))
  refine wf_tro hW (by decide) (fun _ => rfl) (wf1 cT_ok (sep_c _) ?_)
  refine wf_tro hW (by decide) (fun _ => rfl) (wf1 cT_ok (sep_c _) ?_)
  exact wf_tro hW (by decide) (fun _ => sep_j _ _) (wf_jobs hW _ 0 (Int.le_refl _) (by omega))
end WFS
/-- what a plan of the law's is like, also behind changes -/
def PLW (W : Int → Int) (p : Pl) : Prop := (p 2 ≤ 255 ∧ p 3 ≤ 255) ∧ p 4 = 2 ∧ p 5 = 2 ∧ p 36 = 2 ∧ p 45 = 2 ∧ p 61 = 3 ∧ p 63 = W 51 ∧ p 68 = W 56 ∧ p 73 = W 61
def LPl (W : Int → Int) (σ : Sg) : Prop := σ 0 4 = 1 ∧ PLW W (σ 2)
theorem l_load {ρ : Rf} {μ : Mem} {σ : Sg} {X : List Sh} {x y : Nat} (H : HX X x y) (L : LI ρ μ σ) (h0 : σ 0 0 = 0) (h5 : μ x 5 = 0) (h6 : μ x 6 = 0) (hW : DW (μ y)) : qE mL_says (GX X) (GX X) [qP 0, qP x, qP y] ρ μ (fun z ρ' μ' => z = μ y 70 ∧ ∃ σ', LI ρ' μ' σ' ∧ LPl (μ y) σ' ∧ σ' 0 6 = 0 ∧ OUX x ρ μ ρ' μ') := by
  have w := hW.2.2.2.2.2.1
  refine qE_post (fun z ρ' μ' h => ?_) (l_says H L h0 h5 h6 hW.1 w.2 (txt_len w.2))
  obtain ⟨b, hb, h⟩ := h
  have ht : Toks b (enS (txtL (μ y))).length 0 (txtL (μ y)) := toks_of _ 0 (wf_txt hW) (fun i hi => by rw [Int.zero_add]; exact hb i hi) (by omega)
  obtain ⟨D', J, e1, e2⟩ := rd_txt hW ht
  obtain ⟨hz, σ', L', p2, p4, p6, O⟩ := h e1
  obtain ⟨⟨a1, a2, a3, a4, a5, a6, a7, a8, a9, a10, a11⟩, -, -⟩ := J
  have t0 := hW.2.1 0 (by decide) (by decide)
  have t1 := hW.2.1 1 (by decide) (by decide)
  have e0 : (2 : Int) + 0 = 2 := rfl
  have e3 : (2 : Int) + 1 = 3 := rfl
  rw [e0] at t0
  rw [e3] at t1
  rw [e2] at hz p2
  refine ⟨by rw [hz, a8], σ', L', ⟨p4, ?_⟩, p6, O⟩
  rw [p2]
  exact ⟨⟨by omega, by omega⟩, a3, a4, a5, a6, a7, a9, a10, a11⟩
