/-! ===== changes of the class's state, as the law sees them ===== -/
theorem SI.okp {σ : Sg} (h : SI σ) (hp : σ 0 4 = 1) : OKP (σ 2) := (h.2.2.2.2.2.2.2.2 hp).1
theorem LEr.okp {ρ : Rf} {μ : Mem} {σ : Sg} (h : LEr σ ρ μ) (hp : σ 0 4 = 1) : OKP (σ 2) := by
  obtain ⟨c, L⟩ := h
  have a := L.1.okp (by rw [sE_04]; exact hp)
  rwa [sE_2] at a
theorem hs_sE {σ : Sg} {c : Int} : hs (sE σ c) = hs σ := by
  funext i
  exact sE_c (by omega)
theorem sCh_sE {σ : Sg} {c : Int} {q : Pl} : sCh (sE σ c) q = sCh σ q := by
  funext a k
  unfold sCh
  rw [hs_sE, sE_2, sE_k (show (6 : Int) ≠ 3 by decide)]
  by_cases h0 : a = 0
  · rw [if_pos h0, if_pos h0]
    by_cases h3 : k = 3
    · rw [if_pos h3, if_pos h3]
    · rw [if_neg h3, if_neg h3, sE_k h3]
  · rw [if_neg h0, if_neg h0, sE_c (show 1 ≠ 0 by decide), sE_c (show 3 ≠ 0 by decide)]
theorem sUn_sE {σ : Sg} {c : Int} : sUn (sE σ c) = sUn σ := by
  funext a k
  unfold sUn
  rw [hs_sE, sE_k (show (6 : Int) ≠ 3 by decide)]
  by_cases h0 : a = 0
  · rw [if_pos h0, if_pos h0]
    by_cases h3 : k = 3
    · rw [if_pos h3, if_pos h3]
    · rw [if_neg h3, if_neg h3, sE_k h3]
  · rw [if_neg h0, if_neg h0, sE_c h0]
theorem sRe_sE {σ : Sg} {c : Int} : sRe (sE σ c) = sRe σ := by
  funext a k
  unfold sRe
  by_cases h0 : a = 0
  · rw [if_pos h0, if_pos h0]
    by_cases h3 : k = 3
    · rw [if_pos h3, if_pos h3]
    · rw [if_neg h3, if_neg h3, sE_k h3]
  · rw [if_neg h0, if_neg h0, sE_c h0, sE_c (show 3 ≠ 0 by decide)]
theorem sSv_sE {σ : Sg} {c : Int} : sSv (sE σ c) = sSv σ := by
  funext a k
  unfold sSv
  by_cases h0 : a = 0
  · rw [if_pos h0, if_pos h0]
    by_cases h3 : k = 3
    · rw [if_pos h3, if_pos h3]
    · rw [if_neg h3, if_neg h3, sE_k h3]
  · rw [if_neg h0, if_neg h0, sE_c h0, sE_2]
/-- the same in all that the law asks later -/
def SEq (σ σ' : Sg) : Prop := σ' 2 = σ 2 ∧ (∀ k, k ≠ 3 → σ' 0 k = σ 0 k) ∧ σ' 3 = σ 3 ∧ (σ 0 6 = 1 → hs σ' 0 = hs σ 0)
theorem SEq.refl {σ : Sg} : SEq σ σ := ⟨rfl, fun _ _ => rfl, rfl, fun _ => rfl⟩
theorem SEq.trans {σ σ1 σ2 : Sg} (h : SEq σ σ1) (h2 : SEq σ1 σ2) : SEq σ σ2 := ⟨h2.1.trans h.1, fun k hk => (h2.2.1 k hk).trans (h.2.1 k hk), h2.2.2.1.trans h.2.2.1, fun e => (h2.2.2.2 ((h.2.1 6 (by decide)).trans e)).trans (h.2.2.2 e)⟩
theorem SEq.e {σ : Sg} {c : Int} : SEq σ (sE σ c) := ⟨sE_2, fun k hk => sE_k hk, sE_c (by decide), fun _ => by rw [hs_sE]⟩
theorem SEq.pl {σ σ' : Sg} {W : Int → Int} (h : SEq σ σ') (P : LPl W σ) : LPl W σ' := ⟨(h.2.1 4 (by decide)).trans P.1, by rw [h.1]; exact P.2⟩
theorem SEq.un {σ : Sg} {q : Pl} (h6 : 0 ≤ σ 0 6 ∧ σ 0 6 ≤ 1) : SEq σ (sUn (sCh σ q)) := by
  have hN1 : hN (σ 0 6) = σ 0 6 + 1 := if_neg (by omega)
  have e6 : sCh σ q 0 6 = σ 0 6 + 1 := by rw [sCh_6, hN1]
  refine ⟨?_, fun k hk => ?_, rfl, fun e => ?_⟩
  · funext k
    show hs (sCh σ q) (sCh σ q 0 6 - 1) k = σ 2 k
    rw [e6]
    show sCh σ q (4 + (σ 0 6 + 1 - 1).toNat) k = σ 2 k
    rw [sCh_h (by omega)]
    show (if σ 0 6 + 1 - 1 = hN (σ 0 6) - 1 then σ 2 else _) k = σ 2 k
    rw [if_pos (by rw [hN1])]
  · by_cases k6 : k = 6
    · subst k6
      show sCh σ q 0 6 - 1 = σ 0 6
      rw [e6]
      omega
    · show (if k = 3 then 0 else if k = 6 then _ else sCh σ q 0 k) = σ 0 k
      rw [if_neg hk, if_neg k6, sCh_0 hk k6]
  · show sCh σ q (4 + (0 : Int).toNat) = hs σ 0
    rw [sCh_h (by decide)]
    show (if (0 : Int) = hN (σ 0 6) - 1 then σ 2 else if σ 0 6 = 10 then _ else hs σ 0) = hs σ 0
    rw [if_neg (by omega), if_neg (by omega)]
section STA
variable {ρ ρ0 : Rf} {μ μ0 : Mem} {σ : Sg} {X : List Sh} {W : Int → Int} {q : Pl}
theorem lchg {M : MI} {as : List AV} {v : Mem → Int} {c : Int} (L : LI ρ μ (sE σ c)) (h4 : σ 0 4 = 1) (hE : qE M GG GG as (cR ρ) (cM μ) (PC (cM μ) (cR ρ) v (sCh (sE σ c) q))) (ho : OKP q) (hF : FEq (σ 2) q) (hk : M.2.2.2.1 ≠ 4) (has : rfs as = true) : qE M (GX X) (GX X) as ρ μ (fun z ρ' μ' => z = v Z0 ∧ LEr (sCh σ q) ρ' μ' ∧ OUT ρ μ ρ' μ') := by
  refine qE_post (fun z ρ' μ' h => ?_) (lc L hE (L.1.ch (by rw [sE_04]; exact h4) ho (by rw [sE_2]; exact hF)) hk has)
  rw [sCh_sE] at h
  exact ⟨h.1 Z0, LEr.of h.2.1, h.2.2⟩
theorem g_setDeparture {t v : Int} (L : LEr σ ρ μ) (h4 : σ 0 4 = 1) (h1 : 0 ≤ t ∧ t < 2) (h2 : σ 2 (0 + t) ≤ v ∧ v ≤ 999) : qE mX7_setDeparture (GX X) (GX X) [qP 0, qI t, qI v] ρ μ (fun z ρ' μ' => z = σ 2 (2 + t) ∧ LEr (sCh σ (u1 (σ 2) (2 + t) v)) ρ' μ' ∧ OUT ρ μ ρ' μ') := by
  have ok := L.okp h4
  obtain ⟨c, L⟩ := L
  have h4' : sE σ c 0 4 = 1 := by rw [sE_04]; exact h4
  have hE := c_setDeparture (t := t) (v := v) L.2.1 L.1
  simp only [sE_2] at hE
  rw [if_pos ⟨⟨h4', h1⟩, h2⟩, if_pos ⟨⟨h4', h1⟩, h2⟩] at hE
  exact lchg L h4 hE (u1_OKP ok (by omega) (by omega) (fun j j0 j1 => by omega) (fun _ => h2.2) (dep_PV ok.1 h1 h2.1 (by omega))) (dep_FEq h1) (by decide) rfl
theorem g_removeJob {j : Int} (L : LEr σ ρ μ) (h4 : σ 0 4 = 1) (h1 : 0 ≤ j ∧ j < σ 2 87) : qE mX7_removeJob (GX X) (GX X) [qP 0, qI j] ρ μ (fun z ρ' μ' => z = σ 2 87 - 1 ∧ LEr (sCh σ (pDrop (σ 2) j)) ρ' μ' ∧ OUT ρ μ ρ' μ') := by
  have ok := L.okp h4
  obtain ⟨c, L⟩ := L
  have h4' : sE σ c 0 4 = 1 := by rw [sE_04]; exact h4
  have hE := c_removeJob (j := j) L.2.1 L.1
  simp only [sE_2] at hE
  rw [if_pos ⟨h4', h1⟩, if_pos ⟨h4', h1⟩] at hE
  exact lchg L h4 hE (drop_OKP ok h1) (drop_FEq h1.1) (by decide) rfl
theorem g_undo (L : LEr σ ρ μ) (h4 : σ 0 4 = 1) (h6 : 0 < σ 0 6) : qE mX7_undo (GX X) (GX X) [qP 0] ρ μ (fun z ρ' μ' => z = σ 0 6 - 1 ∧ LEr (sUn σ) ρ' μ' ∧ OUT ρ μ ρ' μ') := by
  obtain ⟨c, L⟩ := L
  have h4' : sE σ c 0 4 = 1 := by rw [sE_04]; exact h4
  have e6 : sE σ c 0 6 = σ 0 6 := sE_k (by decide)
  have hE := c_undo L.2.1 L.1
  rw [e6] at hE
  rw [if_pos ⟨h4', h6⟩, if_pos ⟨h4', h6⟩] at hE
  refine qE_post (fun z ρ' μ' h => ?_) (lc L hE (L.1.un h4' (by omega)) (by decide) rfl)
  rw [sUn_sE] at h
  exact ⟨h.1 Z0, LEr.of h.2.1, h.2.2⟩
theorem g_undoF (L : LEr σ ρ μ) (h4 : σ 0 4 = 1) (h6 : σ 0 6 = 0) : qE mX7_undo (GX X) (GX X) [qP 0] ρ μ (fun z ρ' μ' => z = -2147483648 ∧ LI ρ' μ' (sE σ 6) ∧ OUT ρ μ ρ' μ') := by
  obtain ⟨c, L⟩ := L
  have h4' : sE σ c 0 4 = 1 := by rw [sE_04]; exact h4
  have e6 : sE σ c 0 6 = σ 0 6 := sE_k (by decide)
  have hE := c_undo L.2.1 L.1
  rw [e6] at hE
  rw [if_neg (fun z => by omega), if_neg (fun z => by omega), if_pos h4'] at hE
  exact lask L hE (by decide) rfl
theorem g_save (L : LEr σ ρ μ) (h4 : σ 0 4 = 1) : qE mX7_save (GX X) (GX X) [qP 0] ρ μ (fun z ρ' μ' => z = 0 ∧ LEr (sSv σ) ρ' μ' ∧ OUT ρ μ ρ' μ') := by
  obtain ⟨c, L⟩ := L
  have h4' : sE σ c 0 4 = 1 := by rw [sE_04]; exact h4
  have hE := c_save L.2.1 L.1
  rw [if_pos h4', if_pos h4'] at hE
  refine qE_post (fun z ρ' μ' h => ?_) (lc L hE (L.1.sv h4') (by decide) rfl)
  rw [sSv_sE] at h
  exact ⟨h.1 Z0, LEr.of h.2.1, h.2.2⟩
theorem g_restore (L : LEr σ ρ μ) (h4 : σ 0 4 = 1) (h5 : σ 0 5 = 1) : qE mX7_restore (GX X) (GX X) [qP 0] ρ μ (fun z ρ' μ' => z = σ 3 87 ∧ LEr (sRe σ) ρ' μ' ∧ OUT ρ μ ρ' μ') := by
  obtain ⟨c, L⟩ := L
  have h4' : sE σ c 0 4 = 1 := by rw [sE_04]; exact h4
  have h5' : sE σ c 0 5 = 1 := by rw [sE_k (by decide)]; exact h5
  have e3 : sE σ c 3 = σ 3 := sE_c (by decide)
  have hE := c_restore L.2.1 L.1
  rw [e3] at hE
  rw [if_pos ⟨h4', h5'⟩, if_pos ⟨h4', h5'⟩] at hE
  refine qE_post (fun z ρ' μ' h => ?_) (lc L hE (L.1.re h4' h5') (by decide) rfl)
  rw [sRe_sE] at h
  exact ⟨h.1 Z0, LEr.of h.2.1, h.2.2⟩
theorem g_error {c : Int} (L : LI ρ μ (sE σ c)) : qE mX7_error (GX X) (GX X) [qP 0] ρ μ (fun z ρ' μ' => z = c ∧ LEr σ ρ' μ' ∧ OUT ρ μ ρ' μ') := by
  have hE := c_error L.2.1
  refine qE_post (fun z ρ' μ' h => ?_) (lc L hE L.1 (by decide) rfl)
  exact ⟨(h.1 Z0).trans sE_3, ⟨c, h.2.1⟩, h.2.2⟩
theorem g_bestOrder {i : Int} {x : Nat} (L : LEr σ ρ μ) (P : LPl W σ) (h1 : 0 ≤ i ∧ i < 3) (h2 : (oS (σ 2) i (spd (σ 2) i) (bst (σ 2) i) x).1 ≠ 0) : qE mX7_bestOrder (GX X) (GX X) [qP 0, qI i, qI (x : Int)] ρ μ (fun z ρ' μ' => z = oK (σ 2) i (spd (σ 2) i) (bst (σ 2) i) x ∧ LEr σ ρ' μ' ∧ OUT ρ μ ρ' μ') := by
  obtain ⟨e0, L⟩ := L
  have p61 := P.2.2.2.2.2.2.1
  have e1 : sE σ e0 0 4 = 1 := by rw [sE_04]; exact P.1
  have hE := c_bestOrder (i := i) (x := (x : Int)) L.2.1 L.1
  simp only [sE_2, Int.toNat_natCast] at hE
  rw [if_pos ⟨⟨e1, h1.1, by omega⟩, by omega, h2⟩] at hE
  exact qE_post (fun z ρ' μ' h => ⟨h.1, ⟨_, h.2.1⟩, h.2.2⟩) (lask L hE (by decide) rfl)
theorem g_bestOrderF {i : Int} {x : Nat} (L : LEr σ ρ μ) (P : LPl W σ) (h1 : 0 ≤ i ∧ i < 3) (h2 : (oS (σ 2) i (spd (σ 2) i) (bst (σ 2) i) x).1 = 0) : qE mX7_bestOrder (GX X) (GX X) [qP 0, qI i, qI (x : Int)] ρ μ (fun z ρ' μ' => z = -2147483648 ∧ LI ρ' μ' (sE σ 6) ∧ OUT ρ μ ρ' μ') := by
  obtain ⟨e0, L⟩ := L
  have p61 := P.2.2.2.2.2.2.1
  have e1 : sE σ e0 0 4 = 1 := by rw [sE_04]; exact P.1
  have hE := c_bestOrder (i := i) (x := (x : Int)) L.2.1 L.1
  simp only [sE_2, Int.toNat_natCast] at hE
  rw [if_neg (fun z => z.2.2 h2), if_pos ⟨e1, h1.1, by omega⟩, if_neg (fun z => z.2 h2)] at hE
  exact lask L hE (by decide) rfl
theorem g_neededDelay {t : Int} (L : LEr σ ρ μ) (h4 : σ 0 4 = 1) (h1 : 0 ≤ t ∧ t < 2) : qE mX7_neededDelay (GX X) (GX X) [qP 0, qI t] ρ μ (fun z ρ' μ' => z = (if 0 ≤ nd (σ 2) t then nd (σ 2) t else -2147483648) ∧ LEr σ ρ' μ' ∧ OUT ρ μ ρ' μ') := by
  obtain ⟨e0, L⟩ := L
  have e1 : sE σ e0 0 4 = 1 := by rw [sE_04]; exact h4
  have hE := c_neededDelay (t := t) L.2.1 L.1
  simp only [sE_2] at hE
  refine qE_post (fun z ρ' μ' h => ⟨h.1.trans ?_, ⟨_, h.2.1⟩, h.2.2⟩) (lask L hE (by decide) rfl)
  by_cases c : 0 ≤ nd (σ 2) t
  · rw [if_pos ⟨⟨e1, h1⟩, c⟩, if_pos c]
  · rw [if_neg (fun z => c z.2), if_neg c]
theorem g_worstJob (L : LEr σ ρ μ) (h4 : σ 0 4 = 1) : qE mX7_worstJob (GX X) (GX X) [qP 0] ρ μ (fun z ρ' μ' => z = (if 0 ≤ wj (σ 2) then wj (σ 2) else -2147483648) ∧ LEr σ ρ' μ' ∧ OUT ρ μ ρ' μ') := by
  obtain ⟨e0, L⟩ := L
  have e1 : sE σ e0 0 4 = 1 := by rw [sE_04]; exact h4
  have hE := c_worstJob L.2.1 L.1
  simp only [sE_2] at hE
  refine qE_post (fun z ρ' μ' h => ⟨h.1.trans ?_, ⟨_, h.2.1⟩, h.2.2⟩) (lask L hE (by decide) rfl)
  by_cases c : 0 ≤ wj (σ 2)
  · rw [if_pos ⟨e1, c⟩, if_pos c]
  · rw [if_neg (fun z => c z.2), if_neg c]
end STA
