/-! ===== the class's answers as the law hears them ===== -/
theorem sE_sE {σ : Sg} {c d : Int} : sE (sE σ c) d = sE σ d := by
  funext a k
  unfold sE up2
  split <;> rfl
/-- the class in this state, whatever the code of the last error -/
def LEr (σ : Sg) (ρ : Rf) (μ : Mem) : Prop := ∃ c, LI ρ μ (sE σ c)
def GS (σ : Sg) : Mem := sGo (σ 2) (-1) (-1) Z0
theorem LEr.of {σ : Sg} {ρ : Rf} {μ : Mem} (h : LI ρ μ σ) : LEr σ ρ μ := ⟨σ 0 3, by
  have e : sE σ (σ 0 3) = σ := by
    funext a k
    unfold sE up2
    split
    · rename_i h
      rw [h.1, h.2]
    · rfl
  rw [e]
  exact h⟩
theorem sE_2 {σ : Sg} {c : Int} : sE σ c 2 = σ 2 := sE_c (by decide)
theorem sE_04 {σ : Sg} {c : Int} : sE σ c 0 4 = σ 0 4 := sE_k (by decide)
theorem LPl.t4 {W : Int → Int} {σ : Sg} {t : Int} (P : LPl W σ) (h : 0 ≤ t ∧ t < 2) : σ 2 (4 + t) = 2 := by
  obtain rfl | rfl : t = 0 ∨ t = 1 := by omega
  · exact P.2.2.1
  · exact P.2.2.2.1
section ASK
variable {ρ : Rf} {μ : Mem} {σ : Sg} {X : List Sh} {W : Int → Int}
theorem lask {M : MI} {as : List AV} {v : Mem → Int} {e c : Int} (L : LI ρ μ (sE σ c)) (hE : qE M GG GG as (cR ρ) (cM μ) (PC (cM μ) (cR ρ) v (sE (sE σ c) e))) (hk : M.2.2.2.1 ≠ 4) (has : rfs as = true) : qE M (GX X) (GX X) as ρ μ (fun z ρ' μ' => z = v Z0 ∧ LI ρ' μ' (sE σ e) ∧ OUT ρ μ ρ' μ') := by
  refine qE_post (fun z ρ' μ' h => ?_) (lc L hE L.1.e hk has)
  rw [sE_sE] at h
  exact ⟨h.1 Z0, h.2.1, h.2.2⟩
theorem g_jobCount  (L : LEr σ ρ μ) (P : LPl W σ)  : qE mX7_jobCount (GX X) (GX X) [qP 0] ρ μ (fun z ρ' μ' => z = σ 2 87 ∧ LEr σ ρ' μ' ∧ OUT ρ μ ρ' μ') := by
  obtain ⟨e0, L⟩ := L
  obtain ⟨p1, -, p4, p5, p36, p45, p61, -⟩ := P
  refine qE_post (fun z ρ' μ' h => ⟨h.1.trans ?_, ⟨_, h.2.1⟩, h.2.2⟩) (lask L (c_jobCount L.2.1 L.1) (by decide) rfl)
  have e1 : sE σ e0 0 4 = 1 := by rw [sE_04]; exact p1
  simp only [sE_2]
  rw [if_pos e1]
theorem g_departure {t : Int} (L : LEr σ ρ μ) (P : LPl W σ) (h1 : 0 ≤ t ∧ t < 2) : qE mX7_departure (GX X) (GX X) [qP 0, qI t] ρ μ (fun z ρ' μ' => z = σ 2 (2 + t) ∧ LEr σ ρ' μ' ∧ OUT ρ μ ρ' μ') := by
  obtain ⟨e0, L⟩ := L
  obtain ⟨p1, -, p4, p5, p36, p45, p61, -⟩ := P
  refine qE_post (fun z ρ' μ' h => ⟨h.1.trans ?_, ⟨_, h.2.1⟩, h.2.2⟩) (lask L (c_departure L.2.1 L.1) (by decide) rfl)
  have e1 : sE σ e0 0 4 = 1 := by rw [sE_04]; exact p1
  simp only [sE_2]
  rw [if_pos ⟨e1, h1⟩]
theorem g_stock {k m : Int} (L : LEr σ ρ μ) (P : LPl W σ) (h1 : 0 ≤ k ∧ k < 2) (h2 : 0 ≤ m ∧ m < 2) : qE mX7_stock (GX X) (GX X) [qP 0, qI k, qI m] ρ μ (fun z ρ' μ' => z = σ 2 (49 + 4 * k + m) ∧ LEr σ ρ' μ' ∧ OUT ρ μ ρ' μ') := by
  obtain ⟨e0, L⟩ := L
  obtain ⟨p1, -, p4, p5, p36, p45, p61, -⟩ := P
  refine qE_post (fun z ρ' μ' h => ⟨h.1.trans ?_, ⟨_, h.2.1⟩, h.2.2⟩) (lask L (c_stock L.2.1 L.1) (by decide) rfl)
  have e1 : sE σ e0 0 4 = 1 := by rw [sE_04]; exact p1
  simp only [sE_2]
  rw [if_pos ⟨e1, h1.1, by omega, h2.1, by omega⟩]
theorem g_finalStock {k m : Int} (L : LEr σ ρ μ) (P : LPl W σ) (h1 : 0 ≤ k ∧ k < 2) (h2 : 0 ≤ m ∧ m < 2) : qE mX7_finalStock (GX X) (GX X) [qP 0, qI k, qI m] ρ μ (fun z ρ' μ' => z = GS σ 193 (4 * k + m) ∧ LEr σ ρ' μ' ∧ OUT ρ μ ρ' μ') := by
  obtain ⟨e0, L⟩ := L
  obtain ⟨p1, -, p4, p5, p36, p45, p61, -⟩ := P
  refine qE_post (fun z ρ' μ' h => ⟨h.1.trans ?_, ⟨_, h.2.1⟩, h.2.2⟩) (lask L (c_finalStock L.2.1 L.1) (by decide) rfl)
  have e1 : sE σ e0 0 4 = 1 := by rw [sE_04]; exact p1
  simp only [sE_2]
  rw [if_pos ⟨e1, h1.1, by omega, h2.1, by omega⟩]
  rfl
theorem g_demand {t c m : Int} (L : LEr σ ρ μ) (P : LPl W σ) (h1 : 0 ≤ t ∧ t < 2) (h2 : 0 ≤ c ∧ c < 2) (h3 : 0 ≤ m ∧ m < 2) : qE mX7_demand (GX X) (GX X) [qP 0, qI t, qI c, qI m] ρ μ (fun z ρ' μ' => z = dem (σ 2) t c m ∧ LEr σ ρ' μ' ∧ OUT ρ μ ρ' μ') := by
  obtain ⟨e0, L⟩ := L
  have p4t := P.t4 h1
  obtain ⟨p1, -, p4, p5, p36, p45, p61, -⟩ := P
  refine qE_post (fun z ρ' μ' h => ⟨h.1.trans ?_, ⟨_, h.2.1⟩, h.2.2⟩) (lask L (c_demand L.2.1 L.1) (by decide) rfl)
  have e1 : sE σ e0 0 4 = 1 := by rw [sE_04]; exact p1
  simp only [sE_2]
  rw [if_pos ⟨e1, h1.1, h1.2, h2.1, by omega, h3.1, by omega⟩]
theorem g_delivered {t c m : Int} (L : LEr σ ρ μ) (P : LPl W σ) (h1 : 0 ≤ t ∧ t < 2) (h2 : 0 ≤ c ∧ c < 2) (h3 : 0 ≤ m ∧ m < 2) : qE mX7_delivered (GX X) (GX X) [qP 0, qI t, qI c, qI m] ρ μ (fun z ρ' μ' => z = dlv (σ 2) (GS σ 199) t c m ∧ LEr σ ρ' μ' ∧ OUT ρ μ ρ' μ') := by
  obtain ⟨e0, L⟩ := L
  have p4t := P.t4 h1
  obtain ⟨p1, -, p4, p5, p36, p45, p61, -⟩ := P
  refine qE_post (fun z ρ' μ' h => ⟨h.1.trans ?_, ⟨_, h.2.1⟩, h.2.2⟩) (lask L (c_delivered L.2.1 L.1) (by decide) rfl)
  have e1 : sE σ e0 0 4 = 1 := by rw [sE_04]; exact p1
  simp only [sE_2]
  rw [if_pos ⟨e1, h1.1, h1.2, h2.1, by omega, h3.1, by omega⟩]
  rfl
theorem g_shortage {t c m : Int} (L : LEr σ ρ μ) (P : LPl W σ) (h1 : 0 ≤ t ∧ t < 2) (h2 : 0 ≤ c ∧ c < 2) (h3 : 0 ≤ m ∧ m < 2) : qE mX7_shortage (GX X) (GX X) [qP 0, qI t, qI c, qI m] ρ μ (fun z ρ' μ' => z = max 0 (dem (σ 2) t c m - dlv (σ 2) (GS σ 199) t c m) ∧ LEr σ ρ' μ' ∧ OUT ρ μ ρ' μ') := by
  obtain ⟨e0, L⟩ := L
  have p4t := P.t4 h1
  obtain ⟨p1, -, p4, p5, p36, p45, p61, -⟩ := P
  refine qE_post (fun z ρ' μ' h => ⟨h.1.trans ?_, ⟨_, h.2.1⟩, h.2.2⟩) (lask L (c_shortage L.2.1 L.1) (by decide) rfl)
  have e1 : sE σ e0 0 4 = 1 := by rw [sE_04]; exact p1
  simp only [sE_2]
  rw [if_pos ⟨e1, h1.1, h1.2, h2.1, by omega, h3.1, by omega⟩]
  rfl
theorem g_share {t c m : Int} (L : LEr σ ρ μ) (P : LPl W σ) (h1 : 0 ≤ t ∧ t < 2) (h2 : 0 ≤ c ∧ c < 2) (h3 : 0 ≤ m ∧ m < 2) : qE mX7_share (GX X) (GX X) [qP 0, qI t, qI c, qI m] ρ μ (fun z ρ' μ' => z = lSh (σ 2 (4 + t)) (fun c => dem (σ 2) t c m) (dlT (σ 2) (GS σ 199) t m) c ∧ LEr σ ρ' μ' ∧ OUT ρ μ ρ' μ') := by
  obtain ⟨e0, L⟩ := L
  have p4t := P.t4 h1
  obtain ⟨p1, -, p4, p5, p36, p45, p61, -⟩ := P
  refine qE_post (fun z ρ' μ' h => ⟨h.1.trans ?_, ⟨_, h.2.1⟩, h.2.2⟩) (lask L (c_share L.2.1 L.1) (by decide) rfl)
  have e1 : sE σ e0 0 4 = 1 := by rw [sE_04]; exact p1
  simp only [sE_2]
  rw [if_pos ⟨e1, h1.1, h1.2, h2.1, by omega, h3.1, by omega⟩]
  rfl
theorem g_deliveredTotal  (L : LEr σ ρ μ) (P : LPl W σ)  : qE mX7_deliveredTotal (GX X) (GX X) [qP 0] ρ μ (fun z ρ' μ' => z = s_I (GS σ 199) (σ 2 87) ∧ LEr σ ρ' μ' ∧ OUT ρ μ ρ' μ') := by
  obtain ⟨e0, L⟩ := L
  obtain ⟨p1, -, p4, p5, p36, p45, p61, -⟩ := P
  refine qE_post (fun z ρ' μ' h => ⟨h.1.trans ?_, ⟨_, h.2.1⟩, h.2.2⟩) (lask L (c_deliveredTotal L.2.1 L.1) (by decide) rfl)
  have e1 : sE σ e0 0 4 = 1 := by rw [sE_04]; exact p1
  simp only [sE_2]
  rw [if_pos e1]
  rfl
theorem g_jobTrolley {j : Int} (L : LEr σ ρ μ) (P : LPl W σ) (h1 : 0 ≤ j ∧ j < σ 2 87) : qE mX7_jobTrolley (GX X) (GX X) [qP 0, qI j] ρ μ (fun z ρ' μ' => z = σ 2 (88 + 5 * j + 0) ∧ LEr σ ρ' μ' ∧ OUT ρ μ ρ' μ') := by
  obtain ⟨e0, L⟩ := L
  obtain ⟨p1, -, p4, p5, p36, p45, p61, -⟩ := P
  refine qE_post (fun z ρ' μ' h => ⟨h.1.trans ?_, ⟨_, h.2.1⟩, h.2.2⟩) (lask L (c_jobTrolley L.2.1 L.1) (by decide) rfl)
  have e1 : sE σ e0 0 4 = 1 := by rw [sE_04]; exact p1
  simp only [sE_2]
  rw [if_pos ⟨e1, h1⟩]
theorem g_jobQuantity {j : Int} (L : LEr σ ρ μ) (P : LPl W σ) (h1 : 0 ≤ j ∧ j < σ 2 87) : qE mX7_jobQuantity (GX X) (GX X) [qP 0, qI j] ρ μ (fun z ρ' μ' => z = σ 2 (88 + 5 * j + 4) ∧ LEr σ ρ' μ' ∧ OUT ρ μ ρ' μ') := by
  obtain ⟨e0, L⟩ := L
  obtain ⟨p1, -, p4, p5, p36, p45, p61, -⟩ := P
  refine qE_post (fun z ρ' μ' h => ⟨h.1.trans ?_, ⟨_, h.2.1⟩, h.2.2⟩) (lask L (c_jobQuantity L.2.1 L.1) (by decide) rfl)
  have e1 : sE σ e0 0 4 = 1 := by rw [sE_04]; exact p1
  simp only [sE_2]
  rw [if_pos ⟨e1, h1⟩]
theorem g_startTime {j : Int} (L : LEr σ ρ μ) (P : LPl W σ) (h1 : 0 ≤ j ∧ j < σ 2 87) : qE mX7_startTime (GX X) (GX X) [qP 0, qI j] ρ μ (fun z ρ' μ' => z = GS σ 195 j ∧ LEr σ ρ' μ' ∧ OUT ρ μ ρ' μ') := by
  obtain ⟨e0, L⟩ := L
  obtain ⟨p1, -, p4, p5, p36, p45, p61, -⟩ := P
  refine qE_post (fun z ρ' μ' h => ⟨h.1.trans ?_, ⟨_, h.2.1⟩, h.2.2⟩) (lask L (c_startTime L.2.1 L.1) (by decide) rfl)
  have e1 : sE σ e0 0 4 = 1 := by rw [sE_04]; exact p1
  simp only [sE_2]
  rw [if_pos ⟨e1, h1⟩]
  rfl
theorem g_loaded {j : Int} (L : LEr σ ρ μ) (P : LPl W σ) (h1 : 0 ≤ j ∧ j < σ 2 87) : qE mX7_loaded (GX X) (GX X) [qP 0, qI j] ρ μ (fun z ρ' μ' => z = GS σ 196 j ∧ LEr σ ρ' μ' ∧ OUT ρ μ ρ' μ') := by
  obtain ⟨e0, L⟩ := L
  obtain ⟨p1, -, p4, p5, p36, p45, p61, -⟩ := P
  refine qE_post (fun z ρ' μ' h => ⟨h.1.trans ?_, ⟨_, h.2.1⟩, h.2.2⟩) (lask L (c_loaded L.2.1 L.1) (by decide) rfl)
  have e1 : sE σ e0 0 4 = 1 := by rw [sE_04]; exact p1
  simp only [sE_2]
  rw [if_pos ⟨e1, h1⟩]
  rfl
theorem g_unloaded {j : Int} (L : LEr σ ρ μ) (P : LPl W σ) (h1 : 0 ≤ j ∧ j < σ 2 87) : qE mX7_unloaded (GX X) (GX X) [qP 0, qI j] ρ μ (fun z ρ' μ' => z = GS σ 199 j ∧ LEr σ ρ' μ' ∧ OUT ρ μ ρ' μ') := by
  obtain ⟨e0, L⟩ := L
  obtain ⟨p1, -, p4, p5, p36, p45, p61, -⟩ := P
  refine qE_post (fun z ρ' μ' h => ⟨h.1.trans ?_, ⟨_, h.2.1⟩, h.2.2⟩) (lask L (c_unloaded L.2.1 L.1) (by decide) rfl)
  have e1 : sE σ e0 0 4 = 1 := by rw [sE_04]; exact p1
  simp only [sE_2]
  rw [if_pos ⟨e1, h1⟩]
  rfl
theorem g_finishTime {j : Int} (L : LEr σ ρ μ) (P : LPl W σ) (h1 : 0 ≤ j ∧ j < σ 2 87) : qE mX7_finishTime (GX X) (GX X) [qP 0, qI j] ρ μ (fun z ρ' μ' => z = GS σ 200 j ∧ LEr σ ρ' μ' ∧ OUT ρ μ ρ' μ') := by
  obtain ⟨e0, L⟩ := L
  obtain ⟨p1, -, p4, p5, p36, p45, p61, -⟩ := P
  refine qE_post (fun z ρ' μ' h => ⟨h.1.trans ?_, ⟨_, h.2.1⟩, h.2.2⟩) (lask L (c_finishTime L.2.1 L.1) (by decide) rfl)
  have e1 : sE σ e0 0 4 = 1 := by rw [sE_04]; exact p1
  simp only [sE_2]
  rw [if_pos ⟨e1, h1⟩]
  rfl
theorem g_unloadTime {j : Int} (L : LEr σ ρ μ) (P : LPl W σ) (h1 : 0 ≤ j ∧ j < σ 2 87) (h2 : GS σ 199 j ≠ 0) : qE mX7_unloadTime (GX X) (GX X) [qP 0, qI j] ρ μ (fun z ρ' μ' => z = GS σ 198 j ∧ LEr σ ρ' μ' ∧ OUT ρ μ ρ' μ') := by
  obtain ⟨e0, L⟩ := L
  obtain ⟨p1, -, p4, p5, p36, p45, p61, -⟩ := P
  refine qE_post (fun z ρ' μ' h => ⟨h.1.trans ?_, ⟨_, h.2.1⟩, h.2.2⟩) (lask L (c_unloadTime L.2.1 L.1) (by decide) rfl)
  have e1 : sE σ e0 0 4 = 1 := by rw [sE_04]; exact p1
  simp only [sE_2]
  rw [if_pos ⟨e1, h1⟩]
  exact if_neg h2
theorem g_leftBehind {i : Int} (L : LEr σ ρ μ) (P : LPl W σ) (h1 : 0 ≤ i ∧ i < 3) : qE mX7_leftBehind (GX X) (GX X) [qP 0, qI i] ρ μ (fun z ρ' μ' => z = s_I (lft (σ 2) (GS σ) i) (σ 2 87) ∧ LEr σ ρ' μ' ∧ OUT ρ μ ρ' μ') := by
  obtain ⟨e0, L⟩ := L
  obtain ⟨p1, -, p4, p5, p36, p45, p61, -⟩ := P
  refine qE_post (fun z ρ' μ' h => ⟨h.1.trans ?_, ⟨_, h.2.1⟩, h.2.2⟩) (lask L (c_leftBehind L.2.1 L.1) (by decide) rfl)
  have e1 : sE σ e0 0 4 = 1 := by rw [sE_04]; exact p1
  simp only [sE_2]
  rw [if_pos ⟨e1, h1.1, by omega⟩]
  rfl
theorem g_coverage {t m d : Int} (L : LEr σ ρ μ) (P : LPl W σ) (h1 : 0 ≤ t ∧ t < 2) (h2 : 0 ≤ m ∧ m < 2) : qE mX7_coverage (GX X) (GX X) [qP 0, qI t, qI m, qI d] ρ μ (fun z ρ' μ' => z = cov (σ 2) (GS σ 199) t m d ∧ LEr σ ρ' μ' ∧ OUT ρ μ ρ' μ') := by
  obtain ⟨e0, L⟩ := L
  obtain ⟨p1, -, p4, p5, p36, p45, p61, -⟩ := P
  refine qE_post (fun z ρ' μ' h => ⟨h.1.trans ?_, ⟨_, h.2.1⟩, h.2.2⟩) (lask L (c_coverage L.2.1 L.1) (by decide) rfl)
  have e1 : sE σ e0 0 4 = 1 := by rw [sE_04]; exact p1
  simp only [sE_2]
  rw [if_pos ⟨e1, h1.1, h1.2, h2.1, by omega⟩]
  rfl
theorem g_leastCoverage {t d : Int} (L : LEr σ ρ μ) (P : LPl W σ) (h1 : 0 ≤ t ∧ t < 2) : qE mX7_leastCoverage (GX X) (GX X) [qP 0, qI t, qI d] ρ μ (fun z ρ' μ' => z = cov (σ 2) (GS σ 199) t (lcN (σ 2) (GS σ 199) t 2) d ∧ LEr σ ρ' μ' ∧ OUT ρ μ ρ' μ') := by
  obtain ⟨e0, L⟩ := L
  obtain ⟨p1, -, p4, p5, p36, p45, p61, -⟩ := P
  refine qE_post (fun z ρ' μ' h => ⟨h.1.trans ?_, ⟨_, h.2.1⟩, h.2.2⟩) (lask L (c_leastCoverage L.2.1 L.1) (by decide) rfl)
  have e1 : sE σ e0 0 4 = 1 := by rw [sE_04]; exact p1
  simp only [sE_2]
  rw [if_pos ⟨e1, h1⟩, p36]
  rfl
theorem g_bestSet {i : Int} (L : LEr σ ρ μ) (P : LPl W σ) (h1 : 0 ≤ i ∧ i < 3) : qE mX7_bestSet (GX X) (GX X) [qP 0, qI i] ρ μ (fun z ρ' μ' => z = (bst (σ 2) i : Int) ∧ LEr σ ρ' μ' ∧ OUT ρ μ ρ' μ') := by
  obtain ⟨e0, L⟩ := L
  obtain ⟨p1, -, p4, p5, p36, p45, p61, -⟩ := P
  refine qE_post (fun z ρ' μ' h => ⟨h.1.trans ?_, ⟨_, h.2.1⟩, h.2.2⟩) (lask L (c_bestSet L.2.1 L.1) (by decide) rfl)
  have e1 : sE σ e0 0 4 = 1 := by rw [sE_04]; exact p1
  simp only [sE_2]
  rw [if_pos ⟨e1, h1.1, by omega⟩]
theorem g_bestMeals {i : Int} (L : LEr σ ρ μ) (P : LPl W σ) (h1 : 0 ≤ i ∧ i < 3) : qE mX7_bestMeals (GX X) (GX X) [qP 0, qI i] ρ μ (fun z ρ' μ' => z = sm (σ 2) i (bst (σ 2) i) ∧ LEr σ ρ' μ' ∧ OUT ρ μ ρ' μ') := by
  obtain ⟨e0, L⟩ := L
  obtain ⟨p1, -, p4, p5, p36, p45, p61, -⟩ := P
  refine qE_post (fun z ρ' μ' h => ⟨h.1.trans ?_, ⟨_, h.2.1⟩, h.2.2⟩) (lask L (c_bestMeals L.2.1 L.1) (by decide) rfl)
  have e1 : sE σ e0 0 4 = 1 := by rw [sE_04]; exact p1
  simp only [sE_2]
  rw [if_pos ⟨e1, h1.1, by omega⟩]
theorem g_deliveredWithout {i : Int} (L : LEr σ ρ μ) (P : LPl W σ) (h1 : 0 ≤ i ∧ i < 3) : qE mX7_deliveredWithout (GX X) (GX X) [qP 0, qI i] ρ μ (fun z ρ' μ' => z = s_I (sGo (σ 2) i (-1) Z0 199) (σ 2 87) ∧ LEr σ ρ' μ' ∧ OUT ρ μ ρ' μ') := by
  obtain ⟨e0, L⟩ := L
  obtain ⟨p1, -, p4, p5, p36, p45, p61, -⟩ := P
  refine qE_post (fun z ρ' μ' h => ⟨h.1.trans ?_, ⟨_, h.2.1⟩, h.2.2⟩) (lask L (c_deliveredWithout L.2.1 L.1) (by decide) rfl)
  have e1 : sE σ e0 0 4 = 1 := by rw [sE_04]; exact p1
  simp only [sE_2]
  rw [if_pos ⟨e1, h1.1, by omega⟩]
end ASK
