/-! ===== no meal is lost ===== -/
def kcl (p : Pl) (j : Int) : Int := 4 * p (62 + 5 * p (88 + 5 * j + 0) + 0) + p (88 + 5 * j + 3)
def lmA (p : Pl) (m : Int) (S : Mem) (i : Int) : Int := if S 192 i = 1 ∧ kcl p (S 187 i) = m then S 196 (S 187 i) else 0
def lmB (m : Int) (S : Mem) (i : Int) : Int := if S 190 i = m then S 191 i else 0
def lmF (p : Pl) (m : Int) (S : Mem) : Int → Int := fun i => lmA p m S i + lmB m S i
def lmD (p : Pl) (m : Int) (S : Mem) : Int := s_I (fun j => if kcl p j = m then S 199 j else 0) (p 87)
def LMC (p : Pl) (m : Int) (S : Mem) : Prop := S 193 m + s_I (lmF p m S) 5 + lmD p m S = p (49 + m)
def QL (p : Pl) (S : Mem) : Prop := ∀ j, 0 ≤ j → j < p 87 → S 196 j ≤ p (88 + 5 * j + 4)
section LMS
variable {p : Pl} {m i : Int} {S : Mem}
theorem lmA_0 (h : S 192 i ≠ 1) : lmA p m S i = 0 := if_neg (fun z => h z.1)
theorem lmA_1 (h : S 192 i = 1) : lmA p m S i = if kcl p (S 187 i) = m then S 196 (S 187 i) else 0 := by
  unfold lmA
  by_cases c : kcl p (S 187 i) = m
  · rw [if_pos ⟨h, c⟩, if_pos c]
  · rw [if_neg (fun z => c z.2), if_neg c]
theorem lmA_cg {S' : Mem} (h : S' 192 i = S 192 i) (h2 : S 192 i = 1 → S' 187 i = S 187 i ∧ S' 196 (S 187 i) = S 196 (S 187 i)) : lmA p m S' i = lmA p m S i := by
  by_cases c : S 192 i = 1
  · rw [lmA_1 c, lmA_1 (h.trans c), (h2 c).1, (h2 c).2]
  · rw [lmA_0 c, lmA_0 (fun z => c (h.symm.trans z))]
theorem lmB_cg {S' : Mem} (h : S' 190 i = S 190 i) (h2 : S' 191 i = S 191 i) : lmB m S' i = lmB m S i := by
  unfold lmB
  rw [h, h2]
theorem lmB_0 (h : S 191 i = 0) : lmB m S i = 0 := by
  unfold lmB
  rw [h]
  split <;> rfl
theorem LMC_bb {u : Int} (hm : 0 ≤ m ∧ m < 12) (hS : SV p S) (h : LMC p m S) : LMC p m (bb u S) := by
  have e187 : bb u S 187 = S 187 := bb_c (by decide) (by decide)
  have e190 : bb u S 190 = S 190 := bb_c (by decide) (by decide)
  have e192 : bb u S 192 = S 192 := bb_c (by decide) (by decide)
  have e196 : bb u S 196 = S 196 := bb_c (by decide) (by decide)
  have e199 : bb u S 199 = S 199 := bb_c (by decide) (by decide)
  have hD : lmD p m (bb u S) = lmD p m S := by unfold lmD; rw [e199]
  have hF : s_I (lmF p m (bb u S)) 5 + s_I (bkd S u m) 5 = s_I (lmF p m S) 5 := by
    rw [← s_Id (by decide)]
    refine s_Ic (by decide) (fun k k0 k1 => ?_)
    have a := hS.1 k k0 k1
    have eA : lmA p m (bb u S) k = lmA p m S k := lmA_cg (by rw [e192]) (fun _ => by rw [e187, e196]; exact ⟨rfl, rfl⟩)
    show lmA p m (bb u S) k + lmB m (bb u S) k + _ = lmA p m S k + lmB m S k
    rw [eA]
    generalize lmA p m S k = A
    unfold lmB bkd
    rw [e190, bb_1]
    by_cases c : S 189 k ≤ u
    · rw [if_pos (⟨⟨k0, k1⟩, c⟩ : (0 ≤ k ∧ k < 5) ∧ S 189 k ≤ u)]
      by_cases d : S 190 k = m
      · rw [if_pos d, if_pos d, if_pos ⟨d, c⟩]; omega
      · rw [if_neg d, if_neg d, if_neg (fun z => d z.1)]; omega
    · rw [if_neg (fun z => c z.2 : ¬ ((0 ≤ k ∧ k < 5) ∧ S 189 k ≤ u)), if_neg (fun z => c z.2 : ¬ (S 190 k = m ∧ S 189 k ≤ u))]
      omega
  unfold LMC at h ⊢
  rw [hD, bb_3]
  omega
theorem lmD_u {j v : Int} (hn : 0 ≤ j ∧ j < p 87) {S' : Mem} (he : S' 199 = u1 (S 199) j v) (h0 : S 199 j = 0) : lmD p m S' = lmD p m S + if kcl p j = m then v else 0 := by
  unfold lmD
  rw [he]
  have e : s_I (fun k => if kcl p k = m then u1 (S 199) j v k else 0) (p 87) = s_I (u1 (fun k => if kcl p k = m then S 199 k else 0) j (if kcl p j = m then v else 0)) (p 87) := by
    refine s_Ic (by omega) (fun k k0 k1 => ?_)
    by_cases c : k = j
    · subst c; rw [u1_s, u1_s]
    · rw [u1_n c, u1_n c]
  rw [e, s_Iu (by omega) hn, h0]
  split <;> omega
theorem lmF_u {S' : Mem} (hi : 0 ≤ i ∧ i < 5) (h : ∀ k, 0 ≤ k → k < 5 → k ≠ i → lmF p m S' k = lmF p m S k) : s_I (lmF p m S') 5 = s_I (lmF p m S) 5 - lmF p m S i + lmF p m S' i := by
  have e : s_I (lmF p m S') 5 = s_I (u1 (lmF p m S) i (lmF p m S' i)) 5 := by
    refine s_Ic (by decide) (fun k k0 k1 => ?_)
    by_cases c : k = i
    · rw [c, u1_s]
    · rw [u1_n c]; exact h k k0 k1 c
  rw [e, s_Iu (by decide) hi]
theorem LMC_st (hv : PV p) (hm : 0 ≤ m ∧ m < 12) (hP : PI p S) (h : LMC p m S) (hi : 0 ≤ i ∧ i < 5) (hj : S 187 i < p 87) (hw : S 192 i = 0) : LMC p m (sStarts p (-1) i S) := by
  obtain ⟨h0, h1, h2, h3, h4, h5, h6⟩ := hP
  have a := h0.1 i hi.1 hi.2
  have ab := a.2.2.2.2.2.2.2.2.2.1 hj
  have hb := sMn_b hv h0 hi hj
  have pj := hv.j a.1 hj
  have n := hv.n
  have z199 : S 199 (S 187 i) = 0 := h2 _ a.1 hj (by rw [ab.2]; exact Int.le_refl _)
  have hcl : sCl p i S = kcl p (S 187 i) := by unfold sCl kcl; rw [ab.2]
  have ne : ∀ k, 0 ≤ k → k < 5 → k ≠ i → S 192 k = 1 → S 187 k ≠ S 187 i := fun k k0 k1 kn kw e => by
    have c := h0.1 k k0 k1
    have c2 := c.2.2.2.2.2.2.2.2.2.2 kw
    have c3 := (c.2.2.2.2.2.2.2.2.2.1 c2.1).2
    rw [e, ab.2] at c3
    omega
  obtain ⟨e187, e188, e189, e190, e191, e192, e193, e194, e195, e196, e197, e198, e199, e200⟩ := st_c (p := p) (out := -1) (i := i) (S := S)
  have hD := lmD_u (m := m) ⟨a.1, hj⟩ e199 z199
  have hB : ∀ k, lmB m (sStarts p (-1) i S) k = lmB m S k := fun k => lmB_cg (by rw [e190]) (by rw [e191])
  unfold LMC at h ⊢
  rw [hD]
  by_cases hq : sMn p i S = 0
  · have hF := lmF_u (p := p) (m := m) (S := S) (S' := sStarts p (-1) i S) hi (fun k k0 k1 kn => by
      show lmA p m _ k + lmB m _ k = lmA p m S k + lmB m S k
      rw [hB, lmA_cg (by rw [e192, if_pos hq]) (fun kw => ⟨by rw [e187, if_pos hq, u1_n kn], by rw [e196, u1_n (ne k k0 k1 kn kw)]⟩)])
    have fi : lmF p m (sStarts p (-1) i S) i = lmF p m S i := by
      show lmA p m _ i + lmB m _ i = lmA p m S i + lmB m S i
      rw [hB, lmA_0 (by rw [e192, if_pos hq]; omega), lmA_0 (by omega)]
    rw [hF, fi, e193, if_pos hq]
    split <;> omega
  · have hF := lmF_u (p := p) (m := m) (S := S) (S' := sStarts p (-1) i S) hi (fun k k0 k1 kn => by
      show lmA p m _ k + lmB m _ k = lmA p m S k + lmB m S k
      rw [hB, lmA_cg (by rw [e192, if_neg hq, u1_n kn]) (fun kw => ⟨by rw [e187, if_neg hq], by rw [e196, u1_n (ne k k0 k1 kn kw)]⟩)])
    have fi : lmF p m (sStarts p (-1) i S) i = lmF p m S i + if kcl p (S 187 i) = m then sMn p i S else 0 := by
      show lmA p m _ i + lmB m _ i = lmA p m S i + lmB m S i + _
      rw [hB, lmA_1 (by rw [e192, if_neg hq, u1_s]), lmA_0 (S := S) (by omega), e187, if_neg hq, e196, u1_s]
      omega
    rw [hF, fi, e193, if_neg hq, hcl]
    by_cases c : kcl p (S 187 i) = m
    · subst c; rw [if_pos rfl, if_pos rfl, u1_s]; omega
    · rw [if_neg c, if_neg c, u1_n (fun z => c z.symm)]; omega
theorem LMC_re (hv : PV p) (hm : 0 ≤ m ∧ m < 12) (hP : PI p S) (h : LMC p m S) (hi : 0 ≤ i ∧ i < 5) (hj : S 187 i < p 87) (hw : S 192 i = 1) (h191 : S 191 i = 0) : LMC p m (sReach p (-1) i S) := by
  obtain ⟨h0, h1, h2, h3, h4, h5, h6⟩ := hP
  have a := h0.1 i hi.1 hi.2
  have ab := a.2.2.2.2.2.2.2.2.2.1 hj
  have hb := sMn_b hv h0 hi hj
  have pj := hv.j a.1 hj
  have n := hv.n
  have z199 : S 199 (S 187 i) = 0 := h2 _ a.1 hj (by rw [ab.2]; exact Int.le_refl _)
  have hcl : sCl p i S = kcl p (S 187 i) := by unfold sCl kcl; rw [ab.2]
  obtain ⟨e187, e188, e189, e190, e191, e192, e193, e194, e195, e196, e197, e198, e199, e200⟩ := re_c (p := p) (out := -1) (i := i) (S := S)
  have hD := lmD_u (m := m) ⟨a.1, hj⟩ e199 z199
  have fS : lmF p m S i = if kcl p (S 187 i) = m then S 196 (S 187 i) else 0 := by
    show lmA p m S i + lmB m S i = _
    rw [lmA_1 hw, lmB_0 h191]
    omega
  have hA : ∀ k, k ≠ i → lmA p m (sReach p (-1) i S) k = lmA p m S k := fun k kn => lmA_cg (by rw [e192, u1_n kn]) (fun _ => ⟨by rw [e187, u1_n kn], by rw [e196]⟩)
  have hA0 : lmA p m (sReach p (-1) i S) i = 0 := lmA_0 (by rw [e192, u1_s]; decide)
  unfold LMC at h ⊢
  rw [hD]
  by_cases hf : sFin p i S = S 188 i
  · have hF := lmF_u (p := p) (m := m) (S := S) (S' := sReach p (-1) i S) hi (fun k k0 k1 kn => by
      show lmA p m _ k + lmB m _ k = lmA p m S k + lmB m S k
      rw [hA k kn, lmB_cg (by rw [e190, if_pos hf]) (by rw [e191, if_pos hf])])
    have fi : lmF p m (sReach p (-1) i S) i = 0 := by
      show lmA p m _ i + lmB m _ i = 0
      rw [hA0, lmB_0 (by rw [e191, if_pos hf]; exact h191)]
      rfl
    rw [hF, fi, fS, e193, if_pos hf, hcl]
    by_cases c : kcl p (S 187 i) = m
    · subst c; rw [if_pos rfl, if_pos rfl, u1_s]; omega
    · rw [if_neg c, if_neg c, u1_n (fun z => c z.symm)]; omega
  · have hF := lmF_u (p := p) (m := m) (S := S) (S' := sReach p (-1) i S) hi (fun k k0 k1 kn => by
      show lmA p m _ k + lmB m _ k = lmA p m S k + lmB m S k
      rw [hA k kn, lmB_cg (by rw [e190, if_neg hf, u1_n kn]) (by rw [e191, if_neg hf, u1_n kn])])
    have fi : lmF p m (sReach p (-1) i S) i = if kcl p (S 187 i) = m then S 196 (S 187 i) - sMany p i S else 0 := by
      show lmA p m _ i + lmB m _ i = _
      rw [hA0]
      unfold lmB
      rw [e190, e191, if_neg hf, if_neg hf, u1_s, u1_s, hcl]
      omega
    rw [hF, fi, fS, e193, if_neg hf]
    split <;> omega
theorem LMC_ini {J : Mem} (hv : PV p) (hm : 0 ≤ m ∧ m < 12) : LMC p m (sIni p (-1) (-1) J) := by
  have n := hv.n
  have z191 : ∀ i, 0 ≤ i → i < 5 → sIni p (-1) (-1) J 191 i = 0 := fun i i0 i1 => ini_0 (Or.inr (Or.inl rfl)) ⟨i0, i1⟩
  have z192 : ∀ i, 0 ≤ i → i < 5 → sIni p (-1) (-1) J 192 i = 0 := fun i i0 i1 => ini_0 (Or.inr (Or.inr rfl)) ⟨i0, i1⟩
  have hF : s_I (lmF p m (sIni p (-1) (-1) J)) 5 = 0 := s_Iz (by decide) (fun k k0 k1 => by
    show lmA p m _ k + lmB m _ k = 0
    rw [lmA_0 (by rw [z192 k k0 k1]; decide), lmB_0 (z191 k k0 k1)]
    rfl)
  have hD : lmD p m (sIni p (-1) (-1) J) = 0 := s_Iz (by omega) (fun k k0 k1 => by
    show (if kcl p k = m then sIni p (-1) (-1) J 199 k else 0) = 0
    rw [ini_j (Or.inr rfl) ⟨k0, by omega⟩]
    split <;> rfl)
  have h3 : ∀ b, 0 ≤ b → b < 12 → sIni p (-1) (-1) J 193 b = p (49 + b) := fun b b0 b1 => if_pos ⟨rfl, b0, b1⟩
  unfold LMC
  rw [hF, hD, h3 _ hm.1 hm.2]
  omega
theorem LMC_step (hv : PV p) (hm : 0 ≤ m ∧ m < 12) (hP : PI p S) (h : LMC p m S) (hf : ¬ fst_ p S < 0) : LMC p m (sStep p (-1) S) := by
  rcases fst_s (p := p) (S := S) with ⟨a, _⟩ | ⟨a, b, c, _⟩
  · omega
  · have h1 := PI_bb (u := S 188 (fst_ p S)) hP
    have h2 := LMC_bb (u := S 188 (fst_ p S)) hm hP.1 h
    have e7 : bb (S 188 (fst_ p S)) S 187 = S 187 := bb_c (by decide) (by decide)
    have w := h1.1.1 (fst_ p S) a b
    have z : bb (S 188 (fst_ p S)) S 191 (fst_ p S) = 0 := by
      rw [bb_1]
      by_cases q : S 191 (fst_ p S) = 0
      · rw [q]; split <;> rfl
      · exact if_pos ⟨⟨a, b⟩, (hP.2.1 _ a b q).1⟩
    unfold sStep
    by_cases hw : bb (S 188 (fst_ p S)) S 192 (fst_ p S) = 0
    · rw [if_pos hw]
      exact LMC_st hv hm h1 h2 ⟨a, b⟩ (by rw [e7]; exact c) hw
    · rw [if_neg hw]
      exact LMC_re hv hm h1 h2 ⟨a, b⟩ (by rw [e7]; exact c) (by omega) z
theorem LMC_run (hv : PV p) (hm : 0 ≤ m ∧ m < 12) : ∀ (k : Nat) (S : Mem), PI p S → LMC p m S → LMC p m (sRun p (-1) k S) := by
  intro k
  induction k with
  | zero => intro S _ h; exact h
  | succ k ih =>
    intro S hP h
    have e : sRun p (-1) (k + 1) S = if fst_ p S < 0 then S else sRun p (-1) k (sStep p (-1) S) := rfl
    rw [e]
    split
    · exact h
    · rename_i hf
      exact ih _ (PI_step hv hP hf) (LMC_step hv hm hP h hf)
/-! ### no more is loaded than asked -/
theorem QL_step (h : QL p S) (hf : ¬ fst_ p S < 0) : QL p (sStep p (-1) S) := by
  have e6 : bb (S 188 (fst_ p S)) S 196 = S 196 := bb_c (by decide) (by decide)
  unfold sStep
  split
  · obtain ⟨e187, e188, e189, e190, e191, e192, e193, e194, e195, e196, e197, e198, e199, e200⟩ := st_c (p := p) (out := -1) (i := fst_ p S) (S := bb (S 188 (fst_ p S)) S)
    intro j j0 j1
    rw [e196]
    by_cases c : j = bb (S 188 (fst_ p S)) S 187 (fst_ p S)
    · rw [c, u1_s]
      unfold sMn
      omega
    · rw [u1_n c, e6]
      exact h j j0 j1
  · obtain ⟨e187, e188, e189, e190, e191, e192, e193, e194, e195, e196, e197, e198, e199, e200⟩ := re_c (p := p) (out := -1) (i := fst_ p S) (S := bb (S 188 (fst_ p S)) S)
    intro j j0 j1
    rw [e196, e6]
    exact h j j0 j1
theorem QL_run : ∀ (k : Nat) (S : Mem), QL p S → QL p (sRun p (-1) k S) := by
  intro k
  induction k with
  | zero => intro S h; exact h
  | succ k ih =>
    intro S h
    have e : sRun p (-1) (k + 1) S = if fst_ p S < 0 then S else sRun p (-1) k (sStep p (-1) S) := rfl
    rw [e]
    split
    · exact h
    · rename_i hf
      exact ih _ (QL_step h hf)
theorem QL_go {J : Mem} (hv : PV p) : QL p (sGo p (-1) (-1) J) := by
  have n := hv.n
  intro j j0 j1
  have e6 : sGo p (-1) (-1) J 196 = sRun p (-1) 300 (sIni p (-1) (-1) J) 196 := bb_c (by decide) (by decide)
  rw [e6]
  refine QL_run 300 _ (fun j j0 j1 => ?_) j j0 j1
  rw [ini_j (Or.inl rfl) ⟨j0, by omega⟩]
  have := hv.j j0 j1
  omega
end LMS
section LMG
variable {p : Pl} {m : Int}
theorem LMC_go {J : Mem} (hv : PV p) (hm : 0 ≤ m ∧ m < 12) : sGo p (-1) (-1) J 193 m + lmD p m (sGo p (-1) (-1) J) = p (49 + m) := by
  have a := go_all (J := J) hv
  have h1 : LMC p m (sRun p (-1) 300 (sIni p (-1) (-1) J)) := LMC_run hv hm 300 _ (PI_ini hv) (LMC_ini hv hm)
  have hP : PI p (sRun p (-1) 300 (sIni p (-1) (-1) J)) := PI_run hv 300 _ (PI_ini hv)
  have h2 : LMC p m (sGo p (-1) (-1) J) := LMC_bb hm hP.1 h1
  have n := hv.n
  have hF : s_I (lmF p m (sGo p (-1) (-1) J)) 5 = 0 := s_Iz (by decide) (fun k k0 k1 => by
    show lmA p m _ k + lmB m _ k = 0
    have c := a.1.1.1 k k0 k1
    have c7 := a.2 k k0 k1
    rw [lmA_0 (fun z => by have := (c.2.2.2.2.2.2.2.2.2.2 z).1; omega), lmB_0]
    · rfl
    · show bb 1000000 _ 191 k = 0
      rw [bb_1]
      by_cases q : sRun p (-1) 300 (sIni p (-1) (-1) J) 191 k = 0
      · rw [q]; split <;> rfl
      · refine if_pos ⟨⟨k0, k1⟩, ?_⟩
        have d := hP.2.1 k k0 k1 q
        have e := hP.1.1 k k0 k1
        omega)
  unfold LMC at h2
  omega
/-! ### sums of what is delivered -/
theorem dl_m {u : Int → Int} (hv : PV p) (h4 : p 4 = 2) (h5 : p 5 = 2) : dlv p u 0 0 m + (dlv p u 0 1 m + (dlv p u 1 0 m + dlv p u 1 1 m)) = s_I (fun j => if p (88 + 5 * j + 3) = m then u j else 0) (p 87) := by
  have n := hv.n
  unfold dlv
  rw [← s_Id (by omega), ← s_Id (by omega), ← s_Id (by omega)]
  refine s_Ic (by omega) (fun j j0 j1 => ?_)
  have a := hv.j j0 j1
  have t : p (88 + 5 * j + 1) = 0 ∨ p (88 + 5 * j + 1) = 1 := by omega
  have c : p (88 + 5 * j + 2) = 0 ∨ p (88 + 5 * j + 2) = 1 := by
    rcases t with t | t
    · rw [t, show (4 : Int) + 0 = 4 from rfl, h4] at a; omega
    · rw [t, show (4 : Int) + 1 = 5 from rfl, h5] at a; omega
  by_cases hm : p (88 + 5 * j + 3) = m
  · rcases t with t | t <;> rcases c with c | c <;> simp [t, c, hm]
  · rcases t with t | t <;> rcases c with c | c <;> simp [t, c, hm]
theorem dl_a {u : Int → Int} (hv : PV p) (h36 : p 36 = 2) : s_I (fun j => if p (88 + 5 * j + 3) = 0 then u j else 0) (p 87) + s_I (fun j => if p (88 + 5 * j + 3) = 1 then u j else 0) (p 87) = s_I u (p 87) := by
  have n := hv.n
  rw [← s_Id (by omega)]
  refine s_Ic (by omega) (fun j j0 j1 => ?_)
  have a := hv.j j0 j1
  have t : p (88 + 5 * j + 3) = 0 ∨ p (88 + 5 * j + 3) = 1 := by omega
  rcases t with t | t <;> simp [t]
theorem lm_m {S : Mem} (hv : PV p) (h36 : p 36 = 2) (h45 : p 45 = 2) (hm : 0 ≤ m ∧ m < 2) : lmD p m S + lmD p (4 + m) S = s_I (fun j => if p (88 + 5 * j + 3) = m then S 199 j else 0) (p 87) := by
  have n := hv.n
  unfold lmD
  rw [← s_Id (by omega)]
  refine s_Ic (by omega) (fun j j0 j1 => ?_)
  have a := hv.j j0 j1
  have b := hv.i a.1 a.2.1
  unfold kcl
  by_cases c : p (88 + 5 * j + 3) = m
  · rw [if_pos c]
    obtain e | e : p (62 + 5 * p (88 + 5 * j + 0) + 0) = 0 ∨ p (62 + 5 * p (88 + 5 * j + 0) + 0) = 1 := by omega
    · rw [if_pos (by omega), if_neg (by omega)]; omega
    · rw [if_neg (by omega), if_pos (by omega)]; omega
  · rw [if_neg c, if_neg (by omega), if_neg (by omega)]; rfl
/-- stocks and deliveries are together the stocks that there were -/
theorem meals_hold {J : Mem} (hv : PV p) (h4 : p 4 = 2) (h5 : p 5 = 2) (h36 : p 36 = 2) (h45 : p 45 = 2) (hm : 0 ≤ m ∧ m < 2) : sGo p (-1) (-1) J 193 m + sGo p (-1) (-1) J 193 (4 + m) + (dlv p (sGo p (-1) (-1) J 199) 0 0 m + dlv p (sGo p (-1) (-1) J 199) 0 1 m + (dlv p (sGo p (-1) (-1) J 199) 1 0 m + dlv p (sGo p (-1) (-1) J 199) 1 1 m)) = p (49 + m) + p (49 + (4 + m)) := by
  have a := LMC_go (J := J) hv (m := m) (by omega)
  have b := LMC_go (J := J) hv (m := 4 + m) (by omega)
  have c := lm_m (S := sGo p (-1) (-1) J) hv h36 h45 hm
  have d := dl_m (u := sGo p (-1) (-1) J 199) (m := m) hv h4 h5
  omega
theorem meals_all {u : Int → Int} (hv : PV p) (h4 : p 4 = 2) (h5 : p 5 = 2) (h36 : p 36 = 2) : dlv p u 0 0 0 + dlv p u 0 1 0 + (dlv p u 1 0 0 + dlv p u 1 1 0) + (dlv p u 0 0 1 + dlv p u 0 1 1 + (dlv p u 1 0 1 + dlv p u 1 1 1)) = s_I u (p 87) := by
  have a := dl_m (u := u) (m := 0) hv h4 h5
  have b := dl_m (u := u) (m := 1) hv h4 h5
  have c := dl_a (u := u) hv h36
  omega
end LMG
