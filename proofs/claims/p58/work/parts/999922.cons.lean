/-! ===== no meal is lost ===== -/
def cvF (p : Pl) (m : Int) (S : Mem) : Int → Int := fun i => (if S 192 i = 1 ∧ p (88 + 5 * S 187 i + 3) = m then S 196 (S 187 i) else 0) + (if S 190 i % 4 = m then S 191 i else 0)
def cvD (p : Pl) (m : Int) (S : Mem) : Int := s_I (fun j => if p (88 + 5 * j + 3) = m then S 199 j else 0) (p 87)
def CV (p : Pl) (m : Int) (S : Mem) : Prop := S 193 m + S 193 (4 + m) + S 193 (8 + m) + s_I (cvF p m S) 5 + cvD p m S = p (49 + m) + p (49 + (4 + m)) + p (49 + (8 + m))
section CVS
variable {p : Pl} {m i : Int} {S : Mem}
theorem CV_bb {u : Int} (hm : 0 ≤ m ∧ m < 4) (hS : SV p S) (h : CV p m S) : CV p m (bb u S) := by
  have e187 : bb u S 187 = S 187 := bb_c (by decide) (by decide)
  have e190 : bb u S 190 = S 190 := bb_c (by decide) (by decide)
  have e192 : bb u S 192 = S 192 := bb_c (by decide) (by decide)
  have e196 : bb u S 196 = S 196 := bb_c (by decide) (by decide)
  have e199 : bb u S 199 = S 199 := bb_c (by decide) (by decide)
  have hD : cvD p m (bb u S) = cvD p m S := by unfold cvD; rw [e199]
  have hF : s_I (cvF p m (bb u S)) 5 + (s_I (bkd S u m) 5 + (s_I (bkd S u (4 + m)) 5 + s_I (bkd S u (8 + m)) 5)) = s_I (cvF p m S) 5 := by
    rw [← s_Id (by decide), ← s_Id (by decide), ← s_Id (by decide)]
    refine s_Ic (by decide) (fun k k0 k1 => ?_)
    have a := hS.1 k k0 k1
    unfold cvF bkd
    rw [e187, e190, e192, e196, bb_1]
    by_cases q : S 191 k = 0
    · rw [q]
      simp
    · have b := a.2.2.2.2.2.2.2.2.1 q
      by_cases c : S 189 k ≤ u
      · rw [if_pos (⟨⟨k0, k1⟩, c⟩ : (0 ≤ k ∧ k < 5) ∧ S 189 k ≤ u)]
        by_cases d : S 190 k % 4 = m
        · rw [if_pos d, if_pos d]
          obtain e | e | e : S 190 k = m ∨ S 190 k = 4 + m ∨ S 190 k = 8 + m := by omega
          · rw [if_pos ⟨e, c⟩, if_neg (fun z => by omega), if_neg (fun z => by omega)]; omega
          · rw [if_neg (fun z => by omega), if_pos ⟨e, c⟩, if_neg (fun z => by omega)]; omega
          · rw [if_neg (fun z => by omega), if_neg (fun z => by omega), if_pos ⟨e, c⟩]; omega
        · rw [if_neg d, if_neg d, if_neg (fun z => by omega), if_neg (fun z => by omega), if_neg (fun z => by omega)]
          omega
      · rw [if_neg (fun z => c z.2), if_neg (fun z => c z.2), if_neg (fun z => c z.2), if_neg (fun z => c z.2)]
        omega
  unfold CV at h ⊢
  rw [hD, bb_3, bb_3, bb_3]
  omega
theorem cvD_u {j v : Int} (hn : 0 ≤ j ∧ j < p 87) {S' : Mem} (he : S' 199 = u1 (S 199) j v) (h0 : S 199 j = 0) : cvD p m S' = cvD p m S + if p (88 + 5 * j + 3) = m then v else 0 := by
  unfold cvD
  rw [he]
  have e : s_I (fun k => if p (88 + 5 * k + 3) = m then u1 (S 199) j v k else 0) (p 87) = s_I (u1 (fun k => if p (88 + 5 * k + 3) = m then S 199 k else 0) j (if p (88 + 5 * j + 3) = m then v else 0)) (p 87) := by
    refine s_Ic (by omega) (fun k k0 k1 => ?_)
    by_cases c : k = j
    · subst c; rw [u1_s, u1_s]
    · rw [u1_n c, u1_n c]
  rw [e, s_Iu (by omega) hn, h0]
  split <;> omega
theorem cvF_u {S' : Mem} (hi : 0 ≤ i ∧ i < 5) (h : ∀ k, 0 ≤ k → k < 5 → k ≠ i → cvF p m S' k = cvF p m S k) : s_I (cvF p m S') 5 = s_I (cvF p m S) 5 - cvF p m S i + cvF p m S' i := by
  have e : s_I (cvF p m S') 5 = s_I (u1 (cvF p m S) i (cvF p m S' i)) 5 := by
    refine s_Ic (by decide) (fun k k0 k1 => ?_)
    by_cases c : k = i
    · rw [c, u1_s]
    · rw [u1_n c]; exact h k k0 k1 c
  rw [e, s_Iu (by decide) hi]
theorem st3 {f : Int → Int} {c v : Int} (hm : 0 ≤ m ∧ m < 4) (hc : 0 ≤ c ∧ c < 12) : u1 f c v m + u1 f c v (4 + m) + u1 f c v (8 + m) = f m + f (4 + m) + f (8 + m) + if c % 4 = m then v - f c else 0 := by
  by_cases d : c % 4 = m
  · rw [if_pos d]
    obtain e | e | e : c = m ∨ c = 4 + m ∨ c = 8 + m := by omega
    · subst e; rw [u1_s, u1_n (by omega), u1_n (by omega)]; omega
    · subst e; rw [u1_s, u1_n (by omega), u1_n (by omega)]; omega
    · subst e; rw [u1_s, u1_n (by omega), u1_n (by omega)]; omega
  · rw [if_neg d, u1_n (by omega), u1_n (by omega), u1_n (by omega)]
    omega
theorem CV_st (hv : PV p) (hm : 0 ≤ m ∧ m < 4) (hP : PI p S) (h : CV p m S) (hi : 0 ≤ i ∧ i < 5) (hj : S 187 i < p 87) (hw : S 192 i = 0) : CV p m (sStarts p (-1) i S) := by
  obtain ⟨h0, h1, h2, h3, h4, h5, h6⟩ := hP
  have a := h0.1 i hi.1 hi.2
  have ab := a.2.2.2.2.2.2.2.2.2.1 hj
  have hb := sMn_b hv h0 hi hj
  have pj := hv.j a.1 hj
  have n := hv.n
  have z199 : S 199 (S 187 i) = 0 := h2 _ a.1 hj (by rw [ab.2]; exact Int.le_refl _)
  have hmeal : sCl p i S % 4 = p (88 + 5 * S 187 i + 3) := by unfold sCl; omega
  have ne : ∀ k, 0 ≤ k → k < 5 → k ≠ i → S 192 k = 1 → S 187 k ≠ S 187 i := fun k k0 k1 kn kw e => by
    have c := h0.1 k k0 k1
    have c2 := c.2.2.2.2.2.2.2.2.2.2 kw
    have c3 := (c.2.2.2.2.2.2.2.2.2.1 c2.1).2
    rw [e, ab.2] at c3
    omega
  obtain ⟨e187, e188, e189, e190, e191, e192, e193, e194, e195, e196, e197, e198, e199, e200⟩ := st_c (p := p) (out := -1) (i := i) (S := S)
  have hD := cvD_u (m := m) ⟨a.1, hj⟩ e199 z199
  unfold CV at h ⊢
  rw [hD]
  by_cases hq : sMn p i S = 0
  · have hF := cvF_u (p := p) (m := m) (S := S) (S' := sStarts p (-1) i S) hi (fun k k0 k1 kn => by
      unfold cvF
      rw [e187, e190, e191, e192, e196, if_pos hq, if_pos hq, u1_n kn]
      by_cases kw : S 192 k = 1
      · rw [u1_n (ne k k0 k1 kn kw)]
      · rw [if_neg (fun z => kw z.1), if_neg (fun z => kw z.1)])
    have fi : cvF p m (sStarts p (-1) i S) i = cvF p m S i := by
      unfold cvF
      rw [e187, e190, e191, e192, e196, if_pos hq, if_pos hq, if_neg (fun z => by omega), if_neg (fun z => by omega)]
    rw [hF, fi, e193, if_pos hq]
    split <;> omega
  · have hF := cvF_u (p := p) (m := m) (S := S) (S' := sStarts p (-1) i S) hi (fun k k0 k1 kn => by
      unfold cvF
      rw [e187, e190, e191, e192, e196, if_neg hq, if_neg hq, u1_n kn]
      by_cases kw : S 192 k = 1
      · rw [u1_n (ne k k0 k1 kn kw)]
      · rw [if_neg (fun z => kw z.1), if_neg (fun z => kw z.1)])
    have fi : cvF p m (sStarts p (-1) i S) i = cvF p m S i + if p (88 + 5 * S 187 i + 3) = m then sMn p i S else 0 := by
      unfold cvF
      rw [e187, e190, e191, e192, e196, if_neg hq, if_neg hq, u1_s, u1_s, if_neg (fun z => by omega : ¬ (S 192 i = 1 ∧ p (88 + 5 * S 187 i + 3) = m))]
      by_cases c : p (88 + 5 * S 187 i + 3) = m
      · rw [if_pos ⟨rfl, c⟩, if_pos c]; omega
      · rw [if_neg (fun z => c z.2), if_neg c]; omega
    rw [hF, fi, e193, if_neg hq, st3 hm ⟨hb.2.2.1, hb.2.2.2.1⟩, hmeal]
    split <;> split <;> omega
theorem CV_re (hv : PV p) (hm : 0 ≤ m ∧ m < 4) (hP : PI p S) (h : CV p m S) (hi : 0 ≤ i ∧ i < 5) (hj : S 187 i < p 87) (hw : S 192 i = 1) (h191 : S 191 i = 0) : CV p m (sReach p (-1) i S) := by
  obtain ⟨h0, h1, h2, h3, h4, h5, h6⟩ := hP
  have a := h0.1 i hi.1 hi.2
  have ab := a.2.2.2.2.2.2.2.2.2.1 hj
  have hb := sMn_b hv h0 hi hj
  have pj := hv.j a.1 hj
  have n := hv.n
  have z199 : S 199 (S 187 i) = 0 := h2 _ a.1 hj (by rw [ab.2]; exact Int.le_refl _)
  have hmeal : sCl p i S % 4 = p (88 + 5 * S 187 i + 3) := by unfold sCl; omega
  have ne : ∀ k, 0 ≤ k → k < 5 → k ≠ i → S 192 k = 1 → S 187 k ≠ S 187 i := fun k k0 k1 kn kw e => by
    have c := h0.1 k k0 k1
    have c2 := c.2.2.2.2.2.2.2.2.2.2 kw
    have c3 := (c.2.2.2.2.2.2.2.2.2.1 c2.1).2
    rw [e, ab.2] at c3
    omega
  obtain ⟨e187, e188, e189, e190, e191, e192, e193, e194, e195, e196, e197, e198, e199, e200⟩ := re_c (p := p) (out := -1) (i := i) (S := S)
  have hD := cvD_u (m := m) ⟨a.1, hj⟩ e199 z199
  have fS : cvF p m S i = if p (88 + 5 * S 187 i + 3) = m then S 196 (S 187 i) else 0 := by
    unfold cvF
    rw [h191]
    by_cases c : p (88 + 5 * S 187 i + 3) = m
    · rw [if_pos ⟨hw, c⟩, if_pos c]; split <;> omega
    · rw [if_neg (fun z => c z.2), if_neg c]; split <;> omega
  unfold CV at h ⊢
  rw [hD]
  by_cases hf : sFin p i S = S 188 i
  · have hF := cvF_u (p := p) (m := m) (S := S) (S' := sReach p (-1) i S) hi (fun k k0 k1 kn => by
      unfold cvF
      rw [e187, e190, e191, e192, e196, if_pos hf, if_pos hf, u1_n kn, u1_n kn])
    have fi : cvF p m (sReach p (-1) i S) i = 0 := by
      unfold cvF
      rw [e187, e190, e191, e192, e196, if_pos hf, if_pos hf, u1_s, h191, if_neg (fun z => by have := z.1; omega)]
      split <;> omega
    rw [hF, fi, fS, e193, if_pos hf, st3 hm ⟨hb.2.2.1, hb.2.2.2.1⟩, hmeal]
    split <;> omega
  · have hF := cvF_u (p := p) (m := m) (S := S) (S' := sReach p (-1) i S) hi (fun k k0 k1 kn => by
      unfold cvF
      rw [e187, e190, e191, e192, e196, if_neg hf, if_neg hf, u1_n kn, u1_n kn, u1_n kn, u1_n kn])
    have fi : cvF p m (sReach p (-1) i S) i = if p (88 + 5 * S 187 i + 3) = m then S 196 (S 187 i) - sMany p i S else 0 := by
      unfold cvF
      rw [e187, e190, e191, e192, e196, if_neg hf, if_neg hf, u1_s, u1_s, u1_s, u1_s, if_neg (fun z => by have := z.1; omega), hmeal]
      omega
    rw [hF, fi, fS, e193, if_neg hf]
    split <;> omega
end CVS
