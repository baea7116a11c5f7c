/-! ===== what the reference's run tells of each job ===== -/
/-- t is when the job ahead of x of trolley i was finished, or 0 -/
def PrevT (p : Pl) (S : Mem) (i x t : Int) : Prop := (∀ j, 0 ≤ j → j < x → p (88 + 5 * j + 0) = i → (∀ q, j < q → q < x → p (88 + 5 * q + 0) ≠ i) → S 200 j = t) ∧ ((∀ q, 0 ≤ q → q < x → p (88 + 5 * q + 0) ≠ i) → t = 0)
def ROk (p : Pl) (S : Mem) (j : Int) : Prop := 0 ≤ S 195 j ∧ S 195 j ≤ S 200 j ∧ S 200 j ≤ 90000 ∧ 0 ≤ S 199 j ∧ S 199 j ≤ S 196 j ∧ (S 196 j = 0 → S 200 j = S 195 j) ∧ (S 196 j ≠ 0 → S 195 j + S 196 j * p (62 + 5 * p (88 + 5 * j + 0) + 3) ≤ S 197 j ∧ S 197 j ≤ S 200 j ∧ (S 199 j ≠ 0 → S 197 j ≤ S 198 j ∧ S 198 j + S 199 j * p (62 + 5 * p (88 + 5 * j + 0) + 4) ≤ S 200 j))
def PI (p : Pl) (S : Mem) : Prop :=
  SV p S ∧
  (∀ i, 0 ≤ i → i < 5 → S 191 i ≠ 0 → S 189 i ≤ S 188 i ∧ i < p 61) ∧
  (∀ j, 0 ≤ j → j < p 87 → S 187 (p (88 + 5 * j + 0)) ≤ j → S 199 j = 0) ∧
  (∀ j, 0 ≤ j → j < p 87 → j < S 187 (p (88 + 5 * j + 0)) → ROk p S j) ∧
  (∀ i, 0 ≤ i → i < 5 → S 192 i = 1 → 0 ≤ S 195 (S 187 i) ∧ S 195 (S 187 i) + S 196 (S 187 i) * p (62 + 5 * i + 3) ≤ S 197 (S 187 i) ∧ S 197 (S 187 i) = S 188 i) ∧
  (∀ i, 0 ≤ i → i < 5 → S 187 i < p 87 → S 192 i = 0 → PrevT p S i (S 187 i) (S 188 i)) ∧
  (∀ j, 0 ≤ j → j < p 87 → (j < S 187 (p (88 + 5 * j + 0)) ∨ (j = S 187 (p (88 + 5 * j + 0)) ∧ S 192 (p (88 + 5 * j + 0)) = 1)) → PrevT p S (p (88 + 5 * j + 0)) j (S 195 j))
section PIS
variable {p : Pl} {i : Int} {S : Mem}
theorem PI_bb {u : Int} (h : PI p S) : PI p (bb u S) := by
  obtain ⟨h0, h1, h2, h3, h4, h5, h6⟩ := h
  have e187 : bb u S 187 = S 187 := bb_c (by decide) (by decide)
  have e188 : bb u S 188 = S 188 := bb_c (by decide) (by decide)
  have e189 : bb u S 189 = S 189 := bb_c (by decide) (by decide)
  have e192 : bb u S 192 = S 192 := bb_c (by decide) (by decide)
  have e195 : bb u S 195 = S 195 := bb_c (by decide) (by decide)
  have e196 : bb u S 196 = S 196 := bb_c (by decide) (by decide)
  have e197 : bb u S 197 = S 197 := bb_c (by decide) (by decide)
  have e198 : bb u S 198 = S 198 := bb_c (by decide) (by decide)
  have e199 : bb u S 199 = S 199 := bb_c (by decide) (by decide)
  have e200 : bb u S 200 = S 200 := bb_c (by decide) (by decide)
  refine ⟨SV_bb h0, ?_, ?_, ?_, ?_, ?_, ?_⟩
  · rw [e188, e189]
    intro i i0 i1 hi
    refine h1 i i0 i1 ?_
    rw [bb_1] at hi
    intro h
    rw [h] at hi
    split at hi <;> exact hi rfl
  · rw [e187, e199]; exact h2
  · unfold ROk
    rw [e187, e195, e196, e197, e198, e199, e200]
    exact h3
  · rw [e187, e188, e192, e195, e196, e197]; exact h4
  · unfold PrevT
    rw [e187, e188, e192, e200]
    exact h5
  · unfold PrevT
    rw [e187, e192, e195, e200]
    exact h6
theorem PrevT.cg {S' : Mem} {x t : Int} (h : PrevT p S i x t) (he : ∀ j, 0 ≤ j → j < x → p (88 + 5 * j + 0) = i → S' 200 j = S 200 j) : PrevT p S' i x t := by
  refine ⟨fun j j0 j1 j2 j3 => ?_, h.2⟩
  rw [he j j0 j1 j2]
  exact h.1 j j0 j1 j2 j3
/-- the job j is the last one ahead of x -/
theorem PrevT.mk1 {j x t : Int} (hj : 0 ≤ j ∧ j < x) (hb : p (88 + 5 * j + 0) = i) (hn : ∀ q, j < q → q < x → p (88 + 5 * q + 0) ≠ i) (ht : S 200 j = t) : PrevT p S i x t := by
  refine ⟨fun j' j0 j1 j2 j3 => ?_, fun h => absurd hb (h j hj.1 hj.2)⟩
  by_cases e : j' < j
  · exact absurd hb (j3 j e hj.2)
  · by_cases e2 : j < j'
    · exact absurd j2 (hn j' e2 j1)
    · rw [show j' = j by omega]; exact ht
theorem nx_gap {j q : Int} (hj : j < p 87) (h1 : j < q) (h2 : q < nx p i (-1) (j + 1)) (h0 : 0 ≤ j) : p (88 + 5 * q + 0) ≠ i := by
  have nb := nx_s (p := p) (i := i) (out := -1) (x := j + 1) (by omega)
  intro h
  exact nb.2.2.2 q (by omega) h2 ⟨h, by omega⟩
theorem PI_st (hv : PV p) (h : PI p S) (hi : 0 ≤ i ∧ i < 5) (hj : S 187 i < p 87) (hw : S 192 i = 0) : PI p (sStarts p (-1) i S) := by
  obtain ⟨h0, h1, h2, h3, h4, h5, h6⟩ := h
  have a := h0.1 i hi.1 hi.2
  have ab := a.2.2.2.2.2.2.2.2.2.1 hj
  have hb := sMn_b hv h0 hi hj
  have ht := sTm_b hv h0 hi hj
  have hk := wk_b hv a.1 hj
  have hpv := h5 i hi.1 hi.2 hj hw
  have n := hv.n
  have nb := nx_s (p := p) (i := i) (out := -1) (x := S 187 i + 1) (by omega)
  obtain ⟨e187, e188, e189, e190, e191, e192, e193, e194, e195, e196, e197, e198, e199, e200⟩ := st_c (p := p) (out := -1) (i := i) (S := S)
  refine ⟨(SV_st hv h0 hi hj hw).1, ?_, ?_, ?_, ?_, ?_, ?_⟩
  · rw [e188, e189, e191]
    intro k k0 k1 hk
    have b := h1 k k0 k1 hk
    refine ⟨?_, b.2⟩
    split
    · exact b.1
    · by_cases hki : k = i
      · subst hki; rw [u1_s]; omega
      · rw [u1_n hki]; exact b.1
  · rw [e187, e199]
    intro j j0 j1 hjj
    by_cases hq : j = S 187 i
    · rw [hq, u1_s]
    · rw [u1_n hq]
      refine h2 j j0 j1 ?_
      by_cases hm : sMn p i S = 0
      · rw [if_pos hm] at hjj
        by_cases hb2 : p (88 + 5 * j + 0) = i
        · rw [hb2, u1_s] at hjj
          rw [hb2]; omega
        · rw [u1_n hb2] at hjj; exact hjj
      · rw [if_neg hm] at hjj; exact hjj
  · intro j j0 j1 hjj
    rw [e187] at hjj
    by_cases hm : sMn p i S = 0
    · rw [if_pos hm] at hjj
      unfold ROk
      rw [e195, e196, e197, e198, e199, e200, if_pos hm, if_pos hm, hm]
      by_cases hq : j = S 187 i
      · rw [hq, u1_s, u1_s, u1_s, u1_s]
        exact ⟨by omega, by omega, by omega, by omega, by omega, fun _ => rfl, fun h => absurd rfl h⟩
      · rw [u1_n hq, u1_n hq, u1_n hq, u1_n hq]
        refine h3 j j0 j1 ?_
        by_cases hb2 : p (88 + 5 * j + 0) = i
        · rw [hb2, u1_s] at hjj
          rw [hb2]
          by_cases hlt : j < S 187 i
          · exact hlt
          · exact absurd hb2 (nx_gap hj (by omega) hjj a.1)
        · rw [u1_n hb2] at hjj; exact hjj
    · rw [if_neg hm] at hjj
      unfold ROk
      rw [e195, e196, e197, e198, e199, e200, if_neg hm, if_neg hm]
      have hq : j ≠ S 187 i := fun hq => by
        rw [hq, ab.2] at hjj
        omega
      rw [u1_n hq, u1_n hq, u1_n hq, u1_n hq]
      exact h3 j j0 j1 hjj
  · rw [e187, e188, e192, e195, e196, e197]
    intro k k0 k1 hk
    by_cases hm : sMn p i S = 0
    · rw [if_pos hm] at hk
      rw [if_pos hm, if_pos hm, if_pos hm]
      have hki : k ≠ i := fun e => by rw [e] at hk; omega
      rw [u1_n hki]
      have c := h0.1 k k0 k1
      have c2 := c.2.2.2.2.2.2.2.2.2.2 hk
      have hq : S 187 k ≠ S 187 i := fun e => by
        have := (c.2.2.2.2.2.2.2.2.2.1 c2.1).2
        rw [e, ab.2] at this
        omega
      rw [u1_n hq, u1_n hq]
      exact h4 k k0 k1 hk
    · rw [if_neg hm] at hk
      rw [if_neg hm, if_neg hm, if_neg hm]
      by_cases hki : k = i
      · subst hki
        rw [u1_s, u1_s, u1_s, u1_s]
        exact ⟨by omega, by unfold sTm; omega, rfl⟩
      · rw [u1_n hki] at hk
        have c := h0.1 k k0 k1
        have c2 := c.2.2.2.2.2.2.2.2.2.2 hk
        have hq : S 187 k ≠ S 187 i := fun e => by
          have := (c.2.2.2.2.2.2.2.2.2.1 c2.1).2
          rw [e, ab.2] at this
          omega
        rw [u1_n hq, u1_n hq, u1_n hq, u1_n hki]
        exact h4 k k0 k1 hk
  · rw [e187, e188, e192]
    intro k k0 k1 hk1 hk2
    by_cases hm : sMn p i S = 0
    · rw [if_pos hm] at hk1 hk2 ⊢
      rw [if_pos hm]
      by_cases hki : k = i
      · subst hki
        rw [u1_s]
        refine PrevT.mk1 (j := S 187 k) ⟨a.1, by omega⟩ ab.2 (fun q q0 q1 => nx_gap hj q0 q1 a.1) ?_
        rw [e200, if_pos hm, u1_s]
      · rw [u1_n hki] at hk1 ⊢
        refine (h5 k k0 k1 hk1 hk2).cg (fun j j0 j1 j2 => ?_)
        rw [e200, if_pos hm, u1_n (fun e => by rw [e, ab.2] at j2; omega)]
    · rw [if_neg hm] at hk1 hk2 ⊢
      rw [if_neg hm]
      have hki : k ≠ i := fun e => by rw [e, u1_s] at hk2; omega
      rw [u1_n hki] at hk2 ⊢
      refine (h5 k k0 k1 hk1 hk2).cg (fun j j0 j1 j2 => ?_)
      rw [e200, if_neg hm]
  · rw [e187, e192, e195]
    intro j j0 j1 hjj
    by_cases hq : j = S 187 i
    · rw [hq, u1_s, ab.2]
      refine hpv.cg (fun q q0 q1 q2 => ?_)
      rw [e200]
      split
      · rw [u1_n (by omega)]
      · rfl
    · rw [u1_n hq]
      have h7 : PrevT p S (p (88 + 5 * j + 0)) j (S 195 j) := by
        refine h6 j j0 j1 ?_
        by_cases hm : sMn p i S = 0
        · rw [if_pos hm, if_pos hm] at hjj
          by_cases hb2 : p (88 + 5 * j + 0) = i
          · rw [hb2, u1_s] at hjj
            rw [hb2]
            rcases hjj with h | h
            · by_cases hlt : j < S 187 i
              · exact Or.inl hlt
              · exact absurd hb2 (nx_gap hj (by omega) h a.1)
            · omega
          · rw [u1_n hb2] at hjj; exact hjj
        · rw [if_neg hm, if_neg hm] at hjj
          by_cases hb2 : p (88 + 5 * j + 0) = i
          · rw [hb2] at hjj ⊢
            omega
          · rw [u1_n hb2] at hjj; exact hjj
      refine h7.cg (fun q q0 q1 q2 => ?_)
      rw [e200]
      split
      · by_cases hqi : q = S 187 i
        · exfalso
          rw [hqi, ab.2] at q2
          rcases hjj with h | h
          · rename_i hm
            rw [if_pos hm, ← q2, u1_s] at h
            exact absurd q2.symm (nx_gap hj (by omega) h a.1)
          · rename_i hm
            rw [if_pos hm, if_pos hm, ← q2, u1_s] at h
            omega
        · rw [u1_n hqi]
      · rfl
end PIS
