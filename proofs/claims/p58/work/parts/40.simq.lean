/-! ===== what the reference's run tells of each job: doors, the beginning ===== -/
section PIR
variable {p : Pl} {i : Int} {S : Mem}
theorem PI_re (hv : PV p) (h : PI p S) (hi : 0 ≤ i ∧ i < 5) (hj : S 187 i < p 87) (hw : S 192 i = 1) : PI p (sReach p (-1) i S) := by
  obtain ⟨h0, h1, h2, h3, h4, h5, h6⟩ := h
  have a := h0.1 i hi.1 hi.2
  have ab := a.2.2.2.2.2.2.2.2.2.1 hj
  have aw := a.2.2.2.2.2.2.2.2.2.2 hw
  have hb := sMany_b hv h0 hi hj
  have hk := wk_b hv a.1 hj
  have hw4 := h4 i hi.1 hi.2 hw
  have hpv := h6 (S 187 i) a.1 hj (by rw [ab.2]; exact Or.inr ⟨rfl, hw⟩)
  rw [ab.2] at hpv
  have n := hv.n
  have c1 := hv.i hi.1 ab.1
  have c196 := h0.2.2.2 (S 187 i) a.1 (by omega)
  have hx : 0 ≤ S 196 (S 187 i) * p (62 + 5 * i + 3) := Int.mul_nonneg (by omega) (by omega)
  have nb := nx_s (p := p) (i := i) (out := -1) (x := S 187 i + 1) (by omega)
  have hF : S 188 i ≤ sFin p i S ∧ sFin p i S ≤ max (S 188 i) 1059 + 99 := by unfold sFin; omega
  obtain ⟨e187, e188, e189, e190, e191, e192, e193, e194, e195, e196, e197, e198, e199, e200⟩ := re_c (p := p) (out := -1) (i := i) (S := S)
  have hlow : ∀ j, 0 ≤ j → j < p 87 → j ≠ S 187 i → j < u1 (S 187) i (nx p i (-1) (S 187 i + 1)) (p (88 + 5 * j + 0)) → j < S 187 (p (88 + 5 * j + 0)) := fun j j0 j1 hq hjj => by
    by_cases hb2 : p (88 + 5 * j + 0) = i
    · rw [hb2, u1_s] at hjj
      rw [hb2]
      by_cases hlt : j < S 187 i
      · exact hlt
      · exact absurd hb2 (nx_gap hj (by omega) hjj a.1)
    · rw [u1_n hb2] at hjj; exact hjj
  refine ⟨(SV_re hv h0 hi hj (by omega)).1, ?_, ?_, ?_, ?_, ?_, ?_⟩
  · rw [e188, e189, e191]
    intro k k0 k1 hk
    by_cases hki : k = i
    · subst hki
      rw [u1_s]
      by_cases hf : sFin p k S = S 188 k
      · rw [if_pos hf] at hk ⊢
        have b := h1 k k0 k1 hk
        exact ⟨by omega, b.2⟩
      · rw [if_neg hf, u1_s]
        exact ⟨by omega, ab.1⟩
    · rw [u1_n hki]
      by_cases hf : sFin p i S = S 188 i
      · rw [if_pos hf] at hk ⊢
        exact h1 k k0 k1 hk
      · rw [if_neg hf, u1_n hki] at hk
        rw [if_neg hf, u1_n hki]
        exact h1 k k0 k1 hk
  · rw [e187, e199]
    intro j j0 j1 hjj
    by_cases hb2 : p (88 + 5 * j + 0) = i
    · rw [hb2, u1_s] at hjj
      rw [u1_n (by omega)]
      refine h2 j j0 j1 ?_
      rw [hb2]; omega
    · rw [u1_n hb2] at hjj
      rw [u1_n (fun e => hb2 (by rw [e]; exact ab.2))]
      exact h2 j j0 j1 hjj
  · intro j j0 j1 hjj
    rw [e187] at hjj
    unfold ROk
    rw [e195, e196, e197, e198, e199, e200]
    by_cases hq : j = S 187 i
    · rw [hq, u1_s, u1_s, u1_s, ab.2]
      refine ⟨by omega, by omega, by omega, hb.1, hb.2.1, fun h => by omega, fun _ => ⟨by omega, by omega, fun h => ⟨by omega, ?_⟩⟩⟩
      have : sOver p i S = sBeg p i S + sMany p i S * p (62 + 5 * i + 4) := by unfold sOver; rw [if_neg (by omega)]
      unfold sFin
      omega
    · rw [u1_n hq, u1_n hq, u1_n hq]
      exact h3 j j0 j1 (hlow j j0 j1 hq hjj)
  · rw [e187, e188, e192, e195, e196, e197]
    intro k k0 k1 hk
    have hki : k ≠ i := fun e => by rw [e, u1_s] at hk; omega
    rw [u1_n hki] at hk
    rw [u1_n hki, u1_n hki]
    exact h4 k k0 k1 hk
  · rw [e187, e188, e192]
    intro k k0 k1 hk1 hk2
    by_cases hki : k = i
    · subst hki
      rw [u1_s, u1_s]
      refine PrevT.mk1 (j := S 187 k) ⟨a.1, by omega⟩ ab.2 (fun q q0 q1 => nx_gap hj q0 q1 a.1) ?_
      rw [e200, u1_s]
    · rw [u1_n hki] at hk1 hk2 ⊢
      rw [u1_n hki]
      refine (h5 k k0 k1 hk1 hk2).cg (fun j j0 j1 j2 => ?_)
      rw [e200, u1_n (fun e => by rw [e, ab.2] at j2; omega)]
  · rw [e187, e192, e195]
    intro j j0 j1 hjj
    by_cases hq : j = S 187 i
    · rw [hq, ab.2]
      refine hpv.cg (fun q q0 q1 q2 => ?_)
      rw [e200, u1_n (by omega)]
    · have h7 : PrevT p S (p (88 + 5 * j + 0)) j (S 195 j) := by
        refine h6 j j0 j1 ?_
        rcases hjj with h | h
        · exact Or.inl (hlow j j0 j1 hq h)
        · by_cases hb2 : p (88 + 5 * j + 0) = i
          · rw [hb2, u1_s, u1_s] at h; omega
          · rw [u1_n hb2, u1_n hb2] at h; exact Or.inr h
      refine h7.cg (fun q q0 q1 q2 => ?_)
      rw [e200]
      by_cases hqi : q = S 187 i
      · exfalso
        rw [hqi, ab.2] at q2
        rcases hjj with h | h
        · have := hlow j j0 j1 hq h
          rw [← q2] at this
          omega
        · rw [← q2, u1_s, u1_s] at h
          omega
      · rw [u1_n hqi]
theorem PI_ini {J : Mem} (hv : PV p) : PI p (sIni p (-1) (-1) J) := by
  have n := hv.n
  have h7 : ∀ i, 0 ≤ i → i < 5 → sIni p (-1) (-1) J 187 i = if i < p 61 ∧ i ≠ -1 then nx p i (-1) 0 else p 87 := fun i i0 i1 => ini_187 ⟨i0, i1⟩
  have low : ∀ j, 0 ≤ j → j < p 87 → ¬ j < sIni p (-1) (-1) J 187 (p (88 + 5 * j + 0)) := fun j j0 j1 h => by
    have b := hv.j j0 j1
    rw [h7 _ b.1 (by omega), if_pos ⟨b.2.1, by omega⟩] at h
    have nb := nx_s (p := p) (i := p (88 + 5 * j + 0)) (out := -1) (x := 0) (by omega)
    exact nb.2.2.2 j j0 h ⟨rfl, by omega⟩
  have z2 : ∀ i, 0 ≤ i → i < 5 → sIni p (-1) (-1) J 192 i = 0 := fun i i0 i1 => ini_0 (Or.inr (Or.inr rfl)) ⟨i0, i1⟩
  refine ⟨(SV_ini hv).1, fun i i0 i1 h => absurd (ini_0 (Or.inr (Or.inl rfl)) ⟨i0, i1⟩) h, fun j j0 j1 _ => ini_j (Or.inr rfl) ⟨j0, by omega⟩, fun j j0 j1 h => absurd h (low j j0 j1), fun i i0 i1 h => ?_, fun i i0 i1 h1 h2 => ?_, fun j j0 j1 h => ?_⟩
  · rw [z2 i i0 i1] at h; omega
  · have e : sIni p (-1) (-1) J 187 i = nx p i (-1) 0 := by
      rw [h7 i i0 i1] at h1 ⊢
      split
      · rfl
      · rename_i hc
        rw [if_neg hc] at h1
        omega
    rw [e] at h1 ⊢
    have nb := nx_s (p := p) (i := i) (out := -1) (x := 0) (by omega)
    refine ⟨fun j j0 j1 j2 _ => absurd ⟨j2, by omega⟩ (nb.2.2.2 j j0 j1), fun _ => ini_0 (Or.inl rfl) ⟨i0, i1⟩⟩
  · have b := hv.j j0 j1
    rcases h with h | h
    · exact absurd h (low j j0 j1)
    · rw [z2 _ b.1 (by omega)] at h; omega
theorem PI_step (hv : PV p) (h : PI p S) (hf : ¬ fst_ p S < 0) : PI p (sStep p (-1) S) := by
  rcases fst_s (p := p) (S := S) with ⟨a, _⟩ | ⟨a, b, c, _⟩
  · omega
  · have h1 := PI_bb (u := S 188 (fst_ p S)) h
    have e7 : bb (S 188 (fst_ p S)) S 187 = S 187 := bb_c (by decide) (by decide)
    have w := h1.1.1 (fst_ p S) a b
    unfold sStep
    by_cases hw : bb (S 188 (fst_ p S)) S 192 (fst_ p S) = 0
    · rw [if_pos hw]
      exact PI_st hv h1 ⟨a, b⟩ (by rw [e7]; exact c) hw
    · rw [if_neg hw]
      exact PI_re hv h1 ⟨a, b⟩ (by rw [e7]; exact c) (by omega)
theorem PI_run (hv : PV p) : ∀ (k : Nat) (S : Mem), PI p S → PI p (sRun p (-1) k S) := by
  intro k
  induction k with
  | zero => intro S h; exact h
  | succ k ih =>
    intro S h
    have e : sRun p (-1) (k + 1) S = if fst_ p S < 0 then S else sRun p (-1) k (sStep p (-1) S) := rfl
    rw [e]
    split
    · exact h
    · rename_i hf
      exact ih _ (PI_step hv h hf)
end PIR
