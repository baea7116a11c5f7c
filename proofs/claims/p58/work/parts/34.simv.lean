/-! ===== the reference's run keeps its ranges ===== -/
theorem s_Im {f g : Int → Int} {n : Int} (hn : 0 ≤ n) (h : ∀ j, 0 ≤ j → j < n → f j ≤ g j) : s_I f n ≤ s_I g n := by
  revert h
  refine i_ind (P := fun n => (∀ j, 0 ≤ j → j < n → f j ≤ g j) → s_I f n ≤ s_I g n) ?_ ?_ n hn
  · intro _; exact Int.le_refl _
  · intro n hn ih h
    have h1 := ih (fun j h1 h2 => h j h1 (by omega))
    have h2 := h n hn (by omega)
    rw [s_Is hn, s_Is hn]
    omega
def sCl (p : Pl) (i : Int) (S : Mem) : Int := 4 * p (62 + 5 * i + 0) + p (88 + 5 * S 187 i + 3)
def sMn (p : Pl) (i : Int) (S : Mem) : Int := min (S 193 (4 * p (62 + 5 * i + 0) + p (88 + 5 * S 187 i + 3))) (min (p (62 + 5 * i + 1)) (p (88 + 5 * S 187 i + 4)))
def sTm (p : Pl) (i : Int) (S : Mem) : Int := S 188 i + (sMn p i S * p (62 + 5 * i + 3) + wk p (S 187 i))
section STC
variable {p : Pl} {out i : Int} {S : Mem}
theorem st_0 (h : sMn p i S = 0) : sStarts p out i S = up2 (up2 (up2 (up2 (up2 S 195 (S 187 i) (S 188 i)) 196 (S 187 i) 0) 199 (S 187 i) 0) 200 (S 187 i) (S 188 i)) 187 i (nx p i out (S 187 i + 1)) := by
  have h1 := h
  unfold sMn at h1
  unfold sStarts
  rw [if_pos h1, h1]
theorem st_1 (h : sMn p i S ≠ 0) : sStarts p out i S = up2 (up2 (up2 (up2 (up2 (up2 (up2 S 195 (S 187 i) (S 188 i)) 196 (S 187 i) (sMn p i S)) 199 (S 187 i) 0) 193 (sCl p i S) (S 193 (sCl p i S) - sMn p i S)) 192 i 1) 188 i (sTm p i S)) 197 (S 187 i) (sTm p i S) := by
  have h1 := h
  unfold sMn at h1
  unfold sStarts
  rw [if_neg h1]
  rfl
theorem SV_bb {u : Int} (h : SV p S) : SV p (bb u S) := by
  obtain ⟨h1, h2, h3, h4⟩ := h
  have e187 : bb u S 187 = S 187 := bb_c (by decide) (by decide)
  have e188 : bb u S 188 = S 188 := bb_c (by decide) (by decide)
  have e190 : bb u S 190 = S 190 := bb_c (by decide) (by decide)
  have e192 : bb u S 192 = S 192 := bb_c (by decide) (by decide)
  have e194 : bb u S 194 = S 194 := bb_c (by decide) (by decide)
  have e196 : bb u S 196 = S 196 := bb_c (by decide) (by decide)
  have e199 : bb u S 199 = S 199 := bb_c (by decide) (by decide)
  unfold SV
  rw [e187, e188, e190, e192, e194, e196, e199]
  refine ⟨fun i i0 i1 => ?_, fun k k0 k1 => ?_, h3, h4⟩
  · have a := h1 i i0 i1
    rw [bb_1]
    split <;> omega
  · have a := h2 k k0 k1
    have b0 : ∀ j : Int, 0 ≤ j → j < 5 → 0 ≤ bkd S u k j ∧ bkd S u k j ≤ 99 := fun j j0 j1 => by
      have := h1 j j0 j1
      unfold bkd
      split <;> omega
    have c0 := s_Ib (f := bkd S u k) (n := 5) (by omega) b0
    have c1 : s_I (fun j => bkd S u k j + bb u S 191 j) 5 ≤ s_I (S 191) 5 := by
      refine s_Im (by omega) (fun j j0 j1 => ?_)
      have := h1 j j0 j1
      rw [bb_1]
      unfold bkd
      split <;> split <;> omega
    rw [s_Id (by omega)] at c1
    rw [bb_3]
    omega
theorem sMn_b (hv : PV p) (hS : SV p S) (hi : 0 ≤ i ∧ i < 5) (hj : S 187 i < p 87) : 0 ≤ sMn p i S ∧ sMn p i S ≤ 99 ∧ 0 ≤ sCl p i S ∧ sCl p i S < 12 ∧ sMn p i S ≤ S 193 (sCl p i S) ∧ i < p 61 := by
  have a := hS.1 i hi.1 hi.2
  have b := a.2.2.2.2.2.2.2.2.2.1 hj
  have c := hv.i hi.1 b.1
  have d := hv.j a.1 hj
  have n := hv.n
  have e : 0 ≤ sCl p i S ∧ sCl p i S < 12 := by unfold sCl; omega
  have f := (hS.2.1 _ e.1 e.2).1
  unfold sCl at f e
  unfold sMn sCl
  omega
theorem sTm_b (hv : PV p) (hS : SV p S) (hi : 0 ≤ i ∧ i < 5) (hj : S 187 i < p 87) : S 188 i ≤ sTm p i S ∧ sTm p i S ≤ S 188 i + 594 ∧ 0 ≤ sMn p i S * p (62 + 5 * i + 3) ∧ sMn p i S * p (62 + 5 * i + 3) ≤ 495 := by
  have a := hS.1 i hi.1 hi.2
  have b := sMn_b hv hS hi hj
  have c := hv.i hi.1 b.2.2.2.2.2
  have d := wk_b hv a.1 hj
  have e := mulb b.1 b.2.1 (show 0 ≤ p (62 + 5 * i + 3) by omega) (show p (62 + 5 * i + 3) ≤ 5 by omega)
  unfold sTm
  omega
theorem SV_st (hv : PV p) (hS : SV p S) (hi : 0 ≤ i ∧ i < 5) (hj : S 187 i < p 87) (hw : S 192 i = 0) : SV p (sStarts p out i S) ∧ sMe p (sStarts p out i S) < sMe p S := by
  have a := hS.1 i hi.1 hi.2
  have n := hv.n
  obtain ⟨h1, h2, h3, h4⟩ := hS
  have hb := sMn_b hv ⟨h1, h2, h3, h4⟩ hi hj
  have ht := sTm_b hv ⟨h1, h2, h3, h4⟩ hi hj
  have nb := nx_s (p := p) (i := i) (out := out) (x := S 187 i + 1) (by omega)
  by_cases hm : sMn p i S = 0
  · rw [st_0 hm]
    unfold SV sMe
    simp (disch := decide) only [up2_c, up2_u]
    refine ⟨⟨fun k k0 k1 => ?_, fun k k0 k1 => ?_, h3, fun k k0 k1 => ?_⟩, ?_⟩
    · by_cases hk : k = i
      · subst hk
        rw [u1_s]
        refine ⟨by omega, by omega, by omega, by omega, by omega, by omega, by omega, by omega, a.2.2.2.2.2.2.2.2.1, fun h => ⟨by omega, (nb.2.2.1 h).1⟩, fun h => by omega⟩
      · rw [u1_n hk]
        have b := h1 k k0 k1
        refine ⟨by omega, by omega, by omega, by omega, by omega, by omega, by omega, by omega, b.2.2.2.2.2.2.2.2.1, b.2.2.2.2.2.2.2.2.2.1, fun h => ?_⟩
        have c := b.2.2.2.2.2.2.2.2.2.2 h
        refine ⟨c.1, ?_⟩
        by_cases hq : S 187 k = S 187 i
        · have d1 := b.2.2.2.2.2.2.2.2.2.1 c.1
          have d2 := a.2.2.2.2.2.2.2.2.2.1 hj
          rw [hq] at d1
          omega
        · rw [u1_n hq]
          exact c.2
    · have b := h2 k k0 k1
      rw [s_Iu (by omega) hi]
      omega
    · have b := h4 k k0 k1
      refine ⟨?_, ?_, ?_, ?_⟩ <;> (unfold u1; split <;> omega)
    · have e : (fun k => 2 * (p 87 - u1 (S 187) i (nx p i out (S 187 i + 1)) k) - S 192 k) = u1 (fun k => 2 * (p 87 - S 187 k) - S 192 k) i (2 * (p 87 - nx p i out (S 187 i + 1)) - S 192 i) := by
        funext k
        unfold u1
        by_cases hk : k = i
        · rw [if_pos hk, if_pos hk, hk]
        · rw [if_neg hk, if_neg hk]
      rw [e, s_Iu (by omega) hi]
      omega
  · rw [st_1 hm]
    unfold SV sMe
    simp (disch := decide) only [up2_c, up2_u]
    refine ⟨⟨fun k k0 k1 => ?_, fun k k0 k1 => ?_, h3, fun k k0 k1 => ?_⟩, ?_⟩
    · by_cases hk : k = i
      · subst hk
        rw [u1_s, u1_s, u1_s]
        exact ⟨by omega, by omega, by omega, by omega, by omega, by omega, by omega, by omega, a.2.2.2.2.2.2.2.2.1, a.2.2.2.2.2.2.2.2.2.1, fun h => ⟨by omega, by omega⟩⟩
      · rw [u1_n hk, u1_n hk]
        have b := h1 k k0 k1
        refine ⟨by omega, by omega, by omega, by omega, by omega, by omega, by omega, by omega, b.2.2.2.2.2.2.2.2.1, b.2.2.2.2.2.2.2.2.2.1, fun h => ?_⟩
        have c := b.2.2.2.2.2.2.2.2.2.2 h
        refine ⟨c.1, ?_⟩
        by_cases hq : S 187 k = S 187 i
        · have d1 := b.2.2.2.2.2.2.2.2.2.1 c.1
          have d2 := a.2.2.2.2.2.2.2.2.2.1 hj
          rw [hq] at d1
          omega
        · rw [u1_n hq]
          exact c.2
    · have b := h2 k k0 k1
      unfold u1
      split
      · rename_i hk
        rw [hk] at b
        omega
      · exact b
    · have b := h4 k k0 k1
      refine ⟨?_, ?_, ?_, ?_⟩ <;> (unfold u1; split <;> omega)
    · have e : (fun k => 2 * (p 87 - S 187 k) - u1 (S 192) i 1 k) = u1 (fun k => 2 * (p 87 - S 187 k) - S 192 k) i (2 * (p 87 - S 187 i) - 1) := by
        funext k
        unfold u1
        by_cases hk : k = i
        · rw [if_pos hk, if_pos hk, hk]
        · rw [if_neg hk, if_neg hk]
      rw [e, s_Iu (by omega) hi]
      omega
theorem tdiv_b {a b : Int} (hb : 1 ≤ b) : (0 ≤ a → 0 ≤ a.tdiv b ∧ a.tdiv b * b ≤ a ∧ a.tdiv b = a / b) ∧ (a < 0 → a.tdiv b ≤ 0) := by
  refine ⟨fun h => ?_, fun h => ?_⟩
  · rw [Int.tdiv_eq_ediv_of_nonneg h]
    exact ⟨Int.ediv_nonneg h (by omega), Int.ediv_mul_le a (by omega), rfl⟩
  · have h2 : a.tdiv b = -((-a).tdiv b) := by rw [Int.neg_tdiv]; omega
    rw [h2, Int.tdiv_eq_ediv_of_nonneg (by omega)]
    have := Int.ediv_nonneg (a := -a) (b := b) (by omega) (by omega)
    omega
/-- what is known of an unloading -/
theorem sMany_b (hv : PV p) (hS : SV p S) (hi : 0 ≤ i ∧ i < 5) (hj : S 187 i < p 87) : 0 ≤ sMany p i S ∧ sMany p i S ≤ S 196 (S 187 i) ∧ S 188 i ≤ sBeg p i S ∧ 0 ≤ sMany p i S * p (62 + 5 * i + 4) ∧ sMany p i S * p (62 + 5 * i + 4) ≤ 495 ∧ (0 < sMany p i S → sBeg p i S + sMany p i S * p (62 + 5 * i + 4) ≤ p (2 + p (88 + 5 * S 187 i + 1))) ∧ sBeg p i S ≤ max (S 188 i) 1059 ∧ S 188 i ≤ sOver p i S ∧ sOver p i S ≤ max (S 188 i) 1059 ∧ 0 ≤ 5 * p (88 + 5 * S 187 i + 1) + p (88 + 5 * S 187 i + 2) ∧ 5 * p (88 + 5 * S 187 i + 1) + p (88 + 5 * S 187 i + 2) < 10 := by
  have a := hS.1 i hi.1 hi.2
  have b := a.2.2.2.2.2.2.2.2.2.1 hj
  have c := hv.i hi.1 b.1
  have n := hv.n
  have d := hv.j a.1 hj
  have t := hv.t d.2.2.1 d.2.2.2.1
  have hd : 0 ≤ 5 * p (88 + 5 * S 187 i + 1) + p (88 + 5 * S 187 i + 2) ∧ 5 * p (88 + 5 * S 187 i + 1) + p (88 + 5 * S 187 i + 2) < 10 := by omega
  have e := hS.2.2.1 _ hd.1 hd.2
  have q := hS.2.2.2 (S 187 i) a.1 (by omega)
  have z := tdiv_b (a := p (2 + p (88 + 5 * S 187 i + 1)) - sBeg p i S) (b := p (62 + 5 * i + 4)) c.2.2.2.2.2.2.2.2.1
  have hB : S 188 i ≤ sBeg p i S ∧ sBeg p i S ≤ max (S 188 i) 1059 := by unfold sBeg; omega
  have hM : sMany p i S = max 0 (min (S 196 (S 187 i)) (Int.tdiv (p (2 + p (88 + 5 * S 187 i + 1)) - sBeg p i S) (p (62 + 5 * i + 4)))) := rfl
  have hm : 0 ≤ sMany p i S ∧ sMany p i S ≤ S 196 (S 187 i) := by omega
  have hx := mulb hm.1 (show sMany p i S ≤ 99 by omega) (show 0 ≤ p (62 + 5 * i + 4) by omega) (show p (62 + 5 * i + 4) ≤ 5 by omega)
  have hy : 0 < sMany p i S → sBeg p i S + sMany p i S * p (62 + 5 * i + 4) ≤ p (2 + p (88 + 5 * S 187 i + 1)) := fun h => by
    have g : 0 ≤ p (2 + p (88 + 5 * S 187 i + 1)) - sBeg p i S := by
      by_cases g : 0 ≤ p (2 + p (88 + 5 * S 187 i + 1)) - sBeg p i S
      · exact g
      · have := z.2 (by omega); omega
    have g2 := z.1 g
    have g3 : sMany p i S * p (62 + 5 * i + 4) ≤ Int.tdiv (p (2 + p (88 + 5 * S 187 i + 1)) - sBeg p i S) (p (62 + 5 * i + 4)) * p (62 + 5 * i + 4) := Int.mul_le_mul_of_nonneg_right (by omega) (by omega)
    omega
  refine ⟨hm.1, hm.2, hB.1, hx.1, by omega, hy, hB.2, ?_, ?_, hd.1, hd.2⟩
  · unfold sOver; split <;> omega
  · unfold sOver; split
    · omega
    · have := hy (by omega); omega
end STC
