section RDV
variable {b : Int → Int} {n : Int} {T : Tk} {D : Sg}
theorem jo_DV {i t c m q : Int} (hv : DV b D) (hl : D 1 87 < 20) (hi : 0 ≤ i ∧ i < D 1 61) (hn : cnt (D 1) i < 8) (ht : 0 ≤ t ∧ t < 2) (hc : 0 ≤ c ∧ c < D 1 (4 + t)) (hm : 0 ≤ m ∧ m < D 1 36) (hq : 1 ≤ q ∧ q ≤ 99) : DV b (joX D i t c m q) := by
  have cb := hv.2.2.2.2.2.2.2.1
  have e1 : (joX D i t c m q) 1 = pAdd (D 1) i t c m q := rfl
  have e4 : (joX D i t c m q) 4 = D 4 := rfl
  have o : ∀ x, x < 87 ∨ (87 < x ∧ x < 88 + 5 * D 1 87) → pAdd (D 1) i t c m q x = D 1 x := fun x h => pAdd_o h (by omega)
  unfold DV
  rw [e1, e4]
  refine ⟨?_, ?_, ?_, ?_, ?_, ?_, ?_, ?_, ?_, ?_, ?_⟩
  · intro x x0 x1
    rw [o _ (by omega), o _ (by omega), o _ (by omega)]
    exact hv.1 x x0 x1
  · intro x x0 x1 y y0 y1
    have z := hv.1 x x0 x1
    rw [o _ (by omega)] at y1
    rw [o _ (by omega), o _ (by omega), o _ (by omega)]
    exact hv.2.1 x x0 x1 y y0 y1
  · intro x x0 x1
    rw [o _ (by omega)] at x1
    rw [o _ (by omega), o _ (by omega)]
    exact hv.2.2.1 x x0 x1
  · intro x x0 x1
    rw [o _ (by omega)] at x1
    rw [o _ (by omega)]
    exact hv.2.2.2.1 x x0 x1
  · intro x x0 x1
    rw [o _ (by omega)]
    exact hv.2.2.2.2.1 x x0 x1
  · intro x x0 x1
    rw [o _ (by omega)] at x1
    rw [o _ (by omega), o _ (by omega), o _ (by omega), o _ (by omega), o _ (by omega), o _ (by omega)]
    exact hv.2.2.2.2.2.1 x x0 x1
  · intro j j0 j1
    rw [add_87] at j1
    rw [o 61 (by omega), o 36 (by omega)]
    by_cases e : j = D 1 87
    · subst e
      obtain ⟨a0, a1, a2, a3, a4⟩ := add_new (p := D 1) (i := i) (t := t) (c := c) (m := m) (v := q) (by omega)
      rw [a0, a1, a2, a3, a4, o _ (by omega)]
      exact ⟨hi.1, hi.2, ht.1, ht.2, hc.1, hc.2, hm.1, hm.2, hq.1, hq.2⟩
    · have z := hv.2.2.2.2.2.2.1 j j0 (by omega)
      rw [o (88 + 5 * j + 0) (by omega), o (88 + 5 * j + 1) (by omega), o (88 + 5 * j + 2) (by omega), o (88 + 5 * j + 3) (by omega), o (88 + 5 * j + 4) (by omega), o _ (by omega)]
      exact z
  · rw [o 36 (by omega), o 45 (by omega), o 61 (by omega), add_87]
    omega
  · intro y
    rw [add_cnt (by omega)]
    have := hv.2.2.2.2.2.2.2.2.1 y
    split
    · rename_i h; rw [← h]; omega
    · omega
  · intro k hk
    unfold pAdd
    rw [u1_n (by omega), u1_n (by omega), u1_n (by omega), u1_n (by omega), u1_n (by omega), u1_n (by omega)]
    exact hv.2.2.2.2.2.2.2.2.2.1 k hk
  · intro x x0 x1
    rw [o _ (by omega)] at x1
    exact hv.2.2.2.2.2.2.2.2.2.2 x x0 x1
theorem tr2_0 (h : (tr2 b n D T).1 = 0) : (fNu b n 0 1 T).1 = 0 := by
  unfold tr2 at h
  by_cases c : D 4 (vNu b n 0 1 T) = 0
  · rw [if_pos c] at h; exact h
  · rw [if_neg c] at h; exact absurd h (fR_k (by decide))
theorem trS_DV (hv : DV b D) : DV b (trS b n D T) := by
  unfold trS
  by_cases c : (tr6 b n D T).1 = 0
  · rw [if_pos c]
    have c' : (fNu b n (trA b n D T) 999 (fKw b n 8 (tr4 b n D T))).1 = 0 := c
    have q := vNu_b c'
    have c4 : (fNu b n 0 900 (fKw b n 7 (tr2 b n D T))).1 = 0 := (fKw_0 (fNu_0 c').1).1
    have q4 := vNu_b c4
    have q2 := vNu_b (tr2_0 (fKw_0 (fNu_0 c4).1).1)
    exact tr_DV hv ⟨q2.1, by omega⟩ ⟨q4.1, q4.2.1⟩ ⟨q.1, q.2.1⟩
  · rw [if_neg c]; exact hv
theorem caS_DV (hv : DV b D) : DV b (caS b n D T) := by
  unfold caS
  by_cases c : (ca6 b n D T).1 = 0
  · rw [if_pos c]
    have c6 : (fNu b n 0 99 (ca5 b n D T)).1 = 0 := c
    have c5 : (fNu b n 0 99 (ca4 b n D T)).1 = 0 := (fNu_0 c6).1
    have c4 : (fNu b n 0 99 (ca3 b n D T)).1 = 0 := (fNu_0 c5).1
    have c3 := (fNu_0 c4).1
    have hl : D 1 (4 + vNu b n 0 1 T) < 5 := by
      by_cases q : D 1 (4 + vNu b n 0 1 T) < 5
      · exact q
      · unfold ca3 at c3; rw [if_neg q] at c3; exact absurd c3 (fR_k (by decide))
    have vr := vNu_r (b := b) (n := n) (lo := 0) (hi := 1) (T := T) (by decide)
    exact ca_DV hv ⟨vr.1, by omega⟩ hl ⟨(vNu_b c4).1, (vNu_b c4).2.1⟩ ⟨(vNu_b c5).1, (vNu_b c5).2.1⟩ ⟨(vNu_b c6).1, (vNu_b c6).2.1⟩
  · rw [if_neg c]; exact hv
theorem meS_DV (hv : DV b D) (ht : TOK n T) : DV b (meS b n D T) := by
  unfold meS
  by_cases c : (me5 b n D T).1 = 0
  · rw [if_pos c]
    have c5 : (fNu b n 0 20 (me4 b n D T)).1 = 0 := c
    have c4 : (fNu b n 0 20 (me3 b n D T)).1 = 0 := (fNu_0 c5).1
    have c3 := (fNu_0 c4).1
    have c2 : (fKw b n (-1) (me1 D T)).1 = 0 := by have z := (me3_0 c3).2; rw [z] at c3; exact c3
    have k := fKw_0 c2
    have m1 := me1_0 k.1
    have tk := k.2.1
    rw [m1.2] at tk
    exact me_DV hv m1.1 ⟨(vNu_b c4).1, (vNu_b c4).2.1⟩ ⟨(vNu_b c5).1, (vNu_b c5).2.1⟩ (tok_W ht.2.1 tk)
  · rw [if_neg c]; exact hv
theorem kiS_DV (hv : DV b D) : DV b (kiS b n D T) := by
  unfold kiS
  by_cases c : (ki2 b n D T).1 = 0
  · rw [if_pos c]
    have c2 : (fNu b n 0 99 (ki1 D T)).1 = 0 := c
    exact ki_DV hv (ki1_0 (fNu_0 c2).1).1 ⟨(vNu_b c2).1, (vNu_b c2).2.1⟩
  · rw [if_neg c]; exact hv
theorem stS_DV (hv : DV b D) : DV b (stS b n D T) := by
  have cb := hv.2.2.2.2.2.2.2.1
  unfold stS
  by_cases c : (st4 b n D T).1 = 0
  · rw [if_pos c]
    have c4 : (fNu b n 0 999 (st3 b n D T)).1 = 0 := c
    have c3 := (fNu_0 c4).1
    have c2 : (st2 b n D T).1 = 0 := by have z := (st3_0 c3).2; rw [z] at c3; exact c3
    have vb := vMl_b (T := st1 b n D T) hv c2
    have n0 := vNu_b (fMl_0 (show (fMl b n D (st1 b n D T)).1 = 0 from c2)).1
    have eI : 4 * vNu b n 0 (D 1 45 - 1) T + vMl b n D (st1 b n D T) = stI b n D T := rfl
    exact st_DV hv ⟨by omega, by omega⟩ ⟨(vNu_b c4).1, (vNu_b c4).2.1⟩
  · rw [if_neg c]; exact hv
theorem tyS_DV (hv : DV b D) : DV b (tyS b n D T) := by
  unfold tyS
  by_cases c : (ty6 b n D T).1 = 0
  · rw [if_pos c]
    have c6 : (fNu b n 1 5 (ty5 b n D T)).1 = 0 := c
    have c5 : (fNu b n 1 5 (ty4 b n D T)).1 = 0 := (fNu_0 c6).1
    have c4 : (fNu b n 1 9 (ty3 b n D T)).1 = 0 := (fNu_0 c5).1
    have c3 : (fNu b n 1 99 (ty2 b n D T)).1 = 0 := (fNu_0 c4).1
    have c2 : (fNu b n 0 (D 1 45 - 1) (ty1 D T)).1 = 0 := (fNu_0 c3).1
    have q := vNu_b c2
    exact ty_DV hv (ty1_0 (fNu_0 c2).1).1 ⟨q.1, by omega⟩ ⟨(vNu_b c3).1, (vNu_b c3).2.1⟩ ⟨(vNu_b c4).1, (vNu_b c4).2.1⟩ ⟨(vNu_b c5).1, (vNu_b c5).2.1⟩ ⟨(vNu_b c6).1, (vNu_b c6).2.1⟩
  · rw [if_neg c]; exact hv
theorem joS_DV (hv : DV b D) : DV b (joS b n D T) := by
  unfold joS
  by_cases c : (jo7 b n D T).1 = 0
  · rw [if_pos c]
    have c7 : (fNu b n 1 99 (jo6 b n D T)).1 = 0 := c
    have q6 := (fNu_0 c7).1
    have c5 : (fNu b n 0 (D 1 (4 + joT b n D T) - 1) (jo4 b n D T)).1 = 0 := (fMl_0 (show (fMl b n D (jo5 b n D T)).1 = 0 from q6)).1
    have q4 := (fNu_0 c5).1
    have q3 := (fNu_0 (fUt_0 (show (fUt D (joT b n D T) (fNu b n 0 1 (jo3 b n D T))).1 = 0 from q4)).1).1
    have q2 := (jo3_0 q3)
    have c2 : (fNu b n 0 (D 1 61 - 1) (jo1 D T)).1 = 0 := by have z := q3; rw [q2.2] at z; exact z
    have q1 := jo1_0 (fNu_0 c2).1
    have vt := vNu_r (b := b) (n := n) (lo := 0) (hi := 1) (T := jo3 b n D T) (by decide)
    have et : vNu b n 0 1 (jo3 b n D T) = joT b n D T := rfl
    have vi := vNu_b c2
    have ei : vNu b n 0 (D 1 61 - 1) (jo1 D T) = joI b n D T := rfl
    have vc := vNu_b c5
    have ec : vNu b n 0 (D 1 (4 + joT b n D T) - 1) (jo4 b n D T) = joC b n D T := rfl
    have vm := vMl_b (T := jo5 b n D T) hv q6
    have em : vMl b n D (jo5 b n D T) = joM b n D T := rfl
    exact jo_DV hv q1.1 ⟨by omega, by omega⟩ q2.1 ⟨by omega, by omega⟩ ⟨by omega, by omega⟩ ⟨by omega, by omega⟩ ⟨(vNu_b c7).1, (vNu_b c7).2.1⟩
  · rw [if_neg c]; exact hv
theorem rd_DV (hv : DV b D) (ht : TOK n T) : DV b (rdS b n D T) := by
  unfold rdS
  split
  · repeat' split
    · exact trS_DV hv
    · exact caS_DV hv
    · exact meS_DV hv (fTk_t ht)
    · exact kiS_DV hv
    · exact stS_DV hv
    · exact tyS_DV hv
    · exact joS_DV hv
    · exact hv
  · exact hv
/-- a line that is read takes at least its keyword -/
theorem fNu_p {lo hi : Int} (h : (fNu b n lo hi T).1 = 0) (ht : TOK n T) : T.2.2.2 < (fNu b n lo hi T).2.2.2 ∧ T.1 = 0 ∧ TOK n (fNu b n lo hi T) := by
  have a := fNu_0 h
  have t := tok_b (b := b) ht.2.1
  refine ⟨?_, a.1, fNu_t ht⟩
  rw [a.2.2.2.2, fTk_o a.1]
  exact (t.2.2.2.2.2.1 (by omega)).1
end RDV
