/-! ===== the reference's run: cell by cell, to its end ===== -/
def sFin (p : Pl) (i : Int) (S : Mem) : Int := sOver p i S + wk p (S 187 i)
def sDr (p : Pl) (i : Int) (S : Mem) : Int := 5 * p (88 + 5 * S 187 i + 1) + p (88 + 5 * S 187 i + 2)
section STR
variable {p : Pl} {out i : Int} {S : Mem}
theorem st_c : sStarts p out i S 187 = (if sMn p i S = 0 then u1 (S 187) i (nx p i out (S 187 i + 1)) else S 187) ∧ sStarts p out i S 188 = (if sMn p i S = 0 then S 188 else u1 (S 188) i (sTm p i S)) ∧ sStarts p out i S 189 = S 189 ∧ sStarts p out i S 190 = S 190 ∧ sStarts p out i S 191 = S 191 ∧ sStarts p out i S 192 = (if sMn p i S = 0 then S 192 else u1 (S 192) i 1) ∧
    sStarts p out i S 193 = (if sMn p i S = 0 then S 193 else u1 (S 193) (sCl p i S) (S 193 (sCl p i S) - sMn p i S)) ∧ sStarts p out i S 194 = S 194 ∧ sStarts p out i S 195 = u1 (S 195) (S 187 i) (S 188 i) ∧ sStarts p out i S 196 = u1 (S 196) (S 187 i) (sMn p i S) ∧ sStarts p out i S 197 = (if sMn p i S = 0 then S 197 else u1 (S 197) (S 187 i) (sTm p i S)) ∧ sStarts p out i S 198 = S 198 ∧ sStarts p out i S 199 = u1 (S 199) (S 187 i) 0 ∧ sStarts p out i S 200 = (if sMn p i S = 0 then u1 (S 200) (S 187 i) (S 188 i) else S 200) := by
  by_cases hm : sMn p i S = 0
  · rw [st_0 hm, if_pos hm, if_pos hm, if_pos hm, if_pos hm, if_pos hm, if_pos hm, hm]
    simp (disch := decide) only [up2_c, up2_u, and_self]
  · rw [st_1 hm, if_neg hm, if_neg hm, if_neg hm, if_neg hm, if_neg hm, if_neg hm]
    simp (disch := decide) only [up2_c, up2_u, and_self]
theorem re_c : sReach p out i S 187 = u1 (S 187) i (nx p i out (S 187 i + 1)) ∧ sReach p out i S 188 = u1 (S 188) i (sFin p i S) ∧ sReach p out i S 189 = (if sFin p i S = S 188 i then S 189 else u1 (S 189) i (sFin p i S)) ∧ sReach p out i S 190 = (if sFin p i S = S 188 i then S 190 else u1 (S 190) i (sCl p i S)) ∧ sReach p out i S 191 = (if sFin p i S = S 188 i then S 191 else u1 (S 191) i (S 196 (S 187 i) - sMany p i S)) ∧ sReach p out i S 192 = u1 (S 192) i 0 ∧
    sReach p out i S 193 = (if sFin p i S = S 188 i then u1 (S 193) (sCl p i S) (S 193 (sCl p i S) + (S 196 (S 187 i) - sMany p i S)) else S 193) ∧ sReach p out i S 194 = (if sMany p i S ≤ 0 then S 194 else u1 (S 194) (sDr p i S) (sOver p i S)) ∧ sReach p out i S 195 = S 195 ∧ sReach p out i S 196 = S 196 ∧ sReach p out i S 197 = S 197 ∧ sReach p out i S 198 = u1 (S 198) (S 187 i) (sBeg p i S) ∧ sReach p out i S 199 = u1 (S 199) (S 187 i) (sMany p i S) ∧ sReach p out i S 200 = u1 (S 200) (S 187 i) (sFin p i S) := by
  have hF : sFin p i S = sOver p i S + wk p (S 187 i) := rfl
  have hC : sCl p i S = 4 * p (62 + 5 * i + 0) + p (88 + 5 * S 187 i + 3) := rfl
  have hD : sDr p i S = 5 * p (88 + 5 * S 187 i + 1) + p (88 + 5 * S 187 i + 2) := rfl
  unfold sReach sEnd sBk sDoor
  rw [← hF, ← hC, ← hD]
  by_cases hm : sMany p i S ≤ 0
  · by_cases hf : sFin p i S = S 188 i
    · rw [if_pos hm, if_pos (by rw [up2_s, up2_c (by decide), up2_c (by decide), up2_c (by decide)]; exact hf), if_pos hf, if_pos hf, if_pos hf, if_pos hf, if_pos hm]
      simp (disch := decide) only [up2_c, up2_u, u1_s, and_self]
    · rw [if_pos hm, if_neg (by rw [up2_s, up2_c (by decide), up2_c (by decide), up2_c (by decide)]; exact hf), if_neg hf, if_neg hf, if_neg hf, if_neg hf, if_pos hm]
      simp (disch := decide) only [up2_c, up2_u, u1_s, and_self]
  · by_cases hf : sFin p i S = S 188 i
    · rw [if_neg hm, if_pos (by rw [up2_s, up2_c (by decide), up2_c (by decide), up2_c (by decide), up2_c (by decide)]; exact hf), if_pos hf, if_pos hf, if_pos hf, if_pos hf, if_neg hm]
      simp (disch := decide) only [up2_c, up2_u, u1_s, and_self]
    · rw [if_neg hm, if_neg (by rw [up2_s, up2_c (by decide), up2_c (by decide), up2_c (by decide), up2_c (by decide)]; exact hf), if_neg hf, if_neg hf, if_neg hf, if_neg hf, if_neg hm]
      simp (disch := decide) only [up2_c, up2_u, u1_s, and_self]
theorem SV_re (hv : PV p) (hS : SV p S) (hi : 0 ≤ i ∧ i < 5) (hj : S 187 i < p 87) (hw : S 192 i ≠ 0) : SV p (sReach p out i S) ∧ sMe p (sReach p out i S) < sMe p S := by
  have a := hS.1 i hi.1 hi.2
  have n := hv.n
  have hb := sMany_b hv hS hi hj
  have hc := sMn_b hv hS hi hj
  have hd := a.2.2.2.2.2.2.2.2.2.1 hj
  have hk := wk_b hv a.1 hj
  have hq := hS.2.2.2 (S 187 i) a.1 (by omega)
  obtain ⟨h1, h2, h3, h4⟩ := hS
  have nb := nx_s (p := p) (i := i) (out := out) (x := S 187 i + 1) (by omega)
  have hF : S 188 i ≤ sFin p i S ∧ sFin p i S ≤ max (S 188 i) 1059 + 99 := by unfold sFin; omega
  obtain ⟨e187, e188, e189, e190, e191, e192, e193, e194, e195, e196, e197, e198, e199, e200⟩ := re_c (p := p) (out := out) (i := i) (S := S)
  unfold SV sMe
  rw [e187, e188, e190, e191, e192, e193, e194, e196, e199]
  have hC : 0 ≤ sCl p i S ∧ sCl p i S < 12 := ⟨hc.2.2.1, hc.2.2.2.1⟩
  refine ⟨⟨fun k k0 k1 => ?_, fun k k0 k1 => ?_, fun d d0 d1 => ?_, fun k k0 k1 => ?_⟩, ?_⟩
  · by_cases hk : k = i
    · subst hk
      rw [u1_s, u1_s, u1_s]
      refine ⟨by omega, by omega, by omega, by omega, by omega, by omega, ?_, ?_, ?_, fun h => ⟨by omega, (nb.2.2.1 h).1⟩, fun h => by omega⟩
      · split
        · omega
        · rw [u1_s]; omega
      · split
        · omega
        · rw [u1_s]; omega
      · split
        · exact a.2.2.2.2.2.2.2.2.1
        · rw [u1_s, u1_s]; exact fun _ => hC
    · rw [u1_n hk, u1_n hk, u1_n hk]
      have b := h1 k k0 k1
      refine ⟨by omega, by omega, by omega, by omega, by omega, by omega, ?_, ?_, ?_, b.2.2.2.2.2.2.2.2.2.1, b.2.2.2.2.2.2.2.2.2.2⟩
      · split
        · omega
        · rw [u1_n hk]; omega
      · split
        · omega
        · rw [u1_n hk]; omega
      · split
        · exact b.2.2.2.2.2.2.2.2.1
        · rw [u1_n hk, u1_n hk]; exact b.2.2.2.2.2.2.2.2.1
  · have b := h2 k k0 k1
    rw [s_Iu (by omega) hi]
    by_cases hf : sFin p i S = S 188 i
    · rw [if_pos hf, if_pos hf]
      unfold u1
      split
      · rename_i hk
        rw [hk] at b
        omega
      · omega
    · rw [if_neg hf, if_neg hf, s_Iu (by omega) hi]
      omega
  · have b := h3 d d0 d1
    split
    · exact b
    · unfold u1
      split
      · rename_i hm _
        have := hb.2.2.2.2.2.1 (by omega)
        have t := hv.t (hv.j a.1 hj).2.2.1 (hv.j a.1 hj).2.2.2.1
        unfold sOver
        rw [if_neg hm]
        omega
      · exact b
  · have b := h4 k k0 k1
    refine ⟨?_, ?_, b.2.2.1, b.2.2.2⟩ <;> (unfold u1; split <;> omega)
  · have e : (fun k => 2 * (p 87 - u1 (S 187) i (nx p i out (S 187 i + 1)) k) - u1 (S 192) i 0 k) = u1 (fun k => 2 * (p 87 - S 187 k) - S 192 k) i (2 * (p 87 - nx p i out (S 187 i + 1)) - 0) := by
      funext k
      unfold u1
      by_cases hk : k = i
      · rw [if_pos hk, if_pos hk, if_pos hk]
      · rw [if_neg hk, if_neg hk, if_neg hk]
    rw [e, s_Iu (by omega) hi]
    omega
theorem bb_me {u : Int} : sMe p (bb u S) = sMe p S := by
  unfold sMe
  rw [bb_c (by decide) (by decide), bb_c (by decide) (by decide)]
theorem sMe_0 (hS : SV p S) : 0 ≤ sMe p S := by
  have := s_Ib (f := fun i => 2 * (p 87 - S 187 i) - S 192 i) (n := 5) (b := 2 * p 87) (by omega) (fun i h0 h1 => by
    have a := hS.1 i h0 h1
    have b : S 192 i = 1 → S 187 i < p 87 := fun h => (a.2.2.2.2.2.2.2.2.2.2 h).1
    omega)
  exact this.1
theorem SV_step (hv : PV p) (hS : SV p S) (hf : ¬ fst_ p S < 0) : SV p (sStep p out S) ∧ sMe p (sStep p out S) < sMe p S := by
  rcases fst_s (p := p) (S := S) with ⟨a, _⟩ | ⟨a, b, c, _⟩
  · omega
  · have h1 := SV_bb (u := S 188 (fst_ p S)) hS
    have e7 : bb (S 188 (fst_ p S)) S 187 = S 187 := bb_c (by decide) (by decide)
    unfold sStep
    by_cases hw : bb (S 188 (fst_ p S)) S 192 (fst_ p S) = 0
    · rw [if_pos hw]
      have := SV_st (out := out) hv h1 ⟨a, b⟩ (by rw [e7]; exact c) hw
      rw [bb_me] at this
      exact this
    · rw [if_neg hw]
      have := SV_re (out := out) hv h1 ⟨a, b⟩ (by rw [e7]; exact c) hw
      rw [bb_me] at this
      exact this
/-- a run that has enough steps ends -/
theorem sRun_e (hv : PV p) : ∀ (k : Nat) (S : Mem), SV p S → sMe p S < k → SV p (sRun p out k S) ∧ fst_ p (sRun p out k S) < 0 ∧ ∀ m, k ≤ m → sRun p out m S = sRun p out k S := by
  intro k
  induction k with
  | zero => intro S hS h; have := sMe_0 hS; omega
  | succ k ih =>
    intro S hS h
    by_cases hf : fst_ p S < 0
    · have e : ∀ m, sRun p out m S = S := fun m => by
        cases m with
        | zero => rfl
        | succ m => show (if _ then _ else _) = _; rw [if_pos hf]
      refine ⟨by rw [e]; exact hS, by rw [e]; exact hf, fun m _ => by rw [e, e]⟩
    · have h1 := SV_step (out := out) hv hS hf
      obtain ⟨a, b, c⟩ := ih (sStep p out S) h1.1 (by omega)
      have e : sRun p out (k + 1) S = sRun p out k (sStep p out S) := by show (if _ then _ else _) = _; rw [if_neg hf]
      rw [e]
      refine ⟨a, b, fun m hm => ?_⟩
      obtain ⟨m', rfl⟩ : ∃ m', m = m' + 1 := ⟨m - 1, by omega⟩
      have e2 : sRun p out (m' + 1) S = sRun p out m' (sStep p out S) := by show (if _ then _ else _) = _; rw [if_neg hf]
      rw [e2]
      exact c m' (by omega)
theorem ini_187 {wo : Int} {J : Mem} (hi : 0 ≤ i ∧ i < 5) : sIni p wo out J 187 i = if i < p 61 ∧ i ≠ wo then nx p i out 0 else p 87 := by
  unfold sIni
  rw [if_neg (by omega), if_neg (by omega), if_neg (by omega), if_pos ⟨rfl, hi⟩]
theorem ini_0 {wo : Int} {J : Mem} {c : Nat} (hc : c = 188 ∨ c = 191 ∨ c = 192) (hi : 0 ≤ i ∧ i < 5) : sIni p wo out J c i = 0 := by
  unfold sIni
  rw [if_neg (by omega), if_neg (by omega), if_neg (by omega), if_neg (by omega), if_pos ⟨hc, hi⟩]
theorem ini_j {wo : Int} {J : Mem} {c : Nat} (hc : c = 196 ∨ c = 199) (hi : 0 ≤ i ∧ i < 20) : sIni p wo out J c i = 0 := by
  unfold sIni
  rw [if_neg (by omega), if_neg (by omega), if_pos ⟨hc, hi⟩]
theorem ini_s {wo : Int} {J : Mem} (hi : 0 ≤ i ∧ i < 12) : sIni p wo out J 193 i = p (49 + i) := by
  unfold sIni
  rw [if_pos ⟨rfl, hi⟩]
theorem ini_d {wo : Int} {J : Mem} (hi : 0 ≤ i ∧ i < 10) : sIni p wo out J 194 i = 0 := by
  unfold sIni
  rw [if_neg (by omega), if_pos ⟨rfl, hi⟩]
theorem SV_ini {wo : Int} {J : Mem} (hv : PV p) : SV p (sIni p wo out J) ∧ sMe p (sIni p wo out J) < 300 := by
  have n := hv.n
  have h7 : ∀ i : Int, 0 ≤ i → i < 5 → 0 ≤ sIni p wo out J 187 i ∧ sIni p wo out J 187 i ≤ p 87 ∧ (sIni p wo out J 187 i < p 87 → i < p 61 ∧ p (88 + 5 * sIni p wo out J 187 i + 0) = i) := fun i h0 h1 => by
    have nb := nx_s (p := p) (i := i) (out := out) (x := 0) (by omega)
    rw [ini_187 ⟨h0, h1⟩]
    split
    · rename_i h
      exact ⟨by omega, by omega, fun h2 => ⟨h.1, (nb.2.2.1 h2).1⟩⟩
    · exact ⟨by omega, by omega, fun h2 => by omega⟩
  refine ⟨⟨fun i h0 h1 => ?_, fun k h0 h1 => ?_, fun d h0 h1 => ?_, fun j h0 h1 => ?_⟩, ?_⟩
  · have a := h7 i h0 h1
    have e8 := ini_0 (p := p) (wo := wo) (out := out) (J := J) (c := 188) (Or.inl rfl) ⟨h0, h1⟩
    have e1 := ini_0 (p := p) (wo := wo) (out := out) (J := J) (c := 191) (Or.inr (Or.inl rfl)) ⟨h0, h1⟩
    have e2 := ini_0 (p := p) (wo := wo) (out := out) (J := J) (c := 192) (Or.inr (Or.inr rfl)) ⟨h0, h1⟩
    rw [e8, e1, e2]
    exact ⟨a.1, a.2.1, by omega, by omega, by omega, by omega, by omega, by omega, fun h => absurd rfl h, a.2.2, fun h => by omega⟩
  · have a := hv.s h0 h1
    rw [ini_s ⟨h0, h1⟩]
    have b : s_I (sIni p wo out J 191) 5 = 0 := s_Iz (by omega) (fun i h0 h1 => ini_0 (Or.inr (Or.inl rfl)) ⟨h0, h1⟩)
    have c := s_Ib (f := sIni p wo out J 187) (n := 5) (b := 20) (by omega) (fun i h0 h1 => by have := h7 i h0 h1; omega)
    omega
  · rw [ini_d ⟨h0, h1⟩]; omega
  · rw [ini_j (Or.inl rfl) ⟨h0, h1⟩, ini_j (Or.inr rfl) ⟨h0, h1⟩]; omega
  · have := s_Ib (f := fun i => 2 * (p 87 - sIni p wo out J 187 i) - sIni p wo out J 192 i) (n := 5) (b := 40) (by omega) (fun i h0 h1 => by
      have a := h7 i h0 h1
      have e2 := ini_0 (p := p) (wo := wo) (out := out) (J := J) (c := 192) (Or.inr (Or.inr rfl)) ⟨h0, h1⟩
      rw [e2]
      omega)
    unfold sMe
    omega
end STR
