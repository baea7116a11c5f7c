/-! ===== runs keep step: to their ends ===== -/
section EN
variable {p p' : Pl} {out out' i : Int} {lab : Int → Int} {S S' : Mem}
theorem em_st (h : Em p p' out out' lab) (hv : PV p') (hr : ER p p' lab S S') (hS : SV p' S') (hi : 0 ≤ i ∧ i < 5) (hj : S' 187 i < p' 87) : ER p p' lab (sStarts p out i S) (sStarts p' out' i S') := by
  obtain ⟨v2, v1, v3, _, _, _, _, _⟩ := em_vals h hv hr hS hi hj
  have a := hS.1 i hi.1 hi.2
  have ab := a.2.2.2.2.2.2.2.2.2.1 hj
  have d := h.2.1 _ a.1 hj
  have r := hr.1 i hi.1 hi.2
  have hnx := h.2.2.2.1 _ a.1 hj
  rw [ab.2] at hnx
  obtain ⟨h1, h2, h3, h4, h5⟩ := hr
  obtain ⟨e187, e188, e189, e190, e191, e192, e193, e194, e195, e196, e197, e198, e199, e200⟩ := st_c (p := p) (out := out) (i := i) (S := S)
  obtain ⟨f187, f188, f189, f190, f191, f192, f193, f194, f195, f196, f197, f198, f199, f200⟩ := st_c (p := p') (out := out') (i := i) (S := S')
  rw [v2, r.1, hnx] at e187
  rw [v2, v3] at e188
  rw [v2] at e192
  rw [v2, v1] at e193
  rw [v2, r.1] at e196
  rw [r.1] at e199
  refine ⟨fun k k0 k1 => ?_, fun k k0 k1 => ?_, ?_, fun j j0 j1 => ?_, fun x x0 x1 hx => ?_⟩
  · obtain ⟨b1, b2, b3, b4, b5⟩ := h1 k k0 k1
    rw [e187, e188, e189, e190, e191, e192, f187, f188, f189, f190, f191, f192]
    by_cases hm : sMn p' i S' = 0
    · simp only [if_pos hm]
      refine ⟨?_, b2, b3, b4, b5⟩
      by_cases hk : k = i
      · rw [hk, u1_s, u1_s]
      · rw [u1_n hk, u1_n hk]; exact b1
    · simp only [if_neg hm]
      refine ⟨b1, ?_, ?_, b4, b5⟩
      · by_cases hk : k = i
        · rw [hk, u1_s, u1_s]
        · rw [u1_n hk, u1_n hk]; exact b2
      · by_cases hk : k = i
        · rw [hk, u1_s, u1_s]
        · rw [u1_n hk, u1_n hk]; exact b3
  · rw [e193, f193]
    by_cases hm : sMn p' i S' = 0
    · simp only [if_pos hm]; exact h2 k k0 k1
    · simp only [if_neg hm]
      by_cases hk : k = sCl p' i S'
      · rw [hk] at k0 k1 ⊢
        rw [u1_s, u1_s, h2 _ k0 k1]
      · rw [u1_n hk, u1_n hk]; exact h2 k k0 k1
  · rw [e194, f194]; exact h3
  · rw [e196, e199, f196, f199]
    by_cases hq : j = S' 187 i
    · rw [hq, u1_s, u1_s, u1_s, u1_s]; exact ⟨rfl, rfl⟩
    · have hq2 : lab j ≠ lab (S' 187 i) := fun e => hq (h.2.2.2.2 _ _ j0 j1 a.1 hj e)
      rw [u1_n hq, u1_n hq, u1_n hq2, u1_n hq2]; exact h4 j j0 j1
  · rw [e199, u1_n (fun e => hx _ a.1 hj e.symm)]
    exact h5 x x0 x1 hx
theorem em_re (h : Em p p' out out' lab) (hv : PV p') (hr : ER p p' lab S S') (hS : SV p' S') (hi : 0 ≤ i ∧ i < 5) (hj : S' 187 i < p' 87) : ER p p' lab (sReach p out i S) (sReach p' out' i S') := by
  obtain ⟨v2, v1, v3, v4, v5, v6, v7, v8⟩ := em_vals h hv hr hS hi hj
  have a := hS.1 i hi.1 hi.2
  have ab := a.2.2.2.2.2.2.2.2.2.1 hj
  have d := h.2.1 _ a.1 hj
  have r := hr.1 i hi.1 hi.2
  have hnx := h.2.2.2.1 _ a.1 hj
  rw [ab.2] at hnx
  obtain ⟨h1, h2, h3, h4, h5⟩ := hr
  have q := h4 _ a.1 hj
  obtain ⟨e187, e188, e189, e190, e191, e192, e193, e194, e195, e196, e197, e198, e199, e200⟩ := re_c (p := p) (out := out) (i := i) (S := S)
  obtain ⟨f187, f188, f189, f190, f191, f192, f193, f194, f195, f196, f197, f198, f199, f200⟩ := re_c (p := p') (out := out') (i := i) (S := S')
  rw [r.1, hnx] at e187
  rw [v7] at e188
  rw [v7, r.2.1] at e189
  rw [v7, r.2.1, v1] at e190
  rw [v7, r.2.1, v5, r.1, q.1] at e191
  rw [v7, r.2.1, v1, v5, r.1, q.1] at e193
  rw [v5, v8, v6] at e194
  rw [v5, r.1] at e199
  refine ⟨fun k k0 k1 => ?_, fun k k0 k1 => ?_, fun k k0 k1 => ?_, fun j j0 j1 => ?_, fun x x0 x1 hx => ?_⟩
  · obtain ⟨b1, b2, b3, b4, b5⟩ := h1 k k0 k1
    rw [e187, e188, e189, e190, e191, e192, f187, f188, f189, f190, f191, f192]
    by_cases hk : k = i
    · rw [hk, u1_s, u1_s, u1_s, u1_s, u1_s, u1_s]
      rw [hk] at b4 b5
      refine ⟨rfl, rfl, rfl, ?_, ?_⟩
      · split
        · exact b4
        · rw [u1_s, u1_s]
      · split
        · exact b5
        · intro _
          rw [u1_s, u1_s, u1_s, u1_s]
          exact ⟨rfl, rfl⟩
    · rw [u1_n hk, u1_n hk, u1_n hk, u1_n hk, u1_n hk, u1_n hk]
      refine ⟨b1, b2, b3, ?_, ?_⟩
      · split
        · exact b4
        · rw [u1_n hk, u1_n hk]; exact b4
      · split
        · exact b5
        · rw [u1_n hk, u1_n hk, u1_n hk, u1_n hk, u1_n hk]; exact b5
  · rw [e193, f193]
    split
    · by_cases hk : k = sCl p' i S'
      · rw [hk] at k0 k1 ⊢
        rw [u1_s, u1_s, h2 _ k0 k1]
      · rw [u1_n hk, u1_n hk]; exact h2 k k0 k1
    · exact h2 k k0 k1
  · rw [e194, f194]
    split
    · exact h3 k k0 k1
    · by_cases hk : k = sDr p' i S'
      · rw [hk, u1_s, u1_s]
      · rw [u1_n hk, u1_n hk]; exact h3 k k0 k1
  · rw [e196, e199, f196, f199]
    by_cases hq : j = S' 187 i
    · rw [hq, u1_s, u1_s]; exact ⟨q.1, rfl⟩
    · have hq2 : lab j ≠ lab (S' 187 i) := fun e => hq (h.2.2.2.2 _ _ j0 j1 a.1 hj e)
      rw [u1_n hq, u1_n hq2]; exact h4 j j0 j1
  · rw [e199, u1_n (fun e => hx _ a.1 hj e.symm)]
    exact h5 x x0 x1 hx
theorem em_run (h : Em p p' out out' lab) (hv : PV p') : ∀ (k : Nat) (S S' : Mem), ER p p' lab S S' → SV p' S' → ER p p' lab (sRun p out k S) (sRun p' out' k S') := by
  intro k
  induction k with
  | zero => intro S S' hr _; exact hr
  | succ k ih =>
    intro S S' hr hS
    have hf := em_fst h hr (fun i i0 i1 => by have := hS.1 i i0 i1; omega)
    have e : sRun p out (k + 1) S = if fst_ p S < 0 then S else sRun p out k (sStep p out S) := rfl
    have e' : sRun p' out' (k + 1) S' = if fst_ p' S' < 0 then S' else sRun p' out' k (sStep p' out' S') := rfl
    rw [e, e', hf]
    by_cases hc : fst_ p' S' < 0
    · rw [if_pos hc, if_pos hc]; exact hr
    · rw [if_neg hc, if_neg hc]
      have st := SV_step (out := out') hv hS hc
      refine ih _ _ ?_ st.1
      rcases fst_s (p := p') (S := S') with ⟨a, _⟩ | ⟨a, b, c, _⟩
      · omega
      · have hb := em_bb (u := S' 188 (fst_ p' S')) hr
        have hSb := SV_bb (u := S' 188 (fst_ p' S')) hS
        have e7 : bb (S' 188 (fst_ p' S')) S' 187 = S' 187 := bb_c (by decide) (by decide)
        have e2 : bb (S' 188 (fst_ p' S')) S' 192 = S' 192 := bb_c (by decide) (by decide)
        have e2' : bb (S' 188 (fst_ p' S')) S 192 = S 192 := bb_c (by decide) (by decide)
        have r := hr.1 _ a b
        unfold sStep
        rw [hf, r.2.1, e2, e2', r.2.2.1]
        split
        · exact em_st h hv hb hSb ⟨a, b⟩ (by rw [e7]; exact c)
        · exact em_re h hv hb hSb ⟨a, b⟩ (by rw [e7]; exact c)
theorem em_go {wo wo' : Int} {J J' : Mem} (h : Em p p' out out' lab) (hv : PV p') (h0 : ∀ i, 0 ≤ i → i < 5 → (if i < p 61 ∧ i ≠ wo then nx p i out 0 else p 87) = lab (if i < p' 61 ∧ i ≠ wo' then nx p' i out' 0 else p' 87)) (hn : p 87 ≤ 20) : ER p p' lab (sGo p wo out J) (sGo p' wo' out' J') := by
  have n := hv.n
  unfold sGo
  refine em_bb (em_run h hv 300 _ _ ⟨fun i i0 i1 => ?_, fun k k0 k1 => ?_, fun d d0 d1 => ?_, fun j j0 j1 => ?_, fun x x0 x1 _ => ini_j (Or.inr rfl) ⟨x0, by omega⟩⟩ (SV_ini hv).1)
  · have z : ∀ (q : Pl) (w u : Int) (K : Mem), sIni q w u K 188 i = 0 ∧ sIni q w u K 191 i = 0 ∧ sIni q w u K 192 i = 0 := fun q w u K => ⟨ini_0 (Or.inl rfl) ⟨i0, i1⟩, ini_0 (Or.inr (Or.inl rfl)) ⟨i0, i1⟩, ini_0 (Or.inr (Or.inr rfl)) ⟨i0, i1⟩⟩
    have z1 := z p wo out J
    have z2 := z p' wo' out' J'
    rw [z1.1, z1.2.1, z1.2.2, z2.1, z2.2.1, z2.2.2, ini_187 ⟨i0, i1⟩, ini_187 ⟨i0, i1⟩]
    exact ⟨h0 i i0 i1, rfl, rfl, rfl, fun e => absurd rfl e⟩
  · rw [ini_s ⟨k0, k1⟩, ini_s ⟨k0, k1⟩, h.1 _ (by omega)]
  · rw [ini_d ⟨d0, d1⟩, ini_d ⟨d0, d1⟩]
  · have d := h.2.1 j j0 j1
    rw [ini_j (Or.inl rfl) ⟨d.1, by omega⟩, ini_j (Or.inr rfl) ⟨d.1, by omega⟩, ini_j (Or.inl rfl) ⟨j0, by omega⟩, ini_j (Or.inr rfl) ⟨j0, by omega⟩]
    exact ⟨rfl, rfl⟩
/-- what was in the memory ahead of a run doesn't matter -/
theorem go_core {wo : Int} {J J' : Mem} (hv : PV p) : (∀ k, 0 ≤ k → k < 12 → sGo p wo out J 193 k = sGo p wo out J' 193 k) ∧ ∀ j, 0 ≤ j → j < p 87 → sGo p wo out J 196 j = sGo p wo out J' 196 j ∧ sGo p wo out J 199 j = sGo p wo out J' 199 j := by
  have n := hv.n
  have h : Em p p out out (fun x => x) := ⟨fun _ _ => rfl, fun j j0 j1 => ⟨j0, j1, fun _ _ _ => rfl⟩, rfl, fun j _ _ => rfl, fun j k _ _ _ _ e => e⟩
  have r := em_go (wo := wo) (wo' := wo) (J := J) (J' := J') h hv (fun i _ _ => rfl) (by omega)
  exact ⟨r.2.1, r.2.2.2.1⟩
theorem s_Ixy {g : Int → Int → Int} {n m : Int} (hn : 0 ≤ n) (hm : 0 ≤ m) : s_I (fun x => s_I (fun j => g x j) m) n = s_I (fun j => s_I (fun x => g x j) n) m := by
  refine i_ind (P := fun n => s_I (fun x => s_I (fun j => g x j) m) n = s_I (fun j => s_I (fun x => g x j) n) m) ?_ ?_ n hn
  · exact (s_Iz hm (fun _ _ _ => rfl)).symm
  · intro n hn ih
    rw [s_Is hn, ih, ← s_Id hm]
    exact s_Ic hm (fun j _ _ => (s_Is hn).symm)
theorem s_1 {n x v : Int} (hn : 0 ≤ n) (hx : 0 ≤ x ∧ x < n) : s_I (fun j => if j = x then v else 0) n = v := by
  have e := s_Ik (f := fun _ => 0) (g := fun j => if j = x then v else 0) hn hx (fun j _ _ hj => if_neg hj)
  rw [s_Iz hn (fun _ _ _ => rfl), if_pos rfl] at e
  omega
theorem em_tot (h : Em p p' out out' lab) (hr : ER p p' lab S S') (hn : 0 ≤ p 87) (hn' : 0 ≤ p' 87) : s_I (S 199) (p 87) = s_I (S' 199) (p' 87) := by
  have e1 : s_I (S 199) (p 87) = s_I (fun x => s_I (fun j => if lab j = x then S' 199 j else 0) (p' 87)) (p 87) := by
    refine s_Ic hn (fun x x0 x1 => ?_)
    by_cases hx : ∃ j, 0 ≤ j ∧ j < p' 87 ∧ lab j = x
    · obtain ⟨j, j0, j1, rfl⟩ := hx
      rw [(hr.2.2.2.1 j j0 j1).2]
      have e : s_I (fun k => if lab k = lab j then S' 199 k else 0) (p' 87) = s_I (fun k => if k = j then S' 199 j else 0) (p' 87) := by
        refine s_Ic hn' (fun k k0 k1 => ?_)
        by_cases hk : k = j
        · rw [hk, if_pos rfl, if_pos rfl]
        · rw [if_neg hk, if_neg (fun e => hk (h.2.2.2.2 _ _ k0 k1 j0 j1 e))]
      rw [e, s_1 hn' ⟨j0, j1⟩]
    · rw [hr.2.2.2.2 x x0 x1 (fun j j0 j1 e => hx ⟨j, j0, j1, e⟩), s_Iz hn' (fun j j0 j1 => if_neg (fun e => hx ⟨j, j0, j1, e⟩))]
  rw [e1, s_Ixy hn hn']
  refine s_Ic hn' (fun j j0 j1 => ?_)
  have d := h.2.1 j j0 j1
  have e : s_I (fun x => if lab j = x then S' 199 j else 0) (p 87) = s_I (fun x => if x = lab j then S' 199 j else 0) (p 87) := by
    refine s_Ic hn (fun x _ _ => ?_)
    by_cases hx : x = lab j
    · rw [if_pos hx, if_pos hx.symm]
    · rw [if_neg hx, if_neg (fun e => hx e.symm)]
  rw [e, s_1 hn ⟨d.1, d.2.1⟩]
/-- jobs left out -/
def Rm (p p' : Pl) (wo out : Int) (lab : Int → Int) : Prop :=
  (∀ k, k < 87 → p' k = p k) ∧ (∀ j k, 0 ≤ j → j < k → k ≤ p' 87 → lab j < lab k) ∧ (∀ j, 0 ≤ j → j ≤ p' 87 → 0 ≤ lab j) ∧ lab (p' 87) = p 87 ∧
  (∀ j, 0 ≤ j → j < p' 87 → ∀ w, 0 ≤ w → w < 5 → p' (88 + 5 * j + w) = p (88 + 5 * lab j + w)) ∧
  (∀ j, 0 ≤ j → j < p' 87 → p' (88 + 5 * j + 0) ≠ wo ∧ lab j ≠ out) ∧
  (∀ x, 0 ≤ x → x < p 87 → p (88 + 5 * x + 0) ≠ wo → x ≠ out → ∃ j, 0 ≤ j ∧ j < p' 87 ∧ lab j = x)
theorem rm_nx {wo : Int} (h : Rm p p' wo out lab) {x : Int} (h0 : 0 ≤ x) (h1 : x ≤ p' 87) (hi : i ≠ wo) {y : Int} (hy : y ≤ lab x) (hg : ∀ q, y ≤ q → q < lab x → ¬ (p (88 + 5 * q + 0) = i ∧ q ≠ out)) : nx p i out y = lab (nx p' i (-1) x) := by
  obtain ⟨r1, r2, r3, r4, r5, r6, r7⟩ := h
  have mono : ∀ j k, 0 ≤ j → j ≤ k → k ≤ p' 87 → lab j ≤ lab k := fun j k j0 jk k1 => by
    by_cases e : j = k
    · rw [e]; exact Int.le_refl _
    · exact Int.le_of_lt (r2 j k j0 (by omega) k1)
  have nb := nx_s (p := p') (i := i) (out := -1) h1
  have lx : lab x ≤ p 87 := by rw [← r4]; exact mono x _ h0 h1 (Int.le_refl _)
  have gap : ∀ q, y ≤ q → q < lab (nx p' i (-1) x) → ¬ (p (88 + 5 * q + 0) = i ∧ q ≠ out) := fun q q0 q1 hq => by
    by_cases hlt : q < lab x
    · exact hg q q0 hlt hq
    · have l2 : lab (nx p' i (-1) x) ≤ p 87 := by rw [← r4]; exact mono _ _ (by omega) nb.2.1 (Int.le_refl _)
      have l3 := r3 x h0 h1
      obtain ⟨j, j0, j1, e⟩ := r7 q (by omega) (by omega) (by rw [hq.1]; exact hi) hq.2
      have c1 : x ≤ j := by
        by_cases c : x ≤ j
        · exact c
        · have := r2 j x j0 (by omega) h1; omega
      have c2 : j < nx p' i (-1) x := by
        by_cases c : j < nx p' i (-1) x
        · exact c
        · have := mono (nx p' i (-1) x) j (by omega) (by omega) (by omega); omega
      refine nb.2.2.2 j c1 c2 ⟨?_, by omega⟩
      rw [r5 j j0 j1 0 (by omega) (by omega), e]
      exact hq.1
  by_cases hz : nx p' i (-1) x < p' 87
  · have c := nb.2.2.1 hz
    have z0 : 0 ≤ nx p' i (-1) x := by omega
    refine nx_u (by omega) (by have := mono x _ h0 nb.1 nb.2.1; omega) ?_ ⟨?_, (r6 _ z0 hz).2⟩ gap
    · rw [← r4]; exact r2 _ _ z0 hz (Int.le_refl _)
    · rw [← r5 _ z0 hz 0 (by omega) (by omega)]; exact c.1
  · have e : nx p' i (-1) x = p' 87 := by omega
    rw [e, r4] at gap ⊢
    exact nx_un (by omega) gap
theorem rm_em {wo : Int} (h : Rm p p' wo out lab) : Em p p' out (-1) lab := by
  have h2 := h
  obtain ⟨r1, r2, r3, r4, r5, r6, r7⟩ := h2
  refine ⟨r1, fun j j0 j1 => ⟨r3 j j0 (by omega), by rw [← r4]; exact r2 j _ j0 j1 (Int.le_refl _), r5 j j0 j1⟩, r4, fun j j0 j1 => ?_, fun j k j0 j1 k0 k1 e => ?_⟩
  · have l := r2 j (j + 1) j0 (by omega) (by omega)
    refine rm_nx h (by omega) (by omega) (r6 j j0 j1).1 (by omega) (fun q q0 q1 hq => ?_)
    have l2 : lab (j + 1) ≤ p 87 := by
      rw [← r4]
      by_cases e : j + 1 = p' 87
      · rw [e]; exact Int.le_refl _
      · exact Int.le_of_lt (r2 _ _ (by omega) (by omega) (Int.le_refl _))
    have l3 := r3 j j0 (by omega)
    obtain ⟨k, k0, k1, e⟩ := r7 q (by omega) (by omega) (by rw [hq.1]; exact (r6 j j0 j1).1) hq.2
    by_cases c : k ≤ j
    · by_cases c2 : k = j
      · rw [c2] at e; omega
      · have := r2 k j k0 (by omega) (by omega); omega
    · by_cases c2 : k = j + 1
      · rw [c2] at e; omega
      · have := r2 (j + 1) k (by omega) (by omega) (by omega); omega
  · by_cases c : j < k
    · have := r2 j k j0 c (by omega); omega
    · by_cases c2 : k < j
      · have := r2 k j k0 c2 (by omega); omega
      · omega
theorem rm_tot {wo : Int} {J J' : Mem} (h : Rm p p' wo out lab) (hv : PV p') (hn : 0 ≤ p 87 ∧ p 87 ≤ 20) : s_I (sGo p wo out J 199) (p 87) = s_I (sGo p' (-1) (-1) J' 199) (p' 87) := by
  have n := hv.n
  refine em_tot (rm_em h) (em_go (rm_em h) hv (fun i i0 i1 => ?_) hn.2) hn.1 n.2.2.2.2.2.2.1
  have h2 := h
  obtain ⟨r1, r2, r3, r4, r5, r6, r7⟩ := h2
  rw [← r1 61 (by omega)]
  by_cases hi : i < p' 61
  · rw [show (if i < p' 61 ∧ i ≠ -1 then nx p' i (-1) 0 else p' 87) = nx p' i (-1) 0 from if_pos ⟨hi, by omega⟩]
    by_cases hw : i = wo
    · rw [if_neg (fun c => c.2 hw), nx_un (p := p') (by omega) (fun j j0 j1 c => (r6 j j0 j1).1 (by rw [c.1, hw])), r4]
    · rw [if_pos ⟨hi, hw⟩]
      have l0 := r3 0 (by omega) (by omega)
      refine rm_nx h (by omega) (by omega) hw (by omega) (fun q q0 q1 hq => ?_)
      have l2 : lab 0 ≤ p 87 := by
        rw [← r4]
        by_cases e : 0 = p' 87
        · rw [← e]; exact Int.le_refl _
        · exact Int.le_of_lt (r2 _ _ (by omega) (by omega) (Int.le_refl _))
      obtain ⟨k, k0, k1, e⟩ := r7 q (by omega) (by omega) (by rw [hq.1]; exact hw) hq.2
      by_cases c : k = 0
      · rw [c] at e; omega
      · have := r2 0 k (by omega) (by omega) (by omega); omega
  · rw [if_neg (fun c => hi c.1), if_neg (fun c => hi c.1), r4]
end EN
