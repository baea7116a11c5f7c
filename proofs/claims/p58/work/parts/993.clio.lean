/-! ===== the class's lines: stock, trolley, job ===== -/
section CLO
variable {ρ : Rf} {μ : Mem} {b : Int → Int} {n : Int} {T : Tk} {f s : Nat} {D : Sg}
theorem vNu_m {lo hi : Int} : lo ≤ vNu b n lo hi T ∧ vNu b n lo hi T ≤ max lo hi := by
  by_cases h : (fNu b n lo hi T).1 = 0
  · have := vNu_b h
    omega
  · unfold vNu; rw [if_neg h]; omega
theorem FD_eq {μ' : Mem} {D' : Sg} (hv : DV b D) (h : FD μ f D) (hm : ∀ a, f ≤ a → a ≤ f + 15 → μ' a = μ a) (h2 : D' 2 = D 2) (h4 : D' 4 = D 4) (h1 : ∀ x, (0 ≤ x ∧ x < 49) ∨ (61 ≤ x ∧ x < 87) → D' 1 x = D 1 x) : FD μ' f D' := by
  have cb := hv.2.2.2.2.2.2.2.1
  unfold FD
  rw [hm f (by omega) (by omega), hm (f + 1) (by omega) (by omega), hm (f + 2) (by omega) (by omega), hm (f + 3) (by omega) (by omega), hm (f + 4) (by omega) (by omega), hm (f + 5) (by omega) (by omega), hm (f + 6) (by omega) (by omega), hm (f + 7) (by omega) (by omega), hm (f + 8) (by omega) (by omega), hm (f + 9) (by omega) (by omega), hm (f + 10) (by omega) (by omega), hm (f + 11) (by omega) (by omega), hm (f + 12) (by omega) (by omega), hm (f + 13) (by omega) (by omega), hm (f + 14) (by omega) (by omega), hm (f + 15) (by omega) (by omega), h2, h4, h1 36 (by omega), h1 45 (by omega), h1 61 (by omega)]
  refine ⟨fun x x0 x1 => ?_, fun x x0 x1 c c0 c1 => ?_, fun m m0 m1 => ?_, fun k k0 k1 => ?_, fun i i0 i1 => ?_, h.2.2.2.2.2⟩
  · rw [h1 _ (by omega), h1 _ (by omega)]; exact h.1 x x0 x1
  · have cx := hv.1 x x0 x1
    rw [h1 _ (by omega)] at c1
    rw [h1 _ (by omega), h1 _ (by omega), h1 _ (by omega)]
    exact h.2.1 x x0 x1 c c0 c1
  · rw [h1 _ (by omega), h1 _ (by omega)]; exact h.2.2.1 m m0 m1
  · rw [h1 _ (by omega)]; exact h.2.2.2.1 k k0 k1
  · rw [h1 _ (by omega), h1 _ (by omega), h1 _ (by omega), h1 _ (by omega), h1 _ (by omega)]; exact h.2.2.2.2.1 i i0 i1
theorem SD_st {i q : Int} (fs : ((f = 155 ∧ s = 171) ∨ (f = 4 ∧ s = 20))) (hi : 0 ≤ i ∧ i < 12) (h : SD μ s D) : SD (up2 (up2 μ 3 i 1) (s + 6) i q) s (stX D i q) := by
  obtain ⟨h1, h2, h3, h4⟩ := h
  have e1 : stX D i q 1 = u1 (D 1) (49 + i) q := rfl
  have e4 : stX D i q 4 = D 4 := rfl
  unfold SD
  rw [e1, e4]
  refine ⟨fun j j0 j1 => ?_, fun x x0 x1 x2 => ?_, fun k k0 k1 => ?_, ?_⟩
  · rw [u1_n (by omega)] at j1
    simp (disch := omega) only [up2_c, up2_u, u1_n, u1_s]
    exact h1 j j0 j1
  · simp (disch := omega) only [up2_c, up2_u, u1_n, u1_s]
    exact h2 x x0 x1 x2
  · by_cases hx : k = i
    · rw [hx]
      simp (disch := omega) only [up2_c, up2_u, u1_n, u1_s]
    · simp (disch := omega) only [up2_c, up2_u, u1_n, u1_s]
      exact h3 k k0 k1
  · simp (disch := omega) only [up2_c, up2_u, u1_n, u1_s]
    exact h4
theorem k_readStock (hb : BY b) (hn : n ≤ 900) (h : CT μ b n T) (hd : CD ρ μ f s D) (hv : DV b D) : qE mX2_readStock GG GG [qP 1] ρ μ (fun _ ρ' μ' => ρ' = ρ ∧ CT μ' b n (st4 b n D T) ∧ CD ρ μ' f s (stS b n D T) ∧ PF f s μ μ') := by
  have fs := hd.1
  have cb := hv.2.2.2.2.2.2.2.1
  have vm := vNu_m (b := b) (n := n) (lo := 0) (hi := D 1 45 - 1) (T := T)
  have F44 : ∀ (μ1 : Mem) (i : Int), CT μ1 b n (st3 b n D T) → OB μ μ1 → ((st3 b n D T).1 = 0 → i = stI b n D T) → 0 ≤ i → i < 12 → qX mX2_readStock GG (fun _ ρ' μ' => ρ' = ρ ∧ CT μ' b n (st4 b n D T) ∧ CD ρ μ' f s (stS b n D T) ∧ PF f s μ μ') GG (0, 0) 44 [some (qP 1), none, none, some (qI i), none] [] ρ μ1 := by
    intro μ1 i c1 o1 hi i0 i1
    refine w_X2_readStock_44 ?_
    refine ⟨_, k_takeNumber hb hn c1, ?_⟩
    rintro z1 ρ2 μ3 ⟨hq1_1, hq1_2, c2, o2⟩
    obtain rfl := hq1_1.symm
    obtain rfl := hq1_2.symm
    have oo := o1.trans o2
    have dd := hd.ob oo
    rw [c2.2.1]
    refine ⟨fun hc2 => ?_, fun hc2 => ?_⟩
    · exact ⟨rfl, c2, by unfold stS; rw [if_neg (show ¬ (st4 b n D T).1 = 0 by show ¬ (fNu b n 0 999 (st3 b n D T)).1 = 0; omega)]; exact dd, oo.pf⟩
    · have c0 : (fNu b n 0 999 (st3 b n D T)).1 = 0 := by omega
      have hi := hi (fNu_0 c0).1
      refine ⟨(by omega), ?_⟩
      intro μ5 eμ5; subst eμ5
      rw [hd.2.2.1]
      refine ⟨(by exact hd.i6), ?_⟩
      refine ⟨(by omega), ?_⟩
      intro μ7 eμ7; subst eμ7
      refine ⟨rfl, c2.c (by rw [up2_c (by omega), up2_c (by omega)]) (by rw [up2_c (by omega), up2_c (by omega)]), ?_, PF.up fs (PF.up fs oo.pf (by omega)) (by omega)⟩
      unfold stS
      rw [if_pos (show (st4 b n D T).1 = 0 from c0), ← hi]
      refine ⟨hd.1, hd.2.1, hd.2.2.1, FD_eq hv dd.2.2.2.1 (fun a a0 a1 => by rw [up2_c (by omega), up2_c (by omega)]) rfl rfl (fun x hx => ?_), SD_st fs ⟨i0, i1⟩ dd.2.2.2.2.1, fun k k0 k1 => ?_⟩
      · show u1 (D 1) (49 + i) _ x = _
        rw [u1_n (by omega)]
      · rw [up2_c (by omega), up2_u]
        show _ = u1 (D 5) i 1 k
        by_cases e : k = i
        · rw [e, u1_s, u1_s]
        · rw [u1_n e, u1_n e]; exact dd.2.2.2.2.2 k k0 k1
  refine e_X2_readStock ?_
  rw [hd.2.1, hd.2.2.2.1.2.2.2.2.2.2.1]
  refine ⟨(by exact hd.i0), ?_⟩
  refine ⟨(by unfold i32; omega), ?_⟩
  refine ⟨_, k_takeNumber hb hn h, ?_⟩
  rintro z2 ρ3 μ4 ⟨hq3_1, hq3_2, c1, o1⟩
  obtain rfl := hq3_1.symm
  obtain rfl := hq3_2.symm
  refine ⟨_, k_takeName hb hn c1, ?_⟩
  rintro z6 ρ7 μ8 ⟨hq4_1, c2, o2, w2⟩
  obtain rfl := hq4_1.symm
  refine ⟨_, k_namedMeal c2 w2 (hd.ob (o1.trans o2)) hv, ?_⟩
  rintro z10 ρ11 μ12 ⟨zr, zm, hq5_1, c3, o3⟩
  obtain rfl := hq5_1.symm
  refine ⟨_, k_stockIndex (by omega) (by omega), ?_⟩
  rintro z14 ρ15 μ16 ⟨hq6_1, hq6_2, hq6_3⟩
  obtain rfl := hq6_1.symm
  obtain rfl := hq6_2.symm
  obtain rfl := hq6_3.symm
  refine ⟨(by omega), ?_⟩
  have oo := (o1.trans o2).trans o3
  have dd := hd.ob oo
  rw [dd.2.2.2.2.2 _ (by omega) (by omega)]
  refine ⟨fun hc8 => ?_, fun hc8 => ?_⟩
  · have e : st3 b n D T = fMl b n D (fNu b n 0 (D 1 45 - 1) T) := by
      by_cases q : (fMl b n D (fNu b n 0 (D 1 45 - 1) T)).1 = 0
      · have z := zm q
        unfold st3
        rw [if_pos (show D 5 (stI b n D T) = 0 by unfold stI st1; rw [← z]; omega)]
        rfl
      · unfold st3 st2 st1; rw [fR_c q]; split <;> rfl
    exact F44 _ _ (by rw [e]; exact c3) oo (fun x => by rw [e] at x; rw [zm x]; rfl) (by omega) (by omega)
  · refine ⟨_, k_refuse (x := 3) (by decide) c3, ?_⟩
    rintro z18 ρ19 μ20 ⟨hq10_1, c4, o4⟩
    obtain rfl := hq10_1.symm
    have e : st3 b n D T = fR 3 (fMl b n D (fNu b n 0 (D 1 45 - 1) T)) := by
      by_cases q : (fMl b n D (fNu b n 0 (D 1 45 - 1) T)).1 = 0
      · have z := zm q
        unfold st3
        rw [if_neg (show ¬ D 5 (stI b n D T) = 0 by unfold stI st1; rw [← z]; omega)]
        rfl
      · unfold st3 st2 st1; rw [fR_c q]; split <;> rfl
    exact F44 _ _ (by rw [e]; exact c4) (oo.trans o4) (fun x => by rw [e] at x; exact absurd x (fR_k (by decide))) (by omega) (by omega)
/-! ### trolley -/
theorem FD_ty {k0 c0 v0 l0 w0 : Int} (fs : ((f = 155 ∧ s = 171) ∨ (f = 4 ∧ s = 20))) (hc : 0 ≤ D 1 61 ∧ D 1 61 < 5) (hk : ∀ x, 0 ≤ x → x < 2 → D 1 (4 + x) ≤ 5) (hm : D 1 36 ≤ 4) (h45 : D 1 45 ≤ 3) (h : FD μ f D) : FD (up2 (up2 (up2 (up2 (up2 (up2 μ (f + 11) (D 1 61) k0) (f + 12) (D 1 61) c0) (f + 13) (D 1 61) v0) (f + 14) (D 1 61) l0) (f + 15) (D 1 61) w0) f 17 (D 1 61 + 1)) f (tyX D k0 c0 v0 l0 w0) := by
  obtain ⟨h1, h2, h3, h4, h5, h6⟩ := h
  have e1 : tyX D k0 c0 v0 l0 w0 1 = u1 (u1 (u1 (u1 (u1 (u1 (D 1) (62 + 5 * D 1 61 + 0) k0) (62 + 5 * D 1 61 + 1) c0) (62 + 5 * D 1 61 + 2) v0) (62 + 5 * D 1 61 + 3) l0) (62 + 5 * D 1 61 + 4) w0) 61 (D 1 61 + 1) := rfl
  have e2 : tyX D k0 c0 v0 l0 w0 2 = D 2 := rfl
  have e4 : tyX D k0 c0 v0 l0 w0 4 = D 4 := rfl
  unfold FD
  rw [e1, e2, e4]
  refine ⟨fun x x0 x1 => ?_, fun x x0 x1 c d0 c1 => ?_, fun m m0 m1 => ?_, fun k d0 k1 => ?_, fun i i0 i1 => ?_, ?_⟩
  · simp (disch := omega) only [up2_c, up2_u, u1_n, u1_s]
    exact h1 x x0 x1
  · rw [u1_n (by omega), u1_n (by omega), u1_n (by omega), u1_n (by omega), u1_n (by omega), u1_n (by omega)] at c1
    have cx := hk x x0 x1
    simp (disch := omega) only [up2_c, up2_u, u1_n, u1_s]
    exact h2 x x0 x1 c d0 c1
  · rw [u1_n (by omega), u1_n (by omega), u1_n (by omega), u1_n (by omega), u1_n (by omega), u1_n (by omega)] at m1
    simp (disch := omega) only [up2_c, up2_u, u1_n, u1_s]
    exact h3 m m0 m1
  · rw [u1_n (by omega), u1_n (by omega), u1_n (by omega), u1_n (by omega), u1_n (by omega), u1_n (by omega)] at k1
    simp (disch := omega) only [up2_c, up2_u, u1_n, u1_s]
    exact h4 k d0 k1
  · rw [u1_s] at i1
    by_cases hx : i = D 1 61
    · rw [hx]
      simp (disch := omega) only [up2_c, up2_u, u1_n, u1_s]
      exact ⟨trivial, trivial, trivial, trivial, trivial⟩
    · simp (disch := omega) only [up2_c, up2_u, u1_n, u1_s]
      exact h5 i i0 (by omega)
  · simp (disch := omega) only [up2_k, up2_s, up2_c, u1_s, u1_n]
    exact ⟨h6.1, h6.2.1, trivial⟩
theorem ty1_0 (h : (ty1 D T).1 = 0) : D 1 61 < 5 ∧ ty1 D T = T := by
  unfold ty1 at h ⊢
  by_cases c : D 1 61 < 5
  · rw [if_pos c]; exact ⟨c, rfl⟩
  · rw [if_neg c] at h; exact absurd h (fR_k (by decide))
theorem k_readTrolley (hb : BY b) (hn : n ≤ 900) (h : CT μ b n T) (hd : CD ρ μ f s D) (hv : DV b D) : qE mX2_readTrolley GG GG [qP 1] ρ μ (fun _ ρ' μ' => ρ' = ρ ∧ CT μ' b n (ty6 b n D T) ∧ CD ρ μ' f s (tyS b n D T) ∧ PF f s μ μ') := by
  have fs := hd.1
  have cb := hv.2.2.2.2.2.2.2.1
  have F16 : ∀ μ1 : Mem, CT μ1 b n (ty1 D T) → OB μ μ1 → qX mX2_readTrolley GG (fun _ ρ' μ' => ρ' = ρ ∧ CT μ' b n (ty6 b n D T) ∧ CD ρ μ' f s (tyS b n D T) ∧ PF f s μ μ') GG (0, 0) 16 [some (qP 1), none, none, none, none, none] [] ρ μ1 := by
    intro μ1 c1 o1
    have d1 := hd.ob o1
    refine w_X2_readTrolley_16 ?_
    rw [hd.2.1, d1.2.2.2.1.2.2.2.2.2.2.1]
    refine ⟨(by exact hd.i0), ?_⟩
    refine ⟨(by unfold i32; omega), ?_⟩
    refine ⟨_, k_takeNumber hb hn c1, ?_⟩
    rintro z2 ρ3 μ4 ⟨hq3_1, hq3_2, c2, o2⟩
    obtain rfl := hq3_1.symm
    obtain rfl := hq3_2.symm
    try simp (disch := omega) only [up2_c, e17]
    refine ⟨_, k_takeNumber hb hn c2, ?_⟩
    rintro z6 ρ7 μ8 ⟨hq4_1, hq4_2, c3, o3⟩
    obtain rfl := hq4_1.symm
    obtain rfl := hq4_2.symm
    try simp (disch := omega) only [up2_c, e17]
    refine ⟨_, k_takeNumber hb hn c3, ?_⟩
    rintro z10 ρ11 μ12 ⟨hq5_1, hq5_2, c4, o4⟩
    obtain rfl := hq5_1.symm
    obtain rfl := hq5_2.symm
    try simp (disch := omega) only [up2_c, e17]
    refine ⟨_, k_takeNumber hb hn c4, ?_⟩
    rintro z14 ρ15 μ16 ⟨hq6_1, hq6_2, c5, o5⟩
    obtain rfl := hq6_1.symm
    obtain rfl := hq6_2.symm
    try simp (disch := omega) only [up2_c, e17]
    refine ⟨_, k_takeNumber hb hn c5, ?_⟩
    rintro z18 ρ19 μ20 ⟨hq7_1, hq7_2, c6, o6⟩
    obtain rfl := hq7_1.symm
    obtain rfl := hq7_2.symm
    try simp (disch := omega) only [up2_c, e17]
    have oo := ((((o1.trans o2).trans o3).trans o4).trans o5).trans o6
    have dd := hd.ob oo
    have e17 := dd.2.2.2.1.2.2.2.2.2.2.2
    rw [c6.2.1]
    refine ⟨fun hc8 => ?_, fun hc8 => ?_⟩
    · exact ⟨rfl, c6, by unfold tyS; rw [if_neg (show ¬ (ty6 b n D T).1 = 0 by show ¬ (fNu b n 1 5 (fNu b n 1 5 (fNu b n 1 9 (fNu b n 1 99 (fNu b n 0 (D 1 45 - 1) (ty1 D T)))))).1 = 0; omega)]; exact dd, oo.pf⟩
    · have c0 : (fNu b n 1 5 (fNu b n 1 5 (fNu b n 1 9 (fNu b n 1 99 (fNu b n 0 (D 1 45 - 1) (ty1 D T)))))).1 = 0 := by omega
      have m1 := ty1_0 (fNu_0 (fNu_0 (fNu_0 (fNu_0 (fNu_0 c0).1).1).1).1).1
      rw [hd.2.1, e17]
      refine ⟨(by exact hd.i0), ?_⟩
      refine ⟨(by omega), ?_⟩
      intro μ23 eμ23; subst eμ23
      try simp (disch := omega) only [up2_c, e17]
      refine ⟨(by omega), ?_⟩
      intro μ24 eμ24; subst eμ24
      try simp (disch := omega) only [up2_c, e17]
      refine ⟨(by omega), ?_⟩
      intro μ25 eμ25; subst eμ25
      try simp (disch := omega) only [up2_c, e17]
      refine ⟨(by omega), ?_⟩
      intro μ26 eμ26; subst eμ26
      try simp (disch := omega) only [up2_c, e17]
      refine ⟨(by omega), ?_⟩
      intro μ27 eμ27; subst eμ27
      try simp (disch := omega) only [up2_c, e17]
      refine ⟨(by unfold i32; omega), ?_⟩
      intro μ28 eμ28; subst eμ28
      try simp (disch := omega) only [up2_c, e17]
      refine ⟨by trivial, c6.c (by rw [up2_c (by omega), up2_c (by omega), up2_c (by omega), up2_c (by omega), up2_c (by omega), up2_c (by omega)]) (by rw [up2_c (by omega), up2_c (by omega), up2_c (by omega), up2_c (by omega), up2_c (by omega), up2_c (by omega)]), ?_, PF.up fs (PF.up fs (PF.up fs (PF.up fs (PF.up fs (PF.up fs oo.pf (by omega)) (by omega)) (by omega)) (by omega)) (by omega)) (by omega)⟩
      unfold tyS
      rw [if_pos (show (ty6 b n D T).1 = 0 from c0)]
      refine ⟨hd.1, hd.2.1, hd.2.2.1, FD_ty fs ⟨cb.2.2.2.2.1, m1.1⟩ (fun x x0 x1 => (hv.1 x x0 x1).2.1) cb.2.1 cb.2.2.2.1 dd.2.2.2.1, SD_eq dd.2.2.2.2.1 (fun a a0 a1 => by rw [up2_c (by omega), up2_c (by omega), up2_c (by omega), up2_c (by omega), up2_c (by omega), up2_c (by omega)]) rfl (fun x hx => ?_), fun k k0 k1 => by rw [up2_c (by omega), up2_c (by omega), up2_c (by omega), up2_c (by omega), up2_c (by omega), up2_c (by omega)]; exact dd.2.2.2.2.2 k k0 k1⟩
      show u1 (u1 (u1 (u1 (u1 (u1 (D 1) _ _) _ _) _ _) _ _) _ _) _ _ x = _
      rw [u1_n (by omega), u1_n (by omega), u1_n (by omega), u1_n (by omega), u1_n (by omega), u1_n (by omega)]
  refine e_X2_readTrolley ?_
  rw [hd.2.1]
  refine ⟨(by exact hd.i0), ?_⟩
  rw [hd.2.2.2.1.2.2.2.2.2.2.2]
  refine ⟨fun hc2 => ?_, fun hc2 => ?_⟩
  · exact F16 _ (by unfold ty1; rw [if_pos (by omega)]; exact h) OB.refl
  · refine ⟨_, k_refuse (x := 4) (by decide) h, ?_⟩
    rintro z2 ρ3 μ4 ⟨hq4_1, c1, o1⟩
    obtain rfl := hq4_1.symm
    exact F16 _ (by unfold ty1; rw [if_neg (by omega)]; exact c1) o1
/-! ### job -/
def dS (μ : Mem) (s : Nat) (D : Sg) : Pl := fun k => if k = 2 then μ (s + 5) 0 else if k = 3 then μ (s + 5) 1 else D 1 k
theorem dS_o {x : Int} (h : x ≠ 2 ∧ x ≠ 3) : dS μ s D x = D 1 x := by
  unfold dS
  rw [if_neg h.1, if_neg h.2]
theorem SD.sp (h : SD μ s D) : SP μ s (dS μ s D) := by
  refine ⟨fun j j0 j1 => ?_, fun t t0 t1 => ?_, fun k k0 k1 => ?_, ?_⟩
  · rw [dS_o (by omega)] at j1
    rw [dS_o (by omega), dS_o (by omega), dS_o (by omega), dS_o (by omega), dS_o (by omega)]
    exact h.1 j j0 j1
  · obtain rfl | rfl : t = 0 ∨ t = 1 := by omega
    · rfl
    · rfl
  · rw [dS_o (by omega)]; exact h.2.2.1 k k0 k1
  · rw [dS_o (by omega)]; exact h.2.2.2
theorem dS_cnt {i : Int} (h0 : 0 ≤ D 1 87) : cnt (dS μ s D) i = cnt (D 1) i := cnt_e (dS_o (by omega)) h0 (fun j j0 j1 => dS_o (by omega)) i
theorem u1_cg {f g : Int → Int} {k v x : Int} (h : f x = g x) : u1 f k v x = u1 g k v x := by unfold u1; rw [h]
theorem dS_add {i t c m q x : Int} (h : x ≠ 2 ∧ x ≠ 3) : pAdd (dS μ s D) i t c m q x = pAdd (D 1) i t c m q x := by
  unfold pAdd
  rw [dS_o (x := 87) (by omega)]
  exact u1_cg (u1_cg (u1_cg (u1_cg (u1_cg (u1_cg (dS_o h))))))
theorem SD_jo {μ' : Mem} {i t c m q : Int} (h0 : 0 ≤ D 1 87) (h : SD μ s D) (hf : FR s (s + 4) μ μ') (hs : SP μ' s (pAdd (dS μ s D) i t c m q)) : SD μ' s (joX D i t c m q) := by
  have e1 : joX D i t c m q 1 = pAdd (D 1) i t c m q := rfl
  have e4 : joX D i t c m q 4 = D 4 := rfl
  have e87 : pAdd (dS μ s D) i t c m q 87 = pAdd (D 1) i t c m q 87 := dS_add (by omega)
  unfold SD
  rw [e1, e4]
  refine ⟨fun j j0 j1 => ?_, fun x x0 x1 x2 => ?_, fun k k0 k1 => ?_, by rw [← e87]; exact hs.n⟩
  · have := hs.j j0 (by rw [e87]; exact j1)
    rw [dS_add (by omega), dS_add (by omega), dS_add (by omega), dS_add (by omega), dS_add (by omega)] at this
    exact this
  · rw [hf (s + 5) (by omega), pAdd_o (by omega) h0]
    exact h.2.1 x x0 x1 x2
  · have := hs.k k0 k1
    rw [dS_add (by omega)] at this
    exact this
end CLO
