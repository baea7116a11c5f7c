/-! ===== behind applyBest the best set delivers as many ===== -/
section APX
variable {p q r : Pl} {i v : Int} {s : Nat}
theorem owA_lt : ∀ m : Nat, ∀ k k', 0 ≤ k → k < k' → k' < owC p i m → owA p i m k < owA p i m k' := by
  intro m
  induction m with
  | zero =>
    intro k k' k0 k1 k2
    have : owC p i ((0 : Nat) : Int) = 0 := s_I0
    omega
  | succ m ih =>
    intro k k' k0 k1 k2
    have e := owC_s (p := p) (i := i) (m := (m : Int)) (by omega)
    have ee : ((m + 1 : Nat) : Int) = (m : Int) + 1 := by omega
    rw [ee] at k2
    have d : owA p i (m + 1) = if p (88 + 5 * (m : Int) + 0) = i then u1 (owA p i m) (owC p i m) m else owA p i m := rfl
    by_cases hm : p (88 + 5 * (m : Int) + 0) = i
    · rw [if_pos hm] at e d
      rw [d, u1_n (show k ≠ owC p i m by omega)]
      by_cases hk : k' = owC p i m
      · rw [hk, u1_s]
        exact (owA_j m k k0 (by omega)).2.1
      · rw [u1_n hk]
        exact ih k k' k0 k1 (by omega)
    · rw [if_neg hm] at e d
      rw [d]
      exact ih k k' k0 k1 (by omega)
theorem ow_lt {k k' : Int} (hn : 0 ≤ p 87) (h0 : 0 ≤ k) (h1 : k < k') (h2 : k' < cnt p i) : ow p i k < ow p i k' := by
  have e : (((p 87).toNat : Nat) : Int) = p 87 := Int.toNat_of_nonneg hn
  exact owA_lt (p := p) (i := i) (p 87).toNat k k' h0 h1 (by rw [e]; exact h2)
theorem owA_last : ∀ m : Nat, ∀ j : Int, 0 ≤ j → j < m → p (88 + 5 * j + 0) = i → 1 ≤ owC p i m ∧ j ≤ owA p i m (owC p i m - 1) := by
  intro m
  induction m with
  | zero => intro j j0 j1; omega
  | succ m ih =>
    intro j j0 j1 hj
    have e := owC_s (p := p) (i := i) (m := (m : Int)) (by omega)
    have c0 := owC_b (p := p) (i := i) (m := (m : Int)) (by omega)
    have ee : ((m + 1 : Nat) : Int) = (m : Int) + 1 := by omega
    rw [ee]
    have d : owA p i (m + 1) = if p (88 + 5 * (m : Int) + 0) = i then u1 (owA p i m) (owC p i m) m else owA p i m := rfl
    by_cases hm : p (88 + 5 * (m : Int) + 0) = i
    · rw [if_pos hm] at e d
      rw [d, show owC p i ((m : Int) + 1) - 1 = owC p i m by omega, u1_s]
      omega
    · rw [if_neg hm] at e d
      have hjm : j ≠ (m : Int) := fun z => hm (by rw [← z]; exact hj)
      have a := ih j j0 (by omega) hj
      rw [d, show owC p i ((m : Int) + 1) = owC p i m by omega]
      exact a
theorem owA_c : ∀ m : Nat, (∀ j : Int, 0 ≤ j → j < m → q (88 + 5 * j + 0) = p (88 + 5 * j + 0)) → owC q i m = owC p i m ∧ owA q i m = owA p i m := by
  intro m
  induction m with
  | zero => intro _; exact ⟨rfl, rfl⟩
  | succ m ih =>
    intro h
    obtain ⟨a, b⟩ := ih (fun j j0 j1 => h j j0 (by omega))
    have hm := h (m : Int) (by omega) (by omega)
    have e := owC_s (p := p) (i := i) (m := (m : Int)) (by omega)
    have e' := owC_s (p := q) (i := i) (m := (m : Int)) (by omega)
    have ee : ((m + 1 : Nat) : Int) = (m : Int) + 1 := by omega
    rw [ee, e, e', hm, a]
    refine ⟨rfl, ?_⟩
    show (if q (88 + 5 * (m : Int) + 0) = i then u1 (owA q i m) (owC q i m) m else owA q i m) = if p (88 + 5 * (m : Int) + 0) = i then u1 (owA p i m) (owC p i m) m else owA p i m
    rw [hm, a, b]
theorem owA_same : ∀ d m : Nat, (∀ j : Int, (m : Int) ≤ j → j < m + d → p (88 + 5 * j + 0) ≠ i) → owC p i ((m + d : Nat) : Int) = owC p i m ∧ owA p i (m + d) = owA p i m := by
  intro d
  induction d with
  | zero => intro m _; exact ⟨rfl, rfl⟩
  | succ d ih =>
    intro m h
    obtain ⟨a, b⟩ := ih m (fun j j0 j1 => h j j0 (by omega))
    have hm := h ((m + d : Nat) : Int) (by omega) (by omega)
    have e := owC_s (p := p) (i := i) (m := ((m + d : Nat) : Int)) (by omega)
    rw [if_neg hm] at e
    refine ⟨by rw [show ((m + (d + 1) : Nat) : Int) = ((m + d : Nat) : Int) + 1 by omega, e]; omega, ?_⟩
    show (if p (88 + 5 * ((m + d : Nat) : Int) + 0) = i then _ else owA p i (m + d)) = _
    rw [if_neg hm]
    exact b
theorem ow_e (h87 : q 87 = p 87) (hn : 0 ≤ p 87) (h : ∀ j : Int, 0 ≤ j → j < p 87 → q (88 + 5 * j + 0) = p (88 + 5 * j + 0)) : cnt q i = cnt p i ∧ ∀ k, ow q i k = ow p i k := by
  have e : (((p 87).toNat : Nat) : Int) = p 87 := Int.toNat_of_nonneg hn
  obtain ⟨a, b⟩ := owA_c (p := p) (q := q) (i := i) (p 87).toNat (fun j j0 j1 => h j j0 (by omega))
  rw [e] at a
  refine ⟨by unfold cnt; rw [h87]; exact a, fun k => ?_⟩
  unfold ow
  rw [h87, b]
/-- the last own job is dropped -/
theorem drop_own {x : Int} (hn : 0 ≤ r 87) (hK : 1 ≤ cnt r i) (hx : x = ow r i (cnt r i - 1)) : cnt (pDrop r x) i = cnt r i - 1 ∧ ∀ k, 0 ≤ k → k < cnt r i - 1 → ow (pDrop r x) i k = ow r i k := by
  have eN : (((r 87).toNat : Nat) : Int) = r 87 := Int.toNat_of_nonneg hn
  have oj := ow_j (p := r) (i := i) (k := cnt r i - 1) hn (by omega) (by omega)
  rw [← hx] at oj
  obtain ⟨x0, x1, xi⟩ := oj
  have ex : ((x.toNat : Nat) : Int) = x := Int.toNat_of_nonneg x0
  have cnt0 : cnt r i = owC r i (r 87) := rfl
  have last : ∀ j, x < j → j < r 87 → r (88 + 5 * j + 0) ≠ i := fun j j0 j1 hj => by
    have a := (owA_last (p := r) (i := i) (r 87).toNat j (by omega) (by omega) hj).2
    rw [eN] at a
    have : owA r i (r 87).toNat (owC r i (r 87) - 1) = x := hx.symm
    omega
  -- the row itself
  have s1 := owA_same (p := r) (i := i) ((r 87).toNat - (x.toNat + 1)) (x.toNat + 1) (fun j j0 j1 => last j (by omega) (by omega))
  rw [show x.toNat + 1 + ((r 87).toNat - (x.toNat + 1)) = (r 87).toNat by omega, eN] at s1
  have s2 := owC_s (p := r) (i := i) (m := x) x0
  rw [if_pos xi] at s2
  have s3 : owA r i (x.toNat + 1) = u1 (owA r i x.toNat) (owC r i x) x := by
    show (if r (88 + 5 * (x.toNat : Int) + 0) = i then u1 (owA r i x.toNat) (owC r i (x.toNat : Int)) (x.toNat : Int) else _) = _
    rw [ex, if_pos xi]
  -- behind the drop
  have e87 : pDrop r x 87 = r 87 - 1 := drop_87
  have c1 := owA_c (p := r) (q := pDrop r x) (i := i) x.toNat (fun j j0 j1 => by rw [drop_j x0 j0 (by omega) (by omega), if_pos (by omega)])
  have c2 := owA_same (p := pDrop r x) (i := i) ((r 87).toNat - 1 - x.toNat) x.toNat (fun j j0 j1 => by
    rw [drop_j x0 (by omega) (by omega) (by omega), if_neg (by omega)]
    exact last (j + 1) (by omega) (by omega))
  rw [show x.toNat + ((r 87).toNat - 1 - x.toNat) = (r 87).toNat - 1 by omega, show (((r 87).toNat - 1 : Nat) : Int) = r 87 - 1 by omega] at c2
  rw [ex] at c1 c2
  have k1 : cnt (pDrop r x) i = owC r i x := by
    show owC (pDrop r x) i (pDrop r x 87) = _
    rw [e87, c2.1, c1.1]
  have k2 : cnt r i = owC r i x + 1 := by
    rw [cnt0, s1.1, show ((x.toNat + 1 : Nat) : Int) = x + 1 by omega, s2]
  refine ⟨by omega, fun k h0 h1 => ?_⟩
  have a1 : ow (pDrop r x) i k = owA r i x.toNat k := by
    unfold ow
    rw [e87, show (r 87 - 1).toNat = (r 87).toNat - 1 by omega, c2.2, c1.2]
  have a2 : ow r i k = owA r i x.toNat k := by
    unfold ow
    rw [s1.2, s3, u1_n (by omega)]
  rw [a1, a2]
theorem oNF_z : ∀ m q : Nat, (oS p i v s (oNF p i v s m q)).1 = 0 ∨ oNF p i v s m q = q + m := by
  intro m
  induction m with
  | zero => intro q; exact Or.inr rfl
  | succ m ih =>
    intro q
    have e : oNF p i v s (m + 1) q = if (oS p i v s q).1 = 0 then q else oNF p i v s m (q + 1) := rfl
    by_cases z : (oS p i v s q).1 = 0
    · rw [e, if_pos z]; exact Or.inl z
    · rw [e, if_neg z]
      rcases ih (q + 1) with h | h
      · exact Or.inl h
      · exact Or.inr (by omega)
theorem oN_pc (hv : PV p) (hc : cnt p i ≤ 8) (v0 : 1 ≤ v) (hs : s < 2 ^ (cnt p i).toNat) (hg : 0 ≤ gT p i v s) : oN p i v s = pc8 s := by
  have c0 : 0 ≤ cnt p i := (owC_b (p := p) (i := i) hv.n.2.2.2.2.2.2.1).1
  obtain ⟨nz, z0, -⟩ := oS_nz hv hc v0 hs hg
  have pn := pc_n (cnt p i).toNat (by omega) s hs
  have ob := oN_b (p := p) (i := i) (v := v) (s := s)
  have h1 : oN p i v s ≤ pc8 s := by
    rcases Nat.lt_or_ge (pc8 s) (oN p i v s) with h | h
    · exact absurd z0 (ob.2 _ h)
    · exact h
  rcases oNF_z (p := p) (i := i) (v := v) (s := s) (cnt p i).toNat 0 with h | h
  · have h : (oS p i v s (oN p i v s)).1 = 0 := h
    rcases Nat.lt_or_ge (oN p i v s) (pc8 s) with h2 | h2
    · exact absurd h (nz _ h2)
    · omega
  · have h : oN p i v s = 0 + (cnt p i).toNat := h
    omega
theorem aT_at (hv : PV p) : ∀ K : Nat, (K : Int) ≤ cnt p i → ∀ k : Nat, k < K → ∀ z, 0 ≤ z → z < 5 → aT p i v s K (88 + 5 * ow p i k + z) = p (88 + 5 * oK p i v s k + z) := by
  have hn := hv.n.2.2.2.2.2.2.1
  intro K
  induction K with
  | zero => intro _ k hk; omega
  | succ K ih =>
    intro hK k hk z z0 z1
    show pTake (aT p i v s K) p (oK p i v s K) (ow p i K) _ = _
    rw [take_j z0 z1]
    by_cases c : k = K
    · subst c
      rw [if_pos rfl]
    · have := ow_lt (p := p) (i := i) (k := (k : Int)) (k' := (K : Int)) hn (by omega) (by omega) (by omega)
      rw [if_neg (by omega)]
      exact ih (by omega) k (by omega) z z0 z1
/-- the plan behind applyBest, as the jobs of its trolley see it -/
theorem apB_own (ho : OKP p) (i0 : 0 ≤ i) (i1 : i < p 61) : cnt (apB p i) i = (pc8 (bst p i) : Nat) ∧ (∀ x, x < 87 → apB p i x = p x) ∧ ∀ k : Nat, k < pc8 (bst p i) → ow (apB p i) i k = ow p i k ∧ ∀ z, 0 ≤ z → z < 5 → apB p i (88 + 5 * ow p i k + z) = p (88 + 5 * oK p i (spd p i) (bst p i) k + z) := by
  have hv := ho.1
  have hn := hv.n.2.2.2.2.2.2.1
  have hc := ho.2.2.2.1 i
  have c0 : 0 ≤ cnt p i := (owC_b (p := p) (i := i) hn).1
  have bb := bst_b (p := p) (i := i) c0
  have v0 := hv.v i0 i1
  have en := oN_pc hv hc v0 bb.1 bb.2
  have pn := pc_n (cnt p i).toNat (by omega) (bst p i) bb.1
  have nz := (oS_nz hv hc v0 bb.1 bb.2).1
  have tJ := aT_j hv hc v0 bb.1 bb.2 (pc8 (bst p i)) (by omega) nz
  have tO := aT_o (i := i) (v := spd p i) (s := bst p i) hv (pc8 (bst p i)) (by omega)
  have tA := aT_at (i := i) (v := spd p i) (s := bst p i) hv (pc8 (bst p i)) (by omega)
  have tE := ow_e (i := i) (q := aT p i (spd p i) (bst p i) (pc8 (bst p i))) (p := p) (tO 87 (by omega)) hn (fun j j0 j1 => by
    obtain ⟨a, a0, a1, a2, a3⟩ := tJ j j0 j1
    rw [a3 0 (by omega) (by omega), a2])
  have D : ∀ d : Nat, (d : Int) ≤ cnt p i - (pc8 (bst p i) : Nat) → cnt (aD (aT p i (spd p i) (bst p i) (pc8 (bst p i))) p i d) i = cnt p i - d ∧ aD (aT p i (spd p i) (bst p i) (pc8 (bst p i))) p i d 87 = p 87 - d ∧ (∀ x, x < 87 → aD (aT p i (spd p i) (bst p i) (pc8 (bst p i))) p i d x = p x) ∧ (∀ k : Int, 0 ≤ k → k < cnt p i - d → ow (aD (aT p i (spd p i) (bst p i) (pc8 (bst p i))) p i d) i k = ow p i k) ∧ ∀ k : Nat, k < pc8 (bst p i) → ∀ z, 0 ≤ z → z < 5 → aD (aT p i (spd p i) (bst p i) (pc8 (bst p i))) p i d (88 + 5 * ow p i k + z) = p (88 + 5 * oK p i (spd p i) (bst p i) k + z) := by
    intro d
    induction d with
    | zero =>
      intro _
      refine ⟨?_, ?_, fun x hx => tO x (by omega), fun k _ _ => tE.2 k, tA⟩
      · show cnt (aT _ _ _ _ _) i = _
        rw [tE.1]; omega
      · show aT _ _ _ _ _ 87 = _
        rw [tO 87 (by omega)]; omega
    | succ d ih =>
      intro hd
      obtain ⟨b1, b2, b3, b4, b5⟩ := ih (by omega)
      have og := ow_g (p := p) (i := i) (k := cnt p i - 1 - d) hn (by omega) (by omega)
      have oj := ow_j (p := p) (i := i) (k := cnt p i - 1 - d) hn (by omega) (by omega)
      have dr := drop_own (r := aD (aT p i (spd p i) (bst p i) (pc8 (bst p i))) p i d) (i := i) (x := ow p i (cnt p i - 1 - d)) (by omega) (by omega) (by
        rw [b1, b4 _ (by omega) (by omega)]
        congr 1
        omega)
      show cnt (pDrop (aD _ p i d) (ow p i (cnt p i - 1 - d))) i = _ ∧ pDrop (aD _ p i d) (ow p i (cnt p i - 1 - d)) 87 = _ ∧ (∀ x, x < 87 → pDrop (aD _ p i d) (ow p i (cnt p i - 1 - d)) x = p x) ∧ (∀ k : Int, 0 ≤ k → k < cnt p i - ((d + 1 : Nat) : Int) → ow (pDrop (aD _ p i d) (ow p i (cnt p i - 1 - d))) i k = ow p i k) ∧ ∀ k : Nat, k < pc8 (bst p i) → ∀ z, 0 ≤ z → z < 5 → pDrop (aD _ p i d) (ow p i (cnt p i - 1 - d)) (88 + 5 * ow p i k + z) = _
      refine ⟨by rw [dr.1, b1]; omega, by rw [drop_87, b2]; omega, fun x hx => by rw [drop_lo oj.1 hx]; exact b3 x hx, fun k k0 k1 => by rw [dr.2 k k0 (by omega)]; exact b4 k k0 (by omega), fun k hk z z0 z1 => ?_⟩
      have lt := ow_lt (p := p) (i := i) (k := (k : Int)) (k' := cnt p i - 1 - d) hn (by omega) (by omega) (by omega)
      have ok := ow_j (p := p) (i := i) (k := (k : Int)) hn (by omega) (by omega)
      rw [drop_j oj.1 ok.1 (by omega) ⟨z0, z1⟩, if_pos lt]
      exact b5 k hk z z0 z1
  have E := D ((cnt p i).toNat - pc8 (bst p i)) (by omega)
  have eA : apB p i = aD (aT p i (spd p i) (bst p i) (pc8 (bst p i))) p i ((cnt p i).toNat - pc8 (bst p i)) := by
    unfold apB
    rw [en]
  rw [← eA] at E
  obtain ⟨b1, b2, b3, b4, b5⟩ := E
  exact ⟨by omega, b3, fun k hk => ⟨b4 k (by omega) (by omega), b5 k hk⟩⟩
/-! ### one job in both plans -/
theorem job_e {x y : Int} (hv : PV p) (hy : 0 ≤ y ∧ y < p 87) (hF : ∀ k, k < 87 → q k = p k) (hc : ∀ z, 0 ≤ z → z < 5 → q (88 + 5 * x + z) = p (88 + 5 * y + z)) : oMe q x = oMe p y ∧ ∀ t, oEnd q v x t = oEnd p v y t := by
  have a := hv.j hy.1 hy.2
  have n := hv.n
  have b := hv.i a.1 a.2.1
  have tt := hv.t a.2.2.1 a.2.2.2.1
  have c0 := hc 0 (by decide) (by decide)
  have c1 := hc 1 (by decide) (by decide)
  have c2 := hc 2 (by decide) (by decide)
  have c4 := hc 4 (by decide) (by decide)
  have m : oMe q x = oMe p y := by
    unfold oMe
    rw [c0, c4, hF _ (by omega)]
  have w : oWb q v x = oWb p v y := by
    unfold oWb wkG
    rw [c0, c1, c2, hF (62 + 5 * p (88 + 5 * y + 0) + 0) (by omega), hF (46 + p (62 + 5 * p (88 + 5 * y + 0) + 0)) (by omega), hF (6 + 5 * p (88 + 5 * y + 1) + p (88 + 5 * y + 2)) (by omega)]
  have td : oTd q v x = oTd p v y := by
    unfold oTd
    rw [m, w, c0, hF _ (by omega)]
  have un : oUn q x = oUn p y := by
    unfold oUn
    rw [m, c0, hF _ (by omega)]
  have ar : oAr q x = oAr p y := by
    unfold oAr
    rw [c1, hF _ (by omega)]
  have de : oDe q x = oDe p y := by
    unfold oDe
    rw [c1, hF _ (by omega)]
  refine ⟨m, fun t => ?_⟩
  unfold oEnd
  rw [td, ar, un, de, w]
theorem rest_t : ∀ n, n < 9 → ∀ k, k < n → (2 ^ n - 2 ^ k).testBit k = true ∧ (2 ^ n - 2 ^ k) ^^^ 2 ^ k = 2 ^ n - 2 ^ (k + 1) ∧ 0 < 2 ^ n - 2 ^ k ∧ 2 ^ n - 2 ^ k < 256 := by decide +kernel
theorem bs_max : ∀ m, ∀ m', 1 ≤ m' → m' ≤ m → 0 ≤ gT p i v m' → sm p i m' ≤ sm p i (bs p i v m) := by
  intro m
  induction m with
  | zero => intro m' h1 h2; omega
  | succ m ih =>
    intro m' h1 h2 h3
    have e : bs p i v (m + 1) = if 0 ≤ gT p i v (m + 1) ∧ sm p i (bs p i v m) < sm p i (m + 1) then m + 1 else bs p i v m := rfl
    by_cases c : 0 ≤ gT p i v (m + 1) ∧ sm p i (bs p i v m) < sm p i (m + 1)
    · rw [e, if_pos c]
      by_cases d : m' = m + 1
      · rw [d]; exact Int.le_refl _
      · have := ih m' h1 (by omega) h3
        omega
    · rw [e, if_neg c]
      by_cases d : m' = m + 1
      · rw [d] at h3 ⊢
        have : ¬ sm p i (bs p i v m) < sm p i (m + 1) := fun z => c ⟨h3, z⟩
        omega
      · exact ih m' h1 (by omega) h3
theorem smk_le (hv : PV p) {n : Nat} : ∀ m : Nat, m ≤ n → (m : Int) ≤ cnt p i → smk p i s m ≤ smk p i (2 ^ n - 1) m := by
  intro m
  induction m with
  | zero => intro _ _; exact Int.le_refl _
  | succ m ih =>
    intro h1 h2
    have a := ih (by omega) (by omega)
    have oj := ow_j (p := p) (i := i) (k := (m : Int)) hv.n.2.2.2.2.2.2.1 (by omega) (by omega)
    have o := o_b hv (v := 1) oj.1 oj.2.1 (by omega)
    have e1 : smk p i s (m + 1) = if s.testBit m then smk p i s m + oMe p (ow p i m) else smk p i s m := rfl
    have e2 : smk p i (2 ^ n - 1) (m + 1) = if (2 ^ n - 1).testBit m then smk p i (2 ^ n - 1) m + oMe p (ow p i m) else smk p i (2 ^ n - 1) m := rfl
    rw [Nat.testBit_two_pow_sub_one, if_pos (by simp; omega)] at e2
    split at e1 <;> omega
theorem apB_best (ho : OKP p) (i0 : 0 ≤ i) (i1 : i < p 61) : sm (apB p i) i (bst (apB p i) i) = sm p i (bst p i) := by
  have hv := ho.1
  have hn := hv.n.2.2.2.2.2.2.1
  have hc := ho.2.2.2.1 i
  have c0 : 0 ≤ cnt p i := (owC_b (p := p) (i := i) hn).1
  have bb := bst_b (p := p) (i := i) c0
  have v0 := hv.v i0 i1
  have pn := pc_n (cnt p i).toNat (by omega) (bst p i) bb.1
  obtain ⟨nz, z0, sq⟩ := oS_nz hv hc v0 bb.1 bb.2
  obtain ⟨q1, q2, q3⟩ := apB_own ho i0 i1
  have hoq := (apB_ok ho i0 i1).1
  have hvq := hoq.1
  have n61 := hv.n.2.2.2.2.2.1
  have es : spd (apB p i) i = spd p i := q2 _ (by omega)
  have oiS := oS_i hv hc v0 bb.1 bb.2
  generalize apB p i = q at *
  have cq : (cnt q i).toNat = pc8 (bst p i) := by omega
  have J : ∀ k : Nat, k < pc8 (bst p i) → oMe q (ow q i k) = oMe p (oK p i (spd p i) (bst p i) k) ∧ ∀ t, oEnd q (spd p i) (ow q i k) t = oEnd p (spd p i) (oK p i (spd p i) (bst p i) k) t := fun k hk => by
    have kb := oK_b hv hc v0 bb.1 bb.2 (nz k hk)
    rw [(q3 k hk).1]
    exact job_e hv ⟨kb.1, kb.2.1⟩ q2 (q3 k hk).2
  -- all of them together are as many
  have S : ∀ m : Nat, m ≤ pc8 (bst p i) → smk q i (2 ^ pc8 (bst p i) - 1) m = oSum p i (spd p i) (bst p i) m := by
    intro m
    induction m with
    | zero => intro _; rfl
    | succ m ih =>
      intro hm
      have e2 : smk q i (2 ^ pc8 (bst p i) - 1) (m + 1) = if (2 ^ pc8 (bst p i) - 1).testBit m then smk q i (2 ^ pc8 (bst p i) - 1) m + oMe q (ow q i m) else smk q i (2 ^ pc8 (bst p i) - 1) m := rfl
      rw [Nat.testBit_two_pow_sub_one, if_pos (by simp; omega), ih (by omega), (J m (by omega)).1] at e2
      exact e2
  have SF : sm q i (2 ^ pc8 (bst p i) - 1) = sm p i (bst p i) := by
    show smk q i _ (cnt q i).toNat = _
    rw [cq, S _ (Nat.le_refl _), sq]
  -- and they can be done
  have F : ∀ d k : Nat, k + d = pc8 (bst p i) → (oS p i (spd p i) (bst p i) k).2 ≤ gT q i (spd p i) (2 ^ pc8 (bst p i) - 2 ^ k) := by
    intro d
    induction d with
    | zero =>
      intro k hk
      have hk : k = pc8 (bst p i) := by omega
      subst hk
      rw [Nat.sub_self, gT_0]
      have a := (oiS (pc8 (bst p i))).2.2
      rw [z0, gT_0] at a
      exact a
    | succ d ih =>
      intro k hk
      have hk2 : k < pc8 (bst p i) := by omega
      obtain ⟨r1, r2, r3, r4⟩ := rest_t (pc8 (bst p i)) (by omega) k hk2
      have e := gT_s (p := q) (i := i) (v := spd p i) (s := 2 ^ pc8 (bst p i) - 2 ^ k) (by omega) r3 r4
      have mb := (mxk_b (s := 2 ^ pc8 (bst p i) - 2 ^ k) (h := fun j => oLat q (spd p i) (ow q i j) (gT q i (spd p i) ((2 ^ pc8 (bst p i) - 2 ^ k) ^^^ 2 ^ j))) (cnt q i).toNat).2.1 k (by omega) r1
      have mb : oLat q (spd p i) (ow q i k) (gT q i (spd p i) ((2 ^ pc8 (bst p i) - 2 ^ k) ^^^ 2 ^ k)) ≤ gTs q i (spd p i) (gT q i (spd p i)) (2 ^ pc8 (bst p i) - 2 ^ k) := mb
      rw [← e, r2] at mb
      have h1 := ih (k + 1) (by omega)
      have a := oiS k
      have z := nz k hk2
      have fe := fit_ex hv hc v0 a.1 z a.2.1 a.2.2
      have eS : (oS p i (spd p i) (bst p i) (k + 1)).2 = oEnd p (spd p i) (oK p i (spd p i) (bst p i) k) (oS p i (spd p i) (bst p i) k).2 := by
        show (if _ then _ else _ : Nat × Int).2 = _
        rw [if_neg z]
        rfl
      have fe3 : oEnd p (spd p i) (oK p i (spd p i) (bst p i) k) (oS p i (spd p i) (bst p i) k).2 < FA := fe.2.2.1
      have oj := ow_j (p := q) (i := i) (k := (k : Int)) hvq.n.2.2.2.2.2.2.1 (by omega) (by omega)
      have l := (o_le hvq (v := spd p i) (j := ow q i k) (t := (oS p i (spd p i) (bst p i) k).2) (x := gT q i (spd p i) (2 ^ pc8 (bst p i) - 2 ^ (k + 1))) oj.1 oj.2.1 v0 a.2.1).mpr (by
        rw [(J k hk2).2]
        exact ⟨fe3, by rw [← eS]; exact h1⟩)
      omega
  have F0' : 0 ≤ gT q i (spd p i) (2 ^ pc8 (bst p i) - 1) := F (pc8 (bst p i)) 0 (by omega)
  have eb : bst q i = bs q i (spd p i) (2 ^ pc8 (bst p i) - 1) := by
    show bs q i (spd q i) (2 ^ (cnt q i).toNat - 1) = _
    rw [es, cq]
  have up : sm q i (bst q i) ≤ sm q i (2 ^ pc8 (bst p i) - 1) := smk_le hvq (cnt q i).toNat (by omega) (by omega)
  have lo : sm q i (2 ^ pc8 (bst p i) - 1) ≤ sm q i (bst q i) := by
    by_cases h0 : pc8 (bst p i) = 0
    · rw [eb, h0]
      show sm q i 0 ≤ sm q i 0
      exact Int.le_refl _
    · have p1 : 2 ≤ 2 ^ pc8 (bst p i) := by
        have := Nat.pow_le_pow_right (show 0 < 2 by decide) (show 1 ≤ pc8 (bst p i) by omega)
        omega
      rw [eb]
      exact bs_max _ _ (by omega) (Nat.le_refl _) F0'
  omega
end APX
