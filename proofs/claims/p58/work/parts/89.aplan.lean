/-! ===== the plan behind applyBest ===== -/
def oNF (p : Pl) (i v : Int) (s : Nat) : Nat → Nat → Nat
  | 0, q => q
  | m + 1, q => if (oS p i v s q).1 = 0 then q else oNF p i v s m (q + 1)
def oN (p : Pl) (i v : Int) (s : Nat) : Nat := oNF p i v s (cnt p i).toNat 0
theorem ORD.n {p : Pl} {i v : Int} {s : Nat} {n : Int} {f : Int → Int} (h : ORD p i v s n f) : n = (oN p i v s : Int) := by
  have L : ∀ m q : Nat, (q : Int) ≤ n → n ≤ q + m → (oNF p i v s m q : Int) = n := by
    intro m
    induction m with
    | zero => intro q a b; show (q : Int) = n; omega
    | succ m ih =>
      intro q a b
      have e : oNF p i v s (m + 1) q = if (oS p i v s q).1 = 0 then q else oNF p i v s m (q + 1) := rfl
      have l := h.lt (x := (q : Int)) (by omega)
      rw [Int.toNat_natCast] at l
      by_cases z : (oS p i v s q).1 = 0
      · rw [e, if_pos z]
        have : ¬ (q : Int) < n := fun y => (l.mp y) z
        omega
      · rw [e, if_neg z]
        have := l.mpr z
        exact ih (q + 1) (by omega) (by omega)
  have := L (cnt p i).toNat 0 h.1 (by have := h.2.1; omega)
  exact this.symm
theorem oN_b {p : Pl} {i v : Int} {s : Nat} : oN p i v s ≤ (cnt p i).toNat ∧ ∀ q, q < oN p i v s → (oS p i v s q).1 ≠ 0 := by
  have L : ∀ m q : Nat, (∀ j, j < q → (oS p i v s j).1 ≠ 0) → oNF p i v s m q ≤ q + m ∧ ∀ j, j < oNF p i v s m q → (oS p i v s j).1 ≠ 0 := by
    intro m
    induction m with
    | zero => intro q a; exact ⟨Nat.le_refl _, a⟩
    | succ m ih =>
      intro q a
      have e : oNF p i v s (m + 1) q = if (oS p i v s q).1 = 0 then q else oNF p i v s m (q + 1) := rfl
      by_cases z : (oS p i v s q).1 = 0
      · rw [e, if_pos z]
        exact ⟨by omega, a⟩
      · rw [e, if_neg z]
        have := ih (q + 1) (fun j hj => by
          by_cases c : j = q
          · rw [c]; exact z
          · exact a j (by omega))
        exact ⟨by omega, this.2⟩
  have := L (cnt p i).toNat 0 (fun j h => by omega)
  exact ⟨by unfold oN; omega, this.2⟩
/-- a job's data taken from another plan's job -/
def pTake (q p : Pl) (a b : Int) : Pl := fun x => if 88 + 5 * b ≤ x ∧ x < 88 + 5 * b + 5 then p (x - 5 * b + 5 * a) else q x
def aT (p : Pl) (i v : Int) (s : Nat) : Nat → Pl
  | 0 => p
  | k + 1 => pTake (aT p i v s k) p (oK p i v s k) (ow p i k)
def aD (q p : Pl) (i : Int) : Nat → Pl
  | 0 => q
  | d + 1 => pDrop (aD q p i d) (ow p i (cnt p i - 1 - d))
def apB (p : Pl) (i : Int) : Pl := aD (aT p i (spd p i) (bst p i) (oN p i (spd p i) (bst p i))) p i ((cnt p i).toNat - oN p i (spd p i) (bst p i))
section APL
variable {p q : Pl} {μ μ' : Mem} {i v : Int} {s : Nat}
theorem take_o {a b x : Int} (h : x < 88 + 5 * b ∨ 88 + 5 * b + 5 ≤ x) : pTake q p a b x = q x := by
  unfold pTake
  rw [if_neg (by omega)]
theorem take_j {a b j z : Int} (h0 : 0 ≤ z) (h1 : z < 5) : pTake q p a b (88 + 5 * j + z) = if j = b then p (88 + 5 * a + z) else q (88 + 5 * j + z) := by
  unfold pTake
  by_cases c : j = b
  · rw [if_pos (by omega), if_pos c, show 88 + 5 * j + z - 5 * b + 5 * a = 88 + 5 * a + z by omega]
  · rw [if_neg (by omega), if_neg c]
theorem SP_take {o x : Nat} {a b : Int} (hs : SP μ o q) (hx : SP μ x p) (ha : 0 ≤ a ∧ a < p 87) (hb : 0 ≤ b) (hf : FR (o + 1) (o + 4) μ μ') (hw : ∀ w : Nat, 1 ≤ w → w ≤ 4 → μ' (o + w) = u1 (μ (o + w)) b (μ (x + w) a)) : SP μ' o (pTake q p a b) := by
  have e87 : pTake q p a b 87 = q 87 := take_o (by omega)
  refine ⟨fun j h0 h1 => ?_, fun t h0 h1 => ?_, fun k h0 h1 => ?_, ?_⟩
  · rw [e87] at h1
    rw [hw 1 (by omega) (by omega), hw 2 (by omega) (by omega), hw 3 (by omega) (by omega), hw 4 (by omega) (by omega), take_j (by omega) (by omega), take_j (by omega) (by omega), take_j (by omega) (by omega), take_j (by omega) (by omega), take_j (by omega) (by omega)]
    by_cases c : j = b
    · subst c
      rw [u1_s, u1_s, u1_s, u1_s, if_pos rfl, if_pos rfl, if_pos rfl, if_pos rfl, if_pos rfl]
      exact hx.j ha.1 ha.2
    · rw [u1_n c, u1_n c, u1_n c, u1_n c, if_neg c, if_neg c, if_neg c, if_neg c, if_neg c]
      exact hs.j h0 h1
  · rw [hf (o + 5) (by omega), hs.t h0 h1, take_o (by omega)]
  · rw [hf (o + 6) (by omega), hs.k h0 h1, take_o (by omega)]
  · rw [hf o (by omega), hs.n, e87]
/-! ### the jobs of an order -/
theorem oS_i (hv : PV p) (hc : cnt p i ≤ 8) (v0 : 1 ≤ v) (hs : s < 2 ^ (cnt p i).toNat) (hg : 0 ≤ gT p i v s) : ∀ q, (oS p i v s q).1 < 2 ^ (cnt p i).toNat ∧ 0 ≤ (oS p i v s q).2 ∧ (oS p i v s q).2 ≤ gT p i v (oS p i v s q).1 := by
  have c0 : 0 ≤ cnt p i := (owC_b (p := p) (i := i) hv.n.2.2.2.2.2.2.1).1
  intro q
  induction q with
  | zero => exact ⟨hs, Int.le_refl _, hg⟩
  | succ q ih =>
    have e : oS p i v s (q + 1) = if (oS p i v s q).1 = 0 then oS p i v s q else ((oS p i v s q).1 ^^^ 2 ^ fs p i v (oS p i v s q).1 (oS p i v s q).2, oEnd p v (ow p i (fs p i v (oS p i v s q).1 (oS p i v s q).2)) (oS p i v s q).2) := rfl
    by_cases z : (oS p i v s q).1 = 0
    · rw [e, if_pos z]; exact ih
    · have fe := fit_ex hv hc v0 ih.1 z ih.2.1 ih.2.2
      have oj := ow_j (p := p) (i := i) (k := ((fs p i v (oS p i v s q).1 (oS p i v s q).2 : Nat) : Int)) hv.n.2.2.2.2.2.2.1 (by omega) (by omega)
      rw [e, if_neg z]
      exact ⟨bw_x ih.1 (by omega), (oEnd_m hv oj.1 oj.2.1 v0 ih.2.1).1, fe.2.2.2⟩
theorem oK_b (hv : PV p) (hc : cnt p i ≤ 8) (v0 : 1 ≤ v) (hs : s < 2 ^ (cnt p i).toNat) (hg : 0 ≤ gT p i v s) {q : Nat} (hq : (oS p i v s q).1 ≠ 0) : 0 ≤ oK p i v s q ∧ oK p i v s q < p 87 ∧ p (88 + 5 * oK p i v s q + 0) = i := by
  have a := oS_i hv hc v0 hs hg q
  have fe := fit_ex hv hc v0 a.1 hq a.2.1 a.2.2
  exact ow_j (p := p) (i := i) hv.n.2.2.2.2.2.2.1 (by omega) fe.1
theorem owA_g : ∀ m : Nat, ∀ k, 0 ≤ k → k < owC p i m → owA p i m k + (owC p i m - 1 - k) < m := by
  intro m
  induction m with
  | zero =>
    intro k k0 k1
    have : owC p i ((0 : Nat) : Int) = 0 := s_I0
    omega
  | succ m ih =>
    intro k k0 k1
    have e := owC_s (p := p) (i := i) (m := (m : Int)) (by omega)
    have ee : ((m + 1 : Nat) : Int) = (m : Int) + 1 := by omega
    rw [ee] at k1 ⊢
    have d : owA p i (m + 1) = if p (88 + 5 * (m : Int) + 0) = i then u1 (owA p i m) (owC p i m) m else owA p i m := rfl
    by_cases hm : p (88 + 5 * (m : Int) + 0) = i
    · rw [if_pos hm] at e d
      rw [d]
      by_cases hk : k = owC p i m
      · rw [hk, u1_s]
        omega
      · rw [u1_n hk]
        have := ih k k0 (by omega)
        omega
    · rw [if_neg hm] at e d
      rw [d]
      have := ih k k0 (by omega)
      omega
theorem ow_g {k : Int} (hn : 0 ≤ p 87) (h0 : 0 ≤ k) (h1 : k < cnt p i) : ow p i k + (cnt p i - 1 - k) < p 87 := by
  have e : (((p 87).toNat : Nat) : Int) = p 87 := Int.toNat_of_nonneg hn
  have := owA_g (p := p) (i := i) (p 87).toNat k h0 (by rw [e]; exact h1)
  rw [e] at this
  exact this
theorem aT_o (hv : PV p) : ∀ k : Nat, (k : Int) ≤ cnt p i → ∀ x, (x < 88 ∨ 88 + 5 * p 87 ≤ x) → aT p i v s k x = p x := by
  intro k
  induction k with
  | zero => intro _ x _; rfl
  | succ k ih =>
    intro hk x hx
    have oj := ow_j (p := p) (i := i) (k := (k : Int)) hv.n.2.2.2.2.2.2.1 (by omega) (by omega)
    show pTake _ _ _ _ x = _
    rw [take_o (by omega)]
    exact ih (by omega) x hx
theorem aT_j (hv : PV p) (hc : cnt p i ≤ 8) (v0 : 1 ≤ v) (hs : s < 2 ^ (cnt p i).toNat) (hg : 0 ≤ gT p i v s) : ∀ k : Nat, (k : Int) ≤ cnt p i → (∀ q, q < k → (oS p i v s q).1 ≠ 0) → ∀ j, 0 ≤ j → j < p 87 → ∃ a, 0 ≤ a ∧ a < p 87 ∧ p (88 + 5 * a + 0) = p (88 + 5 * j + 0) ∧ ∀ z, 0 ≤ z → z < 5 → aT p i v s k (88 + 5 * j + z) = p (88 + 5 * a + z) := by
  intro k
  induction k with
  | zero => intro _ _ j j0 j1; exact ⟨j, j0, j1, rfl, fun _ _ _ => rfl⟩
  | succ k ih =>
    intro hk hq j j0 j1
    have oj := ow_j (p := p) (i := i) (k := (k : Int)) hv.n.2.2.2.2.2.2.1 (by omega) (by omega)
    have ok := oK_b hv hc v0 hs hg (hq k (Nat.lt_succ_self _))
    by_cases c : j = ow p i k
    · refine ⟨oK p i v s k, ok.1, ok.2.1, by rw [ok.2.2, c, oj.2.2], fun z z0 z1 => ?_⟩
      show pTake _ _ _ _ _ = _
      rw [take_j z0 z1, if_pos c]
    · obtain ⟨a, a0, a1, a2, a3⟩ := ih (by omega) (fun q h => hq q (by omega)) j j0 j1
      refine ⟨a, a0, a1, a2, fun z z0 z1 => ?_⟩
      show pTake _ _ _ _ _ = _
      rw [take_j z0 z1, if_neg c]
      exact a3 z z0 z1
theorem aT_ok (ho : OKP p) (v0 : 1 ≤ v) (hs : s < 2 ^ (cnt p i).toNat) (hg : 0 ≤ gT p i v s) (k : Nat) (hk : (k : Int) ≤ cnt p i) (hq : ∀ q, q < k → (oS p i v s q).1 ≠ 0) : OKP (aT p i v s k) ∧ FEq p (aT p i v s k) ∧ aT p i v s k 87 = p 87 := by
  have hv := ho.1
  have n := hv.n
  have o := aT_o (v := v) (s := s) hv k hk
  have J := aT_j hv (ho.2.2.2.1 i) v0 hs hg k hk hq
  have e87 := o 87 (by omega)
  have F : FEq p (aT p i v s k) := fun x hx => o x (by omega)
  have V : PV (aT p i v s k) := by
    refine hv.eq F (fun t t0 t1 => ?_) (fun x x0 x1 => ?_) (by rw [e87]; omega) (fun j j0 j1 => ?_)
    · rw [o _ (by omega)]
      have := hv.t t0 t1
      omega
    · rw [o _ (by omega)]; exact hv.s x0 x1
    · rw [e87] at j1
      obtain ⟨a, a0, a1, a2, a3⟩ := J j j0 j1
      rw [a3 0 (by omega) (by omega), a3 1 (by omega) (by omega), a3 2 (by omega) (by omega), a3 3 (by omega) (by omega), a3 4 (by omega) (by omega)]
      exact hv.j a0 a1
  refine ⟨⟨V, by rw [o _ (by omega)]; exact ho.2.1, by rw [o _ (by omega)]; exact ho.2.2.1, fun t => ?_, fun x hx => ?_⟩, F, e87⟩
  · rw [cnt_e e87 (by omega) (fun j j0 j1 => by
      obtain ⟨a, a0, a1, a2, a3⟩ := J j j0 j1
      rw [a3 0 (by omega) (by omega), a2])]
    exact ho.2.2.2.1 t
  · rw [o x (by omega)]; exact ho.2.2.2.2 x hx
theorem aD_ok (ho : OKP p) (hq : OKP q) (hF : FEq p q) (e : q 87 = p 87) : ∀ d : Nat, (d : Int) ≤ cnt p i → OKP (aD q p i d) ∧ FEq p (aD q p i d) ∧ aD q p i d 87 = p 87 - d := by
  have n := ho.1.n
  intro d
  induction d with
  | zero => intro _; exact ⟨hq, hF, by show q 87 = _; omega⟩
  | succ d ih =>
    intro hd
    obtain ⟨b1, b2, b3⟩ := ih (by omega)
    have oj := ow_j (p := p) (i := i) (k := cnt p i - 1 - d) (by omega) (by omega) (by omega)
    have og := ow_g (p := p) (i := i) (k := cnt p i - 1 - d) (by omega) (by omega) (by omega)
    refine ⟨drop_OKP b1 (by omega), fun x hx => ?_, ?_⟩
    · exact (drop_FEq (p := aD q p i d) oj.1 x hx).trans (b2 x hx)
    · show pDrop _ _ 87 = _
      rw [drop_87, b3]
      omega
theorem apB_ok (ho : OKP p) (i0 : 0 ≤ i) (i1 : i < p 61) : OKP (apB p i) ∧ FEq p (apB p i) := by
  have hv := ho.1
  have c0 : 0 ≤ cnt p i := (owC_b (p := p) (i := i) hv.n.2.2.2.2.2.2.1).1
  have bb := bst_b (p := p) (i := i) c0
  have ob := oN_b (p := p) (i := i) (v := spd p i) (s := bst p i)
  have a := aT_ok ho (hv.v i0 i1) bb.1 bb.2 (oN p i (spd p i) (bst p i)) (by omega) ob.2
  have d := aD_ok ho a.1 a.2.1 a.2.2 ((cnt p i).toNat - oN p i (spd p i) (bst p i)) (i := i) (by omega)
  exact ⟨d.1, d.2.1⟩
end APL
