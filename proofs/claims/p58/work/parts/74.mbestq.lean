section MBq
variable {ρ : Rf} {μ μ0 : Mem} {p : Pl} {σ : Sg}
theorem PV.v (hv : PV p) {i : Int} (i0 : 0 ≤ i) (i1 : i < p 61) : 1 ≤ spd p i := (hv.i i0 i1).2.2.2.2.1
/-! ### another speed -/
theorem sp_k {i v k : Int} (h : k ≠ 62 + 5 * i + 2) : u1 p (62 + 5 * i + 2) v k = p k := u1_n h
theorem sp_PV (hv : PV p) {i v : Int} (i0 : 0 ≤ i) (i1 : i < p 61) (v0 : 1 ≤ v) (v1 : v ≤ 9) : PV (u1 p (62 + 5 * i + 2) v) := by
  have n := hv.n
  have e : ∀ k, k ≠ 62 + 5 * i + 2 → u1 p (62 + 5 * i + 2) v k = p k := fun k h => u1_n h
  refine ⟨fun t t0 t1 => ?_, fun t t0 t1 c c0 c1 => ?_, fun m m0 m1 => ?_, fun k k0 k1 => ?_, fun k k0 k1 => ?_, fun j j0 j1 => ?_, fun j j0 j1 => ?_, ?_⟩
  · rw [e _ (by omega), e _ (by omega), e _ (by omega)]; exact hv.t t0 t1
  · rw [e _ (by omega)] at c1
    have := hv.t t0 t1
    rw [e _ (by omega), e _ (by omega), e _ (by omega)]; exact hv.c t0 t1 c0 c1
  · rw [e _ (by omega)] at m1
    rw [e _ (by omega), e _ (by omega)]; exact hv.m m0 m1
  · rw [e _ (by omega)] at k1
    rw [e _ (by omega)]; exact hv.k k0 k1
  · rw [e _ (by omega)]; exact hv.s k0 k1
  · rw [e _ (by omega)] at j1
    have := hv.i j0 j1
    rw [e (62 + 5 * j + 0) (by omega), e (62 + 5 * j + 1) (by omega), e (62 + 5 * j + 3) (by omega), e (62 + 5 * j + 4) (by omega), e 45 (by omega)]
    by_cases q : j = i
    · subst q
      rw [u1_s]
      omega
    · rw [e (62 + 5 * j + 2) (by omega)]; exact this
  · rw [e _ (by omega)] at j1
    have := hv.j j0 j1
    rw [e (88 + 5 * j + 0) (by omega), e (88 + 5 * j + 1) (by omega), e (88 + 5 * j + 2) (by omega), e (88 + 5 * j + 3) (by omega), e (88 + 5 * j + 4) (by omega), e 61 (by omega), e 36 (by omega), e (4 + p (88 + 5 * j + 1)) (by omega)]
    exact this
  · rw [e 36 (by omega), e 45 (by omega), e 61 (by omega), e 87 (by omega)]; exact n
theorem sp_cnt {i v k : Int} {m : Nat} (i1 : i < 5) (hm : (m : Int) ≤ 20) : owC (u1 p (62 + 5 * i + 2) v) k m = owC p k m ∧ owA (u1 p (62 + 5 * i + 2) v) k m = owA p k m := by
  induction m with
  | zero => exact ⟨rfl, rfl⟩
  | succ m ih =>
    have ih := ih (by omega)
    have ee : ((m + 1 : Nat) : Int) = (m : Int) + 1 := by omega
    have e1 := owC_s (p := p) (i := k) (m := (m : Int)) (by omega)
    have e2 := owC_s (p := u1 p (62 + 5 * i + 2) v) (i := k) (m := (m : Int)) (by omega)
    rw [u1_n (by omega)] at e2
    refine ⟨by rw [ee, e1, e2, ih.1], ?_⟩
    have d1 : owA p k (m + 1) = if p (88 + 5 * (m : Int) + 0) = k then u1 (owA p k m) (owC p k m) m else owA p k m := rfl
    have d2 : owA (u1 p (62 + 5 * i + 2) v) k (m + 1) = if (u1 p (62 + 5 * i + 2) v) (88 + 5 * (m : Int) + 0) = k then u1 (owA (u1 p (62 + 5 * i + 2) v) k m) (owC (u1 p (62 + 5 * i + 2) v) k m) m else owA (u1 p (62 + 5 * i + 2) v) k m := rfl
    rw [d1, d2, ih.1, ih.2, u1_n (by omega)]
theorem sp_own (hv : PV p) {i v : Int} (i0 : 0 ≤ i) (i1 : i < p 61) : cnt (u1 p (62 + 5 * i + 2) v) i = cnt p i ∧ ∀ k, ow (u1 p (62 + 5 * i + 2) v) i k = ow p i k := by
  have n := hv.n
  have e87 : u1 p (62 + 5 * i + 2) v 87 = p 87 := u1_n (by omega)
  have a := sp_cnt (p := p) (i := i) (by omega) (v := v) (k := i) (m := (p 87).toNat) (by omega)
  have en : (((p 87).toNat : Nat) : Int) = p 87 := Int.toNat_of_nonneg (by omega)
  refine ⟨?_, fun k => ?_⟩
  · show owC _ i (u1 p (62 + 5 * i + 2) v 87) = owC p i (p 87)
    rw [e87, ← en]
    exact a.1
  · unfold ow
    rw [e87, a.2]
theorem sp_end (hv : PV p) {i v w j t : Int} (i0 : 0 ≤ i) (i1 : i < p 61) (j0 : 0 ≤ j) (j1 : j < p 87) : oEnd (u1 p (62 + 5 * i + 2) v) w j t = oEnd p w j t := by
  have n := hv.n
  have a := hv.j j0 j1
  have b := hv.i a.1 a.2.1
  have tt := hv.t a.2.2.1 a.2.2.2.1
  have e : ∀ k, k ≠ 62 + 5 * i + 2 → u1 p (62 + 5 * i + 2) v k = p k := fun k h => u1_n h
  unfold oEnd oTd oUn oAr oDe oMe oWb wkG
  rw [e (88 + 5 * j + 0) (by omega), e (88 + 5 * j + 1) (by omega), e (88 + 5 * j + 2) (by omega), e (88 + 5 * j + 4) (by omega), e (62 + 5 * p (88 + 5 * j + 0) + 0) (by omega), e (62 + 5 * p (88 + 5 * j + 0) + 1) (by omega), e (62 + 5 * p (88 + 5 * j + 0) + 3) (by omega), e (62 + 5 * p (88 + 5 * j + 0) + 4) (by omega), e (46 + p (62 + 5 * p (88 + 5 * j + 0) + 0)) (by omega), e (6 + 5 * p (88 + 5 * j + 1) + p (88 + 5 * j + 2)) (by omega), e (0 + p (88 + 5 * j + 1)) (by omega), e (2 + p (88 + 5 * j + 1)) (by omega)]
theorem u1_u1 {g : Int → Int} {k a b : Int} : u1 (u1 g k a) k b = u1 g k b := by
  funext x
  unfold u1
  split <;> rfl
theorem u1_id {g : Int → Int} {k : Int} : u1 g k (g k) = g := by
  funext x
  unfold u1
  split
  · rename_i h; rw [h]
  · rfl
end MBq
