/-! ===== the class's run to its end: what it tells is what the reference tells ===== -/
def cc (p : Pl) (i x : Int) : Int := s_I (fun j => if x ≤ j ∧ p (88 + 5 * j + 0) = i then 1 else 0) (p 87)
def cw (p : Pl) (o : Nat) (μ : Mem) : Int → Int := fun i => if μ (o + 10) i = 0 then 0 else 3 * cc p i (μ (o + 12) i) - (μ (o + 10) i - 1)
def cm (p : Pl) (o : Nat) (μ : Mem) : Int := s_I (cw p o μ) (p 61)
def CI0 (p : Pl) (o : Nat) (μ : Mem) : Prop := (∀ i, 0 ≤ i → i < p 61 → 0 ≤ μ (o + 11) i ∧ μ (o + 11) i ≤ 90000) ∧ ∀ k, 0 ≤ k → k < 12 → 0 ≤ μ (o + 9) k
def CAll (p : Pl) (o : Nat) (μ : Mem) : Prop := ∀ J : Mem, ∃ (S : Mem) (N : Int) (k : Nat), PI p S ∧ CRel p o μ S N ∧ sMe p S < k ∧ sRun p (-1) k S = sRun p (-1) 300 (sIni p (-1) (-1) J)
def RP (p : Pl) (o : Nat) (μ : Mem) : Prop := ∀ J : Mem, (∀ j, 0 ≤ j → j < p 87 → CJ p o μ (sGo p (-1) (-1) J) j ∧ ROk p (sGo p (-1) (-1) J) j ∧ PrevT p (sGo p (-1) (-1) J) (p (88 + 5 * j + 0)) j (sGo p (-1) (-1) J 195 j)) ∧ (∀ k, 0 ≤ k → k < 12 → μ (o + 9) k = sGo p (-1) (-1) J 193 k) ∧ μ o 9 = s_I (sGo p (-1) (-1) J 199) (p 87)
section CF
variable {p : Pl} {o : Nat} {i N : Int} {μ S : Mem}
theorem cc_s (hn : 0 ≤ p 87) {x : Int} (h0 : 0 ≤ x) (h1 : x < p 87) (h2 : p (88 + 5 * x + 0) = i) : cc p i x = cc p i (x + 1) + 1 := by
  unfold cc
  rw [s_Ik (f := fun j => if x + 1 ≤ j ∧ p (88 + 5 * j + 0) = i then 1 else 0) hn ⟨h0, h1⟩ (fun j j0 j1 hj => ?_)]
  · rw [if_neg (by omega), if_pos (by omega)]; omega
  · by_cases h : x + 1 ≤ j ∧ p (88 + 5 * j + 0) = i
    · rw [if_pos h, if_pos (by omega)]
    · rw [if_neg h, if_neg (by omega)]
theorem cc_m (hn : 0 ≤ p 87) {x y : Int} (h : x ≤ y) : cc p i y ≤ cc p i x := s_Im hn (fun j _ _ => by split <;> split <;> omega)
theorem cc_0 (hn : 0 ≤ p 87) {x : Int} : 0 ≤ cc p i x := (s_Ib (b := 1) hn (fun j _ _ => by split <;> omega)).1
theorem cc_jf (hn : 0 ≤ p 87) {x : Int} (h0 : 0 ≤ x) (h1 : x < p 87) (h2 : p (88 + 5 * x + 0) = i) (h3 : 0 ≤ jf p i (x + 1)) : cc p i (jf p i (x + 1)) + 1 ≤ cc p i x := by
  rw [cc_s hn h0 h1 h2]
  have jb := jf_b (p := p) (i := i) (x := x + 1) (by omega) (by omega)
  have := cc_m (p := p) (i := i) hn (show x + 1 ≤ jf p i (x + 1) by omega)
  omega
theorem cm_d {μ' : Mem} (hT : 0 ≤ p 61) (hi : 0 ≤ i ∧ i < p 61) (h : ∀ x, x ≠ i → μ' (o + 10) x = μ (o + 10) x ∧ μ' (o + 12) x = μ (o + 12) x) (hd : cw p o μ' i < cw p o μ i) : cm p o μ' < cm p o μ := by
  unfold cm
  rw [s_Ik (f := cw p o μ) (g := cw p o μ') hT hi (fun j _ _ hj => by unfold cw; rw [(h j hj).1, (h j hj).2])]
  omega
theorem sum_b (hv : PV p) (hP : PI p S) : s_I (S 191) 5 ≤ 495 ∧ s_I (S 187) 5 ≤ 100 ∧ 0 ≤ s_I (S 191) 5 := by
  have n := hv.n
  have a := s_Ib (f := S 191) (n := 5) (b := 99) (by omega) (fun j j0 j1 => by have := hP.1.1 j j0 j1; omega)
  have b := s_Ib (f := S 187) (n := 5) (b := 20) (by omega) (fun j j0 j1 => by have := hP.1.1 j j0 j1; omega)
  omega
theorem pend_0 (hv : PV p) (hP : PI p S) (h : CRel p o μ S N) {k x : Int} (x0 : 0 ≤ x) (x1 : x < p 61) : 0 ≤ pend p o μ k x := by
  unfold pend
  split
  · rename_i e
    rcases h.1 x x0 x1 with ⟨e2, _⟩ | ⟨e2, _⟩ | ⟨e2, _⟩ | ⟨e2, t1, t2, t3, t4, _⟩
    · omega
    · omega
    · omega
    · have nb := nx_s (p := p) (i := x) (out := -1) (x := μ (o + 12) x + 1) (by omega)
      have cj := h.2.2.2.2 (μ (o + 12) x) t1 t2 (by rw [t3]; omega)
      have ro := hP.2.2.2.1 (μ (o + 12) x) t1 t2 (by rw [t3]; omega)
      rw [cj.2.1, cj.2.2.2.1]
      unfold ROk at ro
      omega
  · omega
/-- a start: what it needs, what it leaves -/
theorem c_ev1 (hv : PV p) (hC : CI0 p o μ) (hA : CAll p o μ) (hi : isFi μ o (p 61) i) (h1 : μ (o + 10) i = 1) :
    (0 ≤ μ (o + 12) i ∧ μ (o + 12) i < p 87 ∧ p (88 + 5 * μ (o + 12) i + 0) = i) ∧ (∀ k, 0 ≤ k → k < 12 → 0 ≤ μ (o + 9) k ∧ μ (o + 9) k ≤ 100000) ∧ CI0 p o (cStart p o i μ) ∧ CAll p o (cStart p o i μ) ∧ cm p o (cStart p o i μ) < cm p o μ := by
  have n := hv.n
  have hi2 := hi
  obtain ⟨i0, i1, i2, i3⟩ := hi2
  have key1 : ∀ S N, PI p S → CRel p o μ S N → (0 ≤ μ (o + 12) i ∧ μ (o + 12) i < p 87 ∧ p (88 + 5 * μ (o + 12) i + 0) = i) ∧ (∀ k, 0 ≤ k → k < 12 → 0 ≤ μ (o + 9) k ∧ μ (o + 9) k ≤ 100000) ∧ (0 ≤ cMn p o i μ ∧ cMn p o i μ ≤ μ (o + 9) (4 * p (62 + 5 * i + 0) + p (88 + 5 * μ (o + 12) i + 3)) ∧ 0 ≤ μ (o + 11) i + cMn p o i μ * p (62 + 5 * i + 3) + wk p (μ (o + 12) i) ∧ μ (o + 11) i + cMn p o i μ * p (62 + 5 * i + 3) + wk p (μ (o + 12) i) ≤ 90000) ∧ CRel p o (cStart p o i μ) (sStep p (-1) S) (S 188 i) ∧ fst_ p S = i := by
    intro S N hP hR
    obtain ⟨f1, f2, f3, f4⟩ := c_sync hv hP hR hi (by omega)
    have hP1 := PI_bb (u := S 188 i) hP
    have e187 : bb (S 188 i) S 187 = S 187 := bb_c (by decide) (by decide)
    have e188 : bb (S 188 i) S 188 = S 188 := bb_c (by decide) (by decide)
    have e192 : bb (S 188 i) S 192 = S 192 := bb_c (by decide) (by decide)
    have sb := sum_b hv hP1
    obtain ⟨t1, t2, t3, t4⟩ : μ (o + 12) i = S 187 i ∧ S 187 i < p 87 ∧ S 192 i = 0 ∧ μ (o + 11) i = S 188 i := by
      rcases hR.1 i i0 i1 with ⟨e, _⟩ | ⟨e, t1, t2, t3, t4, _⟩ | ⟨e, _⟩ | ⟨e, _⟩
      · omega
      · exact ⟨t1.symm, by omega, t3, t4.symm⟩
      · omega
      · omega
    have a := hP.1.1 i i0 (by omega)
    have ab := a.2.2.2.2.2.2.2.2.2.1 t2
    have hb := sMn_b hv hP1.1 (i := i) ⟨i0, by omega⟩ (by rw [e187]; exact t2)
    have htm := sTm_b hv hP1.1 (i := i) ⟨i0, by omega⟩ (by rw [e187]; exact t2)
    have em := cMn_e hv hP1 (i := i) (o := o) (μ := μ) ⟨i0, by omega⟩ (by rw [e187]; exact t2) (by rw [e187]; exact t1) f4
    have ecl : sCl p i (bb (S 188 i) S) = 4 * p (62 + 5 * i + 0) + p (88 + 5 * μ (o + 12) i + 3) := by unfold sCl; rw [e187, t1]
    have h9 := f4 _ hb.2.2.1 hb.2.2.2.1
    have hst := c_start hv hP1 (i := i) (o := o) (μ := μ) (by rw [e188]; exact f2) ⟨i0, i1⟩ h1 f3 f4
    rw [e188] at hst
    have hstep : sStep p (-1) S = sStarts p (-1) i (bb (S 188 i) S) := by
      unfold sStep
      rw [f1, e192, if_pos t3]
    refine ⟨⟨by omega, by omega, by rw [t1]; exact ab.2⟩, fun k k0 k1 => ?_, ⟨by omega, ?_, ?_, ?_⟩, by rw [hstep]; exact hst, f1⟩
    · have := hP1.1.2.1 k k0 k1
      rw [f4 k k0 k1] at this
      omega
    · rw [em, ← ecl, ← h9]; exact hb.2.2.2.2.1
    · have := htm.2.2.1
      rw [em]
      have := wk_b hv a.1 t2
      rw [t1]
      have := hC.1 i i0 i1
      omega
    · have := htm.2.1
      unfold sTm at this
      rw [em, t1, t4]
      rw [e187, e188] at this
      omega
  obtain ⟨S0, N0, k0', hP0, hR0, _, _⟩ := hA (fun _ _ => 0)
  obtain ⟨q1, q2, q3, _, _⟩ := key1 S0 N0 hP0 hR0
  obtain ⟨k1, k2, k3, k4, k5, k6, k7, k8, k9, k10, k11, k12, k13, k0⟩ := cs_c (p := p) (o := o) (i := i) (μ := μ)
  refine ⟨q1, q2, ⟨fun x x0 x1 => ?_, fun k y0 y1 => ?_⟩, fun J => ?_, ?_⟩
  · rw [k11]
    by_cases hx : x = i
    · rw [hx, u1_s]
      split
      · exact hC.1 i i0 i1
      · exact ⟨q3.2.2.1, q3.2.2.2⟩
    · rw [u1_n hx]; exact hC.1 x x0 x1
  · rw [k9]
    unfold u1
    split
    · omega
    · exact hC.2 k y0 y1
  · obtain ⟨S, N, k, hP, hR, hm, hr⟩ := hA J
    obtain ⟨_, _, _, r4, r5⟩ := key1 S N hP hR
    have st := SV_step (out := -1) hv hP.1 (by omega)
    cases k with
    | zero => have := sMe_0 hP.1; omega
    | succ k =>
      refine ⟨sStep p (-1) S, S 188 i, k, PI_step hv hP (by omega), r4, by omega, ?_⟩
      rw [← hr]
      show _ = (if _ then _ else _)
      rw [if_neg (by omega)]
  · refine cm_d (by omega) ⟨i0, i1⟩ (fun x hx => ⟨by rw [k10, u1_n hx], by rw [k12]; split <;> first | exact u1_n hx | rfl⟩) ?_
    have c0 := cc_0 (p := p) (i := i) (by omega) (x := μ (o + 12) i + 1)
    have c1 := cc_s (p := p) (i := i) (by omega) q1.1 q1.2.1 q1.2.2
    unfold cw
    rw [k10, u1_s, k12, h1]
    by_cases hm : cMn p o i μ = 0
    · rw [if_pos hm, if_pos hm, u1_s]
      by_cases hjf : jf p i (μ (o + 12) i + 1) < 0
      · rw [if_pos hjf, if_pos rfl, if_neg (by omega)]; omega
      · have := cc_jf (p := p) (i := i) (by omega) q1.1 q1.2.1 q1.2.2 (by omega)
        rw [if_neg hjf, if_neg (by omega), if_neg (by omega)]; omega
    · rw [if_neg hm, if_neg hm, if_neg (by omega), if_neg (by omega)]; omega
theorem c_ev2 (hv : PV p) (hC : CI0 p o μ) (hA : CAll p o μ) (hi : isFi μ o (p 61) i) (h1 : μ (o + 10) i = 2) :
    RRe p o i μ ∧ CI0 p o (cReach p o i μ) ∧ CAll p o (cReach p o i μ) ∧ cm p o (cReach p o i μ) < cm p o μ := by
  have n := hv.n
  have hi2 := hi
  obtain ⟨i0, i1, i2, i3⟩ := hi2
  have key1 : ∀ S N, PI p S → CRel p o μ S N → RRe p o i μ ∧ CRel p o (cReach p o i μ) (sStep p (-1) S) (S 188 i) ∧ fst_ p S = i := by
    intro S N hP hR
    obtain ⟨f1, f2, f3, f4⟩ := c_sync hv hP hR hi (by omega)
    have hP1 := PI_bb (u := S 188 i) hP
    have e188 : bb (S 188 i) S 188 = S 188 := bb_c (by decide) (by decide)
    have e192 : bb (S 188 i) S 192 = S 192 := bb_c (by decide) (by decide)
    obtain ⟨t1, t2, t3, t4, t5⟩ : μ (o + 12) i = S 187 i ∧ S 187 i < p 87 ∧ S 192 i = 1 ∧ μ (o + 11) i = S 188 i ∧ μ (o + 2) (μ (o + 12) i) = S 196 (μ (o + 12) i) := by
      rcases hR.1 i i0 i1 with ⟨e, _⟩ | ⟨e, _⟩ | ⟨e, t1, t2, t3, t4, _, _, _, t5, _⟩ | ⟨e, _⟩
      · omega
      · omega
      · exact ⟨t1.symm, by omega, t3, t4.symm, t5⟩
      · omega
    have a := hP.1.1 i i0 (by omega)
    have ab := a.2.2.2.2.2.2.2.2.2.1 t2
    have d2 := hv.j a.1 t2
    have t := hv.t d2.2.2.1 d2.2.2.2.1
    have j20 := hP.1.2.2.2 (S 187 i) a.1 (by omega)
    have hd : 0 ≤ 5 * p (88 + 5 * S 187 i + 1) + p (88 + 5 * S 187 i + 2) ∧ 5 * p (88 + 5 * S 187 i + 1) + p (88 + 5 * S 187 i + 2) < 10 := by omega
    have h13 := hR.2.2.1 _ hd.1 hd.2
    have v13 := hP.1.2.2.1 _ hd.1 hd.2
    have tot := s_Ib (f := S 199) (n := p 87) (b := 99) (by omega) (fun j j0 j1 => by have := hP.1.2.2.2 j j0 (by omega); omega)
    have h9 := hR.2.2.2.1
    have hst := c_reach hv hP1 (i := i) (o := o) (μ := μ) (by rw [e188]; exact f2) ⟨i0, i1⟩ h1 f3
    rw [e188] at hst
    have hstep : sStep p (-1) S = sReach p (-1) i (bb (S 188 i) S) := by
      unfold sStep
      rw [f1, e192, if_neg (by omega)]
    refine ⟨?_, by rw [hstep]; exact hst, f1⟩
    rw [t1] at t5
    have tb := hC.1 i i0 i1
    unfold RRe
    rw [t1, h13, t5, h9]
    exact ⟨by omega, by omega, ab.2, by omega, by omega, by omega, by omega, by omega, by omega, by omega, by omega⟩
  obtain ⟨S0, N0, k0', hP0, hR0, _, _⟩ := hA (fun _ _ => 0)
  obtain ⟨q1, _, _⟩ := key1 S0 N0 hP0 hR0
  have hb := cMy_b hv ⟨i0, i1⟩ q1
  have wkb := wk_b hv q1.1 q1.2.1
  have hT : 0 ≤ cEn p o i μ + wk p (μ (o + 12) i) ∧ cEn p o i μ + wk p (μ (o + 12) i) ≤ 90000 := by
    rcases hR0.1 i i0 i1 with ⟨e, _⟩ | ⟨e, _⟩ | ⟨e, t1, t2, t3, t4, _⟩ | ⟨e, _⟩
    · omega
    · omega
    · have a := hP0.1.1 i i0 (by omega)
      have := hC.1 i i0 i1
      unfold cEn
      split <;> omega
    · omega
  obtain ⟨k1, k2, k3, k4, k5, k6, k7, k8, k9, k10, k11, k12, k13, k0⟩ := cr_c (p := p) (o := o) (i := i) (μ := μ)
  refine ⟨q1, ⟨fun x x0 x1 => ?_, fun k y0 y1 => ?_⟩, fun J => ?_, ?_⟩
  · rw [k11]
    by_cases hx : x = i
    · rw [hx, u1_s]; exact hT
    · rw [u1_n hx]; exact hC.1 x x0 x1
  · rw [k9]; exact hC.2 k y0 y1
  · obtain ⟨S, N, k, hP, hR, hm, hr⟩ := hA J
    obtain ⟨_, r4, r5⟩ := key1 S N hP hR
    have st := SV_step (out := -1) hv hP.1 (by omega)
    cases k with
    | zero => have := sMe_0 hP.1; omega
    | succ k =>
      refine ⟨sStep p (-1) S, S 188 i, k, PI_step hv hP (by omega), r4, by omega, ?_⟩
      rw [← hr]
      show _ = (if _ then _ else _)
      rw [if_neg (by omega)]
  · refine cm_d (by omega) ⟨i0, i1⟩ (fun x hx => ⟨by rw [k10, u1_n hx], by rw [k12]⟩) ?_
    unfold cw
    rw [k10, u1_s, k12, h1, if_neg (by omega), if_neg (by omega)]
    omega
theorem c_ev3 (hv : PV p) (hC : CI0 p o μ) (hA : CAll p o μ) (hi : isFi μ o (p 61) i) (h1 : μ (o + 10) i = 3) :
    (0 ≤ μ (o + 12) i ∧ μ (o + 12) i < p 87) ∧ (∀ k, 0 ≤ k → k < 12 → 0 ≤ μ (o + 9) k ∧ μ (o + 9) k ≤ 100000) ∧ (0 ≤ μ (o + 7) (μ (o + 12) i) ∧ μ (o + 7) (μ (o + 12) i) ≤ μ (o + 2) (μ (o + 12) i) ∧ μ (o + 2) (μ (o + 12) i) ≤ 99) ∧ CI0 p o (cBack p o i μ) ∧ CAll p o (cBack p o i μ) ∧ cm p o (cBack p o i μ) < cm p o μ := by
  have n := hv.n
  have hi2 := hi
  obtain ⟨i0, i1, i2, i3⟩ := hi2
  obtain ⟨S0, N0, k0', hP0, hR0, _, _⟩ := hA (fun _ _ => 0)
  obtain ⟨t1, t2, t3, t4, t7⟩ : 0 ≤ μ (o + 12) i ∧ μ (o + 12) i < p 87 ∧ p (88 + 5 * μ (o + 12) i + 0) = i ∧ S0 187 i = nx p i (-1) (μ (o + 12) i + 1) ∧ μ (o + 11) i = μ (o + 8) (μ (o + 12) i) := by
    rcases hR0.1 i i0 i1 with ⟨e, _⟩ | ⟨e, _⟩ | ⟨e, _⟩ | ⟨e, t1, t2, t3, t4, t5, t6, t7, _⟩
    · omega
    · omega
    · omega
    · exact ⟨t1, t2, t3, t4, t7⟩
  have nb := nx_s (p := p) (i := i) (out := -1) (x := μ (o + 12) i + 1) (by omega)
  have cj := hR0.2.2.2.2 (μ (o + 12) i) t1 t2 (by rw [t3]; omega)
  have ro := hP0.2.2.2.1 (μ (o + 12) i) t1 t2 (by rw [t3]; omega)
  have j20 := hP0.1.2.2.2 (μ (o + 12) i) t1 (by omega)
  unfold ROk at ro
  have hl : 0 ≤ μ (o + 7) (μ (o + 12) i) ∧ μ (o + 7) (μ (o + 12) i) ≤ μ (o + 2) (μ (o + 12) i) ∧ μ (o + 2) (μ (o + 12) i) ≤ 99 := by
    rw [cj.2.1, cj.2.2.2.1]; omega
  have sb := sum_b hv hP0
  obtain ⟨b0, b9, b10, b11, b12⟩ := cb_c (p := p) (o := o) (i := i) (μ := μ)
  refine ⟨⟨t1, t2⟩, fun k y0 y1 => ⟨hC.2 k y0 y1, ?_⟩, hl, ⟨fun x x0 x1 => ?_, fun k y0 y1 => ?_⟩, fun J => ?_, ?_⟩
  · have a := hR0.2.1 k y0 y1
    have b := hP0.1.2.1 k y0 y1
    have c : 0 ≤ s_I (pend p o μ k) (p 61) := by
      have := s_Im (f := fun _ => 0) (g := pend p o μ k) (n := p 61) (by omega) (fun x x0 x1 => pend_0 hv hP0 hR0 x0 x1)
      rw [s_Iz (by omega) (fun _ _ _ => rfl)] at this
      exact this
    have d : s_I (sbk S0 k) 5 ≤ s_I (S0 191) 5 := s_Im (by omega) (fun x x0 x1 => by
      have := hP0.1.1 x x0 x1
      unfold sbk
      split <;> omega)
    omega
  · rw [b11]
    by_cases hx : x = i
    · rw [hx, u1_s, ← t7]; exact hC.1 i i0 i1
    · rw [u1_n hx]; exact hC.1 x x0 x1
  · rw [b9]
    unfold u1
    split
    · rename_i e
      have := hC.2 (4 * p (62 + 5 * i + 0) + p (88 + 5 * μ (o + 12) i + 3)) (by omega) (by omega)
      omega
    · exact hC.2 k y0 y1
  · obtain ⟨S, N, k, hP, hR, hm, hr⟩ := hA J
    exact ⟨S, μ (o + 11) i, k, hP, c_back hv hP hR hi h1, hm, hr⟩
  · refine cm_d (by omega) ⟨i0, i1⟩ (fun x hx => ⟨by rw [b10, u1_n hx], by rw [b12, u1_n hx]⟩) ?_
    have c0 := cc_0 (p := p) (i := i) (by omega) (x := μ (o + 12) i + 1)
    have c1 := cc_s (p := p) (i := i) (by omega) t1 t2 t3
    unfold cw
    rw [b10, u1_s, b12, u1_s, h1]
    by_cases hjf : jf p i (μ (o + 12) i + 1) < 0
    · rw [if_pos hjf, if_pos rfl, if_neg (by omega)]; omega
    · have := cc_jf (p := p) (i := i) (by omega) t1 t2 t3 (by omega)
      rw [if_neg hjf, if_neg (by omega), if_neg (by omega)]; omega
end CF
