/-! ===== the reference: joint shares ===== -/
section MZ
variable {ρ : Rf} {μ : Mem} {σ : Sg} {p : Pl}
theorem due_e (hv : PV p) {m : Int} : dmT p 0 m + dmT p 1 m = s_I (cJo p m) (p (4 + 0) + p (4 + 1)) := by
  have t0 := hv.t (t := 0) (by omega) (by omega)
  have t1 := hv.t (t := 1) (by omega) (by omega)
  rw [s_Iadd (by omega) (by omega)]
  unfold dmT
  congr 1
  · refine s_Ic (by omega) (fun c c0 c1 => ?_)
    unfold cJo
    rw [if_pos c1]
  · refine s_Ic (by omega) (fun c c0 c1 => ?_)
    unfold cJo
    rw [if_neg (by omega), show p (4 + 0) + c - p (4 + 0) = c by omega]
/-- a sum over the ten places is one over the cars -/
theorem s_10 (hv : PV p) {g F : Int → Int} (h : ∀ k, 0 ≤ k → k < 10 → (isS p k → g k = F (cmpS p k)) ∧ (¬ isS p k → g k = 0)) : s_I g 10 = s_I F (p (4 + 0) + p (4 + 1)) := by
  have t0 := hv.t (t := 0) (by omega) (by omega)
  have t1 := hv.t (t := 1) (by omega) (by omega)
  have i0 : ∀ k, 0 ≤ k → k < 5 → (isS p k ↔ k < p (4 + 0)) := fun k k0 k1 => by
    unfold isS
    rw [show k / 5 = 0 by omega]
    omega
  have i1 : ∀ k, 0 ≤ k → k < 5 → (isS p (5 + k) ↔ k < p (4 + 1)) := fun k k0 k1 => by
    unfold isS
    rw [show (5 + k) / 5 = 1 by omega]
    omega
  have e10 : s_I g 10 = s_I g (5 + 5) := rfl
  rw [e10, s_Iadd (by omega) (by omega), s_Iadd (a := p (4 + 0)) (by omega) (by omega)]
  congr 1
  · rw [s_Ix (n := p (4 + 0)) (by omega) (by omega) (fun k k0 k1 => (h k (by omega) (by omega)).2 (fun q => by have := (i0 k (by omega) k1).mp q; omega))]
    refine s_Ic (by omega) (fun k k0 k1 => ?_)
    rw [(h k k0 (by omega)).1 ((i0 k k0 (by omega)).mpr k1)]
    unfold cmpS
    rw [if_pos (by omega)]
  · rw [s_Ix (f := fun k => g (5 + k)) (n := p (4 + 1)) (by omega) (by omega) (fun k k0 k1 => (h (5 + k) (by omega) (by omega)).2 (fun q => by have := (i1 k (by omega) k1).mp q; omega))]
    refine s_Ic (by omega) (fun k k0 k1 => ?_)
    rw [(h (5 + k) (by omega) (by omega)).1 ((i1 k k0 (by omega)).mpr k1)]
    unfold cmpS
    rw [if_neg (by omega), show p (4 + 0) + (5 + k - 5) = p (4 + 0) + k by omega]
theorem m_layBoth {m A : Int} (hp : μ 180 = p) (hv : PV p) (ub : UB p (μ 199)) (hm : 0 ≤ m ∧ m < p 36) (hA : A = dlT p (μ 199) 0 m + dlT p (μ 199) 1 m) : qE mX8_layBoth GG GG [qP 178, qI m] ρ μ (fun (_ : Int) (ρ' : Rf) (μ' : Mem) => ρ' = ρ ∧ FR 201 202 μ μ' ∧ ∀ k, 0 ≤ k → k < 10 → isS p k → μ' 201 k = lSh (p (4 + 0) + p (4 + 1)) (cJo p m) A (cmpS p k)) := by
  have nn := hv.n
  have t0 := hv.t (t := 0) (by omega) (by omega)
  have t1 := hv.t (t := 1) (by omega) (by omega)
  have a0 := dlT_b (p := p) (u := μ 199) (t := 0) (m := m) (by omega) (by omega) ub
  have a1 := dlT_b (p := p) (u := μ 199) (t := 1) (m := m) (by omega) (by omega) ub
  have d0 := dmT_b hv (t := 0) (m := m) (by omega) (by omega) hm.1 hm.2
  have d1 := dmT_b hv (t := 1) (m := m) (by omega) (by omega) hm.1 hm.2
  have du := due_e hv (m := m)
  have clb : ∀ j, 0 ≤ j → j < p (4 + 0) + p (4 + 1) → 0 ≤ cJo p m j ∧ cJo p m j ≤ 396 := fun j j0 j1 => by
    unfold cJo
    split
    · exact dem_b hv (by omega) (by omega) j0 (by omega) hm.1 hm.2
    · exact dem_b hv (by omega) (by omega) (by omega) (by omega) hm.1 hm.2
  obtain ⟨z1, z2⟩ := slt_s hv
  generalize hD : dmT p 0 m + dmT p 1 m = D at *
  have L162 : A < D → ∀ (k : Nat) (L : Int) (ν : Mem) (f : Fp), L.toNat < k → L ≤ 19800 → FR 201 202 μ ν → SLR p (ν 201) (ν 202) f → (∀ j, 0 ≤ j → j < 10 → 0 ≤ ν 201 j ∧ ν 201 j ≤ 20400 - L) → (∀ j, 0 ≤ j → j < p (4 + 0) + p (4 + 1) → (shI (p (4 + 0) + p (4 + 1)) L.toNat f).1 j = lSh (p (4 + 0) + p (4 + 1)) (cJo p m) A j) → qX mX8_layBoth GG (fun (_ : Int) (ρ' : Rf) (μ' : Mem) => ρ' = ρ ∧ FR 201 202 μ μ' ∧ ∀ k, 0 ≤ k → k < 10 → isS p k → μ' 201 k = lSh (p (4 + 0) + p (4 + 1)) (cJo p m) A (cmpS p k)) GG (0, 0) 162 [some (qP 178), none, some (qI A), some (qI D), some (qI L), none, none, none] [] ρ ν := by
    intro hs k
    induction k with
    | zero => intro L ν f h; omega
    | succ k ih =>
      intro L ν f hk hL hf hr hb hq
      have L178 : 0 < L → ∀ (k2 : Nat) (x : Nat), 10 - x < k2 → 1 ≤ x → x ≤ 10 → qX mX8_layBoth GG (fun (_ : Int) (ρ' : Rf) (μ' : Mem) => ρ' = ρ ∧ FR 201 202 μ μ' ∧ ∀ k, 0 ≤ k → k < 10 → isS p k → μ' 201 k = lSh (p (4 + 0) + p (4 + 1)) (cJo p m) A (cmpS p k)) GG (0, 0) 178 [some (qP 178), none, some (qI A), some (qI D), some (qI L), some (qI (lgN (ν 202) x)), some (qI (x : Int)), none] [] ρ ν := by
        intro hL0 k2
        induction k2 with
        | zero => intro x h; omega
        | succ k2 ih2 =>
          intro x hk2 h0 h1
          have e1 : ((x : Int) + 1) = ((x + 1 : Nat) : Int) := by omega
          have fs := (lgN_s (r := ν 202) x).1 (by omega)
          have ef : lgN (ν 202) (x + 1) = if ν 202 (lgN (ν 202) x) < ν 202 (x : Int) then (x : Int) else lgN (ν 202) x := rfl
          have L209 : x < 10 → qX mX8_layBoth GG (fun (_ : Int) (ρ' : Rf) (μ' : Mem) => ρ' = ρ ∧ FR 201 202 μ μ' ∧ ∀ k, 0 ≤ k → k < 10 → isS p k → μ' 201 k = lSh (p (4 + 0) + p (4 + 1)) (cJo p m) A (cmpS p k)) GG (0, 0) 209 [some (qP 178), none, some (qI A), some (qI D), some (qI L), none, some (qI (x : Int)), none] [qI (lgN (ν 202) (x + 1))] ρ ν := by
            intro hx
            refine w_X8_layBoth_209 ?_
            refine ⟨(by unfold i32; omega), ?_⟩
            rw [e1]
            exact ih2 _ (by omega) (by omega) (by omega)
          refine w_X8_layBoth_178 ?_
          refine ⟨fun hc1 => ?_, fun hc1 => ?_⟩
          · have pb := hb _ fs.1 (by omega)
            refine ⟨(by omega), ?_⟩
            refine ⟨(by unfold i32; omega), ?_⟩
            refine ⟨(by omega), ?_⟩
            intro μ1 eμ1; subst eμ1
            refine ⟨(by omega), ?_⟩
            intro μ2 eμ2; subst eμ2
            refine ⟨(by unfold i32; omega), ?_⟩
            have el : lrg (ν 202) 10 = lgN (ν 202) x := by unfold lrg; rw [show (10 : Int).toNat = x by omega]
            have hs2 := slr_s hv hr
            rw [el] at hs2
            refine ih _ _ (shS (p (4 + 0) + p (4 + 1)) f) (by omega) (by omega) (FR.up (FR.up hf (by omega)) (by omega)) ?_ (fun j j0 j1 => ?_) (fun j j0 j1 => ?_)
            · rw [up2_c (show 201 ≠ 202 by decide), up2_u, up2_u, up2_c (show 202 ≠ 201 by decide)]
              exact hs2
            · rw [up2_c (by decide), up2_u]
              have := hb j j0 j1
              unfold u1
              split <;> omega
            · rw [← hq j j0 j1, show L.toNat = (L + (-1)).toNat + 1 by omega]
              rfl
          · refine ⟨(by omega), ?_⟩
            refine ⟨(by omega), ?_⟩
            refine ⟨fun hc12 => ?_, fun hc12 => ?_⟩
            · rw [if_neg (by omega)] at ef
              have := L209 (by omega)
              rw [ef] at this
              exact this
            · rw [if_pos (by omega)] at ef
              have := L209 (by omega)
              rw [ef] at this
              exact this
      refine w_X8_layBoth_162 ?_
      refine ⟨fun hc1 => ?_, fun hc1 => ?_⟩
      · refine ⟨rfl, hf, fun j j0 j1 hj => ?_⟩
        have y := z2 j j0 j1 hj
        rw [← hq _ y.1 y.2.1, show L.toNat = 0 by omega, (hr.1 j j0 j1 hj).1]
        rfl
      · refine ⟨fun hc3 => ?_, fun hc3 => ?_⟩
        · omega
        · have := L178 (by omega) _ 1 (Nat.lt_succ_self _) (by omega) (by omega)
          have e : lgN (ν 202) 1 = 0 := by
            show (if ν 202 (lgN (ν 202) 0) < ν 202 ((0 : Nat) : Int) then ((0 : Nat) : Int) else lgN (ν 202) 0) = 0
            split <;> rfl
          rw [e] at this
          exact this
  have L162b : ¬ A < D → ∀ (L : Int) (ν : Mem), FR 201 202 μ ν → (∀ j, 0 ≤ j → j < 10 → isS p j → ν 201 j = cJo p m (cmpS p j)) → qX mX8_layBoth GG (fun (_ : Int) (ρ' : Rf) (μ' : Mem) => ρ' = ρ ∧ FR 201 202 μ μ' ∧ ∀ k, 0 ≤ k → k < 10 → isS p k → μ' 201 k = lSh (p (4 + 0) + p (4 + 1)) (cJo p m) A (cmpS p k)) GG (0, 0) 162 [some (qP 178), none, some (qI A), some (qI D), some (qI L), none, none, none] [] ρ ν := by
    intro hs L ν hf hq
    have fin : ∀ j, 0 ≤ j → j < 10 → isS p j → ν 201 j = lSh (p (4 + 0) + p (4 + 1)) (cJo p m) A (cmpS p j) := fun j j0 j1 hj => by
      rw [hq j j0 j1 hj]
      unfold lSh
      rw [if_pos (by omega)]
    refine w_X8_layBoth_162 ?_
    refine ⟨fun hc1 => ?_, fun hc1 => ?_⟩
    · exact ⟨rfl, hf, fin⟩
    · refine ⟨fun hc3 => ?_, fun hc3 => ?_⟩
      · exact ⟨rfl, hf, fin⟩
      · omega
  have qb : A < D → _ := fun hs => q0_b (n := p (4 + 0) + p (4 + 1)) (cl := cJo p m) (a := A) (b := 396) (by omega) (by omega) (by rw [← du]; exact hs) clb
  have L34 : ∀ (k : Nat) (x : Int) (ν : Mem), (10 - x).toNat < k → 0 ≤ x → x ≤ 10 → FR 201 202 μ ν → (∀ j, 0 ≤ j → j < x → (isS p j → ν 201 j = (if A < D then (q0 (p (4 + 0) + p (4 + 1)) (cJo p m) A).1 (cmpS p j) else cJo p m (cmpS p j)) ∧ (A < D → ν 202 j = (q0 (p (4 + 0) + p (4 + 1)) (cJo p m) A).2 (cmpS p j))) ∧ (¬ isS p j → ν 201 j = 0 ∧ ν 202 j = -1)) → qX mX8_layBoth GG (fun (_ : Int) (ρ' : Rf) (μ' : Mem) => ρ' = ρ ∧ FR 201 202 μ μ' ∧ ∀ k, 0 ≤ k → k < 10 → isS p k → μ' 201 k = lSh (p (4 + 0) + p (4 + 1)) (cJo p m) A (cmpS p k)) GG (0, 0) 34 [some (qP 178), some (qI m), some (qI A), some (qI D), some (qI (A - s_I (ν 201) x)), some (qI x), none, none] [] ρ ν := by
    intro k
    induction k with
    | zero => intro x ν h; omega
    | succ k ih =>
      intro x ν hk h0 h1 hf hq
      have hpν : ν 180 = p := by rw [hf 180 (by omega)]; exact hp
      have vb : ∀ j, 0 ≤ j → j < x → 0 ≤ ν 201 j ∧ ν 201 j ≤ 396 := fun j j0 j1 => by
        by_cases hj : isS p j
        · have y := z2 j j0 (by omega) hj
          rw [((hq j j0 j1).1 hj).1]
          by_cases hs : A < D
          · rw [if_pos hs]; have := qb hs _ y.1 y.2.1; omega
          · rw [if_neg hs]; exact clb _ y.1 y.2.1
        · rw [((hq j j0 j1).2 hj).1]; omega
      have sb := s_Ib (f := ν 201) (n := x) (b := 396) h0 vb
      have L143 : x < 10 → ∀ (ν2 : Mem) (v w : Int), FR 201 202 μ ν2 → ν2 201 = u1 (ν 201) x v → ν2 202 = ν 202 → (0 ≤ v ∧ v ≤ 396) → (isS p x → v = (if A < D then (q0 (p (4 + 0) + p (4 + 1)) (cJo p m) A).1 (cmpS p x) else cJo p m (cmpS p x)) ∧ (A < D → w = (q0 (p (4 + 0) + p (4 + 1)) (cJo p m) A).2 (cmpS p x))) → (¬ isS p x → v = 0 ∧ w = -1) → qX mX8_layBoth GG (fun (_ : Int) (ρ' : Rf) (μ' : Mem) => ρ' = ρ ∧ FR 201 202 μ μ' ∧ ∀ k, 0 ≤ k → k < 10 → isS p k → μ' 201 k = lSh (p (4 + 0) + p (4 + 1)) (cJo p m) A (cmpS p k)) GG (0, 0) 143 [some (qP 178), some (qI m), some (qI A), some (qI D), some (qI (A - s_I (ν 201) x)), some (qI x), none, none] [qI w, qI x, qP 202] ρ ν2 := by
        intro hx ν2 v w hf2 g1 g2 hv' k1 k2
        have vx : ν2 201 x = v := by rw [g1, u1_s]
        refine w_X8_layBoth_143 ?_
        refine ⟨(by (try simp (disch := decide) only [up2_c]); omega), ?_⟩
        intro μ1 eμ1; subst eμ1
        refine ⟨(by (try simp (disch := decide) only [up2_c]); omega), ?_⟩
        refine ⟨(by (try simp (disch := decide) only [up2_c]); unfold i32; omega), ?_⟩
        refine ⟨(by (try simp (disch := decide) only [up2_c]); unfold i32; omega), ?_⟩
        have e := ih (x + 1) (up2 ν2 202 x w) (by omega) (by omega) (by omega) (FR.up hf2 (by omega)) (fun j j0 j1 => by
          rw [up2_c (show 201 ≠ 202 by decide), up2_u, g1, g2]
          by_cases hj : j = x
          · rw [hj, u1_s, u1_s]; exact ⟨k1, k2⟩
          · rw [u1_n hj, u1_n hj]; exact hq j j0 (by omega))
        rw [up2_c (show 201 ≠ 202 by decide), s_Is h0] at e
        have es : s_I (ν2 201) x = s_I (ν 201) x := by
          rw [g1]
          exact s_Ic h0 (fun j j0 j1 => u1_n (by omega))
        rw [es] at e
        rw [up2_c (show 201 ≠ 202 by decide), show A - s_I (ν 201) x - ν2 201 x = A - (s_I (ν 201) x + ν2 201 x) by omega]
        exact e
      -- its: what the car claims, 0 where there is none
      have L88 : x < 10 → ∀ b its, (b = 1 ∧ isS p x ∧ its = cJo p m (cmpS p x)) ∨ (b = 0 ∧ ¬ isS p x ∧ its = 0) → qX mX8_layBoth GG (fun (_ : Int) (ρ' : Rf) (μ' : Mem) => ρ' = ρ ∧ FR 201 202 μ μ' ∧ ∀ k, 0 ≤ k → k < 10 → isS p k → μ' 201 k = lSh (p (4 + 0) + p (4 + 1)) (cJo p m) A (cmpS p k)) GG (0, 0) 88 [some (qP 178), some (qI m), some (qI A), some (qI D), some (qI (A - s_I (ν 201) x)), some (qI x), some (qI b), none] [qI its] ρ ν := by
        intro hx b its hb
        have ib : 0 ≤ its ∧ its ≤ 396 := by
          rcases hb with ⟨_, a, rfl⟩ | ⟨_, _, rfl⟩
          · have y := z2 x h0 hx a
            exact clb _ y.1 y.2.1
          · omega
        have mx := mulb (a := A) (b := its) (A := 19800) (B := 396) (by omega) (by omega) ib.1 ib.2
        have vb2 : A < D → 0 ≤ A * its / D ∧ A * its / D ≤ 396 := fun hs => by
          rcases hb with ⟨_, a, rfl⟩ | ⟨_, _, rfl⟩
          · have y := z2 x h0 hx a
            have := qb hs _ y.1 y.2.1
            have e : A * cJo p m (cmpS p x) / D = (q0 (p (4 + 0) + p (4 + 1)) (cJo p m) A).1 (cmpS p x) := by rw [du]; rfl
            rw [e]; omega
          · rw [Int.mul_zero, Int.zero_ediv]; omega
        have L112 : ∀ v, (A < D → v = A * its / D) → (¬ A < D → v = its) → qX mX8_layBoth GG (fun (_ : Int) (ρ' : Rf) (μ' : Mem) => ρ' = ρ ∧ FR 201 202 μ μ' ∧ ∀ k, 0 ≤ k → k < 10 → isS p k → μ' 201 k = lSh (p (4 + 0) + p (4 + 1)) (cJo p m) A (cmpS p k)) GG (0, 0) 112 [some (qP 178), some (qI m), some (qI A), some (qI D), some (qI (A - s_I (ν 201) x)), some (qI x), some (qI b), some (qI its)] [qI v, qI x, qP 201] ρ ν := by
          intro v hv1 hv2
          have v0 : 0 ≤ v ∧ v ≤ 396 := by
            by_cases hs : A < D
            · rw [hv1 hs]; exact vb2 hs
            · rw [hv2 hs]; exact ib
          refine w_X8_layBoth_112 ?_
          refine ⟨(by omega), ?_⟩
          intro μ1 eμ1; subst eμ1
          refine ⟨fun hc3 => ?_, fun hc3 => ?_⟩
          · refine ⟨fun hc4 => ?_, fun hc4 => ?_⟩
            · refine ⟨(by unfold i32; omega), ?_⟩
              refine ⟨(by omega), ?_⟩
              rcases hb with ⟨_, a, rfl⟩ | ⟨b0, _⟩
              · refine L143 hx _ v _ (FR.up hf (by omega)) (by rw [up2_u]) (up2_c (by decide)) v0 (fun _ => ⟨?_, fun _ => ?_⟩) (fun h => absurd a h)
                · rw [if_pos hc4, hv1 hc4, du]; rfl
                · rw [du]; rfl
              · omega
            · rcases hb with ⟨_, a, rfl⟩ | ⟨b0, _⟩
              · refine L143 hx _ v _ (FR.up hf (by omega)) (by rw [up2_u]) (up2_c (by decide)) v0 (fun _ => ⟨?_, fun h => by omega⟩) (fun h => absurd a h)
                rw [if_neg (by omega), hv2 (by omega)]
              · omega
          · rcases hb with ⟨b1, _⟩ | ⟨_, a, rfl⟩
            · omega
            · refine L143 hx _ v _ (FR.up hf (by omega)) (by rw [up2_u]) (up2_c (by decide)) v0 (fun h => absurd h a) (fun _ => ⟨?_, rfl⟩)
              by_cases hs : A < D
              · rw [hv1 hs, Int.mul_zero, Int.zero_ediv]
              · exact hv2 hs
        refine w_X8_layBoth_88 ?_
        refine ⟨fun hc1 => ?_, fun hc1 => ?_⟩
        · refine ⟨(by unfold i32; omega), ?_⟩
          refine ⟨(by omega), ?_⟩
          exact L112 _ (fun _ => rfl) (fun h => absurd hc1 h)
        · exact L112 _ (fun h => by omega) (fun _ => rfl)
      have L64 : x < 10 → ∀ b, (b = 1 ∧ isS p x) ∨ (b = 0 ∧ ¬ isS p x) → qX mX8_layBoth GG (fun (_ : Int) (ρ' : Rf) (μ' : Mem) => ρ' = ρ ∧ FR 201 202 μ μ' ∧ ∀ k, 0 ≤ k → k < 10 → isS p k → μ' 201 k = lSh (p (4 + 0) + p (4 + 1)) (cJo p m) A (cmpS p k)) GG (0, 0) 64 [some (qP 178), some (qI m), some (qI A), some (qI D), some (qI (A - s_I (ν 201) x)), some (qI x), none, none] [qI b] ρ ν := by
        intro hx b hb
        refine w_X8_layBoth_64 ?_
        refine ⟨fun hc1 => ?_, fun hc1 => ?_⟩
        · exact L88 hx _ 0 (Or.inr ⟨hc1, by rcases hb with h | h; omega; exact h.2, rfl⟩)
        · have hi : isS p x := by
            rcases hb with h | h
            · exact h.2
            · exact absurd h.1 hc1
          have hi2 := hi
          unfold isS at hi2
          refine ⟨(by omega), ?_⟩
          refine ⟨(by omega), ?_⟩
          refine ⟨_, m_demandOf hpν hv (t := x / 5) (c := x % 5) (m := m) (by omega) (by omega) (by omega) (by omega) hm.1 hm.2, ?_⟩
          rintro z1 ρ2 μ3 ⟨hq5_1, hq5_2, hq5_3⟩
          obtain rfl := hq5_1.symm
          obtain rfl := hq5_2.symm
          obtain rfl := hq5_3.symm
          refine L88 hx _ _ (Or.inl ⟨?_, hi, ?_⟩)
          · rcases hb with h | h
            · exact h.1
            · exact absurd h.1 hc1
          · unfold cJo cmpS
            by_cases e : x < 5
            · rw [if_pos e, show x / 5 = 0 by omega, show x % 5 = x by omega]
              rw [show x / 5 = 0 by omega] at hi2
              rw [if_pos (by omega)]
            · rw [if_neg e, if_neg (by omega), show x / 5 = 1 by omega, show x % 5 = x - 5 by omega, show p (4 + 0) + (x - 5) - p (4 + 0) = x - 5 by omega]
      refine w_X8_layBoth_34 ?_
      refine ⟨fun hc1 => ?_, fun hc1 => ?_⟩
      · have ex : x = 10 := by omega
        subst ex
        by_cases hs : A < D
        · have e10 : s_I (ν 201) 10 = s_I (q0 (p (4 + 0) + p (4 + 1)) (cJo p m) A).1 (p (4 + 0) + p (4 + 1)) := s_10 hv (fun j j0 j1 => ⟨fun hj => by rw [((hq j j0 j1).1 hj).1, if_pos hs], fun hj => ((hq j j0 j1).2 hj).1⟩)
          refine L162 hs _ _ _ (q0 (p (4 + 0) + p (4 + 1)) (cJo p m) A) (Nat.lt_succ_self _) (by omega) hf ⟨fun j j0 j1 hj => ?_, fun j j0 j1 hj => ((hq j j0 j1).2 hj).2, fun j j0 j1 => by have := qb hs j j0 j1; omega⟩ (fun j j0 j1 => by have := vb j j0 j1; omega) (fun j j0 j1 => ?_)
          · have := (hq j j0 j1).1 hj
            rw [if_pos hs] at this
            exact ⟨this.1, this.2 hs⟩
          · rw [e10]
            unfold lSh
            rw [if_neg (by omega)]
        · exact L162b hs _ _ hf (fun j j0 j1 hj => by rw [((hq j j0 j1).1 hj).1, if_neg hs])
      · refine ⟨(by omega), ?_⟩
        refine ⟨(by omega), ?_⟩
        have tx := hv.t (t := x / 5) (by omega) (by omega)
        refine ⟨(by unfold i32; omega), ?_⟩
        refine ⟨(by omega), ?_⟩
        rw [hpν]
        refine ⟨fun hc7 => ?_, fun hc7 => ?_⟩
        · exact L64 (by omega) 0 (Or.inr ⟨rfl, by unfold isS; omega⟩)
        · exact L64 (by omega) 1 (Or.inl ⟨rfl, by unfold isS; omega⟩)
  refine e_X8_layBoth ?_
  refine ⟨_, m_deliveredToTrain (t := 0) hp hv ub (by omega), ?_⟩
  rintro z1 ρ2 μ3 ⟨hq1_1, hq1_2, hq1_3⟩
  obtain rfl := hq1_1.symm
  obtain rfl := hq1_2.symm
  obtain rfl := hq1_3.symm
  refine ⟨_, m_deliveredToTrain (t := 1) hp hv ub (by omega), ?_⟩
  rintro z5 ρ6 μ7 ⟨hq2_1, hq2_2, hq2_3⟩
  obtain rfl := hq2_1.symm
  obtain rfl := hq2_2.symm
  obtain rfl := hq2_3.symm
  refine ⟨(by unfold i32; omega), ?_⟩
  refine ⟨_, m_demandOfTrain (t := 0) hp hv (by omega) hm, ?_⟩
  rintro z9 ρ10 μ11 ⟨hq4_1, hq4_2, hq4_3⟩
  obtain rfl := hq4_1.symm
  obtain rfl := hq4_2.symm
  obtain rfl := hq4_3.symm
  refine ⟨_, m_demandOfTrain (t := 1) hp hv (by omega) hm, ?_⟩
  rintro z13 ρ14 μ15 ⟨hq5_1, hq5_2, hq5_3⟩
  obtain rfl := hq5_1.symm
  obtain rfl := hq5_2.symm
  obtain rfl := hq5_3.symm
  refine ⟨(by unfold i32; omega), ?_⟩
  rw [hD, ← hA]
  have := L34 _ 0 μ (Nat.lt_succ_self _) (by omega) (by omega) FR.refl (fun j a b => by omega)
  rw [s_I0, Int.sub_zero] at this
  exact this
end MZ
