/-! ===== the reference shares out ===== -/
section MX
variable {ρ : Rf} {μ : Mem} {σ : Sg} {p : Pl}
theorem m_layShares {t m : Int} (hp : μ 180 = p) (hv : PV p) (ub : UB p (μ 199)) (ht : 0 ≤ t ∧ t < 2) (hm : 0 ≤ m ∧ m < p 36) : qE mX8_layShares GG GG [qP 178, qI t, qI m] ρ μ (fun (_ : Int) (ρ' : Rf) (μ' : Mem) => ρ' = ρ ∧ FR 203 204 μ μ' ∧ ∀ c, 0 ≤ c → c < p (4 + t) → μ' 203 c = lSh (p (4 + t)) (fun c => dem p t c m) (dlT p (μ 199) t m) c) := by
  have nn := hv.n
  have tt := hv.t ht.1 ht.2
  have db : ∀ c, 0 ≤ c → c < p (4 + t) → 0 ≤ dem p t c m ∧ dem p t c m ≤ 396 := fun c c0 c1 => dem_b hv ht.1 ht.2 c0 c1 hm.1 hm.2
  have dl := dlT_b (p := p) (u := μ 199) (t := t) (m := m) (by omega) (by omega) ub
  have du : dmT p t m = s_I (fun c => dem p t c m) (p (4 + t)) := rfl
  have dmb := dmT_b hv ht.1 ht.2 hm.1 hm.2
  generalize hA : dlT p (μ 199) t m = A at *
  have L118 : A < dmT p t m → ∀ (k : Nat) (L : Int) (ν : Mem), L.toNat < k → L ≤ 9900 → FR 203 204 μ ν → (∀ j, 0 ≤ j → j < p (4 + t) → 0 ≤ ν 203 j ∧ ν 203 j ≤ 10400 - L) → (∀ j, 0 ≤ j → j < p (4 + t) → (shI (p (4 + t)) L.toNat (ν 203, ν 204)).1 j = lSh (p (4 + t)) (fun c => dem p t c m) A j) → qX mX8_layShares GG (fun (_ : Int) (ρ' : Rf) (μ' : Mem) => ρ' = ρ ∧ FR 203 204 μ μ' ∧ ∀ c, 0 ≤ c → c < p (4 + t) → μ' 203 c = lSh (p (4 + t)) (fun c => dem p t c m) A c) GG (0, 0) 118 [some (qP 178), some (qI t), none, none, none, some (qI L), none, none] [] ρ ν := by
    intro hs k
    induction k with
    | zero => intro L ν h; omega
    | succ k ih =>
      intro L ν hk hL hf hb hq
      have hpν : ν 180 = p := by rw [hf 180 (by omega)]; exact hp
      have L129 : 0 < L → ∀ (k2 : Nat) (x : Nat), 10 - x < k2 → 1 ≤ x → (x : Int) ≤ p (4 + t) → qX mX8_layShares GG (fun (_ : Int) (ρ' : Rf) (μ' : Mem) => ρ' = ρ ∧ FR 203 204 μ μ' ∧ ∀ c, 0 ≤ c → c < p (4 + t) → μ' 203 c = lSh (p (4 + t)) (fun c => dem p t c m) A c) GG (0, 0) 129 [some (qP 178), some (qI t), none, none, none, some (qI L), some (qI (lgN (ν 204) x)), some (qI (x : Int))] [] ρ ν := by
        intro hL0 k2
        induction k2 with
        | zero => intro x h; omega
        | succ k2 ih2 =>
          intro x hk2 h0 h1
          have e1 : ((x : Int) + 1) = ((x + 1 : Nat) : Int) := by omega
          have fs := (lgN_s (r := ν 204) x).1 (by omega)
          have ef : lgN (ν 204) (x + 1) = if ν 204 (lgN (ν 204) x) < ν 204 (x : Int) then (x : Int) else lgN (ν 204) x := rfl
          have L166 : (x : Int) < p (4 + t) → qX mX8_layShares GG (fun (_ : Int) (ρ' : Rf) (μ' : Mem) => ρ' = ρ ∧ FR 203 204 μ μ' ∧ ∀ c, 0 ≤ c → c < p (4 + t) → μ' 203 c = lSh (p (4 + t)) (fun c => dem p t c m) A c) GG (0, 0) 166 [some (qP 178), some (qI t), none, none, none, some (qI L), none, some (qI (x : Int))] [qI (lgN (ν 204) (x + 1))] ρ ν := by
            intro hx
            refine w_X8_layShares_166 ?_
            refine ⟨(by unfold i32; omega), ?_⟩
            rw [e1]
            exact ih2 _ (by omega) (by omega) (by omega)
          refine w_X8_layShares_129 ?_
          rw [hpν]
          refine ⟨(by unfold i32; omega), ?_⟩
          refine ⟨(by omega), ?_⟩
          refine ⟨fun hc3 => ?_, fun hc3 => ?_⟩
          · have pb := hb _ fs.1 (by omega)
            refine ⟨(by omega), ?_⟩
            refine ⟨(by unfold i32; omega), ?_⟩
            refine ⟨(by omega), ?_⟩
            intro μ1 eμ1; subst eμ1
            refine ⟨(by omega), ?_⟩
            intro μ2 eμ2; subst eμ2
            refine ⟨(by unfold i32; omega), ?_⟩
            have el : lrg (ν 204) (p (4 + t)) = lgN (ν 204) x := by unfold lrg; rw [show (p (4 + t)).toNat = x by omega]
            refine ih _ _ (by omega) (by omega) (FR.up (FR.up hf (by omega)) (by omega)) (fun j j0 j1 => ?_) (fun j j0 j1 => ?_)
            · rw [up2_c (by decide), up2_u]
              have := hb j j0 j1
              unfold u1
              split <;> omega
            · rw [← hq j j0 j1, show L.toNat = (L + (-1)).toNat + 1 by omega]
              rw [up2_c (show 203 ≠ 204 by decide), up2_u, up2_u, up2_c (show 204 ≠ 203 by decide), ← el]
              rfl
          · refine ⟨(by omega), ?_⟩
            refine ⟨(by omega), ?_⟩
            refine ⟨fun hc14 => ?_, fun hc14 => ?_⟩
            · rw [if_neg (by omega)] at ef
              have := L166 hc3
              rw [ef] at this
              exact this
            · rw [if_pos (by omega)] at ef
              have := L166 hc3
              rw [ef] at this
              exact this
      refine w_X8_layShares_118 ?_
      refine ⟨fun hc1 => ?_, fun hc1 => ?_⟩
      · refine ⟨rfl, hf, fun j j0 j1 => ?_⟩
        rw [← hq j j0 j1, show L.toNat = 0 by omega]
        rfl
      · have := L129 hc1 _ 1 (Nat.lt_succ_self _) (by omega) (by omega)
        have e : lgN (ν 204) 1 = 0 := by
          show (if ν 204 (lgN (ν 204) 0) < ν 204 ((0 : Nat) : Int) then ((0 : Nat) : Int) else lgN (ν 204) 0) = 0
          split <;> rfl
        rw [e] at this
        exact this
  have qb : A < dmT p t m → _ := fun hs => q0_b (n := p (4 + t)) (cl := (fun c => dem p t c m)) (b := 396) (by omega) dl.1 (by rw [← du]; exact hs) db
  have L21 : ∀ (k : Nat) (x : Int) (ν : Mem), (p (4 + t) - x).toNat < k → 0 ≤ x → x ≤ p (4 + t) → FR 203 204 μ ν → (∀ j, 0 ≤ j → j < x → ν 203 j = (if A < dmT p t m then (q0 (p (4 + t)) (fun c => dem p t c m) A).1 j else dem p t j m) ∧ (A < dmT p t m → ν 204 j = (q0 (p (4 + t)) (fun c => dem p t c m) A).2 j)) → qX mX8_layShares GG (fun (_ : Int) (ρ' : Rf) (μ' : Mem) => ρ' = ρ ∧ FR 203 204 μ μ' ∧ ∀ c, 0 ≤ c → c < p (4 + t) → μ' 203 c = lSh (p (4 + t)) (fun c => dem p t c m) A c) GG (0, 0) 21 [some (qP 178), some (qI t), some (qI m), some (qI A), some (qI (dmT p t m)), some (qI (A - s_I (ν 203) x)), some (qI x), none] [] ρ ν := by
    intro k
    induction k with
    | zero => intro x ν h; omega
    | succ k ih =>
      intro x ν hk h0 h1 hf hq
      have hpν : ν 180 = p := by rw [hf 180 (by omega)]; exact hp
      have vb : ∀ j, 0 ≤ j → j < x → 0 ≤ ν 203 j ∧ ν 203 j ≤ 396 := fun j j0 j1 => by
        rw [(hq j j0 j1).1]
        by_cases hs : A < dmT p t m
        · rw [if_pos hs]; have := qb hs j j0 (by omega); omega
        · rw [if_neg hs]; exact db j j0 (by omega)
      have sb := s_Ib (f := ν 203) (n := x) (b := 396) h0 vb
      have L92 : x < p (4 + t) → ∀ (ν2 : Mem) (w : Int), FR 203 204 μ ν2 → ν2 203 = u1 (ν 203) x (if A < dmT p t m then (q0 (p (4 + t)) (fun c => dem p t c m) A).1 x else dem p t x m) → ν2 204 = ν 204 → (A < dmT p t m → w = (q0 (p (4 + t)) (fun c => dem p t c m) A).2 x) → qX mX8_layShares GG (fun (_ : Int) (ρ' : Rf) (μ' : Mem) => ρ' = ρ ∧ FR 203 204 μ μ' ∧ ∀ c, 0 ≤ c → c < p (4 + t) → μ' 203 c = lSh (p (4 + t)) (fun c => dem p t c m) A c) GG (0, 0) 92 [some (qP 178), some (qI t), some (qI m), some (qI A), some (qI (dmT p t m)), some (qI (A - s_I (ν 203) x)), some (qI x), none] [qI w, qI x, qP 204] ρ ν2 := by
        intro hx ν2 w hf2 g3 g4 hw
        have vx : 0 ≤ ν2 203 x ∧ ν2 203 x ≤ 396 := by
          rw [g3, u1_s]
          by_cases hs : A < dmT p t m
          · rw [if_pos hs]; have := qb hs x h0 hx; omega
          · rw [if_neg hs]; exact db x h0 hx
        refine w_X8_layShares_92 ?_
        refine ⟨(by (try simp (disch := decide) only [up2_c]); omega), ?_⟩
        intro μ1 eμ1; subst eμ1
        refine ⟨(by (try simp (disch := decide) only [up2_c]); omega), ?_⟩
        refine ⟨(by (try simp (disch := decide) only [up2_c]); unfold i32; omega), ?_⟩
        refine ⟨(by (try simp (disch := decide) only [up2_c]); unfold i32; omega), ?_⟩
        have e := ih (x + 1) (up2 ν2 204 x w) (by omega) (by omega) (by omega) (FR.up hf2 (by omega)) (fun j j0 j1 => by
          rw [up2_c (show 203 ≠ 204 by decide), up2_u, g3, g4]
          by_cases hj : j = x
          · rw [hj, u1_s, u1_s]; exact ⟨rfl, hw⟩
          · rw [u1_n hj, u1_n hj]; exact hq j j0 (by omega))
        rw [up2_c (show 203 ≠ 204 by decide), s_Is h0] at e
        have es : s_I (ν2 203) x = s_I (ν 203) x := by
          rw [g3]
          exact s_Ic h0 (fun j j0 j1 => u1_n (by omega))
        rw [es] at e
        rw [up2_c (show 203 ≠ 204 by decide), show A - s_I (ν 203) x - ν2 203 x = A - (s_I (ν 203) x + ν2 203 x) by omega]
        exact e
      have L68 : x < p (4 + t) → ∀ w, w = (if A < dmT p t m then (q0 (p (4 + t)) (fun c => dem p t c m) A).1 x else dem p t x m) → qX mX8_layShares GG (fun (_ : Int) (ρ' : Rf) (μ' : Mem) => ρ' = ρ ∧ FR 203 204 μ μ' ∧ ∀ c, 0 ≤ c → c < p (4 + t) → μ' 203 c = lSh (p (4 + t)) (fun c => dem p t c m) A c) GG (0, 0) 68 [some (qP 178), some (qI t), some (qI m), some (qI A), some (qI (dmT p t m)), some (qI (A - s_I (ν 203) x)), some (qI x), some (qI (dem p t x m))] [qI w, qI x, qP 203] ρ ν := by
        intro hx w hw
        have dx := db x h0 hx
        have mx := mulb dl.1 dl.2 dx.1 dx.2
        refine w_X8_layShares_68 ?_
        refine ⟨(by omega), ?_⟩
        intro μ1 eμ1; subst eμ1
        refine ⟨fun hc3 => ?_, fun hc3 => ?_⟩
        · refine ⟨(by unfold i32; omega), ?_⟩
          refine ⟨(by omega), ?_⟩
          exact L92 hx _ _ (FR.up hf (by omega)) (by rw [up2_u, hw]) (up2_c (by decide)) (fun _ => rfl)
        · exact L92 hx _ _ (FR.up hf (by omega)) (by rw [up2_u, hw]) (up2_c (by decide)) (fun h => by omega)
      refine w_X8_layShares_21 ?_
      rw [hpν]
      refine ⟨(by unfold i32; omega), ?_⟩
      refine ⟨(by omega), ?_⟩
      refine ⟨fun hc3 => ?_, fun hc3 => ?_⟩
      · refine ⟨fun hc4 => ?_, fun hc4 => ?_⟩
        · have e : x = p (4 + t) := by omega
          subst e
          have eq : s_I (ν 203) (p (4 + t)) = s_I (q0 (p (4 + t)) (fun c => dem p t c m) A).1 (p (4 + t)) := s_Ic h0 (fun j j0 j1 => by rw [(hq j j0 j1).1, if_pos hc4])
          refine L118 hc4 _ _ _ (Nat.lt_succ_self _) (by omega) hf (fun j j0 j1 => ?_) (fun j j0 j1 => ?_)
          · have := vb j j0 j1; omega
          · have ag : agF (p (4 + t)) (ν 203, ν 204) (q0 (p (4 + t)) (fun c => dem p t c m) A) := fun j j0 j1 => ⟨by have := (hq j j0 j1).1; rw [if_pos hc4] at this; exact this, (hq j j0 j1).2 hc4⟩
            rw [(shI_c (by omega) _ _ _ ag j j0 j1).1, eq]
            unfold lSh
            rw [if_neg (by omega)]
        · refine ⟨rfl, hf, fun j j0 j1 => ?_⟩
          rw [(hq j j0 (by omega)).1, if_neg (by omega)]
          unfold lSh
          rw [if_pos (by omega)]
      · refine ⟨_, m_demandOf hpν hv ht.1 ht.2 h0 hc3 hm.1 hm.2, ?_⟩
        rintro z1 ρ2 μ3 ⟨hq7_1, hq7_2, hq7_3⟩
        obtain rfl := hq7_1.symm
        obtain rfl := hq7_2.symm
        obtain rfl := hq7_3.symm
        have dx := db x h0 hc3
        have mx := mulb dl.1 dl.2 dx.1 dx.2
        refine ⟨fun hc8 => ?_, fun hc8 => ?_⟩
        · refine ⟨(by unfold i32; omega), ?_⟩
          refine ⟨(by omega), ?_⟩
          exact L68 hc3 _ (by rw [if_pos hc8]; rfl)
        · exact L68 hc3 _ (by rw [if_neg (by omega)])
  refine e_X8_layShares ?_
  refine ⟨_, m_deliveredToTrain hp hv ub ht, ?_⟩
  rintro z1 ρ2 μ3 ⟨hq1_1, hq1_2, hq1_3⟩
  obtain rfl := hq1_1.symm
  obtain rfl := hq1_2.symm
  obtain rfl := hq1_3.symm
  refine ⟨_, m_demandOfTrain hp hv ht hm, ?_⟩
  rintro z5 ρ6 μ7 ⟨hq2_1, hq2_2, hq2_3⟩
  obtain rfl := hq2_1.symm
  obtain rfl := hq2_2.symm
  obtain rfl := hq2_3.symm
  rw [hA]
  have := L21 _ 0 μ (Nat.lt_succ_self _) (by omega) (by omega) FR.refl (fun j a b => by omega)
  rw [s_I0, Int.sub_zero] at this
  exact this
end MX
