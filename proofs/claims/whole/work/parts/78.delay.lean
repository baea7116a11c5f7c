/-! ===== the best trolley: the reference; the delay that is needed ===== -/
section MY
variable {ρ : Rf} {μ μ0 : Mem} {p : Pl} {σ : Sg}
theorem m_jobsOf {i : Int} (hp : μ 180 = p) (hn : 0 ≤ p 87 ∧ p 87 ≤ 20) : qE mX8_jobsOf GG GG [qP 180, qI i] ρ μ (fun z ρ' μ' => z = cnt p i ∧ ρ' = ρ ∧ μ' = μ) := by
  have L : ∀ (k : Nat) (x : Int), (p 87 - x).toNat < k → 0 ≤ x → x ≤ p 87 → qX mX8_jobsOf GG (fun z ρ' μ' => z = cnt p i ∧ ρ' = ρ ∧ μ' = μ) GG (0, 0) 4 [some (qP 180), some (qI i), some (qI (owC p i x)), some (qI x)] [] ρ μ := by
    intro k
    induction k with
    | zero => intro x h; omega
    | succ k ih =>
      intro x hk h0 h1
      have sb := owC_b (p := p) (i := i) h0
      have e := owC_s (p := p) (i := i) h0
      refine w_X8_jobsOf_4 (nx0 := 188) rfl ?_
      refine ⟨(by omega), ?_⟩
      rw [hp]
      refine ⟨fun hc2 => ?_, fun hc2 => ?_⟩
      · exact ⟨by rw [show x = p 87 by omega]; rfl, rfl, rfl⟩
      · refine ⟨(by unfold i32; omega), ?_⟩
        refine ⟨(by unfold i32; omega), ?_⟩
        refine ⟨(by unfold i32; omega), ?_⟩
        refine ⟨(by omega), ?_⟩
        refine ⟨fun hc8 => ?_, fun hc8 => ?_⟩
        · refine ⟨(by unfold i32; omega), ?_⟩
          refine ⟨(by unfold i32; omega), ?_⟩
          rw [if_neg hc8] at e
          rw [← e]
          exact ih _ (by omega) (by omega) (by omega)
        · refine ⟨(by unfold i32; omega), ?_⟩
          refine ⟨(by unfold i32; omega), ?_⟩
          rw [if_pos (by omega)] at e
          rw [← e]
          exact ih _ (by omega) (by omega) (by omega)
  refine e_X8_jobsOf (nx0 := 188) rfl ?_
  exact L _ 0 (Nat.lt_succ_self _) (by omega) (by omega)
theorem q_bestTrolley {j : Int} (h0 : MJ μ0 σ) (hS : SI σ) : qE mX8_bestTrolley GG GG [qP 178, qI j] ρ μ0 (PM μ0 ρ (fun J => if σ 0 4 = 1 ∧ 0 ≤ j ∧ j < σ 2 87 then btr2 (σ 2) j else -2147483648) (sE σ (if σ 0 4 = 1 ∧ 0 ≤ j ∧ j < σ 2 87 then 0 else 1))) := by
  have hb := hS.2.2.1
  have hn : σ 0 4 = 1 → PV (σ 2) := fun e => (hS.2.2.2.2.2.2.2.2 e).1.1
  have fth : FR 178 207 μ0 (up2 μ0 178 0 0) := FR.up FR.refl (by omega)
  have hth : MJ (up2 μ0 178 0 0) σ := h0.th
  have tth : up2 μ0 178 0 0 180 = σ 2 := hth.2.2.2.2.2.2.2.1
  have L : (σ 0 4 = 1 ∧ 0 ≤ j ∧ j < σ 2 87) → ∀ (m : Nat) (x : Nat) (μ : Mem), (σ 2 61).toNat - x < m → (x : Int) ≤ σ 2 61 → KK (up2 μ0 178 0 0) μ → (∃ v, μ 180 = u1 (σ 2) (88 + 5 * j + 0) v) → qX mX8_bestTrolley GG (PM μ0 ρ (fun J => if σ 0 4 = 1 ∧ 0 ≤ j ∧ j < σ 2 87 then btr2 (σ 2) j else -2147483648) (sE σ (if σ 0 4 = 1 ∧ 0 ≤ j ∧ j < σ 2 87 then 0 else 1))) GG (0, 0) 44 [some (qP 178), none, some (qI (88 + 5 * j + 0)), some (qI (σ 2 (88 + 5 * j + 0))), some (qI (fa (-1) (-1) (btT (σ 2) j) (fun k => (k : Int)) x)), some (qI (fm (-1) (btT (σ 2) j) x)), some (qI (x : Int))] [] ρ μ := by
    intro hi m
    have hp := hi.1
    have hv := hn hp
    have n := hv.n
    induction m with
    | zero => intro x μ h; omega
    | succ m ih =>
      intro x μ hm hx hK hv180
      have ex : ((x : Int) + 1) = ((x + 1 : Nat) : Int) := by omega
      have fb := fm_b (a := -1) (T := btT (σ 2) j) x
      have ea : fa (-1) (-1) (btT (σ 2) j) (fun k => (k : Int)) (x + 1) = if fm (-1) (btT (σ 2) j) x < btT (σ 2) j x then (x : Int) else fa (-1) (-1) (btT (σ 2) j) (fun k => (k : Int)) x := rfl
      have em : fm (-1) (btT (σ 2) j) (x + 1) = if fm (-1) (btT (σ 2) j) x < btT (σ 2) j x then btT (σ 2) j x else fm (-1) (btT (σ 2) j) x := rfl
      have e61 : μ 180 61 = σ 2 61 := by
        obtain ⟨v, e⟩ := hv180
        rw [e, u1_n (by omega)]
      have r180 : up2 μ 180 (88 + 5 * j + 0) (σ 2 (88 + 5 * j + 0)) 180 = σ 2 := by
        obtain ⟨v, e⟩ := hv180
        rw [up2_u, e, u1_u1, u1_id]
      have N : (x : Int) < σ 2 61 → ∀ ν, KK (up2 μ0 178 0 0) ν → (∃ v, ν 180 = u1 (σ 2) (88 + 5 * j + 0) v) → qX mX8_bestTrolley GG (PM μ0 ρ (fun J => if σ 0 4 = 1 ∧ 0 ≤ j ∧ j < σ 2 87 then btr2 (σ 2) j else -2147483648) (sE σ (if σ 0 4 = 1 ∧ 0 ≤ j ∧ j < σ 2 87 then 0 else 1))) GG (0, 0) 120 [some (qP 178), none, some (qI (88 + 5 * j + 0)), some (qI (σ 2 (88 + 5 * j + 0))), some (qI (fa (-1) (-1) (btT (σ 2) j) (fun k => (k : Int)) (x + 1))), some (qI (fm (-1) (btT (σ 2) j) (x + 1))), some (qI (x : Int))] [] ρ ν := by
        intro xl ν gK g180
        refine w_X8_bestTrolley_120 ?_
        refine ⟨(by unfold i32; omega), ?_⟩
        rw [ex]
        exact ih (x + 1) ν (by omega) (by omega) gK g180
      have Y : (x : Int) < σ 2 61 → btT (σ 2) j x = tot (u1 (σ 2) (88 + 5 * j + 0) x) → ∀ ν, KK (up2 μ0 178 0 0) ν → ν 180 = σ 2 → qX mX8_bestTrolley GG (PM μ0 ρ (fun J => if σ 0 4 = 1 ∧ 0 ≤ j ∧ j < σ 2 87 then btr2 (σ 2) j else -2147483648) (sE σ (if σ 0 4 = 1 ∧ 0 ≤ j ∧ j < σ 2 87 then 0 else 1))) GG (0, 0) 86 [some (qP 178), none, some (qI (88 + 5 * j + 0)), some (qI (σ 2 (88 + 5 * j + 0))), some (qI (fa (-1) (-1) (btT (σ 2) j) (fun k => (k : Int)) x)), some (qI (fm (-1) (btT (σ 2) j) x)), some (qI (x : Int))] [] ρ ν := by
        intro xl bt ν gK g180
        have q180 : up2 ν 180 (88 + 5 * j + 0) (x : Int) 180 = u1 (σ 2) (88 + 5 * j + 0) x := by rw [up2_u, g180]
        have v1 := by_PV hv (j := j) (i := (x : Int)) hi.2 (by omega)
        refine w_X8_bestTrolley_86 ?_
        refine ⟨(by omega), ?_⟩
        intro μ1 eμ1; subst eμ1
        refine ⟨_, m_goAll q180 v1, ?_⟩
        rintro z2 ρ3 μ4 ⟨hq3_1, hq3_2⟩
        obtain rfl := hq3_1.symm
        obtain rfl := hq3_2.symm
        refine ⟨_, m_tot q180 v1, ?_⟩
        rintro z6 ρ7 μ8 ⟨hq4_1, hq4_2, hq4_3⟩
        obtain rfl := hq4_1.symm
        obtain rfl := hq4_2.symm
        obtain rfl := hq4_3.symm
        rw [tot_j v1, ← bt]
        refine ⟨fun hc5 => ?_, fun hc5 => ?_⟩
        · refine ⟨_, m_tot q180 v1, ?_⟩
          rintro z10 ρ11 μ12 ⟨hq6_1, hq6_2, hq6_3⟩
          obtain rfl := hq6_1.symm
          obtain rfl := hq6_2.symm
          obtain rfl := hq6_3.symm
          rw [tot_j v1, ← bt]
          rw [if_pos (by omega)] at ea em
          have := N (by omega) _ ((gK.set (k := 88 + 5 * j + 0) (v := (x : Int))).go (p := u1 (σ 2) (88 + 5 * j + 0) x) (wo := -1) (out := -1)) ⟨_, go_180 q180⟩
          rw [ea, em] at this
          exact this
        · rw [if_neg (by omega)] at ea em
          have := N (by omega) _ ((gK.set (k := 88 + 5 * j + 0) (v := (x : Int))).go (p := u1 (σ 2) (88 + 5 * j + 0) x) (wo := -1) (out := -1)) ⟨_, go_180 q180⟩
          rw [ea, em] at this
          exact this
      refine w_X8_bestTrolley_44 ?_
      rw [e61]
      refine ⟨fun hc1 => ?_, fun hc1 => ?_⟩
      · refine ⟨(by omega), ?_⟩
        intro μ1 eμ1; subst eμ1
        refine ⟨_, m_done, ?_⟩
        rintro z2 ρ3 μ4 ⟨hq4_1, hq4_2, hq4_3⟩
        obtain rfl := hq4_1.symm
        obtain rfl := hq4_2.symm
        obtain rfl := hq4_3.symm
        exact pm_fin (hK.set.mj hth r180) (hK.set.ff fth) ⟨μ, by rw [if_pos hi]; unfold btr2; rw [show (σ 2 61).toNat = x by omega]⟩ (by rw [if_pos hi])
      · refine ⟨(by omega), ?_⟩
        intro μ6 eμ6; subst eμ6
        refine ⟨fun hc8 => ?_, fun hc8 => ?_⟩
        · exact Y (by omega) (by unfold btT; rw [if_neg (by omega)]) _ hK.set r180
        · refine ⟨_, m_jobsOf r180 (by omega), ?_⟩
          rintro z7 ρ8 μ9 ⟨hq10_1, hq10_2, hq10_3⟩
          obtain rfl := hq10_1.symm
          obtain rfl := hq10_2.symm
          obtain rfl := hq10_3.symm
          have cn := CI.cn hS hp (i := (x : Int))
          refine ⟨fun hc11 => ?_, fun hc11 => ?_⟩
          · exact Y (by omega) (by unfold btT; rw [if_neg (by omega)]) _ hK.set r180
          · have bt : btT (σ 2) j x = -5 := by unfold btT; rw [if_pos ⟨hc8, by omega⟩]
            rw [if_neg (by omega)] at ea em
            have := N (by omega) _ (hK.set (k := 88 + 5 * j + 0) (v := σ 2 (88 + 5 * j + 0))) ⟨σ 2 (88 + 5 * j + 0), by rw [u1_id]; exact r180⟩
            rw [ea, em] at this
            exact this
  refine e_X8_bestTrolley ?_
  intro μ1 eμ1; subst eμ1
  refine ⟨_, m_isJob (σ := σ) hth hS, ?_⟩
  rintro z2 ρ3 μ4 ⟨hz, hq2_1, hq2_2⟩
  obtain rfl := hq2_1.symm
  obtain rfl := hq2_2.symm
  refine ⟨fun hc3 => ?_, fun hc3 => ?_⟩
  · have n := (hn (by omega)).n
    refine ⟨(by unfold i32; omega), ?_⟩
    refine ⟨(by unfold i32; omega), ?_⟩
    refine ⟨(by unfold i32; omega), ?_⟩
    refine ⟨(by omega), ?_⟩
    rw [tth]
    exact L (by omega) _ 0 _ (Nat.lt_succ_self _) (by omega) KK.refl ⟨σ 2 (88 + 5 * j + 0), by rw [u1_id]; exact tth⟩
  · refine ⟨_, m_failed, ?_⟩
    rintro z6 ρ7 μ8 ⟨hq9_1, hq9_2, hq9_3⟩
    obtain rfl := hq9_1.symm
    obtain rfl := hq9_2.symm
    obtain rfl := hq9_3.symm
    exact pm_fin hth fth ⟨μ0, (if_neg (by omega)).symm⟩ (by rw [if_neg (by omega)])
/-! ### the delay that is needed -/
def lbN (q : Pl) (t : Int) : Nat → Bool
  | 0 => false
  | k + 1 => lbN q t k || (decide (q (88 + 5 * (k : Int) + 1) = t) && decide (sGo q (-1) (-1) Z0 199 k < sGo q (-1) (-1) Z0 196 k))
def lb (q : Pl) (t : Int) : Bool := lbN q t (q 87).toNat
theorem lbN_m {q : Pl} {t : Int} {m : Nat} (h : lbN q t m = true) : ∀ d, lbN q t (m + d) = true := by
  intro d
  induction d with
  | zero => exact h
  | succ d ih =>
    show (lbN q t (m + d) || _) = true
    rw [ih]
    rfl
theorem lb_at {q : Pl} {t j : Int} (j0 : 0 ≤ j) (j1 : j < q 87) (h1 : q (88 + 5 * j + 1) = t) (h2 : sGo q (-1) (-1) Z0 199 j < sGo q (-1) (-1) Z0 196 j) : lb q t = true := by
  have e : ((j.toNat : Nat) : Int) = j := Int.toNat_of_nonneg j0
  have a : lbN q t (j.toNat + 1) = true := by
    show (lbN q t j.toNat || (decide (q (88 + 5 * ((j.toNat : Nat) : Int) + 1) = t) && decide (sGo q (-1) (-1) Z0 199 ((j.toNat : Nat) : Int) < sGo q (-1) (-1) Z0 196 ((j.toNat : Nat) : Int)))) = true
    rw [e, decide_eq_true h1, decide_eq_true h2]
    simp
  have := lbN_m a ((q 87).toNat - (j.toNat + 1))
  rw [show j.toNat + 1 + ((q 87).toNat - (j.toNat + 1)) = (q 87).toNat by omega] at this
  exact this
theorem lb_no {q : Pl} {t : Int} (h : ∀ j, 0 ≤ j → j < q 87 → ¬ (q (88 + 5 * j + 1) = t ∧ sGo q (-1) (-1) Z0 199 j < sGo q (-1) (-1) Z0 196 j)) : lb q t = false := by
  have : ∀ m : Nat, (m : Int) ≤ q 87 → lbN q t m = false := by
    intro m
    induction m with
    | zero => intro _; rfl
    | succ m ih =>
      intro hm
      show (lbN q t m || (decide (q (88 + 5 * (m : Int) + 1) = t) && decide (sGo q (-1) (-1) Z0 199 m < sGo q (-1) (-1) Z0 196 m))) = false
      rw [ih (by omega), Bool.false_or, Bool.and_eq_false_iff, decide_eq_false_iff_not, decide_eq_false_iff_not]
      have := h m (by omega) (by omega)
      by_cases c : q (88 + 5 * (m : Int) + 1) = t
      · exact Or.inr (fun z => this ⟨c, z⟩)
      · exact Or.inl c
  unfold lb
  by_cases h0 : 0 ≤ q 87
  · exact this _ (by omega)
  · rw [show (q 87).toNat = 0 by omega]
    rfl
theorem k_leavesBehind {q : Pl} {t : Int} (hs : SP μ 55 q) (hv : PV q) (hr : RP q 41 μ) : qE mX3_leavesBehind GG GG [qP 41, qP 55, qI t] ρ μ (fun z ρ' μ' => ((z = 1 ∧ lb q t = true) ∨ (z = 0 ∧ lb q t = false)) ∧ ρ' = ρ ∧ μ' = μ) := by
  have n := hv.n
  have r := hr Z0
  have L : ∀ (k : Nat) (x : Int), (q 87 - x).toNat < k → 0 ≤ x → x ≤ q 87 → (∀ j, 0 ≤ j → j < x → ¬ (q (88 + 5 * j + 1) = t ∧ sGo q (-1) (-1) Z0 199 j < sGo q (-1) (-1) Z0 196 j)) → qX mX3_leavesBehind GG (fun z ρ' μ' => ((z = 1 ∧ lb q t = true) ∨ (z = 0 ∧ lb q t = false)) ∧ ρ' = ρ ∧ μ' = μ) GG (0, 0) 2 [some (qP 41), some (qP 55), some (qI t), some (qI x), none] [] ρ μ := by
    intro k
    induction k with
    | zero => intro x h; omega
    | succ k ih =>
      intro x hk h0 h1 hno
      have F50 : x < q 87 → ¬ (q (88 + 5 * x + 1) = t ∧ sGo q (-1) (-1) Z0 199 x < sGo q (-1) (-1) Z0 196 x) → qX mX3_leavesBehind GG (fun z ρ' μ' => ((z = 1 ∧ lb q t = true) ∨ (z = 0 ∧ lb q t = false)) ∧ ρ' = ρ ∧ μ' = μ) GG (0, 0) 50 [some (qP 41), some (qP 55), some (qI t), some (qI x), none] [] ρ μ := by
        intro xl hx
        refine w_X3_leavesBehind_50 (show isO 3 41 from rfl) (show isO 6 55 from rfl) ?_
        refine ⟨(by unfold i32; omega), ?_⟩
        refine ih _ (by omega) (by omega) (by omega) (fun j j0 j1 => ?_)
        by_cases c : j = x
        · rw [c]; exact hx
        · exact hno j j0 (by omega)
      have F25 : x < q 87 → ∀ s0, s0 = q (88 + 5 * x + 1) → qX mX3_leavesBehind GG (fun z ρ' μ' => ((z = 1 ∧ lb q t = true) ∨ (z = 0 ∧ lb q t = false)) ∧ ρ' = ρ ∧ μ' = μ) GG (0, 0) 25 [some (qP 41), some (qP 55), some (qI t), some (qI x), none] [qI s0] ρ μ := by
        intro xl s0 e0
        have cj := (r.1 x h0 xl).1
        have c1 : μ 43 x = sGo q (-1) (-1) Z0 196 x := cj.2.1
        have c2 : μ 48 x = sGo q (-1) (-1) Z0 199 x := cj.2.2.2.1
        refine w_X3_leavesBehind_25 (show isO 3 41 from rfl) (show isO 6 55 from rfl) ?_
        refine ⟨fun hc1 => ?_, fun hc1 => ?_⟩
        · exact F50 xl (fun z => by omega)
        · refine ⟨(by omega), ?_⟩
          refine ⟨(by omega), ?_⟩
          refine ⟨fun hc5 => ?_, fun hc5 => ?_⟩
          · exact F50 xl (fun z => by have a : μ (41 + 2) x = μ 43 x := rfl; have b : μ (41 + 7) x = μ 48 x := rfl; omega)
          · exact ⟨Or.inl ⟨rfl, lb_at h0 xl (by omega) (by have a : μ (41 + 2) x = μ 43 x := rfl; have b : μ (41 + 7) x = μ 48 x := rfl; omega)⟩, rfl, rfl⟩
      refine w_X3_leavesBehind_2 (show isO 3 41 from rfl) (show isO 6 55 from rfl) ?_
      rw [hs.n]
      refine ⟨fun hc1 => ?_, fun hc1 => ?_⟩
      · exact ⟨Or.inr ⟨rfl, lb_no (fun j j0 j1 => hno j j0 (by omega))⟩, rfl, rfl⟩
      · refine ⟨(by omega), ?_⟩
        have sj := (hs.j h0 (by omega)).2.1
        have aj := hv.j h0 (by omega)
        have tt := hv.t aj.2.2.1 aj.2.2.2.1
        rw [sj]
        refine ⟨fun hc4 => ?_, fun hc4 => ?_⟩
        · exact F25 (by omega) 1 (by omega)
        · exact F25 (by omega) 0 (by omega)
  refine e_X3_leavesBehind (show isO 3 41 from rfl) (show isO 6 55 from rfl) ?_
  exact L _ 0 (Nat.lt_succ_self _) (by omega) (by omega) (fun j j0 j1 => by omega)
end MY
