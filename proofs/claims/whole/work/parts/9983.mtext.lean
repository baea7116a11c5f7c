/-! ===== the text: the reference ===== -/
section MTX
variable {ρ : Rf} {μ μ0 : Mem} {b : Int → Int} {n : Int} {T : Tk} {D : Sg}
theorem fn1_c (h : T.1 ≠ 0) : fn1 b n T = T := by
  unfold fn1
  rw [fTk_c h, fR_c h]
  split <;> rfl
theorem m_readText (hb : BY b) (n0 : 0 ≤ n) (hn : n ≤ 900) (TX : TXm μ0 b n) (h5 : μ0 178 5 = 0) (h6 : μ0 178 6 = 0) (h7 : μ0 178 7 = -1) : qE mX8_readText GG GG [qP 178] ρ μ0 (fun _ ρ' μ' => ρ' = ρ ∧ μ' 178 6 = (pT b n).1 ∧ μ' 178 7 = (pT b n).2.1 ∧ ((pT b n).1 = 0 → MD μ' (pZ b n).1) ∧ PQ μ0 μ') := by
  have zok := lns_ok (b := b) (n := n) 901 D0 T0 D0_DV (T0_t n0)
  have zt : TOK n (pZ b n).2 := zok.2
  have pE : ¬ cmp (pZ b n).1 → pT b n = fR 5 (fn1 b n (pZ b n).2) := fun h => by unfold pT fn2; rw [if_neg h]
  have pC : cmp (pZ b n).1 → pT b n = (fn1 b n (pZ b n).2) := fun h => by unfold pT fn2; rw [if_pos h]
  have pN : ((fn1 b n (pZ b n).2)).1 ≠ 0 → pT b n = (fn1 b n (pZ b n).2) := fun h => by
    by_cases c : cmp (pZ b n).1
    · exact pC c
    · rw [pE c, fR_c h]
  have EE : (pT b n).1 ≠ 0 → ∀ (m : Nat) (x : Int) (μ1 : Mem), (2 - x).toNat = m → 0 ≤ x → x ≤ 2 → MT μ1 b n (pT b n) → PQ μ0 μ1 → qX mX8_readText GG (fun _ ρ' μ' => ρ' = ρ ∧ μ' 178 6 = (pT b n).1 ∧ μ' 178 7 = (pT b n).2.1 ∧ ((pT b n).1 = 0 → MD μ' (pZ b n).1) ∧ PQ μ0 μ') GG (0, 0) 113 [some (qP 178), some (qI x)] [] ρ μ1 := by
    intro ne m
    have R : ∀ μ1 : Mem, MT μ1 b n (pT b n) → qE mX8_report GG GG [qP 178, qI 5] ρ μ1 (fun _ ρ' μ' => ρ' = ρ ∧ MT μ' b n (pT b n) ∧ OM μ1 μ') := by
      intro μ1 c1
      refine qE_post (fun z ρ' μ' q => ?_) (m_report (x := 5) (by decide) c1 (fun y => absurd y ne))
      rw [fR_c ne] at q
      exact ⟨q.1, q.2.1, q.2.2.1⟩
    induction m with
    | zero =>
      intro x μ1 hm x0 x1 c1 q1
      refine w_X8_readText_113 ?_
      refine ⟨fun hc1 => ?_, fun hc1 => ?_⟩
      · refine ⟨fun hc2 => ?_, fun hc2 => ?_⟩
        · refine ⟨_, R μ1 c1, ?_⟩
          rintro z1 ρ2 μ3 ⟨hq3_1, c2, o2⟩
          obtain rfl := hq3_1.symm
          exact ⟨rfl, c2.2.1, c2.2.2.1, fun y => absurd y ne, q1.trans o2.pq⟩
        · refine ⟨fun hc5 => ?_, fun hc5 => ?_⟩
          · exact ⟨rfl, c1.2.1, c1.2.2.1, fun y => absurd y ne, q1⟩
          · refine ⟨_, R μ1 c1, ?_⟩
            rintro z5 ρ6 μ7 ⟨hq7_1, c2, o2⟩
            obtain rfl := hq7_1.symm
            exact ⟨rfl, c2.2.1, c2.2.2.1, fun y => absurd y ne, q1.trans o2.pq⟩
      · exfalso; omega
    | succ m ih =>
      intro x μ1 hm x0 x1 c1 q1
      have S143 : ∀ μ2 : Mem, MT μ2 b n (pT b n) → PQ μ0 μ2 → qX mX8_readText GG (fun _ ρ' μ' => ρ' = ρ ∧ μ' 178 6 = (pT b n).1 ∧ μ' 178 7 = (pT b n).2.1 ∧ ((pT b n).1 = 0 → MD μ' (pZ b n).1) ∧ PQ μ0 μ') GG (0, 0) 143 [some (qP 178), some (qI x)] [] ρ μ2 := by
        intro μ2 c2 q2
        refine w_X8_readText_143 ?_
        refine ⟨(by unfold i32; omega), ?_⟩
        exact ih (x + 1) μ2 (by omega) (by omega) (by omega) c2 q2
      have S138 : ∀ μ2 : Mem, MT μ2 b n (pT b n) → PQ μ0 μ2 → qX mX8_readText GG (fun _ ρ' μ' => ρ' = ρ ∧ μ' 178 6 = (pT b n).1 ∧ μ' 178 7 = (pT b n).2.1 ∧ ((pT b n).1 = 0 → MD μ' (pZ b n).1) ∧ PQ μ0 μ') GG (0, 0) 138 [some (qP 178), some (qI x)] [] ρ μ2 := by
        intro μ2 c2 q2
        refine w_X8_readText_138 ?_
        refine ⟨_, R μ2 c2, ?_⟩
        rintro z1 ρ2 μ3 ⟨hq1_1, c3, o3⟩
        obtain rfl := hq1_1.symm
        exact S143 _ c3 (q2.trans o3.pq)
      refine w_X8_readText_113 ?_
      refine ⟨fun hc1 => ?_, fun hc1 => ?_⟩
      · exfalso; omega
      · refine ⟨(by omega), ?_⟩
        refine ⟨fun hc10 => ?_, fun hc10 => ?_⟩
        · exact S138 μ1 c1 q1
        · refine ⟨(by unfold i32; omega), ?_⟩
          refine ⟨(by omega), ?_⟩
          refine ⟨fun hc14 => ?_, fun hc14 => ?_⟩
          · exact S143 μ1 c1 q1
          · exact S138 μ1 c1 q1
  have F5 : ((fn1 b n (pZ b n).2)).1 = 0 → ¬ cmp (pZ b n).1 → ∀ (x : Int) (μ1 : Mem), x = 0 ∨ x = 1 → MT μ1 b n (fn1 b n (pZ b n).2) → Mp μ1 (fn1 b n (pZ b n).2) → PQ μ0 μ1 → qX mX8_readText GG (fun _ ρ' μ' => ρ' = ρ ∧ μ' 178 6 = (pT b n).1 ∧ μ' 178 7 = (pT b n).2.1 ∧ ((pT b n).1 = 0 → MD μ' (pZ b n).1) ∧ PQ μ0 μ') GG (0, 0) 138 [some (qP 178), some (qI x)] [] ρ μ1 := by
    intro f0 nc x μ1 hx c1 p1 q1
    have e := pE nc
    have ne : (pT b n).1 ≠ 0 := by rw [e]; exact fR_k (by decide)
    have S143 : ∀ μ2 : Mem, MT μ2 b n (pT b n) → PQ μ0 μ2 → qX mX8_readText GG (fun _ ρ' μ' => ρ' = ρ ∧ μ' 178 6 = (pT b n).1 ∧ μ' 178 7 = (pT b n).2.1 ∧ ((pT b n).1 = 0 → MD μ' (pZ b n).1) ∧ PQ μ0 μ') GG (0, 0) 143 [some (qP 178), some (qI x)] [] ρ μ2 := by
      intro μ2 c2 q2
      refine w_X8_readText_143 ?_
      refine ⟨(by unfold i32; omega), ?_⟩
      exact EE ne _ (x + 1) μ2 rfl (by omega) (by omega) c2 q2
    refine w_X8_readText_138 ?_
    refine ⟨_, m_report (x := 5) (by decide) c1 (fun _ => p1), ?_⟩
    rintro z1 ρ2 μ3 ⟨hq1_1, c2, o2, k2⟩
    obtain rfl := hq1_1.symm
    exact S143 _ (by rw [e]; exact c2) (q1.trans o2.pq)
  have S2 : ((fn1 b n (pZ b n).2)).1 = 0 → ∀ μ1 : Mem, MT μ1 b n (fn1 b n (pZ b n).2) → Mp μ1 (fn1 b n (pZ b n).2) → MD μ1 (pZ b n).1 → PQ μ0 μ1 → ((pZ b n).1 4 0 ≠ 0 ∧ (pZ b n).1 1 (4 + 0) ≠ 0) → ((pZ b n).1 4 1 ≠ 0 ∧ (pZ b n).1 1 (4 + 1) ≠ 0) → qX mX8_readText GG (fun _ ρ' μ' => ρ' = ρ ∧ μ' 178 6 = (pT b n).1 ∧ μ' 178 7 = (pT b n).2.1 ∧ ((pT b n).1 = 0 → MD μ' (pZ b n).1) ∧ PQ μ0 μ') GG (0, 0) 113 [some (qP 178), some (qI 2)] [] ρ μ1 := by
    intro f0 μ1 c1 p1 d1 q1 h0 h1
    have cb := zok.1.2.2.2.2.2.2.2.1
    have e36 : (lns b n 901 D0 T0).1 = (pZ b n).1 := rfl
    rw [e36] at cb
    refine w_X8_readText_113 ?_
    refine ⟨fun hc1 => ?_, fun hc1 => ?_⟩
    · rw [d1.1 36 (by decide) (by decide), d1.1 61 (by decide) (by decide)]
      refine ⟨fun hc2 => ?_, fun hc2 => ?_⟩
      · refine ⟨_, m_report (x := 5) (by decide) c1 (fun _ => p1), ?_⟩
        rintro z1 ρ2 μ3 ⟨hq3_1, c2, o2, k2⟩
        obtain rfl := hq3_1.symm
        have e := pE (fun c => by have := c.2.2; omega)
        exact ⟨rfl, by rw [e]; exact c2.2.1, by rw [e]; exact c2.2.2.1, fun y => by rw [e] at y; exact absurd y (fR_k (by decide)), q1.trans o2.pq⟩
      · refine ⟨fun hc5 => ?_, fun hc5 => ?_⟩
        · have e := pC ⟨h0, h1, by omega, by omega⟩
          exact ⟨rfl, by rw [e]; exact c1.2.1, by rw [e]; exact c1.2.2.1, fun _ => d1, q1⟩
        · refine ⟨_, m_report (x := 5) (by decide) c1 (fun _ => p1), ?_⟩
          rintro z5 ρ6 μ7 ⟨hq7_1, c2, o2, k2⟩
          obtain rfl := hq7_1.symm
          have e := pE (fun c => by have := c.2.2; omega)
          exact ⟨rfl, by rw [e]; exact c2.2.1, by rw [e]; exact c2.2.2.1, fun y => by rw [e] at y; exact absurd y (fR_k (by decide)), q1.trans o2.pq⟩
    · exfalso; omega
  have S1 : ((fn1 b n (pZ b n).2)).1 = 0 → ∀ μ1 : Mem, MT μ1 b n (fn1 b n (pZ b n).2) → Mp μ1 (fn1 b n (pZ b n).2) → MD μ1 (pZ b n).1 → PQ μ0 μ1 → ((pZ b n).1 4 0 ≠ 0 ∧ (pZ b n).1 1 (4 + 0) ≠ 0) → qX mX8_readText GG (fun _ ρ' μ' => ρ' = ρ ∧ μ' 178 6 = (pT b n).1 ∧ μ' 178 7 = (pT b n).2.1 ∧ ((pT b n).1 = 0 → MD μ' (pZ b n).1) ∧ PQ μ0 μ') GG (0, 0) 113 [some (qP 178), some (qI 1)] [] ρ μ1 := by
    intro f0 μ1 c1 p1 d1 q1 h0
    have S143 : ((pZ b n).1 4 1 ≠ 0 ∧ (pZ b n).1 1 (4 + 1) ≠ 0) → qX mX8_readText GG (fun _ ρ' μ' => ρ' = ρ ∧ μ' 178 6 = (pT b n).1 ∧ μ' 178 7 = (pT b n).2.1 ∧ ((pT b n).1 = 0 → MD μ' (pZ b n).1) ∧ PQ μ0 μ') GG (0, 0) 143 [some (qP 178), some (qI 1)] [] ρ μ1 := by
      intro h1
      refine w_X8_readText_143 ?_
      refine ⟨(by unfold i32; omega), ?_⟩
      exact S2 f0 μ1 c1 p1 d1 q1 h0 h1
    refine w_X8_readText_113 ?_
    refine ⟨fun hc1 => ?_, fun hc1 => ?_⟩
    · exfalso; omega
    · rw [d1.2.2.1 1 (by decide) (by decide), d1.1 (4 + 1) (by decide) (by decide)]
      refine ⟨(by omega), ?_⟩
      refine ⟨fun hc10 => ?_, fun hc10 => ?_⟩
      · exact F5 f0 (fun c => c.2.1.1 (by omega)) 1 μ1 (Or.inr rfl) c1 p1 q1
      · refine ⟨(by unfold i32; omega), ?_⟩
        refine ⟨(by omega), ?_⟩
        refine ⟨fun hc14 => ?_, fun hc14 => ?_⟩
        · exact S143 ⟨by omega, by omega⟩
        · exact F5 f0 (fun c => c.2.1.2 (by omega)) 1 μ1 (Or.inr rfl) c1 p1 q1
  have S0 : ((fn1 b n (pZ b n).2)).1 = 0 → ∀ μ1 : Mem, MT μ1 b n (fn1 b n (pZ b n).2) → Mp μ1 (fn1 b n (pZ b n).2) → MD μ1 (pZ b n).1 → PQ μ0 μ1 → qX mX8_readText GG (fun _ ρ' μ' => ρ' = ρ ∧ μ' 178 6 = (pT b n).1 ∧ μ' 178 7 = (pT b n).2.1 ∧ ((pT b n).1 = 0 → MD μ' (pZ b n).1) ∧ PQ μ0 μ') GG (0, 0) 113 [some (qP 178), some (qI 0)] [] ρ μ1 := by
    intro f0 μ1 c1 p1 d1 q1
    have S143 : ((pZ b n).1 4 0 ≠ 0 ∧ (pZ b n).1 1 (4 + 0) ≠ 0) → qX mX8_readText GG (fun _ ρ' μ' => ρ' = ρ ∧ μ' 178 6 = (pT b n).1 ∧ μ' 178 7 = (pT b n).2.1 ∧ ((pT b n).1 = 0 → MD μ' (pZ b n).1) ∧ PQ μ0 μ') GG (0, 0) 143 [some (qP 178), some (qI 0)] [] ρ μ1 := by
      intro h0
      refine w_X8_readText_143 ?_
      refine ⟨(by unfold i32; omega), ?_⟩
      exact S1 f0 μ1 c1 p1 d1 q1 h0
    refine w_X8_readText_113 ?_
    refine ⟨fun hc1 => ?_, fun hc1 => ?_⟩
    · exfalso; omega
    · rw [d1.2.2.1 0 (by decide) (by decide), d1.1 (4 + 0) (by decide) (by decide)]
      refine ⟨(by omega), ?_⟩
      refine ⟨fun hc10 => ?_, fun hc10 => ?_⟩
      · exact F5 f0 (fun c => c.1.1 (by omega)) 0 μ1 (Or.inl rfl) c1 p1 q1
      · refine ⟨(by unfold i32; omega), ?_⟩
        refine ⟨(by omega), ?_⟩
        refine ⟨fun hc14 => ?_, fun hc14 => ?_⟩
        · exact S143 ⟨by omega, by omega⟩
        · exact F5 f0 (fun c => c.1.2 (by omega)) 0 μ1 (Or.inl rfl) c1 p1 q1
  have L111 : ∀ μ1 : Mem, MT μ1 b n (fn1 b n (pZ b n).2) → (((fn1 b n (pZ b n).2)).1 = 0 → Mp μ1 (fn1 b n (pZ b n).2) ∧ MD μ1 (pZ b n).1) → PQ μ0 μ1 → qX mX8_readText GG (fun _ ρ' μ' => ρ' = ρ ∧ μ' 178 6 = (pT b n).1 ∧ μ' 178 7 = (pT b n).2.1 ∧ ((pT b n).1 = 0 → MD μ' (pZ b n).1) ∧ PQ μ0 μ') GG (0, 0) 111 [some (qP 178), none] [] ρ μ1 := by
    intro μ1 c1 h1 q1
    refine w_X8_readText_111 ?_
    by_cases c : ((fn1 b n (pZ b n).2)).1 = 0
    · exact S0 c μ1 c1 (h1 c).1 (h1 c).2 q1
    · have e := pN c
      exact EE (by rw [e]; exact c) _ 0 μ1 rfl (by omega) (by omega) (by rw [e]; exact c1) q1
  have L91 : ∀ μ1 : Mem, MT μ1 b n (pZ b n).2 → ((pZ b n).2.1 = 0 → Ma μ1 b n (pZ b n).2 ∧ MD μ1 (pZ b n).1) → PQ μ0 μ1 → qX mX8_readText GG (fun _ ρ' μ' => ρ' = ρ ∧ μ' 178 6 = (pT b n).1 ∧ μ' 178 7 = (pT b n).2.1 ∧ ((pT b n).1 = 0 → MD μ' (pZ b n).1) ∧ PQ μ0 μ') GG (0, 0) 91 [some (qP 178), none] [] ρ μ1 := by
    intro μ1 c1 h1 q1
    have tb := tok_b (b := b) zt.2.1
    have r2 := rk_2 (k := tK b n (pZ b n).2.2.2.2) (by omega) (by omega)
    refine w_X8_readText_91 ?_
    rw [c1.2.1]
    refine ⟨fun hc1 => ?_, fun hc1 => ?_⟩
    · have e := fn1_c (b := b) (n := n) (show (pZ b n).2.1 ≠ 0 by omega)
      exact L111 μ1 (by rw [e]; exact c1) (fun y => by rw [e] at y; omega) q1
    · refine ⟨fun hc3 => ?_, fun hc3 => ?_⟩
      · have c0 : (pZ b n).2.1 = 0 := by omega
        obtain ⟨a, d⟩ := h1 c0
        have e : (fn1 b n (pZ b n).2) = fTk b n (pZ b n).2 := by unfold fn1; rw [if_pos (r2.2.2.2.mp (by rw [← a.2.2.1]; omega))]
        exact L111 μ1 (by rw [e]; exact (c1.tk c0).2) (fun _ => ⟨by rw [e]; exact a.p c0, d⟩) q1
      · have c0 : (pZ b n).2.1 = 0 := by omega
        obtain ⟨a, d⟩ := h1 c0
        have e : (fn1 b n (pZ b n).2) = fR 1 (fTk b n (pZ b n).2) := by unfold fn1; rw [if_neg (fun y => by have := r2.2.2.2.mpr y; rw [← a.2.2.1] at this; omega)]
        refine ⟨_, m_report (x := 1) (by decide) (c1.tk c0).2 (fun _ => a.p c0), ?_⟩
        rintro z1 ρ2 μ3 ⟨hq5_1, c2, o2, k2⟩
        obtain rfl := hq5_1.symm
        exact L111 _ (by rw [e]; exact c2) (fun y => by rw [e] at y; exact absurd y (fR_k (by decide))) (q1.trans o2.pq)
  have L65 : ∀ (m : Nat) (D : Sg) (T : Tk) (μ1 : Mem), (n - T.2.2.2).toNat < m + 1 → TOK n T → T.1 = 0 → DV b D → MT μ1 b n (rdT b n D T) → ((rdT b n D T).1 = 0 → Ma μ1 b n (rdT b n D T) ∧ MD μ1 (rdS b n D T)) → PQ μ0 μ1 → lns b n (m + 1) D T = pZ b n → qX mX8_readText GG (fun _ ρ' μ' => ρ' = ρ ∧ μ' 178 6 = (pT b n).1 ∧ μ' 178 7 = (pT b n).2.1 ∧ ((pT b n).1 = 0 → MD μ' (pZ b n).1) ∧ PQ μ0 μ') GG (0, 0) 65 [some (qP 178), none] [] ρ μ1 := by
    intro m
    induction m with
    | zero =>
      intro D T μ1 hm ht hc hv c1 h1 q1 hz
      have l := rd_LE (b := b) (D := D) ht
      have tb := tok_b (b := b) l.1.2.1
      have p2 : T.2.2.2 ≤ (fTk b n T).2.2.2 := (LE.tk (b := b) (LE.refl ht)).2
      have l2 := l.2
      have r2 := rk_2 (k := tK b n (rdT b n D T).2.2.2) (by omega) (by omega)
      have hz' : (if (rdT b n D T).1 = 0 ∧ tK b n (rdT b n D T).2.2.2 = 3 then lns b n 0 (rdS b n D T) (fTk b n (rdT b n D T)) else (rdS b n D T, rdT b n D T)) = pZ b n := hz
      have nk : ¬ tK b n (rdT b n D T).2.2.2 = 3 := fun y => by have := (tb.2.2.2.2.2.1 (by omega)).1; have := l.1.2.1; omega
      rw [if_neg (fun y => nk y.2)] at hz'
      have e1 : rdS b n D T = (pZ b n).1 := by rw [← hz']
      have e2 : rdT b n D T = (pZ b n).2 := by rw [← hz']
      rw [e2] at c1 h1 nk r2
      rw [e1] at h1
      refine w_X8_readText_65 ?_
      rw [c1.2.1]
      refine ⟨fun hc1 => ?_, fun hc1 => ?_⟩
      · exact L91 μ1 c1 h1 q1
      · refine ⟨fun hc3 => ?_, fun hc3 => ?_⟩
        · exact L91 μ1 c1 h1 q1
        · exfalso
          have a := (h1 (by omega)).1
          exact nk (r2.2.2.1.mp (by rw [← a.2.2.1]; omega))
    | succ m ih =>
      intro D T μ1 hm ht hc hv c1 h1 q1 hz
      have l := rd_LE (b := b) (D := D) ht
      have tb := tok_b (b := b) l.1.2.1
      have p2 : T.2.2.2 ≤ (fTk b n T).2.2.2 := (LE.tk (b := b) (LE.refl ht)).2
      have l2 := l.2
      have r2 := rk_2 (k := tK b n (rdT b n D T).2.2.2) (by omega) (by omega)
      have hz' : (if (rdT b n D T).1 = 0 ∧ tK b n (rdT b n D T).2.2.2 = 3 then lns b n (m + 1) (rdS b n D T) (fTk b n (rdT b n D T)) else (rdS b n D T, rdT b n D T)) = pZ b n := hz
      have G : ¬ ((rdT b n D T).1 = 0 ∧ tK b n (rdT b n D T).2.2.2 = 3) → qX mX8_readText GG (fun _ ρ' μ' => ρ' = ρ ∧ μ' 178 6 = (pT b n).1 ∧ μ' 178 7 = (pT b n).2.1 ∧ ((pT b n).1 = 0 → MD μ' (pZ b n).1) ∧ PQ μ0 μ') GG (0, 0) 91 [some (qP 178), none] [] ρ μ1 := by
        intro y
        rw [if_neg y] at hz'
        have e1 : rdS b n D T = (pZ b n).1 := by rw [← hz']
        have e2 : rdT b n D T = (pZ b n).2 := by rw [← hz']
        exact L91 μ1 (by rw [← e2]; exact c1) (fun z => by rw [← e2] at z ⊢; rw [← e1]; exact h1 z) q1
      refine w_X8_readText_65 ?_
      rw [c1.2.1]
      refine ⟨fun hc1 => ?_, fun hc1 => ?_⟩
      · exact G (fun y => by omega)
      · refine ⟨fun hc3 => ?_, fun hc3 => ?_⟩
        · refine G (fun y => ?_)
          have a := (h1 y.1).1
          have := r2.2.2.1.mpr y.2
          rw [← a.2.2.1] at this
          omega
        · have c0 : (rdT b n D T).1 = 0 := by omega
          obtain ⟨a, d⟩ := h1 c0
          have k3 := r2.2.2.1.mp (by rw [← a.2.2.1]; omega)
          rw [if_pos ⟨c0, k3⟩] at hz'
          have e : (fTk b n (rdT b n D T)).2.2.2 = tN b n (rdT b n D T).2.2.2 := by rw [fTk_o c0]
          have p1 := (tb.2.2.2.2.2.1 (by omega)).1
          have t1 : TOK n (fTk b n (rdT b n D T)) := fTk_t l.1
          have c10 : (fTk b n (rdT b n D T)).1 = 0 := by rw [fTk_1]; exact c0
          refine ⟨_, m_adv hb hn (c1.tk c0).2 (fun _ => (a.p c0).2), ?_⟩
          rintro z1 ρ2 μ3 ⟨hq5_1, c2, o2, a2⟩
          obtain rfl := hq5_1.symm
          refine ⟨_, m_readLine hb hn c2 c10 (a2 c10) (d.om o2) (rd_DV hv ht), ?_⟩
          rintro z5 ρ6 μ7 ⟨hq6_1, c3, q3, a3⟩
          obtain rfl := hq6_1.symm
          exact ih _ _ _ (by omega) t1 c10 (rd_DV hv ht) c3 a3 ((q1.trans o2.pq).trans q3) hz'
  have L24 : ∀ (m : Nat) (x : Int) (μ1 : Mem), (12 - x).toNat < m → 0 ≤ x → x ≤ 12 → (∀ k, 0 ≤ k → k < 188 → μ1 181 k = 0) → (∀ k, 0 ≤ k → k < x → μ1 186 k = 0) → PQ μ0 μ1 → μ1 178 = μ0 178 → qX mX8_readText GG (fun _ ρ' μ' => ρ' = ρ ∧ μ' 178 6 = (pT b n).1 ∧ μ' 178 7 = (pT b n).2.1 ∧ ((pT b n).1 = 0 → MD μ' (pZ b n).1) ∧ PQ μ0 μ') GG (0, 0) 24 [some (qP 178), some (qI x)] [] ρ μ1 := by
    intro m
    induction m with
    | zero => intro x μ1 h; omega
    | succ m ih =>
      intro x μ1 hm x0 x1 h1 h2 q1 e78
      have q2 : PQ μ0 (up2 (up2 μ1 185 0 0) 185 1 0) := (q1.up (by decide)).up (by decide)
      have c2 : MT (up2 (up2 μ1 185 0 0) 185 1 0) b n T0 := by
        refine ⟨⟨fun k k0 k1 => by rw [q2.1 179 (by decide) (by decide) (by decide) (by decide) (by decide)]; exact TX.1 k k0 k1, ?_⟩, ?_, ?_, T0_t n0⟩
        · rw [up2_c (by decide), up2_c (by decide), e78]; exact TX.2
        · rw [up2_c (by decide), up2_c (by decide), e78]; exact h6
        · rw [up2_c (by decide), up2_c (by decide), e78]; exact h7
      refine w_X8_readText_24 ?_
      refine ⟨fun hc1 => ?_, fun hc1 => ?_⟩
      · intro μ1 eμ1; subst eμ1
        intro μ2 eμ2; subst eμ2
        refine ⟨_, m_adv hb hn c2 (fun _ => by rw [up2_c (by decide), up2_c (by decide), e78]; exact h5), ?_⟩
        rintro z3 ρ4 μ5 ⟨hq4_1, c3, o3, a3⟩
        obtain rfl := hq4_1.symm
        have d3 : MD μ5 D0 := by
          refine ⟨fun k k0 k1 => ?_, fun m m0 m1 => by have : m < 0 := m1; omega, fun t t0 t1 => ?_, fun k k0 k1 => ?_⟩
          · rw [o3.1 181 (by decide), up2_c (by decide), up2_c (by decide)]; exact h1 k k0 k1
          · rw [o3.1 185 (by decide), up2_u]
            obtain rfl | rfl : t = 0 ∨ t = 1 := by omega
            · rw [u1_n (by decide), up2_s]; rfl
            · rw [u1_s]; rfl
          · rw [o3.1 186 (by decide), up2_c (by decide), up2_c (by decide)]; exact h2 k k0 (by omega)
        refine ⟨_, m_readLine hb hn c3 rfl (a3 rfl) d3 D0_DV, ?_⟩
        rintro z7 ρ8 μ9 ⟨hq5_1, c4, q4, a4⟩
        obtain rfl := hq5_1.symm
        exact L65 900 D0 T0 _ (by show (n - 0).toNat < 900 + 1; omega) (T0_t n0) rfl D0_DV c4 a4 ((q2.trans o3.pq).trans q4) rfl
      · refine ⟨(by omega), ?_⟩
        intro μ11 eμ11; subst eμ11
        refine ⟨(by unfold i32; omega), ?_⟩
        refine ih (x + 1) _ (by omega) (by omega) (by omega) (fun k k0 k1 => by rw [up2_c (by decide)]; exact h1 k k0 k1) (fun k k0 k1 => ?_) (q1.up (by decide)) (by rw [up2_c (by decide)]; exact e78)
        rw [up2_u]
        by_cases e : k = x
        · rw [e, u1_s]
        · rw [u1_n e]; exact h2 k k0 (by omega)
  have L2 : ∀ (m : Nat) (x : Int) (μ1 : Mem), (188 - x).toNat < m → 0 ≤ x → x ≤ 188 → (∀ k, 0 ≤ k → k < x → μ1 181 k = 0) → PQ μ0 μ1 → μ1 178 = μ0 178 → qX mX8_readText GG (fun _ ρ' μ' => ρ' = ρ ∧ μ' 178 6 = (pT b n).1 ∧ μ' 178 7 = (pT b n).2.1 ∧ ((pT b n).1 = 0 → MD μ' (pZ b n).1) ∧ PQ μ0 μ') GG (0, 0) 2 [some (qP 178), some (qI x)] [] ρ μ1 := by
    intro m
    induction m with
    | zero => intro x μ1 h; omega
    | succ m ih =>
      intro x μ1 hm x0 x1 h1 q1 e78
      refine w_X8_readText_2 ?_
      refine ⟨fun hc1 => ?_, fun hc1 => ?_⟩
      · exact L24 _ 0 μ1 (Nat.lt_succ_self _) (by omega) (by omega) (fun k k0 k1 => h1 k k0 (by omega)) (fun k k0 k1 => by omega) q1 e78
      · refine ⟨(by omega), ?_⟩
        intro μ1 eμ1; subst eμ1
        refine ⟨(by unfold i32; omega), ?_⟩
        refine ih (x + 1) _ (by omega) (by omega) (by omega) (fun k k0 k1 => ?_) (q1.up (by decide)) (by rw [up2_c (by decide)]; exact e78)
        rw [up2_u]
        by_cases e : k = x
        · rw [e, u1_s]
        · rw [u1_n e]; exact h1 k k0 (by omega)
  refine e_X8_readText ?_
  exact L2 _ 0 μ0 (Nat.lt_succ_self _) (by omega) (by omega) (fun k k0 k1 => by omega) ⟨fun _ _ _ _ _ _ => rfl, fun _ _ => rfl⟩ rfl
end MTX
