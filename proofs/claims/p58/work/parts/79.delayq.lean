/-! ===== the delay that is needed, a trolley left out ===== -/
def ndF (p : Pl) (t : Int) : Nat → Int → Int
  | 0, _ => -1
  | m + 1, d => if lb (u1 p (2 + t) (p (2 + t) + d)) t = true then ndF p t m (d + 1) else d
def nd (p : Pl) (t : Int) : Int := ndF p t 61 0
section MZ
variable {ρ : Rf} {μ μ0 : Mem} {p : Pl} {σ : Sg}
theorem SP_dep {μ : Mem} {s : Nat} {q : Pl} {t v : Int} (h : SP μ s q) (ht : 0 ≤ t ∧ t < 2) : SP (up2 μ (s + 5) t v) s (u1 q (2 + t) v) := by
  have e : ∀ k, k ≠ 2 + t → u1 q (2 + t) v k = q k := fun k h => u1_n h
  refine ⟨fun x x0 x1 => ?_, fun s' t0 t1 => ?_, fun k k0 k1 => ?_, ?_⟩
  · rw [e _ (by omega)] at x1
    rw [e (88 + 5 * x + 0) (by omega), e (88 + 5 * x + 1) (by omega), e (88 + 5 * x + 2) (by omega), e (88 + 5 * x + 3) (by omega), e (88 + 5 * x + 4) (by omega), up2_c (a := s + 1) (by omega), up2_c (a := s + 2) (by omega), up2_c (a := s + 3) (by omega), up2_c (a := s + 4) (by omega)]
    exact h.j x0 x1
  · rw [up2_u]
    by_cases c : s' = t
    · rw [c, u1_s, u1_s]
    · rw [u1_n c, e _ (by omega)]; exact h.t t0 t1
  · rw [up2_c (by omega), e _ (by omega)]; exact h.k k0 k1
  · rw [up2_c (by omega), e _ (by omega)]; exact h.n
theorem c_neededDelay {t : Int} (h0 : CI ρ μ0 σ) (hS : SI σ) : qE mX7_neededDelay GG GG [qP 0, qI t] ρ μ0 (PC μ0 ρ (fun J => if (σ 0 4 = 1 ∧ 0 ≤ t ∧ t < 2) ∧ 0 ≤ nd (σ 2) t then nd (σ 2) t else -2147483648) (sE σ (if σ 0 4 = 1 ∧ 0 ≤ t ∧ t < 2 then (if 0 ≤ nd (σ 2) t then 0 else 6) else 1))) := by
  have L : (σ 0 4 = 1 ∧ 0 ≤ t ∧ t < 2) → ∀ (m : Nat) (d : Int) (μ : Mem), m = (61 - d).toNat → 0 ≤ d → d ≤ 61 → nd (σ 2) t = ndF (σ 2) t m d → CI ρ μ σ → FR 0 177 μ0 μ → (∃ v, SP μ 55 (u1 (σ 2) (2 + t) v)) → qX mX7_neededDelay GG (PC μ0 ρ (fun J => if (σ 0 4 = 1 ∧ 0 ≤ t ∧ t < 2) ∧ 0 ≤ nd (σ 2) t then nd (σ 2) t else -2147483648) (sE σ (if σ 0 4 = 1 ∧ 0 ≤ t ∧ t < 2 then (if 0 ≤ nd (σ 2) t then 0 else 6) else 1))) GG (0, 0) 27 [some (qP 0), some (qI t), some (qI d)] [] ρ μ := by
    intro hi m
    have hp := hi.1
    induction m with
    | zero =>
      intro d μ hm d0 d1 he h hfr hsp
      have z : nd (σ 2) t = -1 := he
      refine w_X7_neededDelay_27 ?_
      refine ⟨fun hc1 => ?_, fun hc1 => ?_⟩
      · refine ⟨_, k_fail, ?_⟩
        rintro z1 ρ2 μ3 ⟨hq2_1, hq2_2, hq2_3⟩
        obtain rfl := hq2_1.symm
        obtain rfl := hq2_2.symm
        obtain rfl := hq2_3.symm
        exact pc_fin h hS hfr (fun J => (if_neg (by omega)).symm) (by rw [if_pos hi, if_neg (by omega)])
      · omega
    | succ m ih =>
      intro d μ hm d0 d1 he h hfr hsp
      obtain ⟨v, sv⟩ := hsp
      obtain ⟨hv, hf, hs, hr⟩ := h.pl hS hp
      have n := hv.n
      have fn := h.1.fn
      have tt := hv.t hi.2.1 hi.2.2
      have ok := (hS.2.2.2.2.2.2.2.2 hp).1
      have dd : σ 2 (2 + t) ≤ 999 := by
        rcases (by omega : t = 0 ∨ t = 1) with c | c
        · rw [c]; exact ok.2.1
        · rw [c]; exact ok.2.2.1
      have e : ndF (σ 2) t (m + 1) d = if lb (u1 (σ 2) (2 + t) (σ 2 (2 + t) + d)) t = true then ndF (σ 2) t m (d + 1) else d := rfl
      have s1 := SP_dep (v := σ 2 (2 + t) + d) sv hi.2
      rw [u1_u1] at s1
      have st : μ (ρ 0 9 + 5) t = σ 2 (2 + t) := hs.t hi.2.1 hi.2.2
      have h1 : CI ρ (up2 μ 60 t (σ 2 (2 + t) + d)) σ := h.scr hS (fun a ha => up2_c (by omega))
      have v1 := dep_PV hv hi.2 (v := σ 2 (2 + t) + d) (by omega) (by omega)
      have pl1 := h1.pl hS hp
      refine w_X7_neededDelay_27 ?_
      refine ⟨fun hc1 => ?_, fun hc1 => ?_⟩
      · refine ⟨_, k_fail, ?_⟩
        rintro z1 ρ2 μ3 ⟨hq2_1, hq2_2, hq2_3⟩
        obtain rfl := hq2_1.symm
        obtain rfl := hq2_2.symm
        obtain rfl := hq2_3.symm
        omega
      · refine ⟨(by exact h.1.s), ?_⟩
        rw [st]
        refine ⟨(by omega), ?_⟩
        refine ⟨(by unfold i32; omega), ?_⟩
        refine ⟨(by omega), ?_⟩
        intro μ6 eμ6; subst eμ6
        refine ⟨(by exact h.1.f), ?_⟩
        refine ⟨_, k_play (o := 41) (s := 55) rfl h.1.f rfl (pl1.2.1.eq hv (dep_FEq hi.2)) s1 v1 (by omega) (by omega), ?_⟩
        rintro z8 ρ9 μ10 ⟨hq10_1, f2, r2⟩
        obtain rfl := hq10_1.symm
        have h2 : CI ρ μ10 σ := h1.scr hS (fun a ha => f2 a (by omega))
        have fr2 : FR 0 177 μ0 μ10 := (FR.up hfr (by omega)).trans (f2.mono (by omega) (by omega))
        have s2 := s1.ag (f2.ag (by omega))
        refine ⟨_, k_leavesBehind s2 v1 r2, ?_⟩
        rintro z12 ρ13 μ14 ⟨hz, hq11_1, hq11_2⟩
        obtain rfl := hq11_1.symm
        obtain rfl := hq11_2.symm
        refine ⟨fun hc12 => ?_, fun hc12 => ?_⟩
        · refine ⟨(by unfold i32; omega), ?_⟩
          rw [if_pos (by rcases hz with a | a; exact a.2; omega)] at e
          exact ih (d + 1) μ10 (by omega) (by omega) (by omega) (by rw [he, e]) h2 fr2 ⟨_, s2⟩
        · refine ⟨_, k_answer, ?_⟩
          rintro z16 ρ17 μ18 ⟨hq15_1, hq15_2, hq15_3⟩
          obtain rfl := hq15_1.symm
          obtain rfl := hq15_2.symm
          obtain rfl := hq15_3.symm
          rw [if_neg (by rcases hz with a | a; omega; rw [a.2]; decide)] at e
          exact pc_fin h2 hS fr2 (fun J => by rw [if_pos ⟨hi, by omega⟩]; omega) (by rw [if_pos hi, if_pos (by omega)])
  refine e_X7_neededDelay ?_
  refine ⟨_, k_isTrain h0 hS, ?_⟩
  rintro z1 ρ2 μ3 ⟨hz, hq1_1, hq1_2⟩
  obtain rfl := hq1_1.symm
  obtain rfl := hq1_2.symm
  refine ⟨fun hc2 => ?_, fun hc2 => ?_⟩
  · refine ⟨(by exact h0.1.s), ?_⟩
    have fn := h0.1.fn
    refine ⟨_, k_copyFrom (o := 55) rfl h0.1.s (by omega), ?_⟩
    rintro z6 ρ7 μ8 ⟨hq4_1, f1, c1⟩
    obtain rfl := hq4_1.symm
    have pl := h0.pl hS (by omega)
    have n := pl.1.n
    exact L (by omega) _ 0 μ8 rfl (by omega) (by omega) rfl (h0.scr hS (fun a ha => f1 a (by omega))) (f1.mono (by omega) (by omega)) ⟨σ 2 (2 + t), by rw [u1_id]; exact c1.sp pl.2.2.1 (by omega)⟩
  · refine ⟨_, k_fail, ?_⟩
    rintro z10 ρ11 μ12 ⟨hq6_1, hq6_2, hq6_3⟩
    obtain rfl := hq6_1.symm
    obtain rfl := hq6_2.symm
    obtain rfl := hq6_3.symm
    exact pc_fin h0 hS FR.refl (fun J => (if_neg (fun q => by have := q.1; omega)).symm) (by rw [if_neg (by omega)])
/-- the jobs of a trolley from some index on are dropped -/
def Rx (p q : Pl) (i x : Int) (lab : Int → Int) : Prop :=
  (∀ k, k < 87 → q k = p k) ∧ (∀ j k, 0 ≤ j → j < k → k ≤ q 87 → lab j < lab k) ∧ (∀ j, 0 ≤ j → j ≤ q 87 → 0 ≤ lab j) ∧ lab (q 87) = p 87 ∧
  (∀ j, 0 ≤ j → j < q 87 → ∀ w, 0 ≤ w → w < 5 → q (88 + 5 * j + w) = p (88 + 5 * lab j + w)) ∧
  (∀ j, 0 ≤ j → j < q 87 → x < lab j → q (88 + 5 * j + 0) ≠ i) ∧
  (∀ y, 0 ≤ y → y < p 87 → (y ≤ x ∨ p (88 + 5 * y + 0) ≠ i) → ∃ j, 0 ≤ j ∧ j < q 87 ∧ lab j = y) ∧
  (∀ j, 0 ≤ j → j ≤ x → lab j = j) ∧ x < q 87
theorem Rx_0 (hn : 0 ≤ p 87) {i : Int} : Rx p p i (p 87 - 1) (fun j => j) :=
  ⟨fun _ _ => rfl, fun j k _ h _ => h, fun j h _ => h, rfl, fun _ _ _ _ _ _ => rfl, fun j j0 j1 h => by have h2 : p 87 - 1 < j := h; omega, fun y y0 y1 _ => ⟨y, y0, y1, rfl⟩, fun _ _ _ => rfl, by omega⟩
theorem Rx_k {q : Pl} {i x : Int} {lab : Int → Int} (h : Rx p q i x lab) (hx : 0 ≤ x) (hi : p (88 + 5 * x + 0) ≠ i) : Rx p q i (x - 1) lab := by
  obtain ⟨r1, r2, r3, r4, r5, r6, r7, r8, r9⟩ := h
  refine ⟨r1, r2, r3, r4, r5, fun j j0 j1 hj => ?_, fun y y0 y1 hy => r7 y y0 y1 ?_, fun j j0 j1 => r8 j j0 (by omega), by omega⟩
  · by_cases c : x < lab j
    · exact r6 j j0 j1 c
    · have e : lab j = x := by omega
      rw [r5 j j0 j1 0 (by omega) (by omega), e]
      exact hi
  · rcases hy with a | a
    · exact Or.inl (by omega)
    · exact Or.inr a
theorem Rx_d {q : Pl} {i x : Int} {lab : Int → Int} (h : Rx p q i x lab) (hx : 0 ≤ x) (hi : p (88 + 5 * x + 0) = i) : Rx p (pDrop q x) i (x - 1) (fun j => if j < x then lab j else lab (j + 1)) := by
  obtain ⟨r1, r2, r3, r4, r5, r6, r7, r8, r9⟩ := h
  have e87 : pDrop q x 87 = q 87 - 1 := drop_87
  have lx := r8 x hx (by omega)
  refine ⟨fun k hk => by rw [drop_lo hx hk]; exact r1 k hk, fun j k j0 jk k1 => ?_, fun j j0 j1 => ?_, ?_, fun j j0 j1 w w0 w1 => ?_, fun j j0 j1 hj => ?_, fun y y0 y1 hy => ?_, fun j j0 j1 => ?_, by omega⟩
  · show (if j < x then lab j else lab (j + 1)) < (if k < x then lab k else lab (k + 1))
    split
    · split
      · exact r2 j k j0 jk (by omega)
      · exact r2 j (k + 1) j0 (by omega) (by omega)
    · rw [if_neg (by omega)]
      exact r2 (j + 1) (k + 1) (by omega) (by omega) (by omega)
  · show 0 ≤ (if j < x then lab j else lab (j + 1))
    split
    · exact r3 j j0 (by omega)
    · exact r3 (j + 1) (by omega) (by omega)
  · show (if pDrop q x 87 < x then lab (pDrop q x 87) else lab (pDrop q x 87 + 1)) = p 87
    rw [e87, if_neg (by omega), show q 87 - 1 + 1 = q 87 by omega]
    exact r4
  · rw [e87] at j1
    rw [drop_j hx j0 j1 ⟨w0, w1⟩]
    show _ = p (88 + 5 * (if j < x then lab j else lab (j + 1)) + w)
    by_cases c : j < x
    · rw [if_pos c, if_pos c]; exact r5 j j0 (by omega) w w0 w1
    · rw [if_neg c, if_neg c]; exact r5 (j + 1) (by omega) (by omega) w w0 w1
  · rw [e87] at j1
    rw [drop_j hx j0 j1 (by omega)]
    have hj2 : x - 1 < (if j < x then lab j else lab (j + 1)) := hj
    by_cases c : j < x
    · rw [if_pos c] at hj2
      have := r8 j j0 (by omega)
      omega
    · rw [if_neg c]
      have := r2 x (j + 1) hx (by omega) (by omega)
      exact r6 (j + 1) (by omega) (by omega) (by omega)
  · obtain ⟨j, j0, j1, e⟩ := r7 y y0 y1 (by omega)
    have nx : j ≠ x := fun c => by
      rw [c, lx] at e
      rcases hy with a | a
      · omega
      · rw [← e] at a; exact a hi
    by_cases c : j < x
    · exact ⟨j, j0, by omega, by show (if j < x then lab j else lab (j + 1)) = y; rw [if_pos c]; exact e⟩
    · exact ⟨j - 1, by omega, by omega, by show (if j - 1 < x then lab (j - 1) else lab (j - 1 + 1)) = y; rw [if_neg (by omega), show j - 1 + 1 = j by omega]; exact e⟩
  · show (if j < x then lab j else lab (j + 1)) = j
    rw [if_pos (by omega)]
    exact r8 j j0 (by omega)
theorem Rx_tot {q : Pl} {i : Int} {lab : Int → Int} (h : Rx p q i (-1) lab) (hv : PV q) (hn : 0 ≤ p 87 ∧ p 87 ≤ 20) : s_I (sGo p i (-1) Z0 199) (p 87) = tot q := by
  obtain ⟨r1, r2, r3, r4, r5, r6, r7, r8, r9⟩ := h
  refine rm_tot (lab := lab) ⟨r1, r2, r3, r4, r5, fun j j0 j1 => ?_, fun x x0 x1 hx _ => r7 x x0 x1 (Or.inr hx)⟩ hv hn
  have := r3 j j0 (by omega)
  exact ⟨r6 j j0 j1 (by omega), by omega⟩
theorem c_deliveredWithout {i : Int} (h0 : CI ρ μ0 σ) (hS : SI σ) : qE mX7_deliveredWithout GG GG [qP 0, qI i] ρ μ0 (PC μ0 ρ (fun J => if σ 0 4 = 1 ∧ 0 ≤ i ∧ i < σ 2 61 then s_I (sGo (σ 2) i (-1) Z0 199) (σ 2 87) else -2147483648) (sE σ (if σ 0 4 = 1 ∧ 0 ≤ i ∧ i < σ 2 61 then 0 else 1))) := by
  have L : (σ 0 4 = 1 ∧ 0 ≤ i ∧ i < σ 2 61) → ∀ (m : Nat) (x : Int) (q : Pl) (lab : Int → Int) (μ : Mem), x.toNat + 1 ≤ m + (if x < 0 then 1 else 0) → -1 ≤ x → x < σ 2 87 → CI ρ μ σ → FR 0 177 μ0 μ → SP μ 55 q → PV q → Rx (σ 2) q i x lab → qX mX7_deliveredWithout GG (PC μ0 ρ (fun J => if σ 0 4 = 1 ∧ 0 ≤ i ∧ i < σ 2 61 then s_I (sGo (σ 2) i (-1) Z0 199) (σ 2 87) else -2147483648) (sE σ (if σ 0 4 = 1 ∧ 0 ≤ i ∧ i < σ 2 61 then 0 else 1))) GG (0, 0) 35 [some (qP 0), some (qI i), some (qI x)] [] ρ μ := by
    intro hi m
    have hp := hi.1
    induction m with
    | zero =>
      intro x q lab μ hm x0 x1 h hfr hsp hvq hR
      have xe : x = -1 := by split at hm <;> omega
      subst xe
      have pl := h.pl hS hp
      have n := pl.1.n
      refine w_X7_deliveredWithout_35 ?_
      refine ⟨fun hc1 => ?_, fun hc1 => ?_⟩
      · refine ⟨_, k_rehearse h hS hp hsp hvq (fun k hk => hR.1 k (by omega)), ?_⟩
        rintro z1 ρ2 μ3 ⟨hq2_1, hq2_2, f2, r2⟩
        obtain rfl := hq2_1.symm
        obtain rfl := hq2_2.symm
        refine ⟨_, k_answer, ?_⟩
        rintro z5 ρ6 μ7 ⟨hq3_1, hq3_2, hq3_3⟩
        obtain rfl := hq3_1.symm
        obtain rfl := hq3_2.symm
        obtain rfl := hq3_3.symm
        exact pc_fin (h.scr hS (fun a ha => f2 a (by omega))) hS (hfr.trans (f2.mono (by omega) (by omega))) (fun J => by rw [if_pos hi]; exact (Rx_tot hR hvq (by omega)).symm) (by rw [if_pos hi])
      · omega
    | succ m ih =>
      intro x q lab μ hm x0 x1 h hfr hsp hvq hR
      obtain ⟨hv, hf, hs, hr⟩ := h.pl hS hp
      have n := hv.n
      have nq := hvq.n
      have fn := h.1.fn
      have rl := hR.2.2.2.2.2.2.2.2
      refine w_X7_deliveredWithout_35 ?_
      refine ⟨fun hc1 => ?_, fun hc1 => ?_⟩
      · refine ⟨_, k_rehearse h hS hp hsp hvq (fun k hk => hR.1 k (by omega)), ?_⟩
        rintro z1 ρ2 μ3 ⟨hq2_1, hq2_2, f2, r2⟩
        obtain rfl := hq2_1.symm
        obtain rfl := hq2_2.symm
        refine ⟨_, k_answer, ?_⟩
        rintro z5 ρ6 μ7 ⟨hq3_1, hq3_2, hq3_3⟩
        obtain rfl := hq3_1.symm
        obtain rfl := hq3_2.symm
        obtain rfl := hq3_3.symm
        have xe : x = -1 := by omega
        subst xe
        exact pc_fin (h.scr hS (fun a ha => f2 a (by omega))) hS (hfr.trans (f2.mono (by omega) (by omega))) (fun J => by rw [if_pos hi]; exact (Rx_tot hR hvq (by omega)).symm) (by rw [if_pos hi])
      · refine ⟨(by exact h.1.s), ?_⟩
        refine ⟨(by omega), ?_⟩
        rw [(hs.j (j := x) (by omega) x1).1]
        have hm2 : (x + (-1)).toNat + 1 ≤ m + (if x + (-1) < 0 then 1 else 0) := by
          split at hm <;> split <;> omega
        refine ⟨fun hc7 => ?_, fun hc7 => ?_⟩
        · refine ⟨(by unfold i32; omega), ?_⟩
          have R2 := Rx_k hR (by omega) hc7
          rw [Int.sub_eq_add_neg] at R2
          exact ih (x + (-1)) q lab μ hm2 (by omega) (by omega) h hfr hsp hvq R2
        · refine ⟨_, k_removeAt (o := 55) rfl hsp (by omega) (by omega), ?_⟩
          rintro z10 ρ11 μ12 ⟨hq10_1, f1, s1⟩
          obtain rfl := hq10_1.symm
          refine ⟨(by unfold i32; omega), ?_⟩
          have R2 := Rx_d hR (by omega) (by omega)
          rw [Int.sub_eq_add_neg] at R2
          exact ih (x + (-1)) _ _ μ12 hm2 (by omega) (by omega) (h.scr hS (fun a ha => f1 a (by omega))) (hfr.trans (f1.mono (by omega) (by omega))) s1 (drop_PV hvq (by omega)) R2
  refine e_X7_deliveredWithout ?_
  refine ⟨_, k_isTrolley h0 hS, ?_⟩
  rintro z1 ρ2 μ3 ⟨hz, hq1_1, hq1_2⟩
  obtain rfl := hq1_1.symm
  obtain rfl := hq1_2.symm
  refine ⟨fun hc2 => ?_, fun hc2 => ?_⟩
  · refine ⟨(by exact h0.1.s), ?_⟩
    have fn := h0.1.fn
    refine ⟨_, k_copyFrom (o := 55) rfl h0.1.s (by omega), ?_⟩
    rintro z6 ρ7 μ8 ⟨hq4_1, f1, c1⟩
    obtain rfl := hq4_1.symm
    refine ⟨(by exact h0.1.s), ?_⟩
    have pl := h0.pl hS (by omega)
    have n := pl.1.n
    have h1 : CI ρ μ8 σ := h0.scr hS (fun a ha => f1 a (by omega))
    have pl1 := h1.pl hS (by omega)
    rw [pl1.2.2.1.n]
    refine ⟨(by unfold i32; omega), ?_⟩
    exact L (by omega) _ _ (σ 2) (fun j => j) μ8 (Nat.le_add_right _ _) (by omega) (by omega) h1 (f1.mono (by omega) (by omega)) (c1.sp pl.2.2.1 (by omega)) pl.1 (Rx_0 (by omega))
  · refine ⟨_, k_fail, ?_⟩
    rintro z11 ρ12 μ13 ⟨hq8_1, hq8_2, hq8_3⟩
    obtain rfl := hq8_1.symm
    obtain rfl := hq8_2.symm
    obtain rfl := hq8_3.symm
    exact pc_fin h0 hS FR.refl (fun J => (if_neg (by omega)).symm) (by rw [if_neg (by omega)])
end MZ
