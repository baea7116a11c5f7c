/-! ===== what-if plans ===== -/
def tot (p : Pl) : Int := s_I (sGo p (-1) (-1) Z0 199) (p 87)
theorem tot_j {p : Pl} (hv : PV p) {J : Mem} : s_I (sGo p (-1) (-1) J 199) (p 87) = tot p := s_Ic hv.n.2.2.2.2.2.2.1 (fun j j0 j1 => ((go_core (wo := -1) (J := J) (J' := Z0) hv).2 j j0 j1).2)
theorem tot_b {p : Pl} (hv : PV p) : 0 ≤ tot p ∧ tot p ≤ 1980 := by
  have n := hv.n
  have sv := SV_go (p := p) (wo := -1) (out := -1) (J := Z0) hv
  have b := s_Ib (f := sGo p (-1) (-1) Z0 199) (n := p 87) (b := 99) (by omega) (fun j j0 j1 => by have := sv.2.2.2 j j0 (by omega); omega)
  unfold tot
  omega
theorem FP.eq {μ : Mem} {f : Nat} {p q : Pl} (h : FP μ f p) (hv : PV p) (e : FEq p q) : FP μ f q := by
  have n := hv.n
  have a4 : ∀ t, 0 ≤ t → t < 2 → q (4 + t) = p (4 + t) := fun t t0 t1 => e _ (by omega)
  refine ⟨fun t t0 t1 => ?_, fun t t0 t1 c c0 c1 => ?_, fun m m0 m1 => ?_, fun k k0 k1 => ?_, fun i i0 i1 => ?_, ?_⟩
  · rw [e (0 + t) (by omega), a4 t t0 t1]; exact h.t t0 t1
  · rw [a4 t t0 t1] at c1
    have tt := hv.t t0 t1
    rw [e (6 + 5 * t + c) (by omega), e (16 + (5 * t + c)) (by omega), e (26 + (5 * t + c)) (by omega)]
    exact h.c t0 t1 c0 c1
  · rw [e 36 (by omega)] at m1
    rw [e (37 + m) (by omega), e (41 + m) (by omega)]; exact h.m m0 m1
  · rw [e 45 (by omega)] at k1
    rw [e (46 + k) (by omega)]; exact h.k k0 k1
  · rw [e 61 (by omega)] at i1
    rw [e (62 + 5 * i + 0) (by omega), e (62 + 5 * i + 1) (by omega), e (62 + 5 * i + 2) (by omega), e (62 + 5 * i + 3) (by omega), e (62 + 5 * i + 4) (by omega)]
    exact h.i i0 i1
  · rw [e 36 (by omega), e 45 (by omega), e 61 (by omega)]; exact h.n
/-- a plan with the same fixed part, other jobs, departures, stocks -/
theorem PV.eq {p q : Pl} (hv : PV p) (e : FEq p q) (h2 : ∀ t, 0 ≤ t → t < 2 → p (0 + t) ≤ q (2 + t) ∧ q (2 + t) ≤ 1059) (h49 : ∀ k, 0 ≤ k → k < 12 → 0 ≤ q (49 + k) ∧ q (49 + k) ≤ 999) (h87 : 0 ≤ q 87 ∧ q 87 ≤ 20) (hj : ∀ j, 0 ≤ j → j < q 87 → 0 ≤ q (88 + 5 * j + 0) ∧ q (88 + 5 * j + 0) < p 61 ∧ 0 ≤ q (88 + 5 * j + 1) ∧ q (88 + 5 * j + 1) < 2 ∧ 0 ≤ q (88 + 5 * j + 2) ∧ q (88 + 5 * j + 2) < p (4 + q (88 + 5 * j + 1)) ∧ 0 ≤ q (88 + 5 * j + 3) ∧ q (88 + 5 * j + 3) < p 36 ∧ 1 ≤ q (88 + 5 * j + 4) ∧ q (88 + 5 * j + 4) ≤ 99) : PV q := by
  have n := hv.n
  have a4 : ∀ t, 0 ≤ t → t < 2 → q (4 + t) = p (4 + t) := fun t t0 t1 => e _ (by omega)
  refine ⟨fun t t0 t1 => ?_, fun t t0 t1 c c0 c1 => ?_, fun m m0 m1 => ?_, fun k k0 k1 => ?_, h49, fun i i0 i1 => ?_, fun j j0 j1 => ?_, ?_⟩
  · have := hv.t t0 t1
    have := h2 t t0 t1
    rw [e (0 + t) (by omega), a4 t t0 t1]; omega
  · rw [a4 t t0 t1] at c1
    have tt := hv.t t0 t1
    rw [e (6 + 5 * t + c) (by omega), e (16 + (5 * t + c)) (by omega), e (26 + (5 * t + c)) (by omega)]
    exact hv.c t0 t1 c0 c1
  · rw [e 36 (by omega)] at m1
    rw [e (37 + m) (by omega), e (41 + m) (by omega)]; exact hv.m m0 m1
  · rw [e 45 (by omega)] at k1
    rw [e (46 + k) (by omega)]; exact hv.k k0 k1
  · rw [e 61 (by omega)] at i1
    rw [e (62 + 5 * i + 0) (by omega), e (62 + 5 * i + 1) (by omega), e (62 + 5 * i + 2) (by omega), e (62 + 5 * i + 3) (by omega), e (62 + 5 * i + 4) (by omega), e 45 (by omega)]
    exact hv.i i0 i1
  · have := hj j j0 j1
    rw [e 61 (by omega), e 36 (by omega), a4 _ this.2.2.1 this.2.2.2.1]
    exact this
  · rw [e 36 (by omega), e 45 (by omega), e 61 (by omega)]; omega
theorem drop_lo {p : Pl} {r k : Int} (hr : 0 ≤ r) (hk : k < 87) : pDrop p r k = p k := by
  unfold pDrop
  rw [if_neg (by omega), if_neg (by omega)]
theorem drop_87 {p : Pl} {r : Int} : pDrop p r 87 = p 87 - 1 := by simp [pDrop]
theorem drop_j {p : Pl} {r j w : Int} (hr : 0 ≤ r) (hj : 0 ≤ j) (hj1 : j < p 87 - 1) (hw : 0 ≤ w ∧ w < 5) : pDrop p r (88 + 5 * j + w) = p (88 + 5 * (if j < r then j else j + 1) + w) := by
  unfold pDrop
  by_cases h : j < r
  · rw [if_neg (by omega), if_neg (by omega), if_pos h]
  · rw [if_neg (by omega), if_pos (by omega), if_neg h]
    congr 1
    omega
theorem drop_FEq {p : Pl} {r : Int} (hr : 0 ≤ r) : FEq p (pDrop p r) := fun k hk => drop_lo hr (by omega)
theorem drop_PV {p : Pl} (hv : PV p) {r : Int} (hr : 0 ≤ r ∧ r < p 87) : PV (pDrop p r) := by
  have n := hv.n
  refine hv.eq (drop_FEq hr.1) (fun t t0 t1 => ?_) (fun k k0 k1 => ?_) (by rw [drop_87]; omega) (fun j j0 j1 => ?_)
  · rw [drop_lo hr.1 (by omega)]
    have := hv.t t0 t1
    omega
  · rw [drop_lo hr.1 (by omega)]; exact hv.s k0 k1
  · rw [drop_87] at j1
    rw [drop_j hr.1 j0 j1 (by omega), drop_j hr.1 j0 j1 (by omega), drop_j hr.1 j0 j1 (by omega), drop_j hr.1 j0 j1 (by omega), drop_j hr.1 j0 j1 (by omega)]
    exact hv.j (by split <;> omega) (by split <;> omega)
theorem swap_o {p : Pl} {a b k : Int} (ha : 0 ≤ a) (hb : 0 ≤ b) (hk : k < 88) : pSwap p a b k = p k := by
  unfold pSwap
  rw [if_neg (by omega), if_neg (by omega)]
theorem swap_j {p : Pl} {a b j w : Int} (hw : 0 ≤ w ∧ w < 5) : pSwap p a b (88 + 5 * j + w) = p (88 + 5 * (if j = a then b else if j = b then a else j) + w) := by
  unfold pSwap
  by_cases h : j = a
  · rw [if_pos (by omega), if_pos h]
    congr 1
    omega
  · by_cases h2 : j = b
    · rw [if_neg (by omega), if_pos (by omega), if_neg h, if_pos h2]
      congr 1
      omega
    · rw [if_neg (by omega), if_neg (by omega), if_neg h, if_neg h2]
theorem swap_FEq {p : Pl} {a b : Int} (ha : 0 ≤ a) (hb : 0 ≤ b) : FEq p (pSwap p a b) := fun k hk => swap_o ha hb (by omega)
theorem swap_PV {p : Pl} (hv : PV p) {a b : Int} (ha : 0 ≤ a ∧ a < p 87) (hb : 0 ≤ b ∧ b < p 87) : PV (pSwap p a b) := by
  have n := hv.n
  refine hv.eq (swap_FEq ha.1 hb.1) (fun t t0 t1 => ?_) (fun k k0 k1 => ?_) (by rw [swap_o ha.1 hb.1 (by omega)]; omega) (fun j j0 j1 => ?_)
  · rw [swap_o ha.1 hb.1 (by omega)]
    have := hv.t t0 t1
    omega
  · rw [swap_o ha.1 hb.1 (by omega)]; exact hv.s k0 k1
  · rw [swap_o ha.1 hb.1 (by omega)] at j1
    rw [swap_j (by omega), swap_j (by omega), swap_j (by omega), swap_j (by omega), swap_j (by omega)]
    exact hv.j (by split <;> (try split) <;> omega) (by split <;> (try split) <;> omega)
theorem swap_swap {p : Pl} {a b : Int} (h : a ≠ b) : pSwap (pSwap p a b) a b = p := by
  funext k
  unfold pSwap
  by_cases h1 : 88 + 5 * a ≤ k ∧ k < 88 + 5 * a + 5
  · rw [if_pos h1, if_neg (by omega), if_pos (by omega)]
    congr 1
    omega
  · rw [if_neg h1]
    by_cases h2 : 88 + 5 * b ≤ k ∧ k < 88 + 5 * b + 5
    · rw [if_pos h2, if_pos (by omega)]
      congr 1
      omega
    · rw [if_neg h2, if_neg h1, if_neg h2]
theorem by_FEq {p : Pl} {j i : Int} (hj : 0 ≤ j) : FEq p (u1 p (88 + 5 * j + 0) i) := fun k hk => u1_n (by omega)
theorem by_PV {p : Pl} (hv : PV p) {j i : Int} (hj : 0 ≤ j ∧ j < p 87) (hi : 0 ≤ i ∧ i < p 61) : PV (u1 p (88 + 5 * j + 0) i) := by
  have n := hv.n
  have e : ∀ k, k ≠ 88 + 5 * j + 0 → u1 p (88 + 5 * j + 0) i k = p k := fun k h => u1_n h
  refine hv.eq (by_FEq hj.1) (fun t t0 t1 => ?_) (fun k k0 k1 => ?_) (by rw [e _ (by omega)]; omega) (fun x x0 x1 => ?_)
  · rw [e _ (by omega)]
    have := hv.t t0 t1
    omega
  · rw [e _ (by omega)]; exact hv.s k0 k1
  · rw [e _ (by omega)] at x1
    have a := hv.j x0 x1
    rw [e (88 + 5 * x + 1) (by omega), e (88 + 5 * x + 2) (by omega), e (88 + 5 * x + 3) (by omega), e (88 + 5 * x + 4) (by omega)]
    by_cases h : x = j
    · subst h
      rw [u1_s]
      exact ⟨hi.1, hi.2, a.2.2⟩
    · rw [e _ (by omega)]; exact a
theorem dep_FEq {p : Pl} {t v : Int} (ht : 0 ≤ t ∧ t < 2) : FEq p (u1 p (2 + t) v) := fun k hk => u1_n (by omega)
theorem dep_PV {p : Pl} (hv : PV p) {t v : Int} (ht : 0 ≤ t ∧ t < 2) (h0 : p (0 + t) ≤ v) (h1 : v ≤ 1059) : PV (u1 p (2 + t) v) := by
  have n := hv.n
  have e : ∀ k, k ≠ 2 + t → u1 p (2 + t) v k = p k := fun k h => u1_n h
  refine hv.eq (dep_FEq ht) (fun s s0 s1 => ?_) (fun k k0 k1 => ?_) (by rw [e _ (by omega)]; omega) (fun x x0 x1 => ?_)
  · by_cases h : s = t
    · subst h
      rw [u1_s]; exact ⟨h0, h1⟩
    · rw [e _ (by omega)]
      have := hv.t s0 s1
      omega
  · rw [e _ (by omega)]; exact hv.s k0 k1
  · rw [e _ (by omega)] at x1
    rw [e (88 + 5 * x + 0) (by omega), e (88 + 5 * x + 1) (by omega), e (88 + 5 * x + 2) (by omega), e (88 + 5 * x + 3) (by omega), e (88 + 5 * x + 4) (by omega)]
    exact hv.j x0 x1
/-- one job dropped is one job left out -/
theorem drop_Rm {p : Pl} (hv : PV p) {r : Int} (hr : 0 ≤ r ∧ r < p 87) : Rm p (pDrop p r) (-1) r (fun j => if j < r then j else j + 1) := by
  have e87 : pDrop p r 87 = p 87 - 1 := drop_87
  refine ⟨fun k hk => drop_lo hr.1 hk, fun j k j0 jk k1 => ?_, fun j j0 j1 => ?_, ?_, fun j j0 j1 w w0 w1 => ?_, fun j j0 j1 => ?_, fun x x0 x1 _ hx => ?_⟩
  · show (if j < r then j else j + 1) < (if k < r then k else k + 1)
    split <;> split <;> omega
  · show 0 ≤ (if j < r then j else j + 1)
    split <;> omega
  · show (if pDrop p r 87 < r then pDrop p r 87 else pDrop p r 87 + 1) = p 87
    rw [e87, if_neg (by omega)]
    omega
  · rw [e87] at j1
    exact drop_j hr.1 j0 j1 ⟨w0, w1⟩
  · rw [e87] at j1
    rw [drop_j hr.1 j0 j1 (by omega)]
    have a := (hv.j (j := if j < r then j else j + 1) (by split <;> omega) (by split <;> omega)).1
    refine ⟨by omega, ?_⟩
    show (if j < r then j else j + 1) ≠ r
    split <;> omega
  · rw [e87]
    by_cases h : x < r
    · exact ⟨x, x0, by omega, if_pos h⟩
    · exact ⟨x - 1, by omega, by omega, by show (if x - 1 < r then x - 1 else x - 1 + 1) = x; rw [if_neg (by omega)]; omega⟩
theorem drop_tot {p : Pl} (hv : PV p) {r : Int} {J : Mem} (hr : 0 ≤ r ∧ r < p 87) : s_I (sGo p (-1) r J 199) (p 87) = tot (pDrop p r) := by
  have n := hv.n
  exact rm_tot (J' := Z0) (drop_Rm hv hr) (drop_PV hv hr) (by omega)
/-! ### the most of some values -/
def fm (a : Int) (T : Nat → Int) : Nat → Int
  | 0 => a
  | k + 1 => if fm a T k < T k then T k else fm a T k
def fa (a b : Int) (T lab : Nat → Int) : Nat → Int
  | 0 => b
  | k + 1 => if fm a T k < T k then lab k else fa a b T lab k
section WH
variable {ρ : Rf} {μ μ0 : Mem} {p q : Pl} {σ : Sg}
theorem k_rehearse (h : CI ρ μ σ) (hS : SI σ) (hp : σ 0 4 = 1) (hs : SP μ 55 q) (hv : PV q) (e : FEq (σ 2) q) : qE mX7_rehearse GG GG [qP 0] ρ μ (fun z ρ' μ' => z = tot q ∧ ρ' = ρ ∧ FR 41 54 μ μ' ∧ RP q 41 μ') := by
  have pl := h.pl hS hp
  have fn := h.1.fn
  refine e_X7_rehearse ?_
  refine ⟨(by exact h.1.f), ?_⟩
  refine ⟨_, k_play (o := 41) (s := 55) rfl h.1.f rfl (pl.2.1.eq pl.1 e) hs hv (by omega) (by omega), ?_⟩
  rintro z2 ρ3 μ4 ⟨hq2_1, fr, rp⟩
  obtain rfl := hq2_1.symm
  exact ⟨by rw [(rp Z0).2.2]; rfl, rfl, fr, rp⟩
/-! ### the worst job -/
def wjT (p : Pl) (k : Nat) : Int := tot (pDrop p (k : Int))
def wj (p : Pl) : Int := fa (tot p) (-1) (wjT p) (fun k => (k : Int)) (p 87).toNat
theorem fa_b {a b : Int} {T lab : Nat → Int} : ∀ k, fa a b T lab k = b ∨ ∃ j, j < k ∧ fa a b T lab k = lab j := by
  intro k
  induction k with
  | zero => exact Or.inl rfl
  | succ k ih =>
    have e : fa a b T lab (k + 1) = if fm a T k < T k then lab k else fa a b T lab k := rfl
    split at e
    · exact Or.inr ⟨k, by omega, e⟩
    · rw [e]
      rcases ih with z | ⟨j, hj, z⟩
      · exact Or.inl z
      · exact Or.inr ⟨j, by omega, z⟩
theorem c_worstJob (h0 : CI ρ μ0 σ) (hS : SI σ) : qE mX7_worstJob GG GG [qP 0] ρ μ0 (PC μ0 ρ (fun J => if σ 0 4 = 1 ∧ 0 ≤ wj (σ 2) then wj (σ 2) else -2147483648) (sE σ (if σ 0 4 = 1 then (if 0 ≤ wj (σ 2) then 0 else 6) else 1))) := by
  have h8 := h0.2.2.2.2.2.2.2.1
  have hb := hS.2.2.1
  have L : σ 0 4 = 1 → ∀ (m : Nat) (x : Nat) (μ : Mem), (σ 2 87).toNat - x < m → (x : Int) ≤ σ 2 87 → CI ρ μ σ → FR 0 177 μ0 μ → qX mX7_worstJob GG (PC μ0 ρ (fun J => if σ 0 4 = 1 ∧ 0 ≤ wj (σ 2) then wj (σ 2) else -2147483648) (sE σ (if σ 0 4 = 1 then (if 0 ≤ wj (σ 2) then 0 else 6) else 1))) GG (0, 0) 25 [some (qP 0), some (qI (fa (tot (σ 2)) (-1) (wjT (σ 2)) (fun k => (k : Int)) x)), some (qI (fm (tot (σ 2)) (wjT (σ 2)) x)), some (qI (x : Int)), none] [] ρ μ := by
    intro hp m
    induction m with
    | zero => intro x μ h; omega
    | succ m ih =>
      intro x μ hm hx h hfr
      obtain ⟨hv, hf, hs, hr⟩ := h.pl hS hp
      have n := hv.n
      have fn := h.1.fn
      have ex : ((x : Int) + 1) = ((x + 1 : Nat) : Int) := by omega
      have ea : fa (tot (σ 2)) (-1) (wjT (σ 2)) (fun k => (k : Int)) (x + 1) = if fm (tot (σ 2)) (wjT (σ 2)) x < wjT (σ 2) x then (x : Int) else fa (tot (σ 2)) (-1) (wjT (σ 2)) (fun k => (k : Int)) x := rfl
      have em : fm (tot (σ 2)) (wjT (σ 2)) (x + 1) = if fm (tot (σ 2)) (wjT (σ 2)) x < wjT (σ 2) x then wjT (σ 2) x else fm (tot (σ 2)) (wjT (σ 2)) x := rfl
      refine w_X7_worstJob_25 ?_
      refine ⟨(by exact h.1.s), ?_⟩
      rw [hs.n]
      refine ⟨fun hc2 => ?_, fun hc2 => ?_⟩
      · have we : fa (tot (σ 2)) (-1) (wjT (σ 2)) (fun k => (k : Int)) x = wj (σ 2) := by unfold wj; rw [show (σ 2 87).toNat = x by omega]
        refine ⟨fun hc3 => ?_, fun hc3 => ?_⟩
        · refine ⟨_, k_answer, ?_⟩
          rintro z2 ρ3 μ4 ⟨hq4_1, hq4_2, hq4_3⟩
          obtain rfl := hq4_1.symm
          obtain rfl := hq4_2.symm
          obtain rfl := hq4_3.symm
          exact pc_fin h hS hfr (fun J => by rw [we, if_pos ⟨hp, by omega⟩]) (by rw [if_pos hp, if_pos (by omega)])
        · refine ⟨_, k_fail, ?_⟩
          rintro z6 ρ7 μ8 ⟨hq6_1, hq6_2, hq6_3⟩
          obtain rfl := hq6_1.symm
          obtain rfl := hq6_2.symm
          obtain rfl := hq6_3.symm
          exact pc_fin h hS hfr (fun J => (if_neg (by omega)).symm) (by rw [if_pos hp, if_neg (by omega)])
      · refine ⟨_, k_copyFrom (o := 55) rfl h.1.s (by omega), ?_⟩
        rintro z10 ρ11 μ12 ⟨hq8_1, f1, c1⟩
        obtain rfl := hq8_1.symm
        have s1 := c1.sp hs (by omega)
        refine ⟨_, k_removeAt (o := 55) rfl s1 (by omega) (by omega), ?_⟩
        rintro z14 ρ15 μ16 ⟨hq9_1, f2, s2⟩
        obtain rfl := hq9_1.symm
        have h2 : CI ρ μ16 σ := h.scr hS (fun a ha => by rw [f2 a (by omega), f1 a (by omega)])
        refine ⟨_, k_rehearse h2 hS hp s2 (drop_PV hv (by omega)) (drop_FEq (by omega)), ?_⟩
        rintro z18 ρ19 μ20 ⟨hq10_1, hq10_2, f3, r3⟩
        obtain rfl := hq10_1.symm
        obtain rfl := hq10_2.symm
        have h3 : CI ρ μ20 σ := h2.scr hS (fun a ha => f3 a (by omega))
        have fr3 : FR 0 177 μ0 μ20 := ((hfr.trans (f1.mono (by omega) (by omega))).trans (f2.mono (by omega) (by omega))).trans (f3.mono (by omega) (by omega))
        have tw : tot (pDrop (σ 2) (x : Int)) = wjT (σ 2) x := rfl
        rw [tw]
        refine ⟨fun hc11 => ?_, fun hc11 => ?_⟩
        · refine ⟨(by unfold i32; omega), ?_⟩
          rw [if_neg (by omega)] at ea em
          rw [ex, ← ea, ← em]
          exact ih (x + 1) _ (by omega) (by omega) h3 fr3
        · refine ⟨(by unfold i32; omega), ?_⟩
          rw [if_pos (by omega)] at ea em
          have := ih (x + 1) _ (by omega) (by omega) h3 fr3
          rw [ea, em, ← ex] at this
          exact this
  refine e_X7_worstJob ?_
  refine ⟨fun hc1 => ?_, fun hc1 => ?_⟩
  · have hp : σ 0 4 = 1 := by omega
    have pl := h0.pl hS hp
    rw [(pl.2.2.2 Z0).2.2]
    exact L hp _ 0 μ0 (Nat.lt_succ_self _) (by have := pl.1.n; omega) h0 FR.refl
  · refine ⟨_, k_fail, ?_⟩
    rintro z1 ρ2 μ3 ⟨hq3_1, hq3_2, hq3_3⟩
    obtain rfl := hq3_1.symm
    obtain rfl := hq3_2.symm
    obtain rfl := hq3_3.symm
    exact pc_fin h0 hS FR.refl (fun J => (if_neg (by omega)).symm) (by rw [if_neg (by omega)])
end WH
