/-! ===== what one trolley can do alone: the class ===== -/
def PJo (μ : Mem) (p : Pl) (v c j : Int) : Prop := μ 142 c = j ∧ μ 144 c = oMe p j ∧ μ 145 c = oTd p v j ∧ μ 146 c = oUn p j ∧ μ 147 c = oWb p v j ∧ μ 148 c = oAr p j ∧ μ 149 c = oDe p j
section CSo
variable {ρ : Rf} {μ μ0 : Mem} {p : Pl}
theorem k_studyJob {f s : Nat} {c j v : Int} (hf : isO 0 f) (hs : isO 6 s) (ff : (f = 155 ∧ s = 171) ∨ (f = 4 ∧ s = 20)) (F : FP μ f p) (S : SP μ s p) (hv : PV p) (hc : μ 141 2 = c) (c0 : 0 ≤ c) (c1 : c < 8) (j0 : 0 ≤ j) (j1 : j < p 87) (v0 : 1 ≤ v) (v1 : v ≤ 9) : qE mX5_studyJob GG GG [qP 141, qP f, qP s, qI j, qI v] ρ μ (fun _ ρ' μ' => ρ' = ρ ∧ FR 141 149 μ μ' ∧ μ' 141 2 = c + 1 ∧ PJo μ' p v c j ∧ ∀ a k, 142 ≤ a → k ≠ c → μ' a k = μ a k) := by
  have n := hv.n
  have a := hv.j j0 j1
  have b := hv.i a.1 a.2.1
  have tt := hv.t a.2.2.1 a.2.2.2.1
  have o := o_b hv j0 j1 v0
  have sj := S.j j0 j1
  have fi := F.i a.1 a.2.1
  have e14 := fi.2.2.2.1
  have e15 := fi.2.2.2.2
  have e2 := (F.t a.2.2.1 a.2.2.2.1).1
  have e5 := S.t a.2.2.1 a.2.2.2.1
  have e4 := sj.2.2.2
  have m1 := mulb (a := oMe p j) (b := p (62 + 5 * p (88 + 5 * j + 0) + 3)) (A := 99) (B := 5) (by omega) (by omega) (by omega) (by omega)
  have m2 := mulb (a := oMe p j) (b := p (62 + 5 * p (88 + 5 * j + 0) + 4)) (A := 99) (B := 5) (by omega) (by omega) (by omega) (by omega)
  have L : ∀ s0 : Int, s0 = p (88 + 5 * j + 1) → qX mX5_studyJob GG (fun _ ρ' μ' => ρ' = ρ ∧ FR 141 149 μ μ' ∧ μ' 141 2 = c + 1 ∧ PJo μ' p v c j ∧ ∀ a k, 142 ≤ a → k ≠ c → μ' a k = μ a k) GG (0, 0) 27 [some (qP 141), some (qP f), some (qP s), some (qI j), some (qI v), some (qI (p (88 + 5 * j + 0))), some (qI (5 * p (88 + 5 * j + 1) + p (88 + 5 * j + 2))), none] [qI s0] ρ μ := by
    intro s0 h0
    subst h0
    refine w_X5_studyJob_27 hf hs ?_
    rw [hc]
    refine ⟨(by omega), ?_⟩
    intro μ1 eμ1; subst eμ1
    try simp (disch := omega) only [up2_c, up2_s, hc, e14, e15, e2, e4, e5]
    refine ⟨(by omega), ?_⟩
    refine ⟨_, k_mostMeals hf (F.ag (AG.up AG.refl (by omega))) hv a.1 a.2.1, ?_⟩
    rintro z2 ρ3 μ4 ⟨hq4_1, hq4_2, hq4_3⟩
    obtain rfl := hq4_1.symm
    obtain rfl := hq4_2.symm
    obtain rfl := hq4_3.symm
    try simp (disch := omega) only [up2_c, up2_s, hc, e14, e15, e2, e4, e5]
    rw [show min (p (88 + 5 * j + 4)) (p (62 + 5 * p (88 + 5 * j + 0) + 1)) = oMe p j from rfl]
    refine ⟨(by omega), ?_⟩
    intro μ6 eμ6; subst eμ6
    try simp (disch := omega) only [up2_c, up2_s, hc, e14, e15, e2, e4, e5]
    refine ⟨_, k_walk hf (F.ag (AG.up (AG.up AG.refl (by omega)) (by omega))) hv a.1 a.2.1 a.2.2.1 a.2.2.2.1 a.2.2.2.2.1 a.2.2.2.2.2.1 rfl (by omega), ?_⟩
    rintro z7 ρ8 μ9 ⟨hq7_1, hq7_2, hq7_3⟩
    obtain rfl := hq7_1.symm
    obtain rfl := hq7_2.symm
    obtain rfl := hq7_3.symm
    try simp (disch := omega) only [up2_c, up2_s, hc, e14, e15, e2, e4, e5]
    rw [show wkG p (p (88 + 5 * j + 0)) (p (88 + 5 * j + 1)) (p (88 + 5 * j + 2)) v = oWb p v j from rfl]
    refine ⟨(by omega), ?_⟩
    intro μ11 eμ11; subst eμ11
    try simp (disch := omega) only [up2_c, up2_s, hc, e14, e15, e2, e4, e5]
    refine ⟨(by omega), ?_⟩
    refine ⟨(by omega), ?_⟩
    refine ⟨(by unfold i32; omega), ?_⟩
    refine ⟨(by omega), ?_⟩
    refine ⟨(by unfold i32; omega), ?_⟩
    refine ⟨(by omega), ?_⟩
    intro μ12 eμ12; subst eμ12
    try simp (disch := omega) only [up2_c, up2_s, hc, e14, e15, e2, e4, e5]
    refine ⟨(by omega), ?_⟩
    refine ⟨(by omega), ?_⟩
    refine ⟨(by unfold i32; omega), ?_⟩
    refine ⟨(by omega), ?_⟩
    intro μ13 eμ13; subst eμ13
    try simp (disch := omega) only [up2_c, up2_s, hc, e14, e15, e2, e4, e5]
    refine ⟨(by omega), ?_⟩
    refine ⟨(by omega), ?_⟩
    intro μ14 eμ14; subst eμ14
    try simp (disch := omega) only [up2_c, up2_s, hc, e14, e15, e2, e4, e5]
    refine ⟨(by omega), ?_⟩
    refine ⟨(by omega), ?_⟩
    intro μ15 eμ15; subst eμ15
    try simp (disch := omega) only [up2_c, up2_s, hc, e14, e15, e2, e4, e5]
    refine ⟨(by unfold i32; omega), ?_⟩
    intro μ16 eμ16; subst eμ16
    try simp (disch := omega) only [up2_c, up2_s, hc, e14, e15, e2, e4, e5]
    refine ⟨by trivial, ?_, by trivial, ⟨?_, ?_, ?_, ?_, ?_, ?_, ?_⟩, fun x k hx hk => ?_⟩
    · exact FR.up (FR.up (FR.up (FR.up (FR.up (FR.up (FR.up (FR.up FR.refl (by omega)) (by omega)) (by omega)) (by omega)) (by omega)) (by omega)) (by omega)) (by omega)
    · simp (disch := omega) only [up2_c, up2_s]
    · simp (disch := omega) only [up2_c, up2_s]
    · simp (disch := omega) only [up2_c, up2_s]; rfl
    · simp (disch := omega) only [up2_c, up2_s]; rfl
    · simp (disch := omega) only [up2_c, up2_s]
    · simp (disch := omega) only [up2_c, up2_s]; rfl
    · simp (disch := omega) only [up2_c, up2_s]; rfl
    · rw [up2_n (by omega), up2_n (by omega), up2_n (by omega), up2_n (by omega), up2_n (by omega), up2_n (by omega), up2_n (by omega), up2_n (by omega)]
  refine e_X5_studyJob hf hs ?_
  rw [sj.1, sj.2.1]
  refine ⟨(by omega), ?_⟩
  refine ⟨(by omega), ?_⟩
  refine ⟨fun hc3 => ?_, fun hc3 => ?_⟩
  · exact L 1 (by omega)
  · exact L 0 (by omega)
theorem owA_st {i : Int} {m : Nat} : ∀ (d : Nat) {k : Int}, k < owC p i m → owA p i (m + d) k = owA p i m k := by
  intro d
  induction d with
  | zero => intro k h; rfl
  | succ d ih =>
    intro k h
    have e : owA p i (m + (d + 1)) = if p (88 + 5 * ((m + d : Nat) : Int) + 0) = i then u1 (owA p i (m + d)) (owC p i ((m + d : Nat) : Int)) ((m + d : Nat) : Int) else owA p i (m + d) := rfl
    have mo := owC_m (p := p) (i := i) (m := (m : Int)) (n := ((m + d : Nat) : Int)) (by omega) (by omega)
    rw [e]
    split
    · rw [u1_n (by omega)]
      exact ih h
    · exact ih h
def SLO (μ : Mem) (p : Pl) (i v : Int) : Prop := μ 141 2 = cnt p i ∧ ∀ k, 0 ≤ k → k < cnt p i → PJo μ p v k (ow p i k)
def SLT (μ : Mem) (p : Pl) (i v : Int) (m : Nat) : Prop := ∀ s : Nat, s < m → μ 150 (s : Int) = gT p i v s
theorem SLO.fr {μ' : Mem} {i v : Int} (h : SLO μ p i v) (h2 : μ' 141 2 = μ 141 2) (ha : ∀ a, 142 ≤ a → a ≠ 143 → a ≤ 149 → μ' a = μ a) : SLO μ' p i v := by
  refine ⟨by rw [h2]; exact h.1, fun k k0 k1 => ?_⟩
  have q := h.2 k k0 k1
  unfold PJo at q ⊢
  rw [ha 142 (by omega) (by omega) (by omega), ha 144 (by omega) (by omega) (by omega), ha 145 (by omega) (by omega) (by omega), ha 146 (by omega) (by omega) (by omega), ha 147 (by omega) (by omega) (by omega), ha 148 (by omega) (by omega) (by omega), ha 149 (by omega) (by omega) (by omega)]
  exact q
theorem oLat_u {v j x : Int} (h : PV p) (h0 : 0 ≤ j) (h1 : j < p 87) (hv : 1 ≤ v) : oLat p v j x ≤ 1059 := by
  have := o_b h h0 h1 hv
  unfold oLat
  split <;> omega
theorem gT_b (h : PV p) {i v : Int} (hc : cnt p i ≤ 8) (hv : 1 ≤ v) {s : Nat} (hs : s < 256) : -1 ≤ gT p i v s ∧ gT p i v s ≤ 1000000 := by
  by_cases q : s = 0
  · subst q
    rw [gT_0]
    unfold FA
    omega
  · rw [gT_s hc (by omega) hs]
    unfold gTs
    have b := mxk_b (s := s) (h := fun k => oLat p v (ow p i k) (gT p i v (s ^^^ 2 ^ k))) (cnt p i).toNat
    refine ⟨b.1, ?_⟩
    rcases b.2.2 with z | ⟨k, k1, k2, z⟩
    · omega
    · have oj := ow_j (p := p) (i := i) (k := (k : Int)) h.n.2.2.2.2.2.2.1 (by omega) (by omega)
      have u := oLat_u (x := gT p i v (s ^^^ 2 ^ k)) h oj.1 oj.2.1 hv
      rw [z]
      omega
theorem k_lbWith {s k : Nat} {v j x : Int} (hv : PV p) (j0 : 0 ≤ j) (j1 : j < p 87) (v0 : 1 ≤ v) (hs : s < 256) (hk : k < 8) (hb : s.testBit k = true) (P : PJo μ p v k j) (hx : μ 150 ((s ^^^ 2 ^ k : Nat) : Int) = x) (xb : -1 ≤ x ∧ x ≤ 1000000) : qE mX5_latestBeginWith GG GG [qP 141, qI k, qI s] ρ μ (fun z ρ' μ' => z = oLat p v j x ∧ ρ' = ρ ∧ μ' = μ) := by
  have o := o_b hv j0 j1 v0
  have t := bw_tab s hs k hk
  have t2 := t.2.2.1 hb
  have tl := t.2.2.2.2
  obtain ⟨P1, P2, P3, P4, P5, P6, P7⟩ := P
  refine e_X5_latestBeginWith ?_
  rw [t2, hx, P3, P4, P5, P6, P7]
  refine ⟨(by omega), ?_⟩
  refine ⟨(by omega), ?_⟩
  refine ⟨(by omega), ?_⟩
  refine ⟨(by unfold i32; omega), ?_⟩
  refine ⟨(by omega), ?_⟩
  refine ⟨(by unfold i32; omega), ?_⟩
  refine ⟨(by omega), ?_⟩
  refine ⟨fun hc8 => ?_, fun hc8 => ?_⟩
  · refine ⟨(by omega), ?_⟩
    refine ⟨(by unfold i32; omega), ?_⟩
    exact ⟨by unfold oLat; rw [if_pos hc8], rfl, rfl⟩
  · exact ⟨by unfold oLat; rw [if_neg (by omega)], rfl, rfl⟩
theorem k_latestBegin {s : Nat} {i v : Int} (hv : PV p) (hc : cnt p i ≤ 8) (v0 : 1 ≤ v) (hs0 : 0 < s) (hs : s < 256) (S : SLO μ p i v) (T : SLT μ p i v s) : qE mX5_latestBegin GG GG [qP 141, qI s] ρ μ (fun z ρ' μ' => z = gT p i v s ∧ ρ' = ρ ∧ μ' = μ) := by
  have c0 : 0 ≤ cnt p i := (owC_b (p := p) (i := i) hv.n.2.2.2.2.2.2.1).1
  have L : ∀ (m : Nat) (k : Nat), (cnt p i).toNat - k < m → (k : Int) ≤ cnt p i → qX mX5_latestBegin GG (fun z ρ' μ' => z = gT p i v s ∧ ρ' = ρ ∧ μ' = μ) GG (0, 0) 4 [some (qP 141), some (qI s), some (qI (mxk s (fun k => oLat p v (ow p i k) (gT p i v (s ^^^ 2 ^ k))) k)), some (qI (k : Int))] [] ρ μ := by
    intro m
    induction m with
    | zero => intro k h; omega
    | succ m ih =>
      intro k hm hk
      have e1 : ((k : Int) + 1) = ((k + 1 : Nat) : Int) := by omega
      refine w_X5_latestBegin_4 ?_
      rw [S.1]
      refine ⟨fun hc1 => ?_, fun hc1 => ?_⟩
      · refine ⟨?_, rfl, rfl⟩
        rw [gT_s hc hs0 hs]
        unfold gTs
        rw [show (cnt p i).toNat = k by omega]
      · have t := bw_tab s hs k (by omega)
        rw [t.1]
        refine ⟨fun hc3 => ?_, fun hc3 => ?_⟩
        · refine ⟨(by unfold i32; omega), ?_⟩
          rw [e1]
          have := ih (k + 1) (by omega) (by omega)
          have f : s.testBit k = false := by
            cases q : s.testBit k
            · rfl
            · rw [q] at hc3; exact absurd rfl hc3
          rw [show mxk s (fun k => oLat p v (ow p i k) (gT p i v (s ^^^ 2 ^ k))) (k + 1) = mxk s (fun k => oLat p v (ow p i k) (gT p i v (s ^^^ 2 ^ k))) k by
            show (if _ then _ else _) = _
            rw [if_neg (by rw [f]; decide)]] at this
          exact this
        · have f : s.testBit k = true := by
            cases q : s.testBit k
            · rw [q] at hc3; exact absurd hc3 (by decide)
            · rfl
          have oj := ow_j (p := p) (i := i) (k := (k : Int)) hv.n.2.2.2.2.2.2.1 (by omega) (by omega)
          have lt := t.2.2.2.1 f
          refine ⟨_, k_lbWith hv oj.1 oj.2.1 v0 hs (by omega) f (S.2 _ (by omega) (by omega)) (T _ (by omega)) (gT_b hv hc v0 (by omega)), ?_⟩
          rintro z1 ρ2 μ3 ⟨hq6_1, hq6_2, hq6_3⟩
          obtain rfl := hq6_1.symm
          obtain rfl := hq6_2.symm
          obtain rfl := hq6_3.symm
          refine ⟨(by unfold i32; omega), ?_⟩
          rw [e1]
          have := ih (k + 1) (by omega) (by omega)
          rw [show mxk s (fun k => oLat p v (ow p i k) (gT p i v (s ^^^ 2 ^ k))) (k + 1) = max (mxk s (fun k => oLat p v (ow p i k) (gT p i v (s ^^^ 2 ^ k))) k) (oLat p v (ow p i k) (gT p i v (s ^^^ 2 ^ k))) by
            show (if _ then _ else _) = _
            rw [if_pos f]] at this
          exact this
  refine e_X5_latestBegin ?_
  exact L _ 0 (Nat.lt_succ_self _) (by omega)
theorem k_wholeSet {n : Nat} (hn : μ 141 2 = (n : Int)) (h8 : n ≤ 8) : qE mX5_wholeSet GG GG [qP 141] ρ μ (fun z ρ' μ' => z = ((2 ^ n : Nat) : Int) - 1 ∧ ρ' = ρ ∧ μ' = μ) := by
  have e := bw_one n (by omega)
  have l : ((2 ^ n : Nat) : Int) ≤ 256 := Int.ofNat_le.mpr (bw_lt n (by omega))
  have l0 : (0 : Int) ≤ ((2 ^ n : Nat) : Int) := Int.natCast_nonneg _
  generalize ((2 ^ n : Nat) : Int) = w at e l l0 ⊢
  refine e_X5_wholeSet ?_
  rw [hn, e]
  refine ⟨(by unfold i32; omega), ?_⟩
  exact ⟨rfl, rfl, rfl⟩
theorem k_study {f s : Nat} {i v : Int} (hf : isO 0 f) (hs : isO 6 s) (ff : (f = 155 ∧ s = 171) ∨ (f = 4 ∧ s = 20)) (F : FP μ0 f p) (S : SP μ0 s p) (hv : PV p) (hc : cnt p i ≤ 8) (v0 : 1 ≤ v) (v1 : v ≤ 9) : qE mX5_study GG GG [qP 141, qP f, qP s, qI i, qI v] ρ μ0 (fun _ ρ' μ' => ρ' = ρ ∧ SLO μ' p i v ∧ SLT μ' p i v (2 ^ (cnt p i).toNat) ∧ FR 141 150 μ0 μ') := by
  have n := hv.n
  have c0 : 0 ≤ cnt p i := (owC_b (p := p) (i := i) hv.n.2.2.2.2.2.2.1).1
  have M : ∀ (m : Nat) (x : Nat) (μ : Mem), 2 ^ (cnt p i).toNat - x < m → 0 < x → x ≤ 2 ^ (cnt p i).toNat → SLO μ p i v → SLT μ p i v x → FR 141 150 μ0 μ → qX mX5_study GG (fun _ ρ' μ' => ρ' = ρ ∧ SLO μ' p i v ∧ SLT μ' p i v (2 ^ (cnt p i).toNat) ∧ FR 141 150 μ0 μ') GG (0, 0) 64 [some (qP 141), none, none, none, none, some (qI (x : Int))] [] ρ μ := by
    have lt := bw_lt (cnt p i).toNat (by omega)
    intro m
    induction m with
    | zero => intro x μ h; omega
    | succ m ih =>
      intro x μ hm x0 x1 So Ta hfr
      have e1 : ((x : Int) + 1) = ((x + 1 : Nat) : Int) := by omega
      refine w_X5_study_64 ?_
      refine ⟨_, k_wholeSet (n := (cnt p i).toNat) (by rw [So.1]; omega) (by omega), ?_⟩
      rintro z1 ρ2 μ3 ⟨hq1_1, hq1_2, hq1_3⟩
      obtain rfl := hq1_1.symm
      obtain rfl := hq1_2.symm
      obtain rfl := hq1_3.symm
      refine ⟨fun hc2 => ?_, fun hc2 => ?_⟩
      · exact ⟨rfl, So, by rw [show 2 ^ (cnt p i).toNat = x by omega]; exact Ta, hfr⟩
      · refine ⟨_, k_latestBegin hv hc v0 x0 (by omega) So Ta, ?_⟩
        rintro z5 ρ6 μ7 ⟨hq4_1, hq4_2, hq4_3⟩
        obtain rfl := hq4_1.symm
        obtain rfl := hq4_2.symm
        obtain rfl := hq4_3.symm
        refine ⟨(by omega), ?_⟩
        intro μ9 eμ9; subst eμ9
        refine ⟨(by unfold i32; omega), ?_⟩
        rw [e1]
        refine ih _ _ (by omega) (by omega) (by omega) (So.fr (by rw [up2_c (by omega)]) (fun a h1 h2 h3 => up2_c (by omega))) (fun s h => ?_) (FR.up hfr (by omega))
        by_cases q : s = x
        · rw [q, up2_s]
        · rw [up2_k (by omega)]
          exact Ta s (by omega)
  have E : ∀ (μ : Mem), SLO μ p i v → FR 141 150 μ0 μ → qX mX5_study GG (fun _ ρ' μ' => ρ' = ρ ∧ SLO μ' p i v ∧ SLT μ' p i v (2 ^ (cnt p i).toNat) ∧ FR 141 150 μ0 μ') GG (0, 0) 64 [some (qP 141), none, none, none, none, some (qI 1)] [] ρ (up2 μ 150 0 1000000) := by
    intro μ So hfr
    refine M _ 1 _ (Nat.lt_succ_self _) (by omega) (Nat.two_pow_pos _) (So.fr (by rw [up2_c (by omega)]) (fun a h1 h2 h3 => up2_c (by omega))) (fun s h => ?_) (FR.up hfr (by omega))
    obtain rfl : s = 0 := by omega
    exact up2_s
  have L : ∀ (m : Nat) (x : Nat) (μ : Mem), (p 87).toNat - x < m → (x : Int) ≤ p 87 → μ 141 2 = owC p i x → (∀ k, 0 ≤ k → k < owC p i x → PJo μ p v k (owA p i x k)) → FR 141 150 μ0 μ → qX mX5_study GG (fun _ ρ' μ' => ρ' = ρ ∧ SLO μ' p i v ∧ SLT μ' p i v (2 ^ (cnt p i).toNat) ∧ FR 141 150 μ0 μ') GG (0, 0) 8 [some (qP 141), some (qP f), some (qP s), some (qI i), some (qI v), some (qI (x : Int))] [] ρ μ := by
    intro m
    induction m with
    | zero => intro x μ h; omega
    | succ m ih =>
      intro x μ hm hx ec ej hfr
      have F1 : FP μ f p := F.ag (hfr.ag (by omega))
      have S1 : SP μ s p := S.ag (hfr.ag (by omega))
      have e1 : ((x : Int) + 1) = ((x + 1 : Nat) : Int) := by omega
      have ob := owC_b (p := p) (i := i) (m := (x : Int)) (by omega)
      have os := owC_s (p := p) (i := i) (m := (x : Int)) (by omega)
      have om := owC_m (p := p) (i := i) (m := (x : Int)) (n := p 87) (by omega) (by omega)
      have oc : owC p i (p 87) = cnt p i := rfl
      have fin : owC p i x = cnt p i → SLO μ p i v := fun h => by
        refine ⟨by rw [ec, h], fun k k0 k1 => ?_⟩
        have st := owA_st (p := p) (i := i) (m := x) ((p 87).toNat - x) (k := k) (by omega)
        rw [show x + ((p 87).toNat - x) = (p 87).toNat by omega] at st
        show PJo μ p v k (owA p i (p 87).toNat k)
        rw [st]
        exact ej k k0 (by omega)
      refine w_X5_study_8 hf hs ?_
      rw [S1.n, ec]
      refine ⟨fun hc1 => ?_, fun hc1 => ?_⟩
      · intro μ1 eμ1; subst eμ1
        exact E _ (fin (by rw [show (x : Int) = p 87 by omega]; rfl)) hfr
      · refine ⟨fun hc4 => ?_, fun hc4 => ?_⟩
        · intro μ2 eμ2; subst eμ2
          exact E _ (fin (by omega)) hfr
        · refine ⟨(by omega), ?_⟩
          rw [(S1.j (j := (x : Int)) (by omega) (by omega)).1]
          have oe : owA p i (x + 1) = if p (88 + 5 * (x : Int) + 0) = i then u1 (owA p i x) (owC p i x) x else owA p i x := rfl
          refine ⟨fun hc8 => ?_, fun hc8 => ?_⟩
          · refine ⟨(by unfold i32; omega), ?_⟩
            rw [if_neg hc8] at os oe
            rw [e1]
            refine ih _ _ (by omega) (by omega) (by rw [← e1, ec]; omega) (fun k k0 k1 => ?_) hfr
            rw [oe]
            rw [← e1] at k1
            exact ej k k0 (by omega)
          · refine ⟨_, k_studyJob hf hs ff F1 S1 hv ec (by omega) (by omega) (by omega) (by omega) v0 v1, ?_⟩
            rintro z3 ρ4 μ5 ⟨hq11_1, fr1, ec1, pj1, ag1⟩
            obtain rfl := hq11_1.symm
            refine ⟨(by unfold i32; omega), ?_⟩
            rw [if_pos (by omega)] at os oe
            rw [e1]
            refine ih _ _ (by omega) (by omega) (by rw [← e1, ec1]; omega) (fun k k0 k1 => ?_) (hfr.trans (fr1.mono (by omega) (by omega)))
            rw [oe]
            rw [← e1] at k1
            by_cases q : k = owC p i x
            · rw [q, u1_s]; exact pj1
            · rw [u1_n q]
              have := ej k k0 (by omega)
              unfold PJo at this ⊢
              rw [ag1 142 k (by omega) q, ag1 144 k (by omega) q, ag1 145 k (by omega) q, ag1 146 k (by omega) q, ag1 147 k (by omega) q, ag1 148 k (by omega) q, ag1 149 k (by omega) q]
              exact this
  refine e_X5_study hf hs ?_
  intro μ1 eμ1; subst eμ1
  have z0 : owC p i ((0 : Nat) : Int) = 0 := s_I0
  exact L _ 0 _ (Nat.lt_succ_self _) (by omega) (by rw [up2_s, z0]) (fun k k0 k1 => by omega) (FR.up FR.refl (by omega))
end CSo
