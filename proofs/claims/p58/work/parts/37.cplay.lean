/-! ===== contracts of the class's run, event by event ===== -/
def jf (p : Pl) (i x : Int) : Int := if nx p i (-1) x < p 87 then nx p i (-1) x else -1
theorem jf_e {p : Pl} {i x z : Int} (h0 : 0 ≤ x) (h1 : x ≤ p 87) (h : (z = -1 ∧ noNx p i x) ∨ (0 ≤ z ∧ isNx p i x z)) : z = jf p i x := by
  unfold jf
  rcases h with ⟨rfl, h⟩ | ⟨h2, h3, h4, h5, h6⟩
  · rw [nx_un h1 (fun j a b c => h j a b c.1), if_neg (by omega)]
  · rw [nx_u h1 h3 h4 ⟨h5, by omega⟩ (fun j a b c => h6 j a b c.1), if_pos h4]
theorem jf_b {p : Pl} {i x : Int} (h0 : 0 ≤ x) (h1 : x ≤ p 87) : (jf p i x = -1 ∧ nx p i (-1) x = p 87) ∨ (x ≤ jf p i x ∧ jf p i x < p 87 ∧ jf p i x = nx p i (-1) x ∧ p (88 + 5 * jf p i x + 0) = i) := by
  have a := nx_s (p := p) (i := i) (out := -1) h1
  unfold jf
  by_cases h : nx p i (-1) x < p 87
  · rw [if_pos h]
    exact Or.inr ⟨a.1, h, rfl, (a.2.2.1 h).1⟩
  · rw [if_neg h]
    exact Or.inl ⟨rfl, by omega⟩
def cAwait (p : Pl) (o : Nat) (i x t : Int) (μ : Mem) : Mem := up2 (up2 (up2 μ (o + 12) i (jf p i x)) (o + 11) i t) (o + 10) i (if jf p i x < 0 then 0 else 1)
def cNoU (o : Nat) (j t : Int) (μ : Mem) : Mem := up2 (up2 (up2 (up2 μ (o + 4) j t) (o + 5) j t) (o + 6) j t) (o + 7) j 0
theorem k_awaitStart {ρ : Rf} {μ : Mem} {o s : Nat} {p : Pl} {i x t : Int} (ho : isO 3 o) (hs6 : isO 6 s) (hs : SP μ s p) (hn : 0 ≤ p 87 ∧ p 87 ≤ 20) (hi : 0 ≤ i ∧ i < 5) (hx : 0 ≤ x ∧ x ≤ p 87) : qE mX3_awaitStart GG GG [qP o, qP s, qI i, qI x, qI t] ρ μ (fun _ ρ' μ' => ρ' = ρ ∧ μ' = cAwait p o i x t μ) := by
  refine e_X3_awaitStart ho hs6 ?_
  refine ⟨_, k_jobFrom hs6 hs hn hx.1, ?_⟩
  rintro z1 ρ2 μ3 ⟨hz, hq1_1, hq1_2⟩
  obtain rfl := hq1_1.symm
  obtain rfl := hq1_2.symm
  have ez := jf_e hx.1 hx.2 hz
  subst ez
  refine ⟨(by omega), ?_⟩
  intro μ5 eμ5; subst eμ5
  refine ⟨(by omega), ?_⟩
  intro μ6 eμ6; subst eμ6
  refine ⟨(by omega), ?_⟩
  rw [up2_c (by omega), up2_s]
  refine ⟨fun hc7 => ?_, fun hc7 => ?_⟩
  · refine ⟨(by omega), ?_⟩
    intro μ7 eμ7; subst eμ7
    refine ⟨rfl, ?_⟩
    unfold cAwait
    rw [if_neg (by omega)]
  · refine ⟨(by omega), ?_⟩
    intro μ8 eμ8; subst eμ8
    refine ⟨rfl, ?_⟩
    unfold cAwait
    rw [if_pos (by omega)]
theorem k_setNoU {ρ : Rf} {μ : Mem} {o : Nat} {j t : Int} (ho : isO 3 o) (hj : 0 ≤ j ∧ j < 20) : qE mX3_setNoUnloading GG GG [qP o, qI j, qI t] ρ μ (fun _ ρ' μ' => ρ' = ρ ∧ μ' = cNoU o j t μ) := by
  refine e_X3_setNoUnloading ho ?_
  refine ⟨(by omega), ?_⟩
  intro μ1 eμ1; subst eμ1
  refine ⟨(by omega), ?_⟩
  intro μ2 eμ2; subst eμ2
  refine ⟨(by omega), ?_⟩
  intro μ3 eμ3; subst eμ3
  refine ⟨(by omega), ?_⟩
  intro μ4 eμ4; subst eμ4
  exact ⟨rfl, rfl⟩
def key (μ : Mem) (o : Nat) (i : Int) : Int := 2 * μ (o + 11) i + (if μ (o + 10) i = 3 then 0 else 1)
def isFi (μ : Mem) (o : Nat) (n z : Int) : Prop := 0 ≤ z ∧ z < n ∧ μ (o + 10) z ≠ 0 ∧ ∀ i, 0 ≤ i → i < n → μ (o + 10) i ≠ 0 → key μ o z < key μ o i ∨ (key μ o z = key μ o i ∧ z ≤ i)
def noFi (μ : Mem) (o : Nat) (n : Int) : Prop := ∀ i, 0 ≤ i → i < n → μ (o + 10) i = 0
theorem k_nextTrolley {ρ : Rf} {μ : Mem} {o : Nat} {T : Int} (ho : isO 3 o) (hT : 0 ≤ T ∧ T ≤ 5) (hb : ∀ i, 0 ≤ i → i < T → 0 ≤ μ (o + 11) i ∧ μ (o + 11) i ≤ 100000) : qE mX3_nextTrolley GG GG [qP o, qI T] ρ μ (fun z ρ' μ' => ((z = -1 ∧ noFi μ o T) ∨ isFi μ o T z) ∧ ρ' = ρ ∧ μ' = μ) := by
  have L : ∀ (k : Nat) (x z y : Int), (T - x).toNat < k → 0 ≤ x → x ≤ T → ((z = -1 ∧ noFi μ o x) ∨ (isFi μ o x z ∧ y = key μ o z)) → qX mX3_nextTrolley GG (fun z ρ' μ' => ((z = -1 ∧ noFi μ o T) ∨ isFi μ o T z) ∧ ρ' = ρ ∧ μ' = μ) GG (0, 0) 7 [some (qP o), some (qI T), some (qI z), some (qI y), some (qI x), none] [] ρ μ := by
    intro k
    induction k with
    | zero => intro x z y h; omega
    | succ k ih =>
      intro x z y hk h0 h1 hz
      have L67 : ∀ z y, x < T → ((z = -1 ∧ noFi μ o (x + 1)) ∨ (isFi μ o (x + 1) z ∧ y = key μ o z)) → qX mX3_nextTrolley GG (fun z ρ' μ' => ((z = -1 ∧ noFi μ o T) ∨ isFi μ o T z) ∧ ρ' = ρ ∧ μ' = μ) GG (0, 0) 67 [some (qP o), some (qI T), some (qI z), some (qI y), some (qI x), none] [] ρ μ := by
        intro z y hx hz
        refine w_X3_nextTrolley_67 ho ?_
        refine ⟨(by unfold i32; omega), ?_⟩
        exact ih _ _ _ (by omega) (by omega) (by omega) hz
      have L61 : x < T → μ (o + 10) x ≠ 0 → (z < 0 ∨ key μ o x < y) → qX mX3_nextTrolley GG (fun z ρ' μ' => ((z = -1 ∧ noFi μ o T) ∨ isFi μ o T z) ∧ ρ' = ρ ∧ μ' = μ) GG (0, 0) 61 [some (qP o), some (qI T), none, none, some (qI x), some (qI (key μ o x))] [] ρ μ := by
        intro hx he hc
        refine w_X3_nextTrolley_61 ho ?_
        refine L67 _ _ hx (Or.inr ⟨⟨h0, by omega, he, fun i i0 i1 i2 => ?_⟩, rfl⟩)
        by_cases hi : i = x
        · subst hi; right; omega
        · rcases hz with ⟨rfl, hz⟩ | ⟨⟨a, b, c, d⟩, rfl⟩
          · exact absurd (hz i i0 (by omega)) i2
          · have := d i i0 (by omega) i2
            omega
      have L38 : x < T → ∀ w, 2 * μ (o + 11) x + w = key μ o x → (w = 0 ∨ w = 1) → qX mX3_nextTrolley GG (fun z ρ' μ' => ((z = -1 ∧ noFi μ o T) ∨ isFi μ o T z) ∧ ρ' = ρ ∧ μ' = μ) GG (0, 0) 38 [some (qP o), some (qI T), some (qI z), some (qI y), some (qI x), none] [qI w, qI (2 * μ (o + 11) x)] ρ μ := by
        intro hx w hw hw2
        have hbx := hb x h0 hx
        refine w_X3_nextTrolley_38 ho ?_
        refine ⟨(by unfold i32; omega), ?_⟩
        refine ⟨(by omega), ?_⟩
        refine ⟨fun hc3 => ?_, fun hc3 => ?_⟩
        · refine L67 _ _ hx ?_
          rcases hz with ⟨rfl, hz⟩ | ⟨⟨a, b, c, d⟩, hy⟩
          · refine Or.inl ⟨rfl, fun i i0 i1 => ?_⟩
            by_cases hi : i = x
            · rw [hi]; exact hc3
            · exact hz i i0 (by omega)
          · refine Or.inr ⟨⟨a, by omega, c, fun i i0 i1 i2 => ?_⟩, hy⟩
            by_cases hi : i = x
            · subst hi; exact absurd hc3 i2
            · exact d i i0 (by omega) i2
        · refine ⟨fun hc5 => ?_, fun hc5 => ?_⟩
          · rw [hw]; exact L61 hx hc3 (Or.inl hc5)
          · refine ⟨fun hc7 => ?_, fun hc7 => ?_⟩
            · refine L67 _ _ hx ?_
              rcases hz with ⟨rfl, hz⟩ | ⟨⟨a, b, c, d⟩, rfl⟩
              · omega
              · refine Or.inr ⟨⟨a, by omega, c, fun i i0 i1 i2 => ?_⟩, rfl⟩
                by_cases hi : i = x
                · subst hi; omega
                · exact d i i0 (by omega) i2
            · rw [hw]; exact L61 hx hc3 (Or.inr (by omega))
      refine w_X3_nextTrolley_7 ho ?_
      refine ⟨fun hc1 => ?_, fun hc1 => ?_⟩
      · refine ⟨?_, rfl, rfl⟩
        have e : x = T := by omega
        subst e
        rcases hz with h | h
        · exact Or.inl h
        · exact Or.inr h.1
      · refine ⟨(by omega), ?_⟩
        have hbx := hb x h0 hc1
        refine ⟨(by unfold i32; omega), ?_⟩
        refine ⟨(by omega), ?_⟩
        refine ⟨fun hc6 => ?_, fun hc6 => ?_⟩
        · exact L38 hc1 1 (by unfold key; rw [if_neg hc6]) (Or.inr rfl)
        · exact L38 hc1 0 (by unfold key; rw [if_pos hc6]) (Or.inl rfl)
  refine e_X3_nextTrolley ho ?_
  exact L _ 0 _ _ (Nat.lt_succ_self _) (by omega) (by omega) (Or.inl ⟨rfl, fun i h0 h1 => by omega⟩)
/-- a job's start -/
def cMn (p : Pl) (o : Nat) (i : Int) (μ : Mem) : Int := min (min (p (88 + 5 * μ (o + 12) i + 4)) (p (62 + 5 * i + 1))) (μ (o + 9) (4 * p (62 + 5 * i + 0) + p (88 + 5 * μ (o + 12) i + 3)))
def cSt0 (p : Pl) (o : Nat) (i : Int) (μ : Mem) : Mem :=
  up2 (up2 (up2 (up2 μ (o + 1) (μ (o + 12) i) (μ (o + 11) i)) (o + 2) (μ (o + 12) i) (cMn p o i μ)) (o + 9) (4 * p (62 + 5 * i + 0) + p (88 + 5 * μ (o + 12) i + 3)) (μ (o + 9) (4 * p (62 + 5 * i + 0) + p (88 + 5 * μ (o + 12) i + 3)) - cMn p o i μ)) (o + 3) (μ (o + 12) i) (μ (o + 11) i + cMn p o i μ * p (62 + 5 * i + 3))
theorem cNoU_fr {o : Nat} {j t : Int} {μ ν : Mem} (h : FR o (o + 13) μ ν) : FR o (o + 13) μ (cNoU o j t ν) := FR.up (FR.up (FR.up (FR.up h (by omega)) (by omega)) (by omega)) (by omega)
theorem cSt0_fr {p : Pl} {o : Nat} {i : Int} {μ : Mem} : FR o (o + 13) μ (cSt0 p o i μ) := FR.up (FR.up (FR.up (FR.up FR.refl (by omega)) (by omega)) (by omega)) (by omega)
theorem cAwait_fr {p : Pl} {o : Nat} {i x t : Int} {μ ν : Mem} (h : FR o (o + 13) μ ν) : FR o (o + 13) μ (cAwait p o i x t ν) := FR.up (FR.up (FR.up h (by omega)) (by omega)) (by omega)
theorem cNoU_1 {p : Pl} {o : Nat} {i j t : Int} {μ : Mem} : cNoU o j t (cSt0 p o i μ) (o + 1) (μ (o + 12) i) = μ (o + 11) i := by
  unfold cNoU cSt0
  rw [up2_c (by omega), up2_c (by omega), up2_c (by omega), up2_c (by omega), up2_c (by omega), up2_c (by omega), up2_c (by omega), up2_s]
def cStart (p : Pl) (o : Nat) (i : Int) (μ : Mem) : Mem :=
  if cMn p o i μ = 0 then cAwait p o i (μ (o + 12) i + 1) (μ (o + 11) i) (up2 (cNoU o (μ (o + 12) i) (μ (o + 11) i) (cSt0 p o i μ)) (o + 8) (μ (o + 12) i) (μ (o + 11) i))
  else up2 (up2 (cSt0 p o i μ) (o + 11) i (μ (o + 11) i + cMn p o i μ * p (62 + 5 * i + 3) + wk p (μ (o + 12) i))) (o + 10) i 2
def PSt (μ : Mem) (f s : Nat) (p : Pl) : Prop := FP μ f p ∧ SP μ s p
theorem PSt.fr {μ μ' : Mem} {f s : Nat} {p : Pl} {o : Nat} (h : PSt μ f s p) (hf : FR o (o + 13) μ μ') (h1 : o + 13 < f ∨ f + 15 < o) (h2 : o + 13 < s ∨ s + 6 < o) : PSt μ' f s p := ⟨h.1.ag (hf.ag (by omega)), h.2.ag (hf.ag (by omega))⟩
theorem k_startJob {ρ : Rf} {μ : Mem} {o f s : Nat} {p : Pl} {i : Int} (ho : isO 3 o) (hf0 : isO 0 f) (hs6 : isO 6 s) (hf : FP μ f p) (hs : SP μ s p) (hv : PV p) (d1 : o + 13 < f ∨ f + 15 < o) (d2 : o + 13 < s ∨ s + 6 < o) (hi : 0 ≤ i ∧ i < p 61) (hj : 0 ≤ μ (o + 12) i ∧ μ (o + 12) i < p 87 ∧ p (88 + 5 * μ (o + 12) i + 0) = i)
    (ht : 0 ≤ μ (o + 11) i ∧ μ (o + 11) i ≤ 90000) (hst : ∀ k, 0 ≤ k → k < 12 → 0 ≤ μ (o + 9) k ∧ μ (o + 9) k ≤ 100000) : qE mX3_startJob GG GG [qP o, qP f, qP s, qI i] ρ μ (fun _ ρ' μ' => ρ' = ρ ∧ μ' = cStart p o i μ) := by
  have n := hv.n
  have a1 := hv.i hi.1 hi.2
  have a2 := hv.j hj.1 hj.2.1
  have q := hf.i hi.1 hi.2
  have r := hs.j hj.1 hj.2.1
  obtain ⟨q1, q2, q3, q4, q5⟩ := q
  obtain ⟨r1, r2, r3, r4⟩ := r
  have h9 := hst (4 * p (62 + 5 * i + 0) + p (88 + 5 * μ (o + 12) i + 3)) (by omega) (by omega)
  have hk := wk_b hv hj.1 hj.2.1
  have eM : cMn p o i μ = min (min (p (88 + 5 * μ (o + 12) i + 4)) (p (62 + 5 * i + 1))) (μ (o + 9) (4 * p (62 + 5 * i + 0) + p (88 + 5 * μ (o + 12) i + 3))) := rfl
  have hm : 0 ≤ cMn p o i μ ∧ cMn p o i μ ≤ 99 := by omega
  have hx := mulb hm.1 hm.2 (show 0 ≤ p (62 + 5 * i + 3) by omega) (show p (62 + 5 * i + 3) ≤ 5 by omega)
  have ewk : wk p (μ (o + 12) i) = wkG p i (p (88 + 5 * μ (o + 12) i + 1)) (p (88 + 5 * μ (o + 12) i + 2)) (p (62 + 5 * i + 2)) := by unfold wk; rw [hj.2.2]
  refine e_X3_startJob ho hf0 hs6 ?_
  refine ⟨(by omega), ?_⟩
  refine ⟨(by omega), ?_⟩
  refine ⟨(by omega), ?_⟩
  rw [q1, r3]
  refine ⟨_, k_stockIndex (by omega) (by omega), ?_⟩
  rintro z1 ρ2 μ3 ⟨hq4_1, hq4_2, hq4_3⟩
  obtain rfl := hq4_1.symm
  obtain rfl := hq4_2.symm
  obtain rfl := hq4_3.symm
  try simp (disch := omega) only [up2_c, up2_s, r4, q4, r2, q3]
  refine ⟨(by omega), ?_⟩
  refine ⟨_, k_mostMeals (by assumption) (by assumption) (by assumption) (by omega) (by omega), ?_⟩
  rintro z5 ρ6 μ7 ⟨hq6_1, hq6_2, hq6_3⟩
  obtain rfl := hq6_1.symm
  obtain rfl := hq6_2.symm
  obtain rfl := hq6_3.symm
  try simp (disch := omega) only [up2_c, up2_s, r4, q4, r2, q3]
  rw [← eM]
  refine ⟨(by omega), ?_⟩
  refine ⟨(by omega), ?_⟩
  refine ⟨(by omega), ?_⟩
  intro μ9 eμ9; subst eμ9
  try simp (disch := omega) only [up2_c, up2_s, r4, q4, r2, q3]
  refine ⟨(by omega), ?_⟩
  intro μ10 eμ10; subst eμ10
  try simp (disch := omega) only [up2_c, up2_s, r4, q4, r2, q3]
  refine ⟨(by omega), ?_⟩
  refine ⟨(by unfold i32; omega), ?_⟩
  refine ⟨(by omega), ?_⟩
  intro μ11 eμ11; subst eμ11
  try simp (disch := omega) only [up2_c, up2_s, r4, q4, r2, q3]
  refine ⟨(by omega), ?_⟩
  refine ⟨(by omega), ?_⟩
  refine ⟨(by unfold i32; omega), ?_⟩
  refine ⟨(by unfold i32; omega), ?_⟩
  refine ⟨(by omega), ?_⟩
  intro μ12 eμ12; subst eμ12
  try simp (disch := omega) only [up2_c, up2_s, r4, q4, r2, q3]
  have eS : cSt0 p o i μ = up2 (up2 (up2 (up2 μ (o + 1) (μ (o + 12) i) (μ (o + 11) i)) (o + 2) (μ (o + 12) i) (cMn p o i μ)) (o + 9) (4 * p (62 + 5 * i + 0) + p (88 + 5 * μ (o + 12) i + 3)) (μ (o + 9) (4 * p (62 + 5 * i + 0) + p (88 + 5 * μ (o + 12) i + 3)) - cMn p o i μ)) (o + 3) (μ (o + 12) i) (μ (o + 11) i + cMn p o i μ * p (62 + 5 * i + 3)) := rfl
  rw [← eS]
  refine ⟨fun hc23 => ?_, fun hc23 => ?_⟩
  · refine ⟨(by omega), ?_⟩
    refine ⟨(by omega), ?_⟩
    refine ⟨(by omega), ?_⟩
    refine ⟨_, k_walk hf0 (hf.ag (cSt0_fr.ag (by omega))) hv hi.1 hi.2 a2.2.2.1 a2.2.2.2.1 a2.2.2.2.2.1 a2.2.2.2.2.2.1 rfl (by omega), ?_⟩
    rintro z13 ρ14 μ15 ⟨hq27_1, hq27_2, hq27_3⟩
    obtain rfl := hq27_1.symm
    obtain rfl := hq27_2.symm
    obtain rfl := hq27_3.symm
    try simp (disch := omega) only [up2_c, up2_s, r4, q4, r2, q3]
    rw [← ewk]
    refine ⟨(by unfold i32; omega), ?_⟩
    refine ⟨(by omega), ?_⟩
    intro μ17 eμ17; subst eμ17
    try simp (disch := omega) only [up2_c, up2_s, r4, q4, r2, q3]
    refine ⟨(by omega), ?_⟩
    intro μ18 eμ18; subst eμ18
    try simp (disch := omega) only [up2_c, up2_s, r4, q4, r2, q3]
    refine ⟨by trivial, ?_⟩
    unfold cStart
    rw [if_neg hc23]
  · refine ⟨(by omega), ?_⟩
    refine ⟨_, k_setNoU ho (by omega), ?_⟩
    rintro z19 ρ20 μ21 ⟨hq35_1, hq35_2⟩
    obtain rfl := hq35_1.symm
    obtain rfl := hq35_2.symm
    try simp (disch := omega) only [up2_c, up2_s, r4, q4, r2, q3]
    refine ⟨(by omega), ?_⟩
    refine ⟨(by omega), ?_⟩
    rw [show cNoU o (μ (o + 12) i) (μ (o + 11) i) (cSt0 p o i μ) (o + 1) (μ (o + 12) i) = μ (o + 11) i from cNoU_1]
    intro μ23 eμ23; subst eμ23
    try simp (disch := omega) only [up2_c, up2_s, r4, q4, r2, q3]
    refine ⟨(by unfold i32; omega), ?_⟩
    refine ⟨(by omega), ?_⟩
    refine ⟨_, k_awaitStart ho hs6 (by refine hs.ag (FR.ag (lo := o) (hi := o + 13) ?_ (by omega)); refine FR.up (cNoU_fr ?_) (by omega); exact cSt0_fr) (by omega) (by omega) (by omega), ?_⟩
    rintro z24 ρ25 μ26 ⟨hq41_1, hq41_2⟩
    obtain rfl := hq41_1.symm
    obtain rfl := hq41_2.symm
    try simp (disch := omega) only [up2_c, up2_s, r4, q4, r2, q3]
    refine ⟨by trivial, ?_⟩
    unfold cStart
    rw [if_pos hc23, cNoU_1]
/-! ### reaching a door -/
def cBg (p : Pl) (o : Nat) (i : Int) (μ : Mem) : Int := max (μ (o + 11) i) (max (p (0 + p (88 + 5 * μ (o + 12) i + 1))) (μ (o + 13) (5 * p (88 + 5 * μ (o + 12) i + 1) + p (88 + 5 * μ (o + 12) i + 2))))
def cMy (p : Pl) (o : Nat) (i : Int) (μ : Mem) : Int := min (μ (o + 2) (μ (o + 12) i)) (max 0 (p (2 + p (88 + 5 * μ (o + 12) i + 1)) - cBg p o i μ) / p (62 + 5 * i + 4))
def cEn (p : Pl) (o : Nat) (i : Int) (μ : Mem) : Int := if cMy p o i μ = 0 then μ (o + 11) i else cBg p o i μ + cMy p o i μ * p (62 + 5 * i + 4)
def cUn (p : Pl) (o : Nat) (i : Int) (μ : Mem) : Mem :=
  if cMy p o i μ = 0 then cNoU o (μ (o + 12) i) (μ (o + 11) i) μ
  else up2 (up2 (up2 (up2 (up2 (cNoU o (μ (o + 12) i) (μ (o + 11) i) μ) (o + 5) (μ (o + 12) i) (cBg p o i μ)) (o + 6) (μ (o + 12) i) (cEn p o i μ)) (o + 7) (μ (o + 12) i) (cMy p o i μ)) (o + 13) (5 * p (88 + 5 * μ (o + 12) i + 1) + p (88 + 5 * μ (o + 12) i + 2)) (cEn p o i μ)) o 9 (μ o 9 + cMy p o i μ)
def cReach (p : Pl) (o : Nat) (i : Int) (μ : Mem) : Mem := up2 (up2 (up2 (cUn p o i μ) (o + 8) (μ (o + 12) i) (cEn p o i μ + wk p (μ (o + 12) i))) (o + 11) i (cEn p o i μ + wk p (μ (o + 12) i))) (o + 10) i 3
theorem cUn_fr {p : Pl} {o : Nat} {i : Int} {μ : Mem} : FR o (o + 13) μ (cUn p o i μ) := by
  unfold cUn
  split
  · exact cNoU_fr FR.refl
  · exact FR.up (FR.up (FR.up (FR.up (FR.up (cNoU_fr FR.refl) (by omega)) (by omega)) (by omega)) (by omega)) (by omega)
theorem cNoU_c {o c : Nat} {j t : Int} {μ : Mem} (h : c ≠ o + 4 ∧ c ≠ o + 5 ∧ c ≠ o + 6 ∧ c ≠ o + 7) : cNoU o j t μ c = μ c := by
  unfold cNoU
  rw [up2_c h.2.2.2, up2_c h.2.2.1, up2_c h.2.1, up2_c h.1]
theorem cNoU_4 {o : Nat} {j t : Int} {μ : Mem} : cNoU o j t μ (o + 4) = u1 (μ (o + 4)) j t := by
  unfold cNoU
  rw [up2_c (by omega), up2_c (by omega), up2_c (by omega), up2_u]
theorem cNoU_5 {o : Nat} {j t : Int} {μ : Mem} : cNoU o j t μ (o + 5) = u1 (μ (o + 5)) j t := by
  unfold cNoU
  rw [up2_c (by omega), up2_c (by omega), up2_u, up2_c (by omega)]
theorem cNoU_6 {o : Nat} {j t : Int} {μ : Mem} : cNoU o j t μ (o + 6) = u1 (μ (o + 6)) j t := by
  unfold cNoU
  rw [up2_c (by omega), up2_u, up2_c (by omega), up2_c (by omega)]
theorem cNoU_7 {o : Nat} {j t : Int} {μ : Mem} : cNoU o j t μ (o + 7) = u1 (μ (o + 7)) j 0 := by
  unfold cNoU
  rw [up2_u, up2_c (by omega), up2_c (by omega), up2_c (by omega)]
/-- what must hold of the class's run when a door is reached -/
def RRe (p : Pl) (o : Nat) (i : Int) (μ : Mem) : Prop := 0 ≤ μ (o + 12) i ∧ μ (o + 12) i < p 87 ∧ p (88 + 5 * μ (o + 12) i + 0) = i ∧ 0 ≤ μ (o + 11) i ∧ μ (o + 11) i ≤ 90000 ∧ 0 ≤ μ (o + 2) (μ (o + 12) i) ∧ μ (o + 2) (μ (o + 12) i) ≤ 99 ∧ 0 ≤ μ (o + 13) (5 * p (88 + 5 * μ (o + 12) i + 1) + p (88 + 5 * μ (o + 12) i + 2)) ∧ μ (o + 13) (5 * p (88 + 5 * μ (o + 12) i + 1) + p (88 + 5 * μ (o + 12) i + 2)) ≤ 1059 ∧ 0 ≤ μ o 9 ∧ μ o 9 ≤ 100000
theorem cMy_b {p : Pl} {o : Nat} {i : Int} {μ : Mem} (hv : PV p) (hi : 0 ≤ i ∧ i < p 61) (h : RRe p o i μ) : 0 ≤ cMy p o i μ ∧ cMy p o i μ ≤ μ (o + 2) (μ (o + 12) i) ∧ 0 ≤ cMy p o i μ * p (62 + 5 * i + 4) ∧ cMy p o i μ * p (62 + 5 * i + 4) ≤ 495 ∧ μ (o + 11) i ≤ cBg p o i μ ∧ cBg p o i μ ≤ max (μ (o + 11) i) 1059 := by
  obtain ⟨h0, h1, h2, h3, h4, h5, h6, h7, h8, _, _⟩ := h
  have a1 := hv.i hi.1 hi.2
  have a2 := hv.j h0 h1
  have t := hv.t a2.2.2.1 a2.2.2.2.1
  have e : 0 ≤ max 0 (p (2 + p (88 + 5 * μ (o + 12) i + 1)) - cBg p o i μ) / p (62 + 5 * i + 4) := Int.ediv_nonneg (by omega) (by omega)
  have hm : 0 ≤ cMy p o i μ ∧ cMy p o i μ ≤ μ (o + 2) (μ (o + 12) i) := by unfold cMy; omega
  have hx := mulb hm.1 (show cMy p o i μ ≤ 99 by omega) (show 0 ≤ p (62 + 5 * i + 4) by omega) (show p (62 + 5 * i + 4) ≤ 5 by omega)
  refine ⟨hm.1, hm.2, hx.1, by omega, ?_, ?_⟩
  · unfold cBg; omega
  · unfold cBg; omega
