/-! ===== the reference's takes ===== -/
/-- the current token is the one at the place -/
def Ma (μ : Mem) (b : Int → Int) (n : Int) (T : Tk) : Prop := μ 178 5 = tN b n T.2.2.2 ∧ μ 178 9 = tS b n T.2.2.2 ∧ μ 178 8 = rk (tK b n T.2.2.2) ∧ (tK b n T.2.2.2 = 1 → μ 178 11 = tX b n T.2.2.2) ∧ (tK b n T.2.2.2 = 2 → μ 178 10 = tV b n T.2.2.2)
/-- the current token is the one ahead of the place -/
def Mp (μ : Mem) (T : Tk) : Prop := μ 178 9 = T.2.2.1 ∧ μ 178 5 = T.2.2.2
def MT (μ : Mem) (b : Int → Int) (n : Int) (T : Tk) : Prop := TXm μ b n ∧ μ 178 6 = T.1 ∧ μ 178 7 = T.2.1 ∧ TOK n T
def OM (μ μ' : Mem) : Prop := (∀ a, a ≠ 178 → μ' a = μ a) ∧ ∀ k, (k < 5 ∨ 11 < k) → μ' 178 k = μ 178 k
theorem OM.refl {μ : Mem} : OM μ μ := ⟨fun _ _ => rfl, fun _ _ => rfl⟩
theorem OM.trans {μ0 μ1 μ2 : Mem} (h1 : OM μ0 μ1) (h2 : OM μ1 μ2) : OM μ0 μ2 := ⟨fun a x => (h2.1 a x).trans (h1.1 a x), fun k x => (h2.2 k x).trans (h1.2 k x)⟩
section MOP
variable {ρ : Rf} {μ : Mem} {b : Int → Int} {n : Int} {T : Tk}
theorem Ma.p (h : Ma μ b n T) (hc : T.1 = 0) : Mp μ (fTk b n T) := by
  rw [fTk_o hc]
  exact ⟨h.2.1, h.1⟩
theorem rk_2 {k : Int} (h0 : 0 ≤ k) (h4 : k ≤ 4) : (rk k = 3 ↔ k = 2) ∧ (rk k = 2 ↔ k = 1) ∧ (rk k = 4 ↔ k = 3) ∧ (rk k = 1 ↔ k = 0) := by
  unfold rk
  split <;> omega
/-- a token with its fault told -/
theorem m_report {x : Int} (hx : 0 ≤ x) (h : MT μ b n T) (hp : T.1 = 0 → Mp μ T) : qE mX8_report GG GG [qP 178, qI x] ρ μ (fun _ ρ' μ' => ρ' = ρ ∧ MT μ' b n (fR x T) ∧ OM μ μ' ∧ (∀ k, k ≠ 6 → k ≠ 7 → μ' 178 k = μ 178 k)) := by
  obtain ⟨h1, h2, h3, h6⟩ := h
  have h0 := h6.2.2
  refine e_X8_report ?_
  rw [h2]
  refine ⟨fun hc1 => ?_, fun hc1 => ?_⟩
  · intro μ1 eμ1; subst eμ1
    intro μ2 eμ2; subst eμ2
    have hc : T.1 = 0 := by omega
    have hp := hp hc
    refine ⟨rfl, ?_, ⟨fun a y => by rw [up2_c y, up2_c y], fun k y => by rw [up2_k (by omega), up2_k (by omega)]⟩, fun k y z => by rw [up2_k z, up2_k y]⟩
    have ht := fR_t (k := x) hx h6
    rw [fR_o hc] at ht ⊢
    refine ⟨⟨fun k k0 k1 => by rw [up2_c (by decide), up2_c (by decide)]; exact h1.1 k k0 k1, by rw [up2_k (by decide), up2_k (by decide)]; exact h1.2⟩, by rw [up2_k (by decide), up2_s], by rw [up2_s, up2_k (by decide)]; exact hp.1, ht⟩
  · exact ⟨rfl, by rw [fR_c (by omega)]; exact ⟨h1, h2, h3, h6⟩, OM.refl, fun _ _ _ => rfl⟩
theorem m_adv (hb : BY b) (hn : n ≤ 900) (h : MT μ b n T) (hp : T.1 = 0 → μ 178 5 = T.2.2.2) : qE mX8_advance GG GG [qP 178] ρ μ (fun _ ρ' μ' => ρ' = ρ ∧ MT μ' b n T ∧ OM μ μ' ∧ (T.1 = 0 → Ma μ' b n T)) := by
  obtain ⟨h1, h2, h3, h6⟩ := h
  have h0 := h6.2.2
  by_cases c : T.1 = 0
  · refine qE_post (fun z ρ' μ' q => ?_) (m_advance hb hn h1 (hp c) h6.1 h6.2.1)
    obtain ⟨rfl, q1, q2, q3, q4⟩ := q
    obtain ⟨a1, a2, a3, a4, a5⟩ := q4 (by omega)
    exact ⟨rfl, ⟨⟨fun k k0 k1 => by rw [q1 179 (by decide)]; exact h1.1 k k0 k1, by rw [q2 4 (by decide) (by decide) (by decide) (by decide) (by decide)]; exact h1.2⟩, by rw [q2 6 (by decide) (by decide) (by decide) (by decide) (by decide)]; exact h2, by rw [q2 7 (by decide) (by decide) (by decide) (by decide) (by decide)]; exact h3, h6⟩, ⟨q1, fun k y => q2 k (by omega) (by omega) (by omega) (by omega) (by omega)⟩, fun _ => ⟨a1, a2, a3, a4, a5⟩⟩
  · refine e_X8_advance ?_
    refine ⟨fun hc1 => ?_, fun hc1 => ?_⟩
    · exfalso; omega
    · exact ⟨rfl, ⟨h1, h2, h3, h6⟩, OM.refl, fun x => absurd x c⟩
theorem OM.ma {μ' : Mem} (h : Ma μ b n T) (hk : ∀ k, k ≠ 6 → k ≠ 7 → μ' 178 k = μ 178 k) : Ma μ' b n T := by
  unfold Ma
  rw [hk 5 (by decide) (by decide), hk 9 (by decide) (by decide), hk 8 (by decide) (by decide), hk 11 (by decide) (by decide), hk 10 (by decide) (by decide)]
  exact h
theorem MT.tk (h : MT μ b n T) (hc : T.1 = 0) : T.2.1 = μ 178 7 ∧ MT μ b n (fTk b n T) := by
  have ht := fTk_t (b := b) h.2.2.2
  refine ⟨h.2.2.1.symm, h.1, by rw [fTk_1]; exact h.2.1, ?_, ht⟩
  rw [fTk_o hc]
  exact h.2.2.1
theorem m_peek {lo hi : Int} (h : MT μ b n T) (ha : T.1 = 0 → Ma μ b n T) : qE mX8_peek GG GG [qP 178, qI lo, qI hi] ρ μ (fun z ρ' μ' => z = vNu b n lo hi T ∧ ρ' = ρ ∧ MT μ' b n (fNu b n lo hi T) ∧ OM μ μ' ∧ ((fNu b n lo hi T).1 = 0 → Mp μ' (fNu b n lo hi T))) := by
  have h2 := h.2.1
  have h0 := h.2.2.2.2.2
  have tb := tok_b (b := b) h.2.2.2.2.1
  have r2 := rk_2 (k := tK b n T.2.2.2) (by omega) (by omega)
  have R : ∀ x : Int, 0 ≤ x → x ≠ 0 → fR x (fTk b n T) = fNu b n lo hi T → T.1 = 0 → qE mX8_report GG GG [qP 178, qI x] ρ μ (fun _ ρ' μ' => ρ' = ρ ∧ MT μ' b n (fNu b n lo hi T) ∧ OM μ μ' ∧ (fNu b n lo hi T).1 ≠ 0) := by
    intro x x0 x1 e c
    refine qE_post (fun z ρ' μ' q => ?_) (m_report x0 (h.tk c).2 (fun _ => (ha c).p c))
    rw [e] at q
    exact ⟨q.1, q.2.1, q.2.2.1, by rw [← e]; exact fR_k x1⟩
  refine e_X8_peek ?_
  refine ⟨fun hc1 => ?_, fun hc1 => ?_⟩
  · refine ⟨fun hc2 => ?_, fun hc2 => ?_⟩
    · refine ⟨_, m_in, ?_⟩
      rintro z1 ρ2 μ3 ⟨hz, hq3_1, hq3_2⟩
      obtain rfl := hq3_1.symm
      obtain rfl := hq3_2.symm
      refine ⟨fun hc4 => ?_, fun hc4 => ?_⟩
      · refine ⟨fun hc5 => ?_, fun hc5 => ?_⟩
        · have c : T.1 = 0 := by omega
          have a := ha c
          have kd := r2.1.mp (by rw [← a.2.2.1]; omega)
          have av := a.2.2.2.2 kd
          have e : fNu b n lo hi T = fTk b n T := by unfold fNu; rw [if_pos c, if_pos kd, if_pos (by omega)]
          exact ⟨by unfold vNu; rw [e, fTk_1, if_pos c, av], rfl, by rw [e]; exact (h.tk c).2, OM.refl, fun _ => by rw [e]; exact a.p c⟩
        · exfalso; omega
      · have c : T.1 = 0 := by omega
        have a := ha c
        have kd := r2.1.mp (by rw [← a.2.2.1]; omega)
        have av := a.2.2.2.2 kd
        have e : fR 2 (fTk b n T) = fNu b n lo hi T := by unfold fNu; rw [if_pos c, if_pos kd, if_neg (by omega)]
        refine ⟨_, R 2 (by decide) (by decide) e c, ?_⟩
        rintro z5 ρ6 μ7 ⟨hq8_1, c1, o1, ne⟩
        obtain rfl := hq8_1.symm
        rw [c1.2.1]
        refine ⟨fun hc9 => ?_, fun hc9 => ?_⟩
        · exfalso; have := c1.2.2.2.2.2; omega
        · exact ⟨by unfold vNu; rw [if_neg ne], rfl, c1, o1, fun x => absurd x ne⟩
    · have c : T.1 = 0 := by omega
      have a := ha c
      have kd : tK b n T.2.2.2 ≠ 2 := fun x => by have := r2.1.mpr x; rw [← a.2.2.1] at this; omega
      have e : fR 1 (fTk b n T) = fNu b n lo hi T := by unfold fNu; rw [if_pos c, if_neg kd]
      refine ⟨_, R 1 (by decide) (by decide) e c, ?_⟩
      rintro z9 ρ10 μ11 ⟨hq12_1, c1, o1, ne⟩
      obtain rfl := hq12_1.symm
      rw [c1.2.1]
      refine ⟨fun hc13 => ?_, fun hc13 => ?_⟩
      · exfalso; have := c1.2.2.2.2.2; omega
      · exact ⟨by unfold vNu; rw [if_neg ne], rfl, c1, o1, fun x => absurd x ne⟩
  · have c : T.1 ≠ 0 := by omega
    exact ⟨by rw [vNu_c c], rfl, by rw [fNu_c c]; exact h, OM.refl, fun x => by rw [fNu_c c] at x; exact absurd x c⟩
theorem m_number {lo hi : Int} (hb : BY b) (hn : n ≤ 900) (h : MT μ b n T) (ha : T.1 = 0 → Ma μ b n T) : qE mX8_number GG GG [qP 178, qI lo, qI hi] ρ μ (fun z ρ' μ' => z = vNu b n lo hi T ∧ ρ' = ρ ∧ MT μ' b n (fNu b n lo hi T) ∧ OM μ μ' ∧ ((fNu b n lo hi T).1 = 0 → Ma μ' b n (fNu b n lo hi T))) := by
  refine e_X8_number ?_
  refine ⟨_, m_peek h ha, ?_⟩
  rintro z1 ρ2 μ3 ⟨hq1_1, hq1_2, c1, o1, p1⟩
  obtain rfl := hq1_1.symm
  obtain rfl := hq1_2.symm
  refine ⟨_, m_adv hb hn c1 (fun x => (p1 x).2), ?_⟩
  rintro z5 ρ6 μ7 ⟨hq2_1, c2, o2, a2⟩
  obtain rfl := hq2_1.symm
  exact ⟨rfl, rfl, c2, o1.trans o2, a2⟩
/-- reserved() at a token that is at the place -/
theorem m_res (hb : BY b) (hn : n ≤ 900) (h : MT μ b n T) (ha : T.1 = 0 → Ma μ b n T) : qE mX8_reserved GG GG [qP 178] ρ μ (fun z ρ' μ' => z = (if T.1 = 0 ∧ tK b n T.2.2.2 = 1 then kwI (tW b n T.2.2.2) else -1) ∧ ρ' = ρ ∧ μ' = μ) := by
  have h2 := h.2.1
  have h0 := h.2.2.2.2.2
  have tb := tok_b (b := b) h.2.2.2.2.1
  have sb0 := tS_b (b := b) h.2.2.2.2.1
  have p0 := h.2.2.2.1
  have r2 := rk_2 (k := tK b n T.2.2.2) (by omega) (by omega)
  refine qE_post (fun z ρ' μ' q => ⟨?_, q.2.1, q.2.2⟩) (m_reserved (s := tS b n T.2.2.2) (q := tN b n T.2.2.2) h.1 hn (fun c w => ?_))
  · rw [q.1]
    by_cases c : T.1 = 0
    · have a := ha c
      by_cases k : tK b n T.2.2.2 = 1
      · rw [if_pos ⟨by omega, by rw [a.2.2.1]; exact r2.2.1.mpr k⟩, if_pos ⟨c, k⟩]; rfl
      · rw [if_neg (fun x => k (r2.2.1.mp (by rw [← a.2.2.1]; exact x.2))), if_neg (fun x => k x.2)]
    · rw [if_neg (fun x => by omega), if_neg (fun x => c x.1)]
  · have a := ha (by omega)
    have k := r2.2.1.mp (by rw [← a.2.2.1]; exact w)
    have l := tb.2.2.2.2.2.2.1 k
    exact ⟨a.2.1, a.1, by omega, by omega, tb.2.1, l.1, l.2⟩
theorem kw_r (x : Int) : -1 ≤ kwI x ∧ kwI x ≤ 8 := by
  rw [kwI_e]
  repeat' split
  all_goals omega
theorem m_keyword {k : Int} (hb : BY b) (hn : n ≤ 900) (hk : 0 ≤ k) (h : MT μ b n T) (ha : T.1 = 0 → Ma μ b n T) : qE mX8_keyword GG GG [qP 178, qI k] ρ μ (fun _ ρ' μ' => ρ' = ρ ∧ MT μ' b n (fKw b n k T) ∧ OM μ μ' ∧ ((fKw b n k T).1 = 0 → Ma μ' b n (fKw b n k T))) := by
  refine e_X8_keyword ?_
  refine ⟨_, m_res hb hn h ha, ?_⟩
  rintro z1 ρ2 μ3 ⟨hz, hq1_1, hq1_2⟩
  obtain rfl := hq1_1.symm
  obtain rfl := hq1_2.symm
  refine ⟨fun hc2 => ?_, fun hc2 => ?_⟩
  · have hc : T.1 = 0 ∧ tK b n T.2.2.2 = 1 := by
      by_cases c : T.1 = 0 ∧ tK b n T.2.2.2 = 1
      · exact c
      · rw [if_neg c] at hz; omega
    rw [if_pos hc] at hz
    have e : fTk b n T = fKw b n k T := by unfold fKw; rw [if_pos hc.1, if_pos ⟨hc.2, by omega⟩]
    have ap := (ha hc.1).p hc.1
    have ht := (h.tk hc.1).2
    rw [e] at ht ap
    refine ⟨_, m_adv hb hn ht (fun _ => ap.2), ?_⟩
    rintro z5 ρ6 μ7 ⟨hq3_1, c2, o2, a2⟩
    obtain rfl := hq3_1.symm
    exact ⟨rfl, c2, o2, a2⟩
  · obtain ⟨T1, ht, hp, e⟩ : ∃ T1 : Tk, MT μ b n T1 ∧ (T1.1 = 0 → Mp μ T1) ∧ fR 1 T1 = fKw b n k T := by
      by_cases c : T.1 = 0
      · refine ⟨fTk b n T, (h.tk c).2, fun _ => (ha c).p c, ?_⟩
        unfold fKw
        rw [if_pos c, if_neg (fun x => by rw [if_pos ⟨c, x.1⟩] at hz; omega)]
      · exact ⟨T, h, fun x => absurd x c, by rw [fR_c c, fKw_c c]⟩
    refine ⟨_, m_report (x := 1) (by decide) ht hp, ?_⟩
    rintro z9 ρ10 μ11 ⟨hq5_1, c1, o1, k1⟩
    obtain rfl := hq5_1.symm
    rw [e] at c1
    refine ⟨_, m_adv hb hn c1 (fun x => by rw [← e] at x; exact absurd x (fR_k (by decide))), ?_⟩
    rintro z13 ρ14 μ15 ⟨hq6_1, c2, o2, a2⟩
    obtain rfl := hq6_1.symm
    exact ⟨rfl, c2, o1.trans o2, a2⟩
end MOP
