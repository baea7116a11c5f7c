/-! ===== the class's takes ===== -/
def CT (μ : Mem) (b : Int → Int) (n : Int) (T : Tk) : Prop := TXc μ b n ∧ μ 1 3 = T.1 ∧ μ 1 4 = T.2.1 ∧ μ 1 9 = T.2.2.1 ∧ μ 1 8 = T.2.2.2 ∧ TOK n T
def OB (μ μ' : Mem) : Prop := (∀ a, a ≠ 1 → μ' a = μ a) ∧ ∀ k, (k < 3 ∨ (4 < k ∧ k < 8) ∨ 12 < k) → μ' 1 k = μ 1 k
theorem OB.refl {μ : Mem} : OB μ μ := ⟨fun _ _ => rfl, fun _ _ => rfl⟩
theorem OB.trans {μ0 μ1 μ2 : Mem} (h1 : OB μ0 μ1) (h2 : OB μ1 μ2) : OB μ0 μ2 := ⟨fun a x => (h2.1 a x).trans (h1.1 a x), fun k x => (h2.2 k x).trans (h1.2 k x)⟩
theorem kwI_e (x : Int) : kwI x = if x = 500135192942 then 0 else if x = 6513010 then 1 else if x = 1835360620 then 2 else if x = 30233771112949102 then 3 else if x = 495874696043 then 4 else if x = 32776920184415609 then 5 else if x = 6975330 then 6 else if x = 1718775661 then 7 else if x = 29807 then 8 else -1 := rfl
theorem kw_7 {x : Int} : x = 1718775661 ↔ kwI x = 7 := by
  rw [kwI_e]
  constructor
  · intro h; subst h; decide
  · intro h; repeat' split at h
    all_goals omega
theorem kw_8 {x : Int} : x = 29807 ↔ kwI x = 8 := by
  rw [kwI_e]
  constructor
  · intro h; subst h; decide
  · intro h; repeat' split at h
    all_goals omega
section COP
variable {ρ : Rf} {μ : Mem} {b : Int → Int} {n : Int} {T : Tk}
theorem k_refuse {x : Int} (hx : 0 ≤ x) (h : CT μ b n T) : qE mX2_refuse GG GG [qP 1, qI x] ρ μ (fun _ ρ' μ' => ρ' = ρ ∧ CT μ' b n (fR x T) ∧ OB μ μ') := by
  obtain ⟨h1, h2, h3, h4, h5, h6⟩ := h
  refine e_X2_refuse ?_
  rw [h2]
  refine ⟨fun hc1 => ?_, fun hc1 => ?_⟩
  · exact ⟨rfl, by rw [fR_c (by omega)]; exact ⟨h1, h2, h3, h4, h5, h6⟩, OB.refl⟩
  · intro μ1 eμ1; subst eμ1
    intro μ2 eμ2; subst eμ2
    have hc : T.1 = 0 := by omega
    refine ⟨rfl, ?_, ⟨fun a y => by rw [up2_c y, up2_c y], fun k y => by rw [up2_k (by omega), up2_k (by omega)]⟩⟩
    have ht := fR_t (k := x) hx h6
    rw [fR_o hc] at ht ⊢
    refine ⟨⟨fun k k0 k1 => by rw [up2_c (by decide), up2_c (by decide)]; exact h1.1 k k0 k1, by rw [up2_k (by decide), up2_k (by decide)]; exact h1.2⟩, by rw [up2_k (by decide), up2_s], by rw [up2_s, up2_k (by decide)]; exact h4, by rw [up2_k (by decide), up2_k (by decide)]; exact h4, by rw [up2_k (by decide), up2_k (by decide)]; exact h5, ht⟩
theorem k_adv (hb : BY b) (hn : n ≤ 900) (h : CT μ b n T) : qE mX2_advance GG GG [qP 1] ρ μ (fun _ ρ' μ' => ρ' = ρ ∧ CT μ' b n (fTk b n T) ∧ OB μ μ' ∧ (T.1 = 0 → μ' 1 10 = tK b n T.2.2.2 ∧ (tK b n T.2.2.2 = 1 → μ' 1 12 = tW b n T.2.2.2) ∧ (tK b n T.2.2.2 = 2 → μ' 1 11 = tV b n T.2.2.2))) := by
  obtain ⟨h1, h2, h3, h4, h5, h6⟩ := h
  refine qE_post (fun z ρ' μ' q => ?_) (k_advance hb hn h1 h5 h6.1 h6.2.1)
  obtain ⟨rfl, q1, q2, q3, q4⟩ := q
  by_cases c : T.1 = 0
  · obtain ⟨a1, a2, a3, a4, a5⟩ := q4 (by omega)
    have ht := fTk_t (b := b) h6
    rw [fTk_o c] at ht ⊢
    exact ⟨rfl, ⟨⟨fun k k0 k1 => by rw [q1 2 (by decide)]; exact h1.1 k k0 k1, by rw [q2 7 (by decide)]; exact h1.2⟩, by rw [q2 3 (by decide)]; omega, by rw [q2 4 (by decide)]; exact h3, a2, a1, ht⟩, ⟨q1, fun k y => q2 k (by omega)⟩, fun _ => ⟨a3, a4, a5⟩⟩
  · have := q3 (by omega)
    subst this
    rw [fTk_c c]
    exact ⟨rfl, ⟨h1, h2, h3, h4, h5, h6⟩, OB.refl, fun x => absurd x c⟩
theorem k_takeNumber {lo hi : Int} (hb : BY b) (hn : n ≤ 900) (h : CT μ b n T) : qE mX2_takeNumber GG GG [qP 1, qI lo, qI hi] ρ μ (fun z ρ' μ' => z = vNu b n lo hi T ∧ ρ' = ρ ∧ CT μ' b n (fNu b n lo hi T) ∧ OB μ μ') := by
  have F41 : ∀ μ1 : Mem, CT μ1 b n (fNu b n lo hi T) → OB μ μ1 → ((fNu b n lo hi T).1 = 0 → μ1 1 11 = tV b n T.2.2.2) → qX mX2_takeNumber GG (fun z ρ' μ' => z = vNu b n lo hi T ∧ ρ' = ρ ∧ CT μ' b n (fNu b n lo hi T) ∧ OB μ μ') GG (0, 0) 41 [some (qP 1), some (qI lo), none] [] ρ μ1 := by
    intro μ1 c1 o1 v1
    refine w_X2_takeNumber_41 ?_
    rw [c1.2.1]
    refine ⟨fun hc1 => ?_, fun hc1 => ?_⟩
    · exact ⟨by unfold vNu; rw [if_neg (by omega)], rfl, c1, o1⟩
    · exact ⟨by unfold vNu; rw [if_pos (by omega)]; exact v1 (by omega), rfl, c1, o1⟩
  have F36 : ∀ μ1 : Mem, CT μ1 b n (fTk b n T) → OB μ μ1 → fR 2 (fTk b n T) = fNu b n lo hi T → (fNu b n lo hi T).1 ≠ 0 → qX mX2_takeNumber GG (fun z ρ' μ' => z = vNu b n lo hi T ∧ ρ' = ρ ∧ CT μ' b n (fNu b n lo hi T) ∧ OB μ μ') GG (0, 0) 36 [some (qP 1), some (qI lo), none] [] ρ μ1 := by
    intro μ1 c1 o1 e ne
    refine w_X2_takeNumber_36 ?_
    refine ⟨_, k_refuse (x := 2) (by decide) c1, ?_⟩
    rintro z1 ρ2 μ3 ⟨hq1_1, c2, o2⟩
    obtain rfl := hq1_1.symm
    exact F41 _ (by rw [← e]; exact c2) (o1.trans o2) (fun x => absurd x ne)
  refine e_X2_takeNumber ?_
  refine ⟨_, k_adv hb hn h, ?_⟩
  rintro z1 ρ2 μ3 ⟨hq1_1, c1, o1, v1⟩
  obtain rfl := hq1_1.symm
  refine ⟨fun hc2 => ?_, fun hc2 => ?_⟩
  · refine ⟨fun hc3 => ?_, fun hc3 => ?_⟩
    · by_cases c : T.1 = 0
      · obtain ⟨v1, v2, v3⟩ := v1 c
        have e : fR 2 (fTk b n T) = fNu b n lo hi T := by unfold fNu; rw [if_pos c, if_pos (by omega), if_neg (by have := v3 (by omega); omega)]
        exact F36 _ c1 o1 e (by rw [← e]; exact fR_k (by decide))
      · have e : fR 2 (fTk b n T) = fNu b n lo hi T := by rw [fTk_c c, fR_c c, fNu_c c]
        exact F36 _ c1 o1 e (by rw [fNu_c c]; exact c)
    · refine ⟨fun hc5 => ?_, fun hc5 => ?_⟩
      · by_cases c : T.1 = 0
        · obtain ⟨v1, v2, v3⟩ := v1 c
          have e : fTk b n T = fNu b n lo hi T := by unfold fNu; rw [if_pos c, if_pos (by omega), if_pos (by have := v3 (by omega); omega)]
          exact F41 _ (by rw [← e]; exact c1) o1 (fun _ => v3 (by omega))
        · have e : fTk b n T = fNu b n lo hi T := by rw [fTk_c c, fNu_c c]
          exact F41 _ (by rw [← e]; exact c1) o1 (fun x => by rw [fNu_c c] at x; exact absurd x c)
      · by_cases c : T.1 = 0
        · obtain ⟨v1, v2, v3⟩ := v1 c
          have e : fR 2 (fTk b n T) = fNu b n lo hi T := by unfold fNu; rw [if_pos c, if_pos (by omega), if_neg (by have := v3 (by omega); omega)]
          exact F36 _ c1 o1 e (by rw [← e]; exact fR_k (by decide))
        · have e : fR 2 (fTk b n T) = fNu b n lo hi T := by rw [fTk_c c, fR_c c, fNu_c c]
          exact F36 _ c1 o1 e (by rw [fNu_c c]; exact c)
  · refine ⟨_, k_refuse (x := 1) (by decide) c1, ?_⟩
    rintro z5 ρ6 μ7 ⟨hq8_1, c2, o2⟩
    obtain rfl := hq8_1.symm
    have e : fR 1 (fTk b n T) = fNu b n lo hi T := by
      by_cases c : T.1 = 0
      · obtain ⟨v1, v2, v3⟩ := v1 c
        unfold fNu; rw [if_pos c, if_neg (by omega)]
      · rw [fTk_c c, fR_c c, fNu_c c]
    exact F41 _ (by rw [← e]; exact c2) (o1.trans o2) (fun x => by rw [← e] at x; exact absurd x (fR_k (by decide)))
theorem k_takeKeyword {w k : Int} (hb : BY b) (hn : n ≤ 900) (hk : ∀ x : Int, x = w ↔ kwI x = k) (h : CT μ b n T) : qE mX2_takeKeyword GG GG [qP 1, qJ w] ρ μ (fun _ ρ' μ' => ρ' = ρ ∧ CT μ' b n (fKw b n k T) ∧ OB μ μ') := by
  refine e_X2_takeKeyword ?_
  refine ⟨_, k_adv hb hn h, ?_⟩
  rintro z1 ρ2 μ3 ⟨hq1_1, c1, o1, v1⟩
  obtain rfl := hq1_1.symm
  refine ⟨fun hc2 => ?_, fun hc2 => ?_⟩
  · refine ⟨_, k_refuse (x := 1) (by decide) c1, ?_⟩
    rintro z5 ρ6 μ7 ⟨hq3_1, c2, o2⟩
    obtain rfl := hq3_1.symm
    have e : fR 1 (fTk b n T) = fKw b n k T := by
      by_cases c : T.1 = 0
      · obtain ⟨v1, v2, v3⟩ := v1 c
        unfold fKw; rw [if_pos c, if_neg (fun x => by omega)]
      · rw [fTk_c c, fR_c c, fKw_c c]
    exact ⟨rfl, by rw [← e]; exact c2, o1.trans o2⟩
  · refine ⟨fun hc5 => ?_, fun hc5 => ?_⟩
    · have e : fTk b n T = fKw b n k T := by
        by_cases c : T.1 = 0
        · obtain ⟨v1, v2, v3⟩ := v1 c
          have := v2 (by omega)
          unfold fKw; rw [if_pos c, if_pos ⟨by omega, (hk _).mp (by omega)⟩]
        · rw [fTk_c c, fKw_c c]
      exact ⟨rfl, by rw [← e]; exact c1, o1⟩
    · refine ⟨_, k_refuse (x := 1) (by decide) c1, ?_⟩
      rintro z9 ρ10 μ11 ⟨hq7_1, c2, o2⟩
      obtain rfl := hq7_1.symm
      have e : fR 1 (fTk b n T) = fKw b n k T := by
        by_cases c : T.1 = 0
        · obtain ⟨v1, v2, v3⟩ := v1 c
          have := v2 (by omega)
          unfold fKw; rw [if_pos c, if_neg (fun x => by have := (hk _).mpr x.2; omega)]
        · rw [fTk_c c, fR_c c, fKw_c c]
      exact ⟨rfl, by rw [← e]; exact c2, o1.trans o2⟩
theorem k_isKeyword : qE mX2_isKeyword GG GG [qP 1] ρ μ (fun z ρ' μ' => z = (if kwI (μ 1 12) = -1 then 0 else 1) ∧ ρ' = ρ ∧ μ' = μ) := by
  refine e_X2_isKeyword ?_
  refine ⟨fun hc1 => ?_, fun hc1 => ?_⟩
  · exact ⟨by rw [kwI_e]; simp [*], rfl, rfl⟩
  · refine ⟨fun hc3 => ?_, fun hc3 => ?_⟩
    · exact ⟨by rw [kwI_e]; simp [*], rfl, rfl⟩
    · refine ⟨fun hc5 => ?_, fun hc5 => ?_⟩
      · exact ⟨by rw [kwI_e]; simp [*], rfl, rfl⟩
      · refine ⟨fun hc7 => ?_, fun hc7 => ?_⟩
        · exact ⟨by rw [kwI_e]; simp [*], rfl, rfl⟩
        · refine ⟨fun hc9 => ?_, fun hc9 => ?_⟩
          · exact ⟨by rw [kwI_e]; simp [*], rfl, rfl⟩
          · refine ⟨fun hc11 => ?_, fun hc11 => ?_⟩
            · exact ⟨by rw [kwI_e]; simp [*], rfl, rfl⟩
            · refine ⟨fun hc13 => ?_, fun hc13 => ?_⟩
              · exact ⟨by rw [kwI_e]; simp [*], rfl, rfl⟩
              · refine ⟨fun hc15 => ?_, fun hc15 => ?_⟩
                · exact ⟨by rw [kwI_e]; simp [*], rfl, rfl⟩
                · refine ⟨fun hc17 => ?_, fun hc17 => ?_⟩
                  · exact ⟨by rw [kwI_e]; simp [*], rfl, rfl⟩
                  · have hc : μ 1 12 = 29807 := by omega
                    exact ⟨by rw [hc]; decide, rfl, rfl⟩
theorem k_takeName (hb : BY b) (hn : n ≤ 900) (h : CT μ b n T) : qE mX2_takeName GG GG [qP 1] ρ μ (fun _ ρ' μ' => ρ' = ρ ∧ CT μ' b n (fKw b n (-1) T) ∧ OB μ μ' ∧ ((fKw b n (-1) T).1 = 0 → μ' 1 12 = tW b n T.2.2.2)) := by
  refine e_X2_takeName ?_
  refine ⟨_, k_adv hb hn h, ?_⟩
  rintro z1 ρ2 μ3 ⟨hq1_1, c1, o1, v1⟩
  obtain rfl := hq1_1.symm
  refine ⟨fun hc2 => ?_, fun hc2 => ?_⟩
  · refine ⟨_, k_refuse (x := 1) (by decide) c1, ?_⟩
    rintro z5 ρ6 μ7 ⟨hq3_1, c2, o2⟩
    obtain rfl := hq3_1.symm
    have e : fR 1 (fTk b n T) = fKw b n (-1) T := by
      by_cases c : T.1 = 0
      · obtain ⟨v1, v2, v3⟩ := v1 c
        unfold fKw; rw [if_pos c, if_neg (fun x => by omega)]
      · rw [fTk_c c, fR_c c, fKw_c c]
    exact ⟨rfl, by rw [← e]; exact c2, o1.trans o2, fun x => by rw [← e] at x; exact absurd x (fR_k (by decide))⟩
  · refine ⟨_, k_isKeyword, ?_⟩
    rintro z9 ρ10 μ11 ⟨hz, hq5_1, hq5_2⟩
    obtain rfl := hq5_1.symm
    obtain rfl := hq5_2.symm
    refine ⟨fun hc6 => ?_, fun hc6 => ?_⟩
    · have e : fTk b n T = fKw b n (-1) T := by
        by_cases c : T.1 = 0
        · obtain ⟨v1, v2, v3⟩ := v1 c
          have v2 := v2 (by omega)
          rw [v2] at hz
          unfold fKw; rw [if_pos c, if_pos ⟨by omega, by
            by_cases x : kwI (tW b n T.2.2.2) = -1
            · exact x
            · rw [if_neg x] at hz; omega⟩]
        · rw [fTk_c c, fKw_c c]
      exact ⟨rfl, by rw [← e]; exact c1, o1, fun x => (v1 (fKw_0 x).1).2.1 (fKw_0 x).2.1⟩
    · refine ⟨_, k_refuse (x := 1) (by decide) c1, ?_⟩
      rintro z13 ρ14 μ15 ⟨hq8_1, c2, o2⟩
      obtain rfl := hq8_1.symm
      have e : fR 1 (fTk b n T) = fKw b n (-1) T := by
        by_cases c : T.1 = 0
        · obtain ⟨v1, v2, v3⟩ := v1 c
          have v2 := v2 (by omega)
          rw [v2] at hz
          unfold fKw; rw [if_pos c, if_neg (fun x => by rw [if_pos x.2] at hz; omega)]
        · rw [fTk_c c, fR_c c, fKw_c c]
      exact ⟨rfl, by rw [← e]; exact c2, o1.trans o2, fun x => by rw [← e] at x; exact absurd x (fR_k (by decide))⟩
/-! ### the draft in the class's cells -/
def DV (b : Int → Int) (D : Sg) : Prop :=
  (∀ t, 0 ≤ t → t < 2 → 0 ≤ D 1 (4 + t) ∧ D 1 (4 + t) ≤ 5 ∧ (D 4 t ≠ 0 → 0 ≤ D 1 (0 + t) ∧ D 1 (0 + t) ≤ 900 ∧ D 1 (0 + t) ≤ D 1 (2 + t) ∧ D 1 (2 + t) ≤ 999)) ∧
  (∀ t, 0 ≤ t → t < 2 → ∀ c, 0 ≤ c → c < D 1 (4 + t) → 0 ≤ D 1 (6 + 5 * t + c) ∧ D 1 (6 + 5 * t + c) ≤ 99 ∧ 0 ≤ D 1 (16 + (5 * t + c)) ∧ D 1 (16 + (5 * t + c)) ≤ 99 ∧ 0 ≤ D 1 (26 + (5 * t + c)) ∧ D 1 (26 + (5 * t + c)) ≤ 99) ∧
  (∀ m, 0 ≤ m → m < D 1 36 → 0 ≤ D 1 (37 + m) ∧ D 1 (37 + m) ≤ 20 ∧ 0 ≤ D 1 (41 + m) ∧ D 1 (41 + m) ≤ 20) ∧
  (∀ k, 0 ≤ k → k < D 1 45 → 0 ≤ D 1 (46 + k) ∧ D 1 (46 + k) ≤ 99) ∧
  (∀ k, 0 ≤ k → k < 12 → 0 ≤ D 1 (49 + k) ∧ D 1 (49 + k) ≤ 999) ∧
  (∀ i, 0 ≤ i → i < D 1 61 → 0 ≤ D 1 (62 + 5 * i + 0) ∧ D 1 (62 + 5 * i + 0) < D 1 45 ∧ 1 ≤ D 1 (62 + 5 * i + 1) ∧ D 1 (62 + 5 * i + 1) ≤ 99 ∧ 1 ≤ D 1 (62 + 5 * i + 2) ∧ D 1 (62 + 5 * i + 2) ≤ 9 ∧ 1 ≤ D 1 (62 + 5 * i + 3) ∧ D 1 (62 + 5 * i + 3) ≤ 5 ∧ 1 ≤ D 1 (62 + 5 * i + 4) ∧ D 1 (62 + 5 * i + 4) ≤ 5) ∧
  (∀ j, 0 ≤ j → j < D 1 87 → 0 ≤ D 1 (88 + 5 * j + 0) ∧ D 1 (88 + 5 * j + 0) < D 1 61 ∧ 0 ≤ D 1 (88 + 5 * j + 1) ∧ D 1 (88 + 5 * j + 1) < 2 ∧ 0 ≤ D 1 (88 + 5 * j + 2) ∧ D 1 (88 + 5 * j + 2) < D 1 (4 + D 1 (88 + 5 * j + 1)) ∧ 0 ≤ D 1 (88 + 5 * j + 3) ∧ D 1 (88 + 5 * j + 3) < D 1 36 ∧ 1 ≤ D 1 (88 + 5 * j + 4) ∧ D 1 (88 + 5 * j + 4) ≤ 99) ∧
  (0 ≤ D 1 36 ∧ D 1 36 ≤ 4 ∧ 0 ≤ D 1 45 ∧ D 1 45 ≤ 3 ∧ 0 ≤ D 1 61 ∧ D 1 61 ≤ 5 ∧ 0 ≤ D 1 87 ∧ D 1 87 ≤ 20) ∧
  (∀ i, cnt (D 1) i ≤ 8) ∧ (∀ k, k < 0 ∨ 188 ≤ k → D 1 k = 0) ∧ (∀ m, 0 ≤ m → m < D 1 36 → WOK b (D 2 m) (D 3 m))
def FD (μ : Mem) (f : Nat) (D : Sg) : Prop :=
  (∀ t, 0 ≤ t → t < 2 → μ (f + 1) t = D 4 t ∧ μ (f + 3) t = D 1 (4 + t) ∧ (D 4 t ≠ 0 → μ (f + 2) t = D 1 (0 + t))) ∧
  (∀ t, 0 ≤ t → t < 2 → ∀ c, 0 ≤ c → c < D 1 (4 + t) → μ (f + 4) (5 * t + c) = D 1 (6 + 5 * t + c) ∧ μ (f + 5) (5 * t + c) = D 1 (16 + (5 * t + c)) ∧ μ (f + 6) (5 * t + c) = D 1 (26 + (5 * t + c))) ∧
  (∀ m, 0 ≤ m → m < D 1 36 → μ (f + 7) m = D 2 m ∧ μ (f + 8) m = D 1 (37 + m) ∧ μ (f + 9) m = D 1 (41 + m)) ∧
  (∀ k, 0 ≤ k → k < D 1 45 → μ (f + 10) k = D 1 (46 + k)) ∧
  (∀ i, 0 ≤ i → i < D 1 61 → μ (f + 11) i = D 1 (62 + 5 * i + 0) ∧ μ (f + 12) i = D 1 (62 + 5 * i + 1) ∧ μ (f + 13) i = D 1 (62 + 5 * i + 2) ∧ μ (f + 14) i = D 1 (62 + 5 * i + 3) ∧ μ (f + 15) i = D 1 (62 + 5 * i + 4)) ∧
  μ f 15 = D 1 36 ∧ μ f 16 = D 1 45 ∧ μ f 17 = D 1 61
def SD (μ : Mem) (s : Nat) (D : Sg) : Prop :=
  (∀ j, 0 ≤ j → j < D 1 87 → μ (s + 1) j = D 1 (88 + 5 * j + 0) ∧ μ (s + 2) j = 5 * D 1 (88 + 5 * j + 1) + D 1 (88 + 5 * j + 2) ∧ μ (s + 3) j = D 1 (88 + 5 * j + 3) ∧ μ (s + 4) j = D 1 (88 + 5 * j + 4)) ∧
  (∀ t, 0 ≤ t → t < 2 → D 4 t ≠ 0 → μ (s + 5) t = D 1 (2 + t)) ∧ (∀ k, 0 ≤ k → k < 12 → μ (s + 6) k = D 1 (49 + k)) ∧ μ s 6 = D 1 87
def CD (ρ : Rf) (μ : Mem) (f s : Nat) (D : Sg) : Prop := ((f = 155 ∧ s = 171) ∨ (f = 4 ∧ s = 20)) ∧ ρ 1 5 = f ∧ ρ 1 6 = s ∧ FD μ f D ∧ SD μ s D ∧ ∀ k, 0 ≤ k → k < 12 → μ 3 k = D 5 k
variable {f s : Nat} {D : Sg}
theorem CD.i0 (h : CD ρ μ f s D) : isO 0 f := by rcases h.1 with e | e <;> (rw [e.1]; rfl)
theorem CD.i6 (h : CD ρ μ f s D) : isO 6 s := by rcases h.1 with e | e <;> (rw [e.2]; rfl)
theorem CD.ob {μ' : Mem} (h : CD ρ μ f s D) (o : OB μ μ') : CD ρ μ' f s D := by
  obtain ⟨h1, h2, h3, h4, h5, h6⟩ := h
  refine ⟨h1, h2, h3, ?_, ?_, ?_⟩
  · unfold FD
    rw [o.1 (f + 1) (by omega), o.1 (f + 2) (by omega), o.1 (f + 3) (by omega), o.1 (f + 4) (by omega), o.1 (f + 5) (by omega), o.1 (f + 6) (by omega), o.1 (f + 7) (by omega), o.1 (f + 8) (by omega), o.1 (f + 9) (by omega), o.1 (f + 10) (by omega), o.1 (f + 11) (by omega), o.1 (f + 12) (by omega), o.1 (f + 13) (by omega), o.1 (f + 14) (by omega), o.1 (f + 15) (by omega), o.1 f (by omega)]
    exact h4
  · unfold SD
    rw [o.1 (s + 1) (by omega), o.1 (s + 2) (by omega), o.1 (s + 3) (by omega), o.1 (s + 4) (by omega), o.1 (s + 5) (by omega), o.1 (s + 6) (by omega), o.1 s (by omega)]
    exact h5
  · rw [o.1 3 (by omega)]; exact h6
theorem k_refuseUnknown {t : Int} (h : CT μ b n T) (hd : CD ρ μ f s D) (ht : 0 ≤ t ∧ t < 2) : qE mX2_refuseUnknownTrain GG GG [qP 1, qI t] ρ μ (fun _ ρ' μ' => ρ' = ρ ∧ CT μ' b n (fUt D t T) ∧ OB μ μ') := by
  have e := (hd.2.2.2.1.1 t ht.1 ht.2).1
  refine e_X2_refuseUnknownTrain ?_
  rw [hd.2.1]
  refine ⟨(by exact hd.i0), ?_⟩
  refine ⟨(by omega), ?_⟩
  rw [e]
  refine ⟨fun hc3 => ?_, fun hc3 => ?_⟩
  · exact ⟨rfl, by unfold fUt; rw [if_neg (by omega)]; exact h, OB.refl⟩
  · refine ⟨_, k_refuse (x := 2) (by decide) h, ?_⟩
    rintro z2 ρ3 μ4 ⟨hq5_1, c2, o2⟩
    obtain rfl := hq5_1.symm
    exact ⟨rfl, by unfold fUt; rw [if_pos (by omega)]; exact c2, o2⟩
theorem k_mealNamed {w : Int} (hd : CD ρ μ f s D) (hv : DV b D) : qE mX0_mealNamed GG GG [qP f, qJ w] ρ μ (fun z ρ' μ' => z = fnd (D 2) (D 1 36) w ∧ ρ' = ρ ∧ μ' = μ) := by
  have c := hv.2.2.2.2.2.2.2.1
  have e := hd.2.2.2.1.2.2
  have L : ∀ (m : Nat) (k : Int), (D 1 36 - k).toNat = m → 0 ≤ k → k ≤ D 1 36 → fnd (D 2) (D 1 36) w = fndF (D 2) w m k → qX mX0_mealNamed GG (fun z ρ' μ' => z = fnd (D 2) (D 1 36) w ∧ ρ' = ρ ∧ μ' = μ) GG (0, 0) 2 [some (qP f), some (qJ w), none, some (qI k)] [] ρ μ := by
    intro m
    induction m with
    | zero =>
      intro k hm k0 k1 hf
      refine w_X0_mealNamed_2 hd.i0 ?_
      rw [e.2.2.2.1]
      refine ⟨fun hc1 => ?_, fun hc1 => ?_⟩
      · exact ⟨by rw [hf]; rfl, rfl, rfl⟩
      · exfalso; omega
    | succ m ih =>
      intro k hm k0 k1 hf
      have ef : fndF (D 2) w (m + 1) k = if D 2 k = w then k else fndF (D 2) w m (k + 1) := rfl
      refine w_X0_mealNamed_2 hd.i0 ?_
      rw [e.2.2.2.1]
      refine ⟨fun hc1 => ?_, fun hc1 => ?_⟩
      · exfalso; omega
      · refine ⟨(by omega), ?_⟩
        rw [(e.1 k k0 (by omega)).1]
        refine ⟨fun hc4 => ?_, fun hc4 => ?_⟩
        · refine ⟨(by unfold i32; omega), ?_⟩
          exact ih (k + 1) (by omega) (by omega) (by omega) (by rw [hf, ef, if_neg (by omega)])
        · exact ⟨by rw [hf, ef, if_pos (by omega)], rfl, rfl⟩
  refine e_X0_mealNamed hd.i0 ?_
  exact L _ 0 rfl (by omega) (by omega) (by rw [show D 1 36 - 0 = D 1 36 by omega]; rfl)
theorem k_namedMeal (h : CT μ b n (fKw b n (-1) T)) (hw : (fKw b n (-1) T).1 = 0 → μ 1 12 = tW b n T.2.2.2) (hd : CD ρ μ f s D) (hv : DV b D) : qE mX2_namedMeal GG GG [qP 1] ρ μ (fun z ρ' μ' => (0 ≤ z ∧ z ≤ 3) ∧ ((fMl b n D T).1 = 0 → z = vMl b n D T) ∧ ρ' = ρ ∧ CT μ' b n (fMl b n D T) ∧ OB μ μ') := by
  have c := hv.2.2.2.2.2.2.2.1
  have fb := fnd_b (f := D 2) (c := D 1 36) (w := μ 1 12) c.1
  refine e_X2_namedMeal ?_
  rw [hd.2.1]
  refine ⟨(by exact hd.i0), ?_⟩
  refine ⟨_, k_mealNamed hd hv, ?_⟩
  rintro z2 ρ3 μ4 ⟨hq2_1, hq2_2, hq2_3⟩
  obtain rfl := hq2_1.symm
  obtain rfl := hq2_2.symm
  obtain rfl := hq2_3.symm
  refine ⟨fun hc3 => ?_, fun hc3 => ?_⟩
  · have e : fMl b n D T = fKw b n (-1) T := by
      by_cases q : (fKw b n (-1) T).1 = 0
      · unfold fMl; rw [← hw q, if_neg (by omega)]
      · unfold fMl; rw [fR_c q]; split <;> rfl
    exact ⟨by omega, fun x => by rw [e] at x; unfold vMl; rw [hw x], rfl, by rw [e]; exact h, OB.refl⟩
  · refine ⟨_, k_refuse (x := 2) (by decide) h, ?_⟩
    rintro z6 ρ7 μ8 ⟨hq5_1, c2, o2⟩
    obtain rfl := hq5_1.symm
    have e : fMl b n D T = fR 2 (fKw b n (-1) T) := by
      by_cases q : (fKw b n (-1) T).1 = 0
      · unfold fMl; rw [← hw q, if_pos (by omega)]
      · unfold fMl; rw [fR_c q]; split <;> rfl
    exact ⟨by omega, fun x => by rw [e] at x; exact absurd x (fR_k (by decide)), rfl, by rw [e]; exact c2, o2⟩
end COP
