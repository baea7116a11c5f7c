/-! ===== the reference's takes that need the draft ===== -/
def MD (μ : Mem) (D : Sg) : Prop := (∀ k, 0 ≤ k → k < 188 → μ 181 k = D 1 k) ∧ (∀ m, 0 ≤ m → m < D 1 36 → μ 184 m = D 3 m) ∧ (∀ t, 0 ≤ t → t < 2 → μ 185 t = D 4 t) ∧ ∀ k, 0 ≤ k → k < 12 → μ 186 k = D 5 k
section MOD
variable {ρ : Rf} {μ : Mem} {b : Int → Int} {n : Int} {T : Tk} {D : Sg}
theorem MD.om {μ' : Mem} (h : MD μ D) (o : OM μ μ') : MD μ' D := by
  unfold MD
  rw [o.1 181 (by decide), o.1 184 (by decide), o.1 185 (by decide), o.1 186 (by decide)]
  exact h
theorem m_peekTrain (h : MT μ b n T) (ha : T.1 = 0 → Ma μ b n T) (hd : T.1 = 0 → MD μ D) : qE mX8_peekTrain GG GG [qP 178] ρ μ (fun z ρ' μ' => z = vNu b n 0 1 T ∧ ρ' = ρ ∧ MT μ' b n (fUt D (vNu b n 0 1 T) (fNu b n 0 1 T)) ∧ OM μ μ' ∧ ((fUt D (vNu b n 0 1 T) (fNu b n 0 1 T)).1 = 0 → Mp μ' (fUt D (vNu b n 0 1 T) (fNu b n 0 1 T)))) := by
  have vr := vNu_r (b := b) (n := n) (lo := 0) (hi := 1) (T := T) (by decide)
  refine e_X8_peekTrain ?_
  refine ⟨_, m_peek h ha, ?_⟩
  rintro z1 ρ2 μ3 ⟨hq1_1, hq1_2, c1, o1, p1⟩
  obtain rfl := hq1_1.symm
  obtain rfl := hq1_2.symm
  rw [c1.2.1]
  refine ⟨fun hc2 => ?_, fun hc2 => ?_⟩
  · exact ⟨rfl, rfl, by rw [fUt_c (by omega)]; exact c1, o1, fun x => by rw [fUt_c (by omega)] at x ⊢; exact p1 x⟩
  · refine ⟨(by omega), ?_⟩
    have c : (fNu b n 0 1 T).1 = 0 := by omega
    have d := (hd (fNu_0 c).1).om o1
    rw [d.2.2.1 _ (by omega) (by omega)]
    refine ⟨fun hc5 => ?_, fun hc5 => ?_⟩
    · exact ⟨rfl, rfl, by unfold fUt; rw [if_neg (by omega)]; exact c1, o1, fun x => by unfold fUt; rw [if_neg (by omega)]; exact p1 c⟩
    · refine ⟨_, m_report (x := 2) (by decide) c1 p1, ?_⟩
      rintro z5 ρ6 μ7 ⟨hq7_1, c2, o2, k2⟩
      obtain rfl := hq7_1.symm
      exact ⟨rfl, rfl, by unfold fUt; rw [if_pos (by omega)]; exact c2, o1.trans o2, fun x => by unfold fUt at x; rw [if_pos (by omega)] at x; exact absurd x (fR_k (by decide))⟩
theorem m_mealBy {w : Int} (c0 : 0 ≤ μ 181 36) (c4 : μ 181 36 ≤ 4) : qE mX8_mealBy GG GG [qP 178, qJ w] ρ μ (fun z ρ' μ' => z = fnd (μ 184) (μ 181 36) w ∧ ρ' = ρ ∧ μ' = μ) := by
  have L : ∀ (m : Nat) (k : Int), (μ 181 36 - k).toNat = m → 0 ≤ k → k ≤ μ 181 36 → fnd (μ 184) (μ 181 36) w = fndF (μ 184) w m k → qX mX8_mealBy GG (fun z ρ' μ' => z = fnd (μ 184) (μ 181 36) w ∧ ρ' = ρ ∧ μ' = μ) GG (0, 0) 2 [some (qP 178), some (qJ w), none, some (qI k)] [] ρ μ := by
    intro m
    induction m with
    | zero =>
      intro k hm k0 k1 hf
      refine w_X8_mealBy_2 ?_
      refine ⟨fun hc1 => ?_, fun hc1 => ?_⟩
      · exact ⟨by rw [hf]; rfl, rfl, rfl⟩
      · exfalso; omega
    | succ m ih =>
      intro k hm k0 k1 hf
      have ef : fndF (μ 184) w (m + 1) k = if μ 184 k = w then k else fndF (μ 184) w m (k + 1) := rfl
      refine w_X8_mealBy_2 ?_
      refine ⟨fun hc1 => ?_, fun hc1 => ?_⟩
      · exfalso; omega
      · refine ⟨(by omega), ?_⟩
        refine ⟨fun hc4 => ?_, fun hc4 => ?_⟩
        · refine ⟨(by unfold i32; omega), ?_⟩
          exact ih (k + 1) (by omega) (by omega) (by omega) (by rw [hf, ef, if_neg (by omega)])
        · exact ⟨by rw [hf, ef, if_pos (by omega)], rfl, rfl⟩
  refine e_X8_mealBy ?_
  exact L _ 0 rfl (by omega) (by omega) (by rw [show μ 181 36 - 0 = μ 181 36 by omega]; rfl)
theorem fnd_w {p : Int} (hd : MD μ D) (hv : DV b D) (hp : p ≤ n) (hk : tK b n p = 1) : fnd (μ 184) (μ 181 36) (tX b n p) = fnd (D 2) (D 1 36) (tW b n p) := by
  rw [hd.1 36 (by decide) (by decide)]
  refine fnd_c (fun j j0 j1 => ?_)
  rw [hd.2.1 j j0 j1]
  exact ((hv.2.2.2.2.2.2.2.2.2.2 j j0 j1).iff (tok_W hp hk)).symm
theorem m_peekMeal (hb : BY b) (hn : n ≤ 900) (h : MT μ b n T) (ha : T.1 = 0 → Ma μ b n T) (hd : T.1 = 0 → MD μ D) (hv : DV b D) : qE mX8_peekMeal GG GG [qP 178] ρ μ (fun z ρ' μ' => ((fMl b n D T).1 = 0 → z = vMl b n D T) ∧ ρ' = ρ ∧ MT μ' b n (fMl b n D T) ∧ OM μ μ' ∧ ((fMl b n D T).1 = 0 → Mp μ' (fMl b n D T))) := by
  have h2 := h.2.1
  have h0 := h.2.2.2.2.2
  have cb := hv.2.2.2.2.2.2.2.1
  have tb := tok_b (b := b) h.2.2.2.2.1
  have r2 := rk_2 (k := tK b n T.2.2.2) (by omega) (by omega)
  have F47 : ∀ (μ1 : Mem) (z : Int), MT μ1 b n (fMl b n D T) → OM μ μ1 → ((fMl b n D T).1 = 0 → Mp μ1 (fMl b n D T)) → ((fMl b n D T).1 = 0 → z = vMl b n D T) → qX mX8_peekMeal GG (fun z ρ' μ' => ((fMl b n D T).1 = 0 → z = vMl b n D T) ∧ ρ' = ρ ∧ MT μ' b n (fMl b n D T) ∧ OM μ μ' ∧ ((fMl b n D T).1 = 0 → Mp μ' (fMl b n D T))) GG (0, 0) 47 [some (qP 178), some (qI z)] [] ρ μ1 := by
    intro μ1 z c1 o1 p1 hz
    refine w_X8_peekMeal_47 ?_
    refine ⟨fun hc1 => ?_, fun hc1 => ?_⟩
    · exact ⟨hz, rfl, c1, o1, p1⟩
    · exact ⟨fun x => by have := c1.2.1; omega, rfl, c1, o1, p1⟩
  have E29 : T.1 = 0 → ∀ (μ1 : Mem), MT μ1 b n (fKw b n (-1) T) → OM μ μ1 → (fKw b n (-1) T).1 ≠ 0 → qX mX8_peekMeal GG (fun z ρ' μ' => ((fMl b n D T).1 = 0 → z = vMl b n D T) ∧ ρ' = ρ ∧ MT μ' b n (fMl b n D T) ∧ OM μ μ' ∧ ((fMl b n D T).1 = 0 → Mp μ' (fMl b n D T))) GG (0, 0) 29 [some (qP 178), none] [] ρ μ1 := by
    intro hc μ1 c1 o1 ne
    have d1 := (hd hc).om o1
    have e36 : μ1 181 36 = D 1 36 := d1.1 36 (by decide) (by decide)
    have eM : fMl b n D T = fKw b n (-1) T := by unfold fMl; rw [fR_c ne]; split <;> rfl
    refine w_X8_peekMeal_29 ?_
    refine ⟨_, m_mealBy (by omega) (by omega), ?_⟩
    rintro z1 ρ2 μ3 ⟨hq1_1, hq1_2, hq1_3⟩
    obtain rfl := hq1_1.symm
    obtain rfl := hq1_2.symm
    obtain rfl := hq1_3.symm
    refine ⟨fun hc2 => ?_, fun hc2 => ?_⟩
    · exact F47 μ1 _ (by rw [eM]; exact c1) o1 (fun x => by rw [eM] at x; exact absurd x ne) (fun x => by rw [eM] at x; exact absurd x ne)
    · refine ⟨_, m_report (x := 2) (by decide) c1 (fun x => absurd x ne), ?_⟩
      rintro z5 ρ6 μ7 ⟨hq4_1, c2, o2, k2⟩
      obtain rfl := hq4_1.symm
      rw [fR_c ne] at c2
      exact F47 _ _ (by rw [eM]; exact c2) (o1.trans o2) (fun x => by rw [eM] at x; exact absurd x ne) (fun x => by rw [eM] at x; exact absurd x ne)
  have E24 : T.1 = 0 → fR 1 (fTk b n T) = fKw b n (-1) T → qX mX8_peekMeal GG (fun z ρ' μ' => ((fMl b n D T).1 = 0 → z = vMl b n D T) ∧ ρ' = ρ ∧ MT μ' b n (fMl b n D T) ∧ OM μ μ' ∧ ((fMl b n D T).1 = 0 → Mp μ' (fMl b n D T))) GG (0, 0) 24 [some (qP 178), none] [] ρ μ := by
    intro hc e
    refine w_X8_peekMeal_24 ?_
    refine ⟨_, m_report (x := 1) (by decide) (h.tk hc).2 (fun _ => (ha hc).p hc), ?_⟩
    rintro z1 ρ2 μ3 ⟨hq1_1, c2, o2, k2⟩
    obtain rfl := hq1_1.symm
    rw [e] at c2
    exact E29 hc _ c2 o2 (by rw [← e]; exact fR_k (by decide))
  have G29 : T.1 = 0 → tK b n T.2.2.2 = 1 → kwI (tW b n T.2.2.2) = -1 → qX mX8_peekMeal GG (fun z ρ' μ' => ((fMl b n D T).1 = 0 → z = vMl b n D T) ∧ ρ' = ρ ∧ MT μ' b n (fMl b n D T) ∧ OM μ μ' ∧ ((fMl b n D T).1 = 0 → Mp μ' (fMl b n D T))) GG (0, 0) 29 [some (qP 178), none] [] ρ μ := by
    intro hc hk hw
    have a := ha hc
    have d1 := hd hc
    have e36 : μ 181 36 = D 1 36 := d1.1 36 (by decide) (by decide)
    have e : fTk b n T = fKw b n (-1) T := by unfold fKw; rw [if_pos hc, if_pos ⟨hk, hw⟩]
    have fw := fnd_w d1 hv h.2.2.2.2.1 hk
    refine w_X8_peekMeal_29 ?_
    rw [a.2.2.2.1 hk]
    refine ⟨_, m_mealBy (by omega) (by omega), ?_⟩
    rintro z1 ρ2 μ3 ⟨hq1_1, hq1_2, hq1_3⟩
    obtain rfl := hq1_1.symm
    obtain rfl := hq1_2.symm
    obtain rfl := hq1_3.symm
    rw [fw]
    refine ⟨fun hc2 => ?_, fun hc2 => ?_⟩
    · have eM : fMl b n D T = fTk b n T := by unfold fMl; rw [if_neg (by omega), e]
      exact F47 μ _ (by rw [eM]; exact (h.tk hc).2) OM.refl (fun _ => by rw [eM]; exact a.p hc) (fun _ => by unfold vMl; omega)
    · refine ⟨_, m_report (x := 2) (by decide) (h.tk hc).2 (fun _ => a.p hc), ?_⟩
      rintro z5 ρ6 μ7 ⟨hq4_1, c2, o2, k2⟩
      obtain rfl := hq4_1.symm
      have eM : fMl b n D T = fR 2 (fTk b n T) := by unfold fMl; rw [if_pos (by omega), e]
      exact F47 _ _ (by rw [eM]; exact c2) o2 (fun x => by rw [eM] at x; exact absurd x (fR_k (by decide))) (fun x => by rw [eM] at x; exact absurd x (fR_k (by decide)))
  refine e_X8_peekMeal ?_
  refine ⟨fun hc1 => ?_, fun hc1 => ?_⟩
  · refine ⟨fun hc2 => ?_, fun hc2 => ?_⟩
    · have c : T.1 = 0 := by omega
      have a := ha c
      refine E24 c ?_
      unfold fKw
      rw [if_pos c, if_neg (fun x => by have := r2.2.1.mpr x.1; rw [← a.2.2.1] at this; omega)]
    · refine ⟨_, m_res hb hn h ha, ?_⟩
      rintro z1 ρ2 μ3 ⟨hz, hq4_1, hq4_2⟩
      obtain rfl := hq4_1.symm
      obtain rfl := hq4_2.symm
      refine ⟨fun hc5 => ?_, fun hc5 => ?_⟩
      · have c : T.1 = 0 := by omega
        have a := ha c
        have hk := r2.2.1.mp (by rw [← a.2.2.1]; omega)
        rw [if_pos ⟨c, hk⟩] at hz
        exact G29 c hk (by have := kw_r (tW b n T.2.2.2); omega)
      · have c : T.1 = 0 := by omega
        have a := ha c
        have hk := r2.2.1.mp (by rw [← a.2.2.1]; omega)
        rw [if_pos ⟨c, hk⟩] at hz
        refine E24 c ?_
        unfold fKw
        rw [if_pos c, if_neg (fun x => by omega)]
  · have c : T.1 ≠ 0 := by omega
    exact ⟨fun x => by rw [fMl_c c] at x; exact absurd x c, rfl, by rw [fMl_c c]; exact h, OM.refl, fun x => by rw [fMl_c c] at x; exact absurd x c⟩
end MOD
