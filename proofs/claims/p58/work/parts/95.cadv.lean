/-! ===== the class takes a token ===== -/
def TXc (μ : Mem) (b : Int → Int) (n : Int) : Prop := (∀ k, 0 ≤ k → k < n → μ 2 k = sb (b k)) ∧ μ 1 7 = n
def BY (b : Int → Int) : Prop := ∀ k, 0 ≤ b k ∧ b k ≤ 255
theorem sb_l {c : Int} (h : 0 ≤ c ∧ c ≤ 255) (h2 : sb c ≤ 122 ∧ 0 ≤ sb c ∨ c < 128) : sb c = c := by
  unfold sb at *
  split <;> (split at h2 <;> omega)
section CAD
variable {ρ : Rf} {μ0 : Mem} {b : Int → Int} {n : Int}
theorem k_scanLetters {s : Int} (hb : BY b) (hn : n ≤ 900) (T : TXc μ0 b n) (h8 : μ0 1 8 = s) (h9 : μ0 1 9 = s) (s0 : 0 ≤ s) (s1 : s ≤ n) : qE mX2_scanLetters GG GG [qP 1] ρ μ0 (fun _ ρ' μ' => ρ' = ρ ∧ (∀ a, a ≠ 1 → μ' a = μ0 a) ∧ (∀ k, k ≠ 8 → k ≠ 10 → k ≠ 12 → μ' 1 k = μ0 1 k) ∧ μ' 1 8 = rn isL b n s ∧ μ' 1 10 = (if rn isL b n s ≤ s then μ0 1 10 else if rn isL b n s - s ≤ 8 then 1 else 4) ∧ (rn isL b n s - s ≤ 8 → μ' 1 12 = wd 256 0 b s (rn isL b n s - s).toNat)) := by
  have D : ∀ (p : Int) (μ : Mem), rn isL b n s = p → s ≤ p → p ≤ n → (∀ a, a ≠ 1 → μ a = μ0 a) → (∀ k, k ≠ 8 → k ≠ 12 → μ 1 k = μ0 1 k) → μ 1 8 = p → (p - s ≤ 8 → μ 1 12 = wd 256 0 b s (p - s).toNat) → qX mX2_scanLetters GG (fun _ ρ' μ' => ρ' = ρ ∧ (∀ a, a ≠ 1 → μ' a = μ0 a) ∧ (∀ k, k ≠ 8 → k ≠ 10 → k ≠ 12 → μ' 1 k = μ0 1 k) ∧ μ' 1 8 = rn isL b n s ∧ μ' 1 10 = (if rn isL b n s ≤ s then μ0 1 10 else if rn isL b n s - s ≤ 8 then 1 else 4) ∧ (rn isL b n s - s ≤ 8 → μ' 1 12 = wd 256 0 b s (rn isL b n s - s).toNat)) GG (0, 0) 79 [some (qP 1)] [] ρ μ := by
    intro p μ hr p0 p1 ha hk e8 e12
    have g9 : μ 1 9 = s := by rw [hk 9 (by decide) (by decide)]; exact h9
    refine w_X2_scanLetters_79 ?_
    rw [e8, g9]
    refine ⟨fun hc1 => ?_, fun hc1 => ?_⟩
    · exact ⟨rfl, ha, fun k x y z => hk k x z, by rw [hr] <;> exact e8, by rw [hr, if_pos (by omega)]; exact hk 10 (by decide) (by decide), by rw [hr]; exact e12⟩
    · refine ⟨(by unfold i32; omega), ?_⟩
      refine ⟨fun hc4 => ?_, fun hc4 => ?_⟩
      · intro μ1 eμ1; subst eμ1
        exact ⟨rfl, fun a x => by rw [up2_c x]; exact ha a x, fun k x y z => by rw [up2_k y]; exact hk k x z, by rw [up2_k (by decide), hr]; exact e8, by rw [up2_s, hr, if_neg (by omega), if_pos (by omega)], by rw [up2_k (by decide), hr]; exact e12⟩
      · intro μ2 eμ2; subst eμ2
        exact ⟨rfl, fun a x => by rw [up2_c x]; exact ha a x, fun k x y z => by rw [up2_k y]; exact hk k x z, by rw [up2_k (by decide), hr]; exact e8, by rw [up2_s, hr, if_neg (by omega), if_neg (by omega)], by rw [up2_k (by decide), hr]; exact e12⟩
  have L : ∀ (m : Nat) (p : Int) (μ : Mem), (n - p).toNat < m → s ≤ p → p ≤ n → rn isL b n s = rn isL b n p → (∀ k, s ≤ k → k < p → 97 ≤ b k ∧ b k ≤ 122) → (∀ a, a ≠ 1 → μ a = μ0 a) → (∀ k, k ≠ 8 → k ≠ 12 → μ 1 k = μ0 1 k) → μ 1 8 = p → (p - s ≤ 8 → μ 1 12 = wd 256 0 b s (p - s).toNat) → qX mX2_scanLetters GG (fun _ ρ' μ' => ρ' = ρ ∧ (∀ a, a ≠ 1 → μ' a = μ0 a) ∧ (∀ k, k ≠ 8 → k ≠ 10 → k ≠ 12 → μ' 1 k = μ0 1 k) ∧ μ' 1 8 = rn isL b n s ∧ μ' 1 10 = (if rn isL b n s ≤ s then μ0 1 10 else if rn isL b n s - s ≤ 8 then 1 else 4) ∧ (rn isL b n s - s ≤ 8 → μ' 1 12 = wd 256 0 b s (rn isL b n s - s).toNat)) GG (0, 0) 5 [some (qP 1)] [] ρ μ := by
    intro m
    induction m with
    | zero => intro p μ h; omega
    | succ m ih =>
      intro p μ hm p0 p1 hr hl ha hk e8 e12
      have g7 : μ 1 7 = n := by rw [hk 7 (by decide) (by decide)]; exact T.2
      have g2 : p < n → μ 2 p = sb (b p) := fun h => by rw [ha 2 (by decide)]; exact T.1 p (by omega) h
      have bp := hb p
      refine w_X2_scanLetters_5 ?_
      rw [e8, g7]
      refine ⟨fun hc1 => ?_, fun hc1 => ?_⟩
      · exact D p μ (by rw [hr]; exact rn_n (fun q => by omega)) p0 p1 ha hk e8 e12
      · refine ⟨(by omega), ?_⟩
        rw [g2 (by omega)]
        refine ⟨fun hc4 => ?_, fun hc4 => ?_⟩
        · exact D p μ (by rw [hr]; exact rn_n (fun q => by have := isL_i.mp q.2; unfold sb at hc4; split at hc4 <;> omega)) p0 p1 ha hk e8 e12
        · refine ⟨(by omega), ?_⟩
          refine ⟨fun hc7 => ?_, fun hc7 => ?_⟩
          · exact D p μ (by rw [hr]; exact rn_n (fun q => by have := isL_i.mp q.2; unfold sb at hc7; split at hc7 <;> omega)) p0 p1 ha hk e8 e12
          · refine ⟨(by omega), ?_⟩
            intro μ1 eμ1; subst eμ1
            refine ⟨(by rw [up2_k (by decide), e8]; unfold i32; omega), ?_⟩
            intro μ2 eμ2; subst eμ2
            have pl : 97 ≤ b p ∧ b p ≤ 122 ∧ sb (b p) = b p := by
              unfold sb at hc4 hc7 ⊢
              split at hc4 <;> split at hc7 <;> (try split) <;> omega
            refine ih (p + 1) _ (by omega) (by omega) (by omega) (by rw [hr]; exact rn_e (by omega) (isL_i.mpr ⟨pl.1, pl.2.1⟩)) (fun k k0 k1 => ?_) (fun a x => by rw [up2_c x, up2_c x]; exact ha a x) (fun k x y => by rw [up2_k x, up2_k y]; exact hk k x y) (by rw [up2_s, up2_k (by decide), e8]) (fun hs => ?_)
            · by_cases e : k = p
              · rw [e]; exact ⟨pl.1, pl.2.1⟩
              · exact hl k k0 (by omega)
            · rw [up2_k (by decide), up2_s, e12 (by omega), pl.2.2]
              have i := wd_le (b := b) (s := s) (A := 0) (B := 256) (hi := 122) (by decide) (p - s).toNat (fun j j0 j1 => by have := hl j j0 (by omega); omega)
              have tp := wd_top (p - s).toNat (by omega)
              rw [sh_or i.1 (by omega) (by omega) (by omega), show (p + 1 - s).toNat = (p - s).toNat + 1 by omega]
              show 256 * wd 256 0 b s (p - s).toNat + b p = 256 * wd 256 0 b s (p - s).toNat + (b (s + ((p - s).toNat : Int)) - 0)
              rw [show s + (((p - s).toNat : Nat) : Int) = p by omega]
              omega
  refine e_X2_scanLetters ?_
  intro μ1 eμ1; subst eμ1
  exact L _ s _ (Nat.lt_succ_self _) (Int.le_refl _) s1 rfl (fun k k0 k1 => by omega) (fun a x => up2_c x) (fun k x y => up2_k y) (by rw [up2_k (by decide)]; exact h8) (fun _ => by rw [up2_s, show (s - s).toNat = 0 by omega]; rfl)
theorem k_scanDigits {s : Int} (hb : BY b) (hn : n ≤ 900) (T : TXc μ0 b n) (h8 : μ0 1 8 = s) (h9 : μ0 1 9 = s) (s0 : 0 ≤ s) (s1 : s ≤ n) : qE mX2_scanDigits GG GG [qP 1] ρ μ0 (fun _ ρ' μ' => ρ' = ρ ∧ (∀ a, a ≠ 1 → μ' a = μ0 a) ∧ (∀ k, k ≠ 8 → k ≠ 10 → k ≠ 11 → μ' 1 k = μ0 1 k) ∧ μ' 1 8 = rn isD b n s ∧ μ' 1 10 = (if rn isD b n s ≤ s then μ0 1 10 else if rn isD b n s - s ≤ 3 then 2 else 4) ∧ (rn isD b n s - s ≤ 3 → μ' 1 11 = wd 10 48 b s (rn isD b n s - s).toNat)) := by
  have D : ∀ (p : Int) (μ : Mem), rn isD b n s = p → s ≤ p → p ≤ n → (∀ a, a ≠ 1 → μ a = μ0 a) → (∀ k, k ≠ 8 → k ≠ 11 → μ 1 k = μ0 1 k) → μ 1 8 = p → (p - s ≤ 3 → μ 1 11 = wd 10 48 b s (p - s).toNat) → qX mX2_scanDigits GG (fun _ ρ' μ' => ρ' = ρ ∧ (∀ a, a ≠ 1 → μ' a = μ0 a) ∧ (∀ k, k ≠ 8 → k ≠ 10 → k ≠ 11 → μ' 1 k = μ0 1 k) ∧ μ' 1 8 = rn isD b n s ∧ μ' 1 10 = (if rn isD b n s ≤ s then μ0 1 10 else if rn isD b n s - s ≤ 3 then 2 else 4) ∧ (rn isD b n s - s ≤ 3 → μ' 1 11 = wd 10 48 b s (rn isD b n s - s).toNat)) GG (0, 0) 81 [some (qP 1)] [] ρ μ := by
    intro p μ hr p0 p1 ha hk e8 e12
    have g9 : μ 1 9 = s := by rw [hk 9 (by decide) (by decide)]; exact h9
    have ew : w32 (p - s) = p - s := w32_id (by unfold i32; omega)
    refine w_X2_scanDigits_81 ?_
    rw [e8, g9, ew]
    refine ⟨fun hc1 => ?_, fun hc1 => ?_⟩
    · exact ⟨rfl, ha, fun k x y z => hk k x z, by rw [hr] <;> exact e8, by rw [hr, if_pos (by omega)]; exact hk 10 (by decide) (by decide), by rw [hr]; exact e12⟩
    · refine ⟨fun hc3 => ?_, fun hc3 => ?_⟩
      · intro μ1 eμ1; subst eμ1
        exact ⟨rfl, fun a x => by rw [up2_c x]; exact ha a x, fun k x y z => by rw [up2_k y]; exact hk k x z, by rw [up2_k (by decide), hr]; exact e8, by rw [up2_s, hr, if_neg (by omega), if_pos (by omega)], by rw [up2_k (by decide), hr]; exact e12⟩
      · intro μ2 eμ2; subst eμ2
        exact ⟨rfl, fun a x => by rw [up2_c x]; exact ha a x, fun k x y z => by rw [up2_k y]; exact hk k x z, by rw [up2_k (by decide), hr]; exact e8, by rw [up2_s, hr, if_neg (by omega), if_neg (by omega)], by rw [up2_k (by decide), hr]; exact e12⟩
  have L : ∀ (m : Nat) (p : Int) (μ : Mem), (n - p).toNat < m → s ≤ p → p ≤ n → rn isD b n s = rn isD b n p → (∀ k, s ≤ k → k < p → 48 ≤ b k ∧ b k ≤ 57) → (∀ a, a ≠ 1 → μ a = μ0 a) → (∀ k, k ≠ 8 → k ≠ 11 → μ 1 k = μ0 1 k) → μ 1 8 = p → (p - s ≤ 3 → μ 1 11 = wd 10 48 b s (p - s).toNat) → qX mX2_scanDigits GG (fun _ ρ' μ' => ρ' = ρ ∧ (∀ a, a ≠ 1 → μ' a = μ0 a) ∧ (∀ k, k ≠ 8 → k ≠ 10 → k ≠ 11 → μ' 1 k = μ0 1 k) ∧ μ' 1 8 = rn isD b n s ∧ μ' 1 10 = (if rn isD b n s ≤ s then μ0 1 10 else if rn isD b n s - s ≤ 3 then 2 else 4) ∧ (rn isD b n s - s ≤ 3 → μ' 1 11 = wd 10 48 b s (rn isD b n s - s).toNat)) GG (0, 0) 5 [some (qP 1)] [] ρ μ := by
    intro m
    induction m with
    | zero => intro p μ h; omega
    | succ m ih =>
      intro p μ hm p0 p1 hr hl ha hk e8 e12
      have g7 : μ 1 7 = n := by rw [hk 7 (by decide) (by decide)]; exact T.2
      have g2 : p < n → μ 2 p = sb (b p) := fun h => by rw [ha 2 (by decide)]; exact T.1 p (by omega) h
      have bp := hb p
      refine w_X2_scanDigits_5 ?_
      rw [e8, g7]
      refine ⟨fun hc1 => ?_, fun hc1 => ?_⟩
      · exact D p μ (by rw [hr]; exact rn_n (fun q => by omega)) p0 p1 ha hk e8 e12
      · refine ⟨(by omega), ?_⟩
        rw [g2 (by omega)]
        refine ⟨fun hc4 => ?_, fun hc4 => ?_⟩
        · exact D p μ (by rw [hr]; exact rn_n (fun q => by have := isD_i.mp q.2; unfold sb at hc4; split at hc4 <;> omega)) p0 p1 ha hk e8 e12
        · refine ⟨(by omega), ?_⟩
          refine ⟨fun hc7 => ?_, fun hc7 => ?_⟩
          · exact D p μ (by rw [hr]; exact rn_n (fun q => by have := isD_i.mp q.2; unfold sb at hc7; split at hc7 <;> omega)) p0 p1 ha hk e8 e12
          · refine ⟨(by omega), ?_⟩
            intro μ1 eμ1; subst eμ1
            intro μ2 eμ2; subst eμ2
            have pl : 48 ≤ b p ∧ b p ≤ 57 ∧ sb (b p) = b p := by
              unfold sb at hc4 hc7 ⊢
              split at hc4 <;> split at hc7 <;> (try split) <;> omega
            refine ih (p + 1) _ (by omega) (by omega) (by omega) (by rw [hr]; exact rn_e (by omega) (isD_i.mpr ⟨pl.1, pl.2.1⟩)) (fun k k0 k1 => ?_) (fun a x => by rw [up2_c x, up2_c x]; exact ha a x) (fun k x y => by rw [up2_k x, up2_k y]; exact hk k x y) (by rw [up2_s, up2_k (by decide), e8]; exact w32_id (by unfold i32; omega)) (fun hs => ?_)
            · by_cases e : k = p
              · rw [e]; exact ⟨pl.1, pl.2.1⟩
              · exact hl k k0 (by omega)
            · rw [up2_k (by decide), up2_s, e12 (by omega), pl.2.2]
              have i := wd_le (b := b) (s := s) (A := 48) (B := 10) (hi := 9) (by decide) (p - s).toNat (fun j j0 j1 => by have := hl j j0 (by omega); omega)
              have tp := wd_top3 (p - s).toNat (by omega)
              rw [w32_id (z := b p - 48) (by unfold i32; omega), w32_id (z := wd 10 48 b s (p - s).toNat * 10) (by unfold i32; omega), w32_id (by unfold i32; omega), show (p + 1 - s).toNat = (p - s).toNat + 1 by omega]
              show wd 10 48 b s (p - s).toNat * 10 + (b p - 48) = 10 * wd 10 48 b s (p - s).toNat + (b (s + ((p - s).toNat : Int)) - 48)
              rw [show s + (((p - s).toNat : Nat) : Int) = p by omega]
              omega
  refine e_X2_scanDigits ?_
  intro μ1 eμ1; subst eμ1
  exact L _ s _ (Nat.lt_succ_self _) (Int.le_refl _) s1 rfl (fun k k0 k1 => by omega) (fun a x => up2_c x) (fun k x y => up2_k y) (by rw [up2_k (by decide)]; exact h8) (fun _ => by rw [up2_s, show (s - s).toNat = 0 by omega]; rfl)
theorem k_advance {p : Int} (hb : BY b) (hn : n ≤ 900) (T : TXc μ0 b n) (h8 : μ0 1 8 = p) (p0 : 0 ≤ p) (p1 : p ≤ n) : qE mX2_advance GG GG [qP 1] ρ μ0 (fun _ ρ' μ' => ρ' = ρ ∧ (∀ a, a ≠ 1 → μ' a = μ0 a) ∧ (∀ k, k < 8 ∨ 12 < k → μ' 1 k = μ0 1 k) ∧ (μ0 1 3 ≠ 0 → μ' = μ0) ∧ (μ0 1 3 = 0 → μ' 1 8 = tN b n p ∧ μ' 1 9 = tS b n p ∧ μ' 1 10 = tK b n p ∧ (tK b n p = 1 → μ' 1 12 = tW b n p) ∧ (tK b n p = 2 → μ' 1 11 = tV b n p))) := by
  have sB := tS_b (b := b) p1
  have F96 : ∀ (μ : Mem), (fun _ ρ' μ' => ρ' = ρ ∧ (∀ a, a ≠ 1 → μ' a = μ0 a) ∧ (∀ k, k < 8 ∨ 12 < k → μ' 1 k = μ0 1 k) ∧ (μ0 1 3 ≠ 0 → μ' = μ0) ∧ (μ0 1 3 = 0 → μ' 1 8 = tN b n p ∧ μ' 1 9 = tS b n p ∧ μ' 1 10 = tK b n p ∧ (tK b n p = 1 → μ' 1 12 = tW b n p) ∧ (tK b n p = 2 → μ' 1 11 = tV b n p))) 0 ρ μ → (n ≤ μ 1 8 ∨ μ 1 10 ≠ 0) → qX mX2_advance GG (fun _ ρ' μ' => ρ' = ρ ∧ (∀ a, a ≠ 1 → μ' a = μ0 a) ∧ (∀ k, k < 8 ∨ 12 < k → μ' 1 k = μ0 1 k) ∧ (μ0 1 3 ≠ 0 → μ' = μ0) ∧ (μ0 1 3 = 0 → μ' 1 8 = tN b n p ∧ μ' 1 9 = tS b n p ∧ μ' 1 10 = tK b n p ∧ (tK b n p = 1 → μ' 1 12 = tW b n p) ∧ (tK b n p = 2 → μ' 1 11 = tV b n p))) GG (0, 0) 96 [some (qP 1)] [] ρ μ := by
    intro μ hp he
    have g7 : μ 1 7 = n := by rw [hp.2.2.1 7 (by decide)]; exact T.2
    refine w_X2_advance_96 ?_
    rw [g7]
    refine ⟨fun hc1 => ?_, fun hc1 => ?_⟩
    · exact hp
    · refine ⟨fun hc3 => ?_, fun hc3 => ?_⟩
      · exact hp
      · exfalso; omega
  have F74 : ∀ (μ : Mem), (fun _ ρ' μ' => ρ' = ρ ∧ (∀ a, a ≠ 1 → μ' a = μ0 a) ∧ (∀ k, k < 8 ∨ 12 < k → μ' 1 k = μ0 1 k) ∧ (μ0 1 3 ≠ 0 → μ' = μ0) ∧ (μ0 1 3 = 0 → μ' 1 8 = tN b n p ∧ μ' 1 9 = tS b n p ∧ μ' 1 10 = tK b n p ∧ (tK b n p = 1 → μ' 1 12 = tW b n p) ∧ (tK b n p = 2 → μ' 1 11 = tV b n p))) 0 ρ μ → (n ≤ μ 1 8 ∨ μ 1 10 ≠ 0) → qX mX2_advance GG (fun _ ρ' μ' => ρ' = ρ ∧ (∀ a, a ≠ 1 → μ' a = μ0 a) ∧ (∀ k, k < 8 ∨ 12 < k → μ' 1 k = μ0 1 k) ∧ (μ0 1 3 ≠ 0 → μ' = μ0) ∧ (μ0 1 3 = 0 → μ' 1 8 = tN b n p ∧ μ' 1 9 = tS b n p ∧ μ' 1 10 = tK b n p ∧ (tK b n p = 1 → μ' 1 12 = tW b n p) ∧ (tK b n p = 2 → μ' 1 11 = tV b n p))) GG (0, 0) 74 [some (qP 1)] [] ρ μ := by
    intro μ hp he
    have g7 : μ 1 7 = n := by rw [hp.2.2.1 7 (by decide)]; exact T.2
    refine w_X2_advance_74 ?_
    rw [g7]
    refine ⟨fun hc1 => ?_, fun hc1 => ?_⟩
    · exact F96 μ hp he
    · refine ⟨fun hc3 => ?_, fun hc3 => ?_⟩
      · exact F96 μ hp he
      · exfalso; omega
  have bs := hb (tS b n p)
  have F134 : μ0 1 3 = 0 → tN b n p = tS b n p + 1 → ∀ (z : Int) (μ3 : Mem), tK b n p = z → (z = 3 ∨ z = 4) → tS b n p < n → (∀ a, a ≠ 1 → μ3 a = μ0 a) → (∀ k, k < 8 ∨ 12 < k → μ3 1 k = μ0 1 k) → μ3 1 9 = tS b n p → μ3 1 8 = tS b n p → qX mX2_advance GG (fun _ ρ' μ' => ρ' = ρ ∧ (∀ a, a ≠ 1 → μ' a = μ0 a) ∧ (∀ k, k < 8 ∨ 12 < k → μ' 1 k = μ0 1 k) ∧ (μ0 1 3 ≠ 0 → μ' = μ0) ∧ (μ0 1 3 = 0 → μ' 1 8 = tN b n p ∧ μ' 1 9 = tS b n p ∧ μ' 1 10 = tK b n p ∧ (tK b n p = 1 → μ' 1 12 = tW b n p) ∧ (tK b n p = 2 → μ' 1 11 = tV b n p))) GG (0, 0) 134 [some (qP 1)] [qI z, qP 1] ρ μ3 := by
    intro hc0 cn z μ3 hz h34 hlt ga gk g9 d3
    refine w_X2_advance_134 ?_
    intro μ1 eμ1; subst eμ1
    refine ⟨(by rw [up2_k (by decide), d3]; unfold i32; omega), ?_⟩
    intro μ2 eμ2; subst eμ2
    exact ⟨rfl, fun a x => by rw [up2_c x, up2_c x]; exact ga a x, fun k x => by rw [up2_k (by omega), up2_k (by omega)]; exact gk k x, fun x => absurd hc0 x, fun _ => ⟨by rw [up2_s, up2_k (by decide), d3, cn], by rw [up2_k (by decide), up2_k (by decide)]; exact g9, by rw [up2_k (by decide), up2_s, hz], fun x => by omega, fun x => by omega⟩⟩
  have F96n : μ0 1 3 = 0 → ∀ (μ3 : Mem), tS b n p < n → ¬ isL (b (tS b n p)) = true → ¬ isD (b (tS b n p)) = true → (∀ a, a ≠ 1 → μ3 a = μ0 a) → (∀ k, k < 8 ∨ 12 < k → μ3 1 k = μ0 1 k) → μ3 1 9 = tS b n p → μ3 1 8 = tS b n p → μ3 1 10 = 0 → qX mX2_advance GG (fun _ ρ' μ' => ρ' = ρ ∧ (∀ a, a ≠ 1 → μ' a = μ0 a) ∧ (∀ k, k < 8 ∨ 12 < k → μ' 1 k = μ0 1 k) ∧ (μ0 1 3 ≠ 0 → μ' = μ0) ∧ (μ0 1 3 = 0 → μ' 1 8 = tN b n p ∧ μ' 1 9 = tS b n p ∧ μ' 1 10 = tK b n p ∧ (tK b n p = 1 → μ' 1 12 = tW b n p) ∧ (tK b n p = 2 → μ' 1 11 = tV b n p))) GG (0, 0) 96 [some (qP 1)] [] ρ μ3 := by
    intro hc0 μ3 hlt cl cd ga gk g9 d3 d4
    have g7 : μ3 1 7 = n := by rw [gk 7 (by decide)]; exact T.2
    have g2 : μ3 2 (tS b n p) = sb (b (tS b n p)) := by rw [ga 2 (by decide)]; exact T.1 _ (by omega) (by omega)
    have cn : tN b n p = tS b n p + 1 := by unfold tN; rw [if_neg (by omega), if_neg cl, if_neg cd]
    have ck : tK b n p = if b (tS b n p) = 59 then 3 else 4 := by unfold tK; rw [if_neg (by omega), if_neg cl, if_neg cd]
    refine w_X2_advance_96 ?_
    rw [g7, d3, d4, g2]
    refine ⟨fun hc1 => ?_, fun hc1 => ?_⟩
    · exfalso; omega
    · refine ⟨fun hc3 => ?_, fun hc3 => ?_⟩
      · exfalso; omega
      · refine ⟨(by omega), ?_⟩
        refine ⟨fun hc6 => ?_, fun hc6 => ?_⟩
        · exact F134 hc0 cn 4 μ3 (by rw [ck, if_neg (fun e => by rw [e] at hc6; exact absurd hc6 (by decide))]) (Or.inr rfl) hlt ga gk g9 d3
        · exact F134 hc0 cn 3 μ3 (by rw [ck, if_pos (by unfold sb at hc6; split at hc6 <;> omega)]) (Or.inl rfl) hlt ga gk g9 d3
  have F74n : μ0 1 3 = 0 → ∀ (μ5 : Mem), tS b n p < n → ¬ isL (b (tS b n p)) = true → (∀ a, a ≠ 1 → μ5 a = μ0 a) → (∀ k, k < 8 ∨ 12 < k → μ5 1 k = μ0 1 k) → μ5 1 9 = tS b n p → μ5 1 8 = tS b n p → μ5 1 10 = 0 → qX mX2_advance GG (fun _ ρ' μ' => ρ' = ρ ∧ (∀ a, a ≠ 1 → μ' a = μ0 a) ∧ (∀ k, k < 8 ∨ 12 < k → μ' 1 k = μ0 1 k) ∧ (μ0 1 3 ≠ 0 → μ' = μ0) ∧ (μ0 1 3 = 0 → μ' 1 8 = tN b n p ∧ μ' 1 9 = tS b n p ∧ μ' 1 10 = tK b n p ∧ (tK b n p = 1 → μ' 1 12 = tW b n p) ∧ (tK b n p = 2 → μ' 1 11 = tV b n p))) GG (0, 0) 74 [some (qP 1)] [] ρ μ5 := by
    intro hc0 μ5 hlt cl fa fk f9 a3 a4
    have f7 : μ5 1 7 = n := by rw [fk 7 (by decide)]; exact T.2
    have T5 : TXc μ5 b n := ⟨fun k k0 k1 => by rw [fa 2 (by decide)]; exact T.1 k k0 k1, f7⟩
    have rd := rn_b (P := isD) (b := b) sB.2
    refine w_X2_advance_74 ?_
    rw [f7, a3, a4]
    refine ⟨fun hc1 => ?_, fun hc1 => ?_⟩
    · exfalso; omega
    · refine ⟨fun hc3 => ?_, fun hc3 => ?_⟩
      · exfalso; omega
      · refine ⟨_, k_scanDigits hb hn T5 a3 f9 (by omega) (by omega), ?_⟩
        rintro z1 ρ2 μ3 ⟨hq5_1, d1, d2, d3, d4, d5⟩
        obtain rfl := hq5_1.symm
        have ga : ∀ a, a ≠ 1 → μ3 a = μ0 a := fun a x => (d1 a x).trans (fa a x)
        have gk : ∀ k, k < 8 ∨ 12 < k → μ3 1 k = μ0 1 k := fun k x => (d2 k (by omega) (by omega) (by omega)).trans (fk k x)
        have g9 : μ3 1 9 = tS b n p := by rw [d2 9 (by decide) (by decide) (by decide)]; exact f9
        by_cases cd : isD (b (tS b n p)) = true
        · have re2 := rn_e (P := isD) (n := n) hlt cd
          have r2 := rn_b (P := isD) (b := b) (p := tS b n p + 1) (n := n) (by omega)
          have ck : tK b n p = if rn isD b n (tS b n p) - tS b n p ≤ 3 then 2 else 4 := by unfold tK; rw [if_neg (by omega), if_neg cl, if_pos cd]
          have cn : tN b n p = rn isD b n (tS b n p) := by unfold tN; rw [if_neg (by omega), if_neg cl, if_pos cd]
          rw [if_neg (by omega)] at d4
          refine F96 _ ⟨rfl, ga, gk, fun x => absurd hc0 x, fun _ => ⟨by rw [d3, cn], g9, by rw [d4, ck], fun x => by rw [ck] at x; split at x <;> omega, fun x => ?_⟩⟩ (Or.inr (by rw [d4]; split <;> omega))
          rw [ck] at x
          unfold tV
          rw [cn]
          exact d5 (by split at x <;> omega)
        · have re2 := rn_n (P := isD) (b := b) (n := n) (p := tS b n p) (fun x => cd x.2)
          rw [re2] at d3 d4
          rw [if_pos (by omega), a4] at d4
          exact F96n hc0 μ3 hlt cl cd ga gk g9 d3 d4
  have F46 : μ0 1 3 = 0 → ∀ (μ : Mem), (∀ a, a ≠ 1 → μ a = μ0 a) → (∀ k, k ≠ 8 → μ 1 k = μ0 1 k) → μ 1 8 = tS b n p → qX mX2_advance GG (fun _ ρ' μ' => ρ' = ρ ∧ (∀ a, a ≠ 1 → μ' a = μ0 a) ∧ (∀ k, k < 8 ∨ 12 < k → μ' 1 k = μ0 1 k) ∧ (μ0 1 3 ≠ 0 → μ' = μ0) ∧ (μ0 1 3 = 0 → μ' 1 8 = tN b n p ∧ μ' 1 9 = tS b n p ∧ μ' 1 10 = tK b n p ∧ (tK b n p = 1 → μ' 1 12 = tW b n p) ∧ (tK b n p = 2 → μ' 1 11 = tV b n p))) GG (0, 0) 46 [some (qP 1)] [] ρ μ := by
    intro hc0 μ ha hk e8
    have g7 : μ 1 7 = n := by rw [hk 7 (by decide)]; exact T.2
    have ea : ∀ a, a ≠ 1 → up2 (up2 μ 1 9 (μ 1 8)) 1 10 0 a = μ0 a := fun a x => by rw [up2_c x, up2_c x]; exact ha a x
    have e17 : up2 (up2 μ 1 9 (μ 1 8)) 1 10 0 1 7 = n := by rw [up2_k (by decide), up2_k (by decide)]; exact g7
    have e18 : up2 (up2 μ 1 9 (μ 1 8)) 1 10 0 1 8 = tS b n p := by rw [up2_k (by decide), up2_k (by decide)]; exact e8
    have e19 : up2 (up2 μ 1 9 (μ 1 8)) 1 10 0 1 9 = tS b n p := by rw [up2_k (by decide), up2_s]; exact e8
    have e10 : up2 (up2 μ 1 9 (μ 1 8)) 1 10 0 1 10 = 0 := up2_s
    have ek : ∀ k, k ≠ 8 → k ≠ 9 → k ≠ 10 → up2 (up2 μ 1 9 (μ 1 8)) 1 10 0 1 k = μ0 1 k := fun k x y z => by rw [up2_k z, up2_k y]; exact hk k x
    have TT : TXc (up2 (up2 μ 1 9 (μ 1 8)) 1 10 0) b n := ⟨fun k k0 k1 => by rw [ea 2 (by decide)]; exact T.1 k k0 k1, e17⟩
    have rl := rn_b (P := isL) (b := b) sB.2
    refine w_X2_advance_46 ?_
    intro μ1 eμ1; subst eμ1
    intro μ2 eμ2; subst eμ2
    rw [e17, e18]
    refine ⟨fun hc3 => ?_, fun hc3 => ?_⟩
    · exact F74 _ ⟨rfl, ea, fun k x => ek k (by omega) (by omega) (by omega), fun x => absurd hc0 x, fun _ => ⟨by rw [e18]; unfold tN; rw [if_pos (by omega)], e19, by rw [e10]; unfold tK; rw [if_pos (by omega)], fun x => by unfold tK at x; rw [if_pos (by omega)] at x; omega, fun x => by unfold tK at x; rw [if_pos (by omega)] at x; omega⟩⟩ (Or.inl (by rw [e18]; omega))
    · refine ⟨_, k_scanLetters hb hn TT e18 e19 (by omega) (by omega), ?_⟩
      rintro z3 ρ4 μ5 ⟨hq5_1, a1, a2, a3, a4, a5⟩
      obtain rfl := hq5_1.symm
      by_cases cl : isL (b (tS b n p)) = true
      · have re := rn_e (P := isL) (n := n) (by omega) cl
        have r2 := rn_b (P := isL) (b := b) (p := tS b n p + 1) (n := n) (by omega)
        have ck : tK b n p = if rn isL b n (tS b n p) - tS b n p ≤ 8 then 1 else 4 := by unfold tK; rw [if_neg (by omega), if_pos cl]
        have cn : tN b n p = rn isL b n (tS b n p) := by unfold tN; rw [if_neg (by omega), if_pos cl]
        rw [if_neg (by omega)] at a4
        refine F74 _ ⟨rfl, fun a x => (a1 a x).trans (ea a x), fun k x => (a2 k (by omega) (by omega) (by omega)).trans (ek k (by omega) (by omega) (by omega)), fun x => absurd hc0 x, fun _ => ⟨by rw [a3, cn], by rw [a2 9 (by decide) (by decide) (by decide)]; exact e19, by rw [a4, ck], fun x => ?_, fun x => by rw [ck] at x; split at x <;> omega⟩⟩ (Or.inr (by rw [a4]; split <;> omega))
        rw [ck] at x
        unfold tW
        rw [cn]
        exact a5 (by split at x <;> omega)
      · have re := rn_n (P := isL) (b := b) (n := n) (p := tS b n p) (fun x => cl x.2)
        rw [re] at a3 a4
        rw [if_pos (by omega), e10] at a4
        exact F74n hc0 μ5 (by omega) cl (fun a x => (a1 a x).trans (ea a x)) (fun k x => (a2 k (by omega) (by omega) (by omega)).trans (ek k (by omega) (by omega) (by omega))) (by rw [a2 9 (by decide) (by decide) (by decide)]; exact e19) a3 a4
  have L : μ0 1 3 = 0 → ∀ (m : Nat) (q : Int) (μ : Mem), (n - q).toNat < m → p ≤ q → q ≤ n → tS b n p = rn isB b n q → (∀ a, a ≠ 1 → μ a = μ0 a) → (∀ k, k ≠ 8 → μ 1 k = μ0 1 k) → μ 1 8 = q → qX mX2_advance GG (fun _ ρ' μ' => ρ' = ρ ∧ (∀ a, a ≠ 1 → μ' a = μ0 a) ∧ (∀ k, k < 8 ∨ 12 < k → μ' 1 k = μ0 1 k) ∧ (μ0 1 3 ≠ 0 → μ' = μ0) ∧ (μ0 1 3 = 0 → μ' 1 8 = tN b n p ∧ μ' 1 9 = tS b n p ∧ μ' 1 10 = tK b n p ∧ (tK b n p = 1 → μ' 1 12 = tW b n p) ∧ (tK b n p = 2 → μ' 1 11 = tV b n p))) GG (0, 0) 8 [some (qP 1)] [] ρ μ := by
    intro hc0 m
    induction m with
    | zero => intro q μ h; omega
    | succ m ih =>
      intro q μ hm q0 q1 hr ha hk e8
      have g7 : μ 1 7 = n := by rw [hk 7 (by decide)]; exact T.2
      have g2 : q < n → μ 2 q = sb (b q) := fun h => by rw [ha 2 (by decide)]; exact T.1 q (by omega) h
      have bq := hb q
      refine w_X2_advance_8 ?_
      rw [g7, e8]
      refine ⟨fun hc1 => ?_, fun hc1 => ?_⟩
      · exact F46 hc0 μ ha hk (by rw [e8, hr]; exact (rn_n (fun x => by omega)).symm)
      · refine ⟨(by omega), ?_⟩
        rw [g2 (by omega)]
        refine ⟨fun hc4 => ?_, fun hc4 => ?_⟩
        · exact F46 hc0 μ ha hk (by rw [e8, hr]; exact (rn_n (fun x => by have := isB_i.mp x.2; rw [this] at hc4; exact hc4 (by decide))).symm)
        · refine ⟨(by unfold i32; omega), ?_⟩
          intro μ1 eμ1; subst eμ1
          have e32 : b q = 32 := by unfold sb at hc4; split at hc4 <;> omega
          exact ih (q + 1) _ (by omega) (by omega) (by omega) (by rw [hr]; exact rn_e (by omega) (isB_i.mpr e32)) (fun a x => by rw [up2_c x]; exact ha a x) (fun k x => by rw [up2_k x]; exact hk k x) up2_s
  refine e_X2_advance ?_
  refine ⟨fun hc1 => ?_, fun hc1 => ?_⟩
  · exact L (by omega) _ p μ0 (Nat.lt_succ_self _) (Int.le_refl _) p1 rfl (fun _ _ => rfl) (fun _ _ => rfl) h8
  · exact ⟨rfl, fun _ _ => rfl, fun _ _ => rfl, fun _ => rfl, fun x => absurd x (by omega)⟩
end CAD
