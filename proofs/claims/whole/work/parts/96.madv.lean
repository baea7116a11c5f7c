/-! ===== the reference takes a token ===== -/
def TXm (μ : Mem) (b : Int → Int) (n : Int) : Prop := (∀ k, 0 ≤ k → k < n → μ 179 k = b k) ∧ μ 178 4 = n
def rk (k : Int) : Int := if k = 4 then 0 else k + 1
section MAD
variable {ρ : Rf} {μ μ0 : Mem} {b : Int → Int} {n : Int}
theorem m_byteAt {k : Int} (T : TXm μ b n) (hn : n ≤ 900) (k0 : 0 ≤ k) : qE mX8_byteAt GG GG [qP 178, qI k] ρ μ (fun z ρ' μ' => z = (if k < n then b k else -1) ∧ ρ' = ρ ∧ μ' = μ) := by
  refine e_X8_byteAt ?_
  rw [T.2]
  refine ⟨fun hc1 => ?_, fun hc1 => ?_⟩
  · exact ⟨by rw [if_neg (by omega)], rfl, rfl⟩
  · refine ⟨(by omega), ?_⟩
    exact ⟨by rw [if_pos (by omega)]; exact T.1 k k0 (by omega), rfl, rfl⟩
theorem m_advance {p : Int} (hb : BY b) (hn : n ≤ 900) (T : TXm μ0 b n) (h5 : μ0 178 5 = p) (p0 : 0 ≤ p) (p1 : p ≤ n) : qE mX8_advance GG GG [qP 178] ρ μ0 (fun _ ρ' μ' => ρ' = ρ ∧ (∀ a, a ≠ 178 → μ' a = μ0 a) ∧ (∀ k, k ≠ 5 → k ≠ 8 → k ≠ 9 → k ≠ 10 → k ≠ 11 → μ' 178 k = μ0 178 k) ∧ (0 < μ0 178 6 → μ' = μ0) ∧ (μ0 178 6 ≤ 0 → μ' 178 5 = tN b n p ∧ μ' 178 9 = tS b n p ∧ μ' 178 8 = rk (tK b n p) ∧ (tK b n p = 1 → μ' 178 11 = tX b n p) ∧ (tK b n p = 2 → μ' 178 10 = tV b n p))) := by
  have sB := tS_b (b := b) p1
  have bs := hb (tS b n p)
  have tx : ∀ μ : Mem, (∀ a, a ≠ 178 → μ a = μ0 a) → (∀ k, k ≠ 5 → k ≠ 8 → k ≠ 9 → k ≠ 10 → k ≠ 11 → μ 178 k = μ0 178 k) → TXm μ b n := fun μ ha hk => ⟨fun k k0 k1 => by rw [ha 179 (by decide)]; exact T.1 k k0 k1, by rw [hk 4 (by decide) (by decide) (by decide) (by decide) (by decide)]; exact T.2⟩
  have F315 : μ0 178 6 ≤ 0 → tS b n p < n → ¬ isL (b (tS b n p)) = true → ¬ isD (b (tS b n p)) = true → ∀ (z : Int) (μ : Mem), rk (tK b n p) = z → (∀ a, a ≠ 178 → μ a = μ0 a) → (∀ k, k ≠ 5 → k ≠ 8 → k ≠ 9 → k ≠ 10 → k ≠ 11 → μ 178 k = μ0 178 k) → μ 178 9 = tS b n p → μ 178 5 = tS b n p → qX mX8_advance GG (fun _ ρ' μ' => ρ' = ρ ∧ (∀ a, a ≠ 178 → μ' a = μ0 a) ∧ (∀ k, k ≠ 5 → k ≠ 8 → k ≠ 9 → k ≠ 10 → k ≠ 11 → μ' 178 k = μ0 178 k) ∧ (0 < μ0 178 6 → μ' = μ0) ∧ (μ0 178 6 ≤ 0 → μ' 178 5 = tN b n p ∧ μ' 178 9 = tS b n p ∧ μ' 178 8 = rk (tK b n p) ∧ (tK b n p = 1 → μ' 178 11 = tX b n p) ∧ (tK b n p = 2 → μ' 178 10 = tV b n p))) GG (0, 0) 315 [some (qP 178)] [qI z, qP 178] ρ μ := by
    intro hc0 hlt cl cd z μ hz ha hk e9 e5
    have cn : tN b n p = tS b n p + 1 := by unfold tN; rw [if_neg (by omega), if_neg cl, if_neg cd]
    have ck : tK b n p = 3 ∨ tK b n p = 4 := by unfold tK; rw [if_neg (by omega), if_neg cl, if_neg cd]; split <;> omega
    refine w_X8_advance_315 ?_
    intro μ1 eμ1; subst eμ1
    refine ⟨(by rw [up2_k (by decide), e5]; unfold i32; omega), ?_⟩
    intro μ2 eμ2; subst eμ2
    exact ⟨rfl, fun a x => by rw [up2_c x, up2_c x]; exact ha a x, fun k x y z u v => by rw [up2_k x, up2_k y]; exact hk k x y z u v, fun x => by omega, fun _ => ⟨by rw [up2_s, up2_k (by decide), e5, cn], by rw [up2_k (by decide), up2_k (by decide)]; exact e9, by rw [up2_k (by decide), up2_s, hz], fun x => by omega, fun x => by omega⟩⟩
  have L84 : μ0 178 6 ≤ 0 → tS b n p < n → isL (b (tS b n p)) = true → ∀ (m : Nat) (q : Int) (μ : Mem), (n - q).toNat < m → tS b n p ≤ q → q ≤ n → rn isL b n (tS b n p) = rn isL b n q → (∀ k, tS b n p ≤ k → k < q → 97 ≤ b k ∧ b k ≤ 122) → (∀ a, a ≠ 178 → μ a = μ0 a) → (∀ k, k ≠ 5 → k ≠ 8 → k ≠ 9 → k ≠ 10 → k ≠ 11 → μ 178 k = μ0 178 k) → μ 178 9 = tS b n p → μ 178 5 = q → (q - tS b n p ≤ 8 → μ 178 11 = wd 32 96 b (tS b n p) (q - tS b n p).toNat) → qX mX8_advance GG (fun _ ρ' μ' => ρ' = ρ ∧ (∀ a, a ≠ 178 → μ' a = μ0 a) ∧ (∀ k, k ≠ 5 → k ≠ 8 → k ≠ 9 → k ≠ 10 → k ≠ 11 → μ' 178 k = μ0 178 k) ∧ (0 < μ0 178 6 → μ' = μ0) ∧ (μ0 178 6 ≤ 0 → μ' 178 5 = tN b n p ∧ μ' 178 9 = tS b n p ∧ μ' 178 8 = rk (tK b n p) ∧ (tK b n p = 1 → μ' 178 11 = tX b n p) ∧ (tK b n p = 2 → μ' 178 10 = tV b n p))) GG (0, 0) 84 [some (qP 178)] [] ρ μ := by
    intro hc0 hlt cl m
    have cn : tN b n p = rn isL b n (tS b n p) := by unfold tN; rw [if_neg (by omega), if_pos cl]
    have ck : tK b n p = if rn isL b n (tS b n p) - tS b n p ≤ 8 then 1 else 4 := by unfold tK; rw [if_neg (by omega), if_pos cl]
    induction m with
    | zero => intro q μ h; omega
    | succ m ih =>
      intro q μ hm q0 q1 hr hl ha hk e9 e5 e11
      have bq := hb q
      have F142 : q < n → isL (b q) = true → ∀ ν : Mem, (∀ a, a ≠ 178 → ν a = μ0 a) → (∀ k, k ≠ 5 → k ≠ 8 → k ≠ 9 → k ≠ 10 → k ≠ 11 → ν 178 k = μ0 178 k) → ν 178 9 = tS b n p → ν 178 5 = q → (q + 1 - tS b n p ≤ 8 → ν 178 11 = wd 32 96 b (tS b n p) (q + 1 - tS b n p).toNat) → qX mX8_advance GG (fun _ ρ' μ' => ρ' = ρ ∧ (∀ a, a ≠ 178 → μ' a = μ0 a) ∧ (∀ k, k ≠ 5 → k ≠ 8 → k ≠ 9 → k ≠ 10 → k ≠ 11 → μ' 178 k = μ0 178 k) ∧ (0 < μ0 178 6 → μ' = μ0) ∧ (μ0 178 6 ≤ 0 → μ' 178 5 = tN b n p ∧ μ' 178 9 = tS b n p ∧ μ' 178 8 = rk (tK b n p) ∧ (tK b n p = 1 → μ' 178 11 = tX b n p) ∧ (tK b n p = 2 → μ' 178 10 = tV b n p))) GG (0, 0) 142 [some (qP 178)] [] ρ ν := by
        intro qn ql ν va vk v9 v5 v11
        refine w_X8_advance_142 ?_
        refine ⟨(by rw [v5]; unfold i32; omega), ?_⟩
        intro μ1 eμ1; subst eμ1
        refine ih (q + 1) _ (by omega) (by omega) (by omega) (by rw [hr]; exact rn_e qn ql) (fun k k0 k1 => ?_) (fun a x => by rw [up2_c x]; exact va a x) (fun k x y z u v => by rw [up2_k x]; exact vk k x y z u v) (by rw [up2_k (by decide)]; exact v9) (by rw [up2_s, v5]) (fun hs => by rw [up2_k (by decide)]; exact v11 hs)
        by_cases e : k = q
        · rw [e]; exact isL_i.mp ql
        · exact hl k k0 (by omega)
      refine w_X8_advance_84 ?_
      rw [e5]
      refine ⟨_, m_byteAt (tx μ ha hk) hn (by omega), ?_⟩
      rintro z1 ρ2 μ3 ⟨hq1_1, hq1_2, hq1_3⟩
      obtain rfl := hq1_1.symm
      obtain rfl := hq1_2.symm
      obtain rfl := hq1_3.symm
      refine ⟨_, m_in, ?_⟩
      rintro z5 ρ6 μ7 ⟨hz, hq2_1, hq2_2⟩
      obtain rfl := hq2_1.symm
      obtain rfl := hq2_2.symm
      refine ⟨fun hc3 => ?_, fun hc3 => ?_⟩
      · rw [e9]
        have rq : rn isL b n (tS b n p) = q := by
          rw [hr]
          refine rn_n (fun x => ?_)
          have := isL_i.mp x.2
          rw [if_pos x.1] at hz
          omega
        refine ⟨(by unfold i32; omega), ?_⟩
        refine ⟨fun hc5 => ?_, fun hc5 => ?_⟩
        · intro μ9 eμ9; subst eμ9
          exact ⟨rfl, fun a x => by rw [up2_c x]; exact ha a x, fun k x y z u v => by rw [up2_k y]; exact hk k x y z u v, fun x => by omega, fun _ => ⟨by rw [up2_k (by decide), e5, cn, rq], by rw [up2_k (by decide)]; exact e9, by rw [up2_s, ck, rq, if_pos (by omega)]; rfl, fun _ => by rw [up2_k (by decide), e11 (by omega)]; unfold tX; rw [cn, rq], fun x => by rw [ck] at x; split at x <;> omega⟩⟩
        · intro μ10 eμ10; subst eμ10
          exact ⟨rfl, fun a x => by rw [up2_c x]; exact ha a x, fun k x y z u v => by rw [up2_k y]; exact hk k x y z u v, fun x => by omega, fun _ => ⟨by rw [up2_k (by decide), e5, cn, rq], by rw [up2_k (by decide)]; exact e9, by rw [up2_s, ck, rq, if_neg (by omega)]; rfl, fun x => by rw [ck, rq, if_neg (by omega)] at x; omega, fun x => by rw [ck] at x; split at x <;> omega⟩⟩
      · have qn : q < n := by
          by_cases x : q < n
          · exact x
          · rw [if_neg x] at hz; omega
        rw [if_pos qn] at hz
        have ql : isL (b q) = true := isL_i.mpr (by omega)
        rw [e9]
        refine ⟨(by unfold i32; omega), ?_⟩
        refine ⟨fun hc11 => ?_, fun hc11 => ?_⟩
        · exact F142 qn ql μ ha hk e9 e5 (fun hs => by omega)
        · have i := wd_le (b := b) (s := tS b n p) (A := 96) (B := 32) (hi := 26) (by decide) (q - tS b n p).toNat (fun j j0 j1 => by have := hl j j0 (by omega); omega)
          have tp := wd_top2 (q - tS b n p).toNat (by omega)
          rw [e11 (by omega)]
          refine ⟨(by unfold i64; omega), ?_⟩
          refine ⟨_, m_byteAt (tx μ ha hk) hn (by omega), ?_⟩
          rintro z11 ρ12 μ13 ⟨hq14_1, hq14_2, hq14_3⟩
          obtain rfl := hq14_1.symm
          obtain rfl := hq14_2.symm
          obtain rfl := hq14_3.symm
          rw [e5, if_pos qn]
          refine ⟨(by unfold i64; omega), ?_⟩
          refine ⟨(by unfold i64; omega), ?_⟩
          intro μ15 eμ15; subst eμ15
          refine F142 qn ql _ (fun a x => by rw [up2_c x]; exact ha a x) (fun k x y z u v => by rw [up2_k v]; exact hk k x y z u v) (by rw [up2_k (by decide)]; exact e9) (by rw [up2_k (by decide)]; exact e5) (fun hs => ?_)
          rw [up2_s, show (q + 1 - tS b n p).toNat = (q - tS b n p).toNat + 1 by omega]
          show _ = 32 * wd 32 96 b (tS b n p) (q - tS b n p).toNat + (b (tS b n p + ((q - tS b n p).toNat : Int)) - 96)
          rw [show tS b n p + (((q - tS b n p).toNat : Nat) : Int) = q by omega]
          omega
  have L204 : μ0 178 6 ≤ 0 → tS b n p < n → ¬ isL (b (tS b n p)) = true → isD (b (tS b n p)) = true → ∀ (m : Nat) (q : Int) (μ : Mem), (n - q).toNat < m → tS b n p ≤ q → q ≤ n → rn isD b n (tS b n p) = rn isD b n q → (∀ k, tS b n p ≤ k → k < q → 48 ≤ b k ∧ b k ≤ 57) → (∀ a, a ≠ 178 → μ a = μ0 a) → (∀ k, k ≠ 5 → k ≠ 8 → k ≠ 9 → k ≠ 10 → k ≠ 11 → μ 178 k = μ0 178 k) → μ 178 9 = tS b n p → μ 178 5 = q → (q - tS b n p ≤ 3 → μ 178 10 = wd 10 48 b (tS b n p) (q - tS b n p).toNat) → qX mX8_advance GG (fun _ ρ' μ' => ρ' = ρ ∧ (∀ a, a ≠ 178 → μ' a = μ0 a) ∧ (∀ k, k ≠ 5 → k ≠ 8 → k ≠ 9 → k ≠ 10 → k ≠ 11 → μ' 178 k = μ0 178 k) ∧ (0 < μ0 178 6 → μ' = μ0) ∧ (μ0 178 6 ≤ 0 → μ' 178 5 = tN b n p ∧ μ' 178 9 = tS b n p ∧ μ' 178 8 = rk (tK b n p) ∧ (tK b n p = 1 → μ' 178 11 = tX b n p) ∧ (tK b n p = 2 → μ' 178 10 = tV b n p))) GG (0, 0) 204 [some (qP 178)] [] ρ μ := by
    intro hc0 hlt cl cd m
    have cn : tN b n p = rn isD b n (tS b n p) := by unfold tN; rw [if_neg (by omega), if_neg cl, if_pos cd]
    have ck : tK b n p = if rn isD b n (tS b n p) - tS b n p ≤ 3 then 2 else 4 := by unfold tK; rw [if_neg (by omega), if_neg cl, if_pos cd]
    induction m with
    | zero => intro q μ h; omega
    | succ m ih =>
      intro q μ hm q0 q1 hr hl ha hk e9 e5 e11
      have bq := hb q
      have F258 : q < n → isD (b q) = true → ∀ ν : Mem, (∀ a, a ≠ 178 → ν a = μ0 a) → (∀ k, k ≠ 5 → k ≠ 8 → k ≠ 9 → k ≠ 10 → k ≠ 11 → ν 178 k = μ0 178 k) → ν 178 9 = tS b n p → ν 178 5 = q → (q + 1 - tS b n p ≤ 3 → ν 178 10 = wd 10 48 b (tS b n p) (q + 1 - tS b n p).toNat) → qX mX8_advance GG (fun _ ρ' μ' => ρ' = ρ ∧ (∀ a, a ≠ 178 → μ' a = μ0 a) ∧ (∀ k, k ≠ 5 → k ≠ 8 → k ≠ 9 → k ≠ 10 → k ≠ 11 → μ' 178 k = μ0 178 k) ∧ (0 < μ0 178 6 → μ' = μ0) ∧ (μ0 178 6 ≤ 0 → μ' 178 5 = tN b n p ∧ μ' 178 9 = tS b n p ∧ μ' 178 8 = rk (tK b n p) ∧ (tK b n p = 1 → μ' 178 11 = tX b n p) ∧ (tK b n p = 2 → μ' 178 10 = tV b n p))) GG (0, 0) 258 [some (qP 178)] [] ρ ν := by
        intro qn ql ν va vk v9 v5 v11
        refine w_X8_advance_258 ?_
        refine ⟨(by rw [v5]; unfold i32; omega), ?_⟩
        intro μ1 eμ1; subst eμ1
        refine ih (q + 1) _ (by omega) (by omega) (by omega) (by rw [hr]; exact rn_e qn ql) (fun k k0 k1 => ?_) (fun a x => by rw [up2_c x]; exact va a x) (fun k x y z u v => by rw [up2_k x]; exact vk k x y z u v) (by rw [up2_k (by decide)]; exact v9) (by rw [up2_s, v5]) (fun hs => by rw [up2_k (by decide)]; exact v11 hs)
        by_cases e : k = q
        · rw [e]; exact isD_i.mp ql
        · exact hl k k0 (by omega)
      refine w_X8_advance_204 ?_
      rw [e5]
      refine ⟨_, m_byteAt (tx μ ha hk) hn (by omega), ?_⟩
      rintro z1 ρ2 μ3 ⟨hq1_1, hq1_2, hq1_3⟩
      obtain rfl := hq1_1.symm
      obtain rfl := hq1_2.symm
      obtain rfl := hq1_3.symm
      refine ⟨_, m_in, ?_⟩
      rintro z5 ρ6 μ7 ⟨hz, hq2_1, hq2_2⟩
      obtain rfl := hq2_1.symm
      obtain rfl := hq2_2.symm
      refine ⟨fun hc3 => ?_, fun hc3 => ?_⟩
      · rw [e9]
        have rq : rn isD b n (tS b n p) = q := by
          rw [hr]
          refine rn_n (fun x => ?_)
          have := isD_i.mp x.2
          rw [if_pos x.1] at hz
          omega
        refine ⟨(by unfold i32; omega), ?_⟩
        refine ⟨fun hc5 => ?_, fun hc5 => ?_⟩
        · intro μ9 eμ9; subst eμ9
          exact ⟨rfl, fun a x => by rw [up2_c x]; exact ha a x, fun k x y z u v => by rw [up2_k y]; exact hk k x y z u v, fun x => by omega, fun _ => ⟨by rw [up2_k (by decide), e5, cn, rq], by rw [up2_k (by decide)]; exact e9, by rw [up2_s, ck, rq, if_pos (by omega)]; rfl, fun x => by rw [ck] at x; split at x <;> omega, fun _ => by rw [up2_k (by decide), e11 (by omega)]; unfold tV; rw [cn, rq]⟩⟩
        · intro μ10 eμ10; subst eμ10
          exact ⟨rfl, fun a x => by rw [up2_c x]; exact ha a x, fun k x y z u v => by rw [up2_k y]; exact hk k x y z u v, fun x => by omega, fun _ => ⟨by rw [up2_k (by decide), e5, cn, rq], by rw [up2_k (by decide)]; exact e9, by rw [up2_s, ck, rq, if_neg (by omega)]; rfl, fun x => by rw [ck] at x; split at x <;> omega, fun x => by rw [ck, rq, if_neg (by omega)] at x; omega⟩⟩
      · have qn : q < n := by
          by_cases x : q < n
          · exact x
          · rw [if_neg x] at hz; omega
        rw [if_pos qn] at hz
        have ql : isD (b q) = true := isD_i.mpr (by omega)
        rw [e9]
        refine ⟨(by unfold i32; omega), ?_⟩
        refine ⟨fun hc11 => ?_, fun hc11 => ?_⟩
        · exact F258 qn ql μ ha hk e9 e5 (fun hs => by omega)
        · have i := wd_le (b := b) (s := tS b n p) (A := 48) (B := 10) (hi := 9) (by decide) (q - tS b n p).toNat (fun j j0 j1 => by have := hl j j0 (by omega); omega)
          have tp := wd_top3 (q - tS b n p).toNat (by omega)
          rw [e11 (by omega)]
          refine ⟨(by unfold i32; omega), ?_⟩
          refine ⟨_, m_byteAt (tx μ ha hk) hn (by omega), ?_⟩
          rintro z11 ρ12 μ13 ⟨hq14_1, hq14_2, hq14_3⟩
          obtain rfl := hq14_1.symm
          obtain rfl := hq14_2.symm
          obtain rfl := hq14_3.symm
          rw [e5, if_pos qn]
          refine ⟨(by unfold i32; omega), ?_⟩
          refine ⟨(by unfold i32; omega), ?_⟩
          intro μ15 eμ15; subst eμ15
          refine F258 qn ql _ (fun a x => by rw [up2_c x]; exact ha a x) (fun k x y z u v => by rw [up2_k u]; exact hk k x y z u v) (by rw [up2_k (by decide)]; exact e9) (by rw [up2_k (by decide)]; exact e5) (fun hs => ?_)
          rw [up2_s, show (q + 1 - tS b n p).toNat = (q - tS b n p).toNat + 1 by omega]
          show _ = 10 * wd 10 48 b (tS b n p) (q - tS b n p).toNat + (b (tS b n p + ((q - tS b n p).toNat : Int)) - 48)
          rw [show tS b n p + (((q - tS b n p).toNat : Nat) : Int) = q by omega]
          omega
  have L : μ0 178 6 ≤ 0 → ∀ (m : Nat) (q : Int) (μ : Mem), (n - q).toNat < m → p ≤ q → q ≤ n → tS b n p = rn isB b n q → (∀ a, a ≠ 178 → μ a = μ0 a) → (∀ k, k ≠ 5 → μ 178 k = μ0 178 k) → μ 178 5 = q → qX mX8_advance GG (fun _ ρ' μ' => ρ' = ρ ∧ (∀ a, a ≠ 178 → μ' a = μ0 a) ∧ (∀ k, k ≠ 5 → k ≠ 8 → k ≠ 9 → k ≠ 10 → k ≠ 11 → μ' 178 k = μ0 178 k) ∧ (0 < μ0 178 6 → μ' = μ0) ∧ (μ0 178 6 ≤ 0 → μ' 178 5 = tN b n p ∧ μ' 178 9 = tS b n p ∧ μ' 178 8 = rk (tK b n p) ∧ (tK b n p = 1 → μ' 178 11 = tX b n p) ∧ (tK b n p = 2 → μ' 178 10 = tV b n p))) GG (0, 0) 8 [some (qP 178)] [] ρ μ := by
    intro hc0 m
    induction m with
    | zero => intro q μ h; omega
    | succ m ih =>
      intro q μ hm q0 q1 hr ha hk e5
      have bq := hb q
      have T1 := tx μ ha (fun k x _ _ _ _ => hk k x)
      have ea : ∀ a, a ≠ 178 → up2 (up2 μ 178 9 q) 178 11 0 a = μ0 a := fun a x => by rw [up2_c x, up2_c x]; exact ha a x
      have ek : ∀ k, k ≠ 5 → k ≠ 9 → k ≠ 11 → up2 (up2 μ 178 9 q) 178 11 0 178 k = μ0 178 k := fun k x y z => by rw [up2_k z, up2_k y]; exact hk k x
      have e65 : up2 (up2 μ 178 9 q) 178 11 0 178 5 = q := by rw [up2_k (by decide), up2_k (by decide)]; exact e5
      have e64 : up2 (up2 μ 178 9 q) 178 11 0 178 4 = n := by rw [up2_k (by decide), up2_k (by decide), hk 4 (by decide)]; exact T.2
      have e69 : up2 (up2 μ 178 9 q) 178 11 0 178 9 = q := by rw [up2_k (by decide), up2_s]
      have e611 : up2 (up2 μ 178 9 q) 178 11 0 178 11 = 0 := up2_s
      have T2 := tx (up2 (up2 μ 178 9 q) 178 11 0) ea (fun k x _ y _ z => ek k x y z)
      refine w_X8_advance_8 ?_
      rw [e5]
      refine ⟨_, m_byteAt T1 hn (by omega), ?_⟩
      rintro z1 ρ2 μ3 ⟨hq1_1, hq1_2, hq1_3⟩
      obtain rfl := hq1_1.symm
      obtain rfl := hq1_2.symm
      obtain rfl := hq1_3.symm
      refine ⟨fun hc2 => ?_, fun hc2 => ?_⟩
      · rw [e5]
        have sq : tS b n p = q := by
          rw [hr]
          refine rn_n (fun x => ?_)
          have := isB_i.mp x.2
          rw [if_pos x.1] at hc2
          exact hc2 this
        intro μ5 eμ5; subst eμ5
        intro μ6 eμ6; subst eμ6
        rw [e65, e64]
        refine ⟨fun hc5 => ?_, fun hc5 => ?_⟩
        · refine ⟨_, m_byteAt T2 hn (by omega), ?_⟩
          rintro z7 ρ8 μ9 ⟨hq6_1, hq6_2, hq6_3⟩
          obtain rfl := hq6_1.symm
          obtain rfl := hq6_2.symm
          obtain rfl := hq6_3.symm
          rw [if_pos (by omega)]
          refine ⟨_, m_in, ?_⟩
          rintro z11 ρ12 μ13 ⟨hz, hq7_1, hq7_2⟩
          obtain rfl := hq7_1.symm
          obtain rfl := hq7_2.symm
          refine ⟨fun hc8 => ?_, fun hc8 => ?_⟩
          · rw [e65]
            refine ⟨_, m_byteAt T2 hn (by omega), ?_⟩
            rintro z15 ρ16 μ17 ⟨hq9_1, hq9_2, hq9_3⟩
            obtain rfl := hq9_1.symm
            obtain rfl := hq9_2.symm
            obtain rfl := hq9_3.symm
            rw [if_pos (by omega)]
            refine ⟨_, m_in, ?_⟩
            rintro z19 ρ20 μ21 ⟨hy, hq10_1, hq10_2⟩
            obtain rfl := hq10_1.symm
            obtain rfl := hq10_2.symm
            refine ⟨fun hc11 => ?_, fun hc11 => ?_⟩
            · rw [e65]
              refine ⟨_, m_byteAt T2 hn (by omega), ?_⟩
              rintro z23 ρ24 μ25 ⟨hq12_1, hq12_2, hq12_3⟩
              obtain rfl := hq12_1.symm
              obtain rfl := hq12_2.symm
              obtain rfl := hq12_3.symm
              rw [if_pos (by omega)]
              have cl : ¬ isL (b (tS b n p)) = true := fun x => by have := isL_i.mp x; rw [sq] at this; omega
              have cd : ¬ isD (b (tS b n p)) = true := fun x => by have := isD_i.mp x; rw [sq] at this; omega
              have ck : tK b n p = if b (tS b n p) = 59 then 3 else 4 := by unfold tK; rw [if_neg (by omega), if_neg cl, if_neg cd]
              refine ⟨fun hc13 => ?_, fun hc13 => ?_⟩
              · exact F315 hc0 (by omega) cl cd 0 _ (by rw [ck, sq, if_neg hc13]; rfl) ea (fun k x _ y _ z => ek k x y z) (by rw [sq]; exact e69) (by rw [sq]; exact e65)
              · exact F315 hc0 (by omega) cl cd 4 _ (by rw [ck, sq, if_pos (by omega)]; rfl) ea (fun k x _ y _ z => ek k x y z) (by rw [sq]; exact e69) (by rw [sq]; exact e65)
            · intro μ27 eμ27; subst eμ27
              have cl : ¬ isL (b (tS b n p)) = true := fun x => by have := isL_i.mp x; rw [sq] at this; omega
              have cd : isD (b (tS b n p)) = true := isD_i.mpr (by rw [sq]; omega)
              exact L204 hc0 (by omega) cl cd _ q _ (Nat.lt_succ_self _) (by omega) q1 (by rw [sq]) (fun k k0 k1 => by omega) (fun a x => by rw [up2_c x]; exact ea a x) (fun k x _ y w z => by rw [up2_k w]; exact ek k x y z) (by rw [up2_k (by decide), sq]; exact e69) (by rw [up2_k (by decide)]; exact e65) (fun _ => by rw [up2_s, sq, show (q - q).toNat = 0 by omega]; rfl)
          · have cl : isL (b (tS b n p)) = true := isL_i.mpr (by rw [sq]; omega)
            exact L84 hc0 (by omega) cl _ q _ (Nat.lt_succ_self _) (by omega) q1 (by rw [sq]) (fun k k0 k1 => by omega) ea (fun k x _ y _ z => ek k x y z) (by rw [sq]; exact e69) e65 (fun _ => by rw [e611, sq, show (q - q).toNat = 0 by omega]; rfl)
        · intro μ28 eμ28; subst eμ28
          have ck : tK b n p = 0 := by unfold tK; rw [if_pos (by omega)]
          have cn : tN b n p = tS b n p := by unfold tN; rw [if_pos (by omega)]
          exact ⟨rfl, fun a x => by rw [up2_c x]; exact ea a x, fun k x y z u v => by rw [up2_k y]; exact ek k x z v, fun x => by omega, fun _ => ⟨by rw [up2_k (by decide), e65, cn, sq], by rw [up2_k (by decide), e69, sq], by rw [up2_s, ck]; rfl, fun x => by omega, fun x => by omega⟩⟩
      · have qn : q < n := by
          by_cases x : q < n
          · exact x
          · rw [if_neg x] at hc2; exact absurd hc2 (by decide)
        rw [if_pos qn] at hc2
        rw [e5]
        refine ⟨(by unfold i32; omega), ?_⟩
        intro μ29 eμ29; subst eμ29
        exact ih (q + 1) _ (by omega) (by omega) (by omega) (by rw [hr]; exact rn_e qn (isB_i.mpr (by omega))) (fun a x => by rw [up2_c x]; exact ha a x) (fun k x => by rw [up2_k x]; exact hk k x) up2_s
  refine e_X8_advance ?_
  refine ⟨fun hc1 => ?_, fun hc1 => ?_⟩
  · exact L (by omega) _ p μ0 (Nat.lt_succ_self _) (Int.le_refl _) p1 rfl (fun _ _ => rfl) (fun _ _ => rfl) h5
  · exact ⟨rfl, fun _ _ => rfl, fun _ _ _ _ _ _ => rfl, fun _ => rfl, fun x => by omega⟩
end MAD
