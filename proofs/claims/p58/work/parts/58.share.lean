/-! ===== largest remainders ===== -/
def lgN (r : Int → Int) : Nat → Int
  | 0 => 0
  | k + 1 => if r (lgN r k) < r (k : Int) then (k : Int) else lgN r k
def lrg (r : Int → Int) (n : Int) : Int := lgN r n.toNat
theorem lgN_s {r : Int → Int} : ∀ k : Nat, (0 < k → 0 ≤ lgN r k ∧ lgN r k < k ∧ ∀ j : Int, 0 ≤ j → j < k → r j < r (lgN r k) ∨ (r j = r (lgN r k) ∧ lgN r k ≤ j)) ∧ (k = 0 → lgN r k = 0) := by
  intro k
  induction k with
  | zero => exact ⟨fun h => by omega, fun _ => rfl⟩
  | succ k ih =>
    refine ⟨fun _ => ?_, fun h => by omega⟩
    have e : lgN r (k + 1) = if r (lgN r k) < r (k : Int) then (k : Int) else lgN r k := rfl
    rw [e]
    by_cases hk : k = 0
    · subst hk
      have z : lgN r 0 = 0 := rfl
      rw [z]
      have h0 : ((0 : Nat) : Int) = 0 := rfl
      rw [h0, if_neg (by omega)]
      refine ⟨by omega, by omega, fun j j0 j1 => ?_⟩
      have : j = 0 := by omega
      subst this
      right; omega
    · obtain ⟨a, b, c⟩ := ih.1 (by omega)
      by_cases h : r (lgN r k) < r (k : Int)
      · rw [if_pos h]
        refine ⟨by omega, by omega, fun j j0 j1 => ?_⟩
        by_cases hj : j = (k : Int)
        · subst hj; right; omega
        · have := c j j0 (by omega); omega
      · rw [if_neg h]
        refine ⟨a, by omega, fun j j0 j1 => ?_⟩
        by_cases hj : j = (k : Int)
        · subst hj; omega
        · exact c j j0 (by omega)
theorem lrg_s {r : Int → Int} {n : Int} (hn : 1 ≤ n) : 0 ≤ lrg r n ∧ lrg r n < n ∧ ∀ j : Int, 0 ≤ j → j < n → r j < r (lrg r n) ∨ (r j = r (lrg r n) ∧ lrg r n ≤ j) := by
  have a := (lgN_s (r := r) n.toNat).1 (by omega)
  have e : ((n.toNat : Nat) : Int) = n := Int.toNat_of_nonneg (by omega)
  unfold lrg
  rw [e] at a
  exact a
theorem lrg_u {r : Int → Int} {n b : Int} (h0 : 0 ≤ b) (h1 : b < n) (h : ∀ j : Int, 0 ≤ j → j < n → r j < r b ∨ (r j = r b ∧ b ≤ j)) : lrg r n = b := by
  obtain ⟨a, c, d⟩ := lrg_s (r := r) (n := n) (by omega)
  have h2 := h _ a c
  have h3 := d _ h0 h1
  omega
theorem lrg_c {r r' : Int → Int} {n : Int} (hn : 1 ≤ n) (h : ∀ j, 0 ≤ j → j < n → r j = r' j) : lrg r n = lrg r' n := by
  obtain ⟨a, c, d⟩ := lrg_s (r := r') hn
  refine lrg_u a c (fun j j0 j1 => ?_)
  rw [h j j0 j1, h _ a c]
  exact d j j0 j1
abbrev Fp : Type := (Int → Int) × (Int → Int)
def shS (n : Int) (f : Fp) : Fp := (u1 f.1 (lrg f.2 n) (f.1 (lrg f.2 n) + 1), u1 f.2 (lrg f.2 n) (-1))
def shI (n : Int) : Nat → Fp → Fp
  | 0, f => f
  | k + 1, f => shI n k (shS n f)
def agF (n : Int) (f g : Fp) : Prop := ∀ j, 0 ≤ j → j < n → f.1 j = g.1 j ∧ f.2 j = g.2 j
theorem shS_c {n : Int} (hn : 1 ≤ n) {f g : Fp} (h : agF n f g) : agF n (shS n f) (shS n g) := by
  have e := lrg_c hn (fun j j0 j1 => (h j j0 j1).2)
  have b := lrg_s (r := g.2) hn
  intro j j0 j1
  unfold shS
  rw [e]
  dsimp only
  unfold u1
  constructor
  · split
    · rw [(h _ b.1 b.2.1).1]
    · exact (h j j0 j1).1
  · split
    · rfl
    · exact (h j j0 j1).2
theorem shI_c {n : Int} (hn : 1 ≤ n) : ∀ (k : Nat) (f g : Fp), agF n f g → agF n (shI n k f) (shI n k g) := by
  intro k
  induction k with
  | zero => intro f g h; exact h
  | succ k ih => intro f g h; exact ih _ _ (shS_c hn h)
def q0 (n : Int) (cl : Int → Int) (a : Int) : Fp := (fun k => a * cl k / s_I cl n, fun k => a * cl k % s_I cl n)
def lSh (n : Int) (cl : Int → Int) (a : Int) : Int → Int := if s_I cl n ≤ a then cl else (shI n (a - s_I (q0 n cl a).1 n).toNat (q0 n cl a)).1
theorem q0_b {n a b : Int} {cl : Int → Int} (hn : 0 ≤ n) (ha : 0 ≤ a) (hs : a < s_I cl n) (hc : ∀ j, 0 ≤ j → j < n → 0 ≤ cl j ∧ cl j ≤ b) : ∀ j, 0 ≤ j → j < n → 0 ≤ (q0 n cl a).1 j ∧ (q0 n cl a).1 j ≤ b ∧ 0 ≤ (q0 n cl a).2 j ∧ (q0 n cl a).2 j < s_I cl n ∧ a * cl j - (q0 n cl a).1 j * s_I cl n = (q0 n cl a).2 j := fun j j0 j1 => by
  have c := hc j j0 j1
  have h1 : 0 ≤ a * cl j := Int.mul_nonneg ha c.1
  have h2 : 0 ≤ a * cl j / s_I cl n := Int.ediv_nonneg h1 (by omega)
  have h3 := Int.emod_nonneg (a * cl j) (show s_I cl n ≠ 0 by omega)
  have h4 := Int.emod_lt_of_pos (a * cl j) (show 0 < s_I cl n by omega)
  have h5 : a * cl j / s_I cl n ≤ cl j := by
    refine Int.le_of_lt_add_one (Int.ediv_lt_of_lt_mul (by omega) ?_)
    have q : a * cl j ≤ s_I cl n * cl j := Int.mul_le_mul_of_nonneg_right (by omega) c.1
    rw [Int.add_mul, Int.one_mul, Int.mul_comm (cl j)]
    omega
  have h6 := Int.mul_ediv_add_emod (a * cl j) (s_I cl n)
  have h7 : a * cl j / s_I cl n * s_I cl n = s_I cl n * (a * cl j / s_I cl n) := Int.mul_comm _ _
  show 0 ≤ a * cl j / s_I cl n ∧ a * cl j / s_I cl n ≤ b ∧ 0 ≤ a * cl j % s_I cl n ∧ a * cl j % s_I cl n < s_I cl n ∧ a * cl j - a * cl j / s_I cl n * s_I cl n = a * cl j % s_I cl n
  refine ⟨h2, by omega, h3, h4, by omega⟩
section SC
variable {ρ : Rf} {μ : Mem}
theorem k_largestRest {n : Int} (h3 : μ 151 3 = n) (hn : 1 ≤ n ∧ n ≤ 10) : qE mX4_largestRest GG GG [qP 151] ρ μ (fun z ρ' μ' => z = lrg (μ 153) n ∧ ρ' = ρ ∧ μ' = μ) := by
  have L : ∀ (k : Nat) (x : Nat), 10 - x < k → 1 ≤ x → (x : Int) ≤ n → qX mX4_largestRest GG (fun z ρ' μ' => z = lrg (μ 153) n ∧ ρ' = ρ ∧ μ' = μ) GG (0, 0) 4 [some (qP 151), some (qI (lgN (μ 153) x)), some (qI (x : Int))] [] ρ μ := by
    intro k
    induction k with
    | zero => intro x h; omega
    | succ k ih =>
      intro x hk h0 h1
      have e1 : ((x : Int) + 1) = ((x + 1 : Nat) : Int) := by omega
      have fs := (lgN_s (r := μ 153) x).1 (by omega)
      have ef : lgN (μ 153) (x + 1) = if μ 153 (lgN (μ 153) x) < μ 153 (x : Int) then (x : Int) else lgN (μ 153) x := rfl
      refine w_X4_largestRest_4 ?_
      rw [h3]
      refine ⟨fun hc1 => ?_, fun hc1 => ?_⟩
      · exact ⟨by unfold lrg; rw [show n.toNat = x by omega], rfl, rfl⟩
      · refine ⟨(by omega), ?_⟩
        refine ⟨(by omega), ?_⟩
        refine ⟨fun hc5 => ?_, fun hc5 => ?_⟩
        · refine ⟨(by unfold i32; omega), ?_⟩
          rw [if_neg (by omega)] at ef
          rw [e1, ← ef]
          exact ih _ (by omega) (by omega) (by omega)
        · refine ⟨(by unfold i32; omega), ?_⟩
          rw [if_pos (by omega)] at ef
          have := ih (x + 1) (by omega) (by omega) (by omega)
          rw [ef, ← e1] at this
          exact this
  refine e_X4_largestRest ?_
  have := L _ 1 (Nat.lt_succ_self _) (by omega) (by omega)
  have e : lgN (μ 153) 1 = 0 := by
    show (if μ 153 (lgN (μ 153) 0) < μ 153 ((0 : Nat) : Int) then ((0 : Nat) : Int) else lgN (μ 153) 0) = 0
    split <;> rfl
  rw [e] at this
  exact this
theorem k_shareOut {n a : Int} (h3 : μ 151 3 = n) (h4 : μ 151 4 = s_I (μ 152) n) (hn : 1 ≤ n ∧ n ≤ 10) (ha : 0 ≤ a ∧ a ≤ 19800) (hc : ∀ j, 0 ≤ j → j < n → 0 ≤ μ 152 j ∧ μ 152 j ≤ 396) : qE mX4_shareOut GG GG [qP 151, qI a] ρ μ (fun (_ : Int) (ρ' : Rf) (μ' : Mem) => ρ' = ρ ∧ FR 151 154 μ μ' ∧ ∀ j, 0 ≤ j → j < n → μ' 154 j = lSh n (μ 152) a j) := by
  have sb := s_Ib (f := μ 152) (n := n) (b := 396) (by omega) hc
  have L98 : a < s_I (μ 152) n → ∀ (k : Nat) (x L : Int) (ν : Mem), (L - x).toNat < k → 0 ≤ x → L ≤ 19800 → FR 151 154 μ ν → ν 151 = μ 151 → (∀ j, 0 ≤ j → j < n → 0 ≤ ν 154 j ∧ ν 154 j ≤ 400 + x) → (∀ j, 0 ≤ j → j < n → (shI n (L - x).toNat (ν 154, ν 153)).1 j = lSh n (μ 152) a j) → qX mX4_shareOut GG (fun (_ : Int) (ρ' : Rf) (μ' : Mem) => ρ' = ρ ∧ FR 151 154 μ μ' ∧ ∀ j, 0 ≤ j → j < n → μ' 154 j = lSh n (μ 152) a j) GG (0, 0) 98 [some (qP 151), none, some (qI L), some (qI x), none] [] ρ ν := by
    intro hs k
    induction k with
    | zero => intro x L ν h; omega
    | succ k ih =>
      intro x L ν hk h0 hL hf h1 hb hq
      refine w_X4_shareOut_98 ?_
      refine ⟨fun hc1 => ?_, fun hc1 => ?_⟩
      · refine ⟨rfl, hf, fun j j0 j1 => ?_⟩
        rw [← hq j j0 j1, show (L - x).toNat = 0 by omega]
        rfl
      · refine ⟨_, k_largestRest (n := n) (by rw [h1]; exact h3) hn, ?_⟩
        rintro z1 ρ2 μ3 ⟨hq3_1, hq3_2, hq3_3⟩
        obtain rfl := hq3_1.symm
        obtain rfl := hq3_2.symm
        obtain rfl := hq3_3.symm
        have lb := lrg_s (r := ν 153) (n := n) (by omega)
        have pb := hb _ lb.1 lb.2.1
        refine ⟨(by omega), ?_⟩
        refine ⟨(by unfold i32; omega), ?_⟩
        refine ⟨(by omega), ?_⟩
        intro μ5 eμ5; subst eμ5
        refine ⟨(by omega), ?_⟩
        intro μ6 eμ6; subst eμ6
        refine ⟨(by unfold i32; omega), ?_⟩
        refine ih _ _ _ (by omega) (by omega) hL (FR.up (FR.up hf (by omega)) (by omega)) (by rw [up2_c (by decide), up2_c (by decide)]; exact h1) (fun j j0 j1 => ?_) (fun j j0 j1 => ?_)
        · rw [up2_c (by decide), up2_u]
          have := hb j j0 j1
          unfold u1
          split <;> omega
        · rw [← hq j j0 j1, show (L - x).toNat = (L - (x + 1)).toNat + 1 by omega]
          rw [up2_c (show 154 ≠ 153 by decide), up2_u, up2_u, up2_c (show 153 ≠ 154 by decide)]
          rfl
  have L28 : a < s_I (μ 152) n → ∀ (k : Nat) (x : Int) (ν : Mem), (n - x).toNat < k → 0 ≤ x → x ≤ n → FR 153 154 μ ν → (∀ j, 0 ≤ j → j < x → ν 154 j = (q0 n (μ 152) a).1 j ∧ ν 153 j = (q0 n (μ 152) a).2 j) → qX mX4_shareOut GG (fun (_ : Int) (ρ' : Rf) (μ' : Mem) => ρ' = ρ ∧ FR 151 154 μ μ' ∧ ∀ j, 0 ≤ j → j < n → μ' 154 j = lSh n (μ 152) a j) GG (0, 0) 28 [some (qP 151), some (qI a), some (qI (a - s_I (q0 n (μ 152) a).1 x)), some (qI x), none] [] ρ ν := by
    intro hs k
    induction k with
    | zero => intro x ν h; omega
    | succ k ih =>
      intro x ν hk h0 h1 hf hq
      have v1 : ν 151 = μ 151 := hf 151 (by omega)
      have v2 : ν 152 = μ 152 := hf 152 (by omega)
      have qb := q0_b (b := 396) (by omega) ha.1 hs hc
      have ss := s_Ib (f := (q0 n (μ 152) a).1) (n := x) (b := 396) h0 (fun j j0 j1 => by have := qb j j0 (by omega); omega)
      refine w_X4_shareOut_28 ?_
      rw [v1, h3]
      refine ⟨fun hc1 => ?_, fun hc1 => ?_⟩
      · have e : x = n := by omega
        subst e
        have ss2 := s_Ib (f := (q0 x (μ 152) a).1) (n := x) (b := 396) h0 (fun j j0 j1 => by have := qb j j0 j1; omega)
        refine L98 hs _ 0 _ _ (Nat.lt_succ_self _) (by omega) (by omega) (hf.mono (by omega) (by omega)) v1 (fun j j0 j1 => ?_) (fun j j0 j1 => ?_)
        · have := qb j j0 j1
          rw [(hq j j0 j1).1]
          omega
        · have ag : agF x (ν 154, ν 153) (q0 x (μ 152) a) := fun j j0 j1 => hq j j0 j1
          rw [(shI_c (by omega) _ _ _ ag j j0 j1).1]
          unfold lSh
          rw [if_neg (by omega), Int.sub_zero]
      · rw [v2, h4]
        have cx := hc x h0 hc1
        have mx := mulb ha.1 ha.2 cx.1 cx.2
        have qx := qb x h0 hc1
        have ex : a * μ 152 x / s_I (μ 152) n = (q0 n (μ 152) a).1 x := rfl
        refine ⟨(by omega), ?_⟩
        refine ⟨(by unfold i32; omega), ?_⟩
        refine ⟨_, k_wholeParts (by omega) (by omega), ?_⟩
        rintro z1 ρ2 μ3 ⟨hq5_1, hq5_2, hq5_3⟩
        obtain rfl := hq5_1.symm
        obtain rfl := hq5_2.symm
        obtain rfl := hq5_3.symm
        try simp (disch := decide) only [up2_c, up2_s, v1, v2, h4]
        refine ⟨(by omega), ?_⟩
        rw [ex]
        intro μ5 eμ5; subst eμ5
        try simp (disch := decide) only [up2_c, up2_s, v1, v2, h4]
        refine ⟨(by omega), ?_⟩
        refine ⟨(by unfold i32; omega), ?_⟩
        refine ⟨(by unfold i32; omega), ?_⟩
        refine ⟨(by omega), ?_⟩
        intro μ6 eμ6; subst eμ6
        try simp (disch := decide) only [up2_c, up2_s, v1, v2, h4]
        refine ⟨(by omega), ?_⟩
        refine ⟨(by unfold i32; omega), ?_⟩
        refine ⟨(by unfold i32; omega), ?_⟩
        have e := s_Is (f := (q0 n (μ 152) a).1) h0
        rw [show a - s_I (q0 n (μ 152) a).1 x - (q0 n (μ 152) a).1 x = a - s_I (q0 n (μ 152) a).1 (x + 1) by omega]
        refine ih _ _ (by omega) (by omega) (by omega) (FR.up (FR.up hf (by omega)) (by omega)) (fun j j0 j1 => ?_)
        rw [up2_c (show 154 ≠ 153 by decide), up2_u, up2_u, up2_c (show 153 ≠ 154 by decide)]
        by_cases hj : j = x
        · rw [hj, u1_s, u1_s]
          exact ⟨rfl, qx.2.2.2.2⟩
        · rw [u1_n hj, u1_n hj]
          exact hq j j0 (by omega)
  refine e_X4_shareOut ?_
  rw [h4]
  refine ⟨fun hc1 => ?_, fun hc1 => ?_⟩
  · have := L28 hc1 _ 0 μ (Nat.lt_succ_self _) (by omega) (by omega) FR.refl (fun j j0 j1 => by omega)
    rw [s_I0, Int.sub_zero] at this
    exact this
  · intro μ1 eμ1; subst eμ1
    refine ⟨rfl, FR.cpy FR.refl (by omega), fun j j0 j1 => ?_⟩
    rw [cpyM_s ⟨j0, by omega⟩]
    unfold lSh
    rw [if_pos hc1]
end SC
