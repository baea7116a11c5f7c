/-! ===== the text's tokens ===== -/
def wd (B A : Int) (b : Int → Int) (s : Int) : Nat → Int
  | 0 => 0
  | k + 1 => B * wd B A b s k + (b (s + k) - A)
def isB (c : Int) : Bool := decide (c = 32)
def isL (c : Int) : Bool := decide (97 ≤ c ∧ c ≤ 122)
def isD (c : Int) : Bool := decide (48 ≤ c ∧ c ≤ 57)
theorem isB_i {c : Int} : isB c = true ↔ c = 32 := by unfold isB; exact decide_eq_true_iff
theorem isL_i {c : Int} : isL c = true ↔ (97 ≤ c ∧ c ≤ 122) := by unfold isL; exact decide_eq_true_iff
theorem isD_i {c : Int} : isD c = true ↔ (48 ≤ c ∧ c ≤ 57) := by unfold isD; exact decide_eq_true_iff
def rnF (P : Int → Bool) (b : Int → Int) (n : Int) : Nat → Int → Int
  | 0, p => p
  | m + 1, p => if p < n ∧ P (b p) = true then rnF P b n m (p + 1) else p
/-- the first place from p on that isn't of that kind -/
def rn (P : Int → Bool) (b : Int → Int) (n p : Int) : Int := rnF P b n (n - p).toNat p
def tS (b : Int → Int) (n p : Int) : Int := rn isB b n p
/-- 0 the end, 1 a word, 2 a number, 3 a semicolon, 4 anything else -/
def tK (b : Int → Int) (n p : Int) : Int := if n ≤ tS b n p then 0 else if isL (b (tS b n p)) = true then (if rn isL b n (tS b n p) - tS b n p ≤ 8 then 1 else 4) else if isD (b (tS b n p)) = true then (if rn isD b n (tS b n p) - tS b n p ≤ 3 then 2 else 4) else if b (tS b n p) = 59 then 3 else 4
def tN (b : Int → Int) (n p : Int) : Int := if n ≤ tS b n p then tS b n p else if isL (b (tS b n p)) = true then rn isL b n (tS b n p) else if isD (b (tS b n p)) = true then rn isD b n (tS b n p) else tS b n p + 1
def tW (b : Int → Int) (n p : Int) : Int := wd 256 0 b (tS b n p) (tN b n p - tS b n p).toNat
def tX (b : Int → Int) (n p : Int) : Int := wd 32 96 b (tS b n p) (tN b n p - tS b n p).toNat
def tV (b : Int → Int) (n p : Int) : Int := wd 10 48 b (tS b n p) (tN b n p - tS b n p).toNat
section TOK
variable {P : Int → Bool} {b : Int → Int} {n p s : Int}
theorem rn_e (h : p < n) (hP : P (b p) = true) : rn P b n p = rn P b n (p + 1) := by
  unfold rn
  rw [show (n - p).toNat = (n - (p + 1)).toNat + 1 by omega]
  show (if p < n ∧ P (b p) = true then _ else _) = _
  rw [if_pos ⟨h, hP⟩]
theorem rn_n (h : ¬ (p < n ∧ P (b p) = true)) : rn P b n p = p := by
  unfold rn
  cases (n - p).toNat with
  | zero => rfl
  | succ m =>
    show (if p < n ∧ P (b p) = true then _ else _) = _
    rw [if_neg h]
theorem rn_b (h : p ≤ n) : p ≤ rn P b n p ∧ rn P b n p ≤ n ∧ (∀ k, p ≤ k → k < rn P b n p → P (b k) = true) ∧ ¬ (rn P b n p < n ∧ P (b (rn P b n p)) = true) := by
  have L : ∀ (m : Nat) (p : Int), (n - p).toNat < m → p ≤ n → p ≤ rn P b n p ∧ rn P b n p ≤ n ∧ (∀ k, p ≤ k → k < rn P b n p → P (b k) = true) ∧ ¬ (rn P b n p < n ∧ P (b (rn P b n p)) = true) := by
    intro m
    induction m with
    | zero => intro p h; omega
    | succ m ih =>
      intro p hm hp
      by_cases c : p < n ∧ P (b p) = true
      · rw [rn_e c.1 c.2]
        have := ih (p + 1) (by omega) (by omega)
        refine ⟨by omega, this.2.1, fun k k0 k1 => ?_, this.2.2.2⟩
        by_cases e : k = p
        · rw [e]; exact c.2
        · exact this.2.2.1 k (by omega) k1
      · rw [rn_n c]
        exact ⟨Int.le_refl _, hp, fun k k0 k1 => by omega, c⟩
  exact L _ p (Nat.lt_succ_self _) h
/-- a run is over at a place -/
theorem rn_u {q : Int} (h0 : p ≤ q) (h1 : q ≤ n) (hP : ∀ k, p ≤ k → k < q → P (b k) = true) (hq : ¬ (q < n ∧ P (b q) = true)) : rn P b n p = q := by
  have L : ∀ (m : Nat) (p : Int), (q - p).toNat < m → p ≤ q → (∀ k, p ≤ k → k < q → P (b k) = true) → rn P b n p = q := by
    intro m
    induction m with
    | zero => intro p h; omega
    | succ m ih =>
      intro p hm hp hk
      by_cases c : p = q
      · subst c; exact rn_n hq
      · rw [rn_e (by omega) (hk p (by omega) (by omega))]
        exact ih (p + 1) (by omega) (by omega) (fun k k0 k1 => hk k (by omega) k1)
  exact L _ p (Nat.lt_succ_self _) h0 hP
theorem tS_b (h : p ≤ n) : p ≤ tS b n p ∧ tS b n p ≤ n := by
  have := rn_b (P := isB) (b := b) h
  exact ⟨this.1, this.2.1⟩
/-- a token's end; the letters of a word; the digits of a number -/
theorem tok_b (h : p ≤ n) : p ≤ tN b n p ∧ tN b n p ≤ n ∧ tS b n p ≤ tN b n p ∧ 0 ≤ tK b n p ∧ tK b n p ≤ 4 ∧ (tK b n p ≠ 0 → p < tN b n p ∧ tS b n p < tN b n p) ∧ (tK b n p = 1 → tN b n p - tS b n p ≤ 8 ∧ ∀ k, tS b n p ≤ k → k < tN b n p → 97 ≤ b k ∧ b k ≤ 122) ∧ (tK b n p = 2 → tN b n p - tS b n p ≤ 3 ∧ ∀ k, tS b n p ≤ k → k < tN b n p → 48 ≤ b k ∧ b k ≤ 57) := by
  have hs := tS_b (b := b) h
  unfold tK tN
  by_cases c0 : n ≤ tS b n p
  · simp only [if_pos c0]
    exact ⟨hs.1, hs.2, Int.le_refl _, by omega, by omega, fun e => absurd rfl e, fun e => by omega, fun e => by omega⟩
  · simp only [if_neg c0]
    have hl := rn_b (P := isL) (b := b) hs.2
    have hd := rn_b (P := isD) (b := b) hs.2
    by_cases c1 : isL (b (tS b n p)) = true
    · simp only [if_pos c1]
      have e := rn_e (P := isL) (n := n) (by omega) c1
      have h2 := rn_b (P := isL) (b := b) (p := tS b n p + 1) (n := n) (by omega)
      refine ⟨by omega, hl.2.1, hl.1, by split <;> omega, by split <;> omega, fun _ => ⟨by omega, by omega⟩, fun q => ?_, fun q => ?_⟩
      · split at q
        · exact ⟨by assumption, fun k k0 k1 => isL_i.mp (hl.2.2.1 k k0 k1)⟩
        · omega
      · split at q <;> omega
    · simp only [if_neg c1]
      by_cases c2 : isD (b (tS b n p)) = true
      · simp only [if_pos c2]
        have e := rn_e (P := isD) (n := n) (by omega) c2
        have h2 := rn_b (P := isD) (b := b) (p := tS b n p + 1) (n := n) (by omega)
        refine ⟨by omega, hd.2.1, hd.1, by split <;> omega, by split <;> omega, fun _ => ⟨by omega, by omega⟩, fun q => ?_, fun q => ?_⟩
        · split at q <;> omega
        · split at q
          · exact ⟨by assumption, fun k k0 k1 => isD_i.mp (hd.2.2.1 k k0 k1)⟩
          · omega
      · simp only [if_neg c2]
        exact ⟨by omega, by omega, by omega, by split <;> omega, by split <;> omega, fun _ => ⟨by omega, by omega⟩, fun q => by split at q <;> omega, fun q => by split at q <;> omega⟩
theorem tok_s (h : p ≤ n) (hk : tK b n p = 3) : tN b n p = tS b n p + 1 := by
  unfold tK at hk
  unfold tN
  by_cases c0 : n ≤ tS b n p
  · rw [if_pos c0] at hk; omega
  · rw [if_neg c0] at hk ⊢
    by_cases c1 : isL (b (tS b n p)) = true
    · rw [if_pos c1] at hk; split at hk <;> omega
    · rw [if_neg c1] at hk ⊢
      by_cases c2 : isD (b (tS b n p)) = true
      · rw [if_pos c2] at hk; split at hk <;> omega
      · rw [if_neg c2]
/-! ### words and numbers -/
theorem wd_le {B A hi : Int} (hB : 0 ≤ B) : ∀ k : Nat, (∀ j, s ≤ j → j < s + k → 0 ≤ b j - A ∧ b j - A ≤ hi) → 0 ≤ wd B A b s k ∧ wd B A b s k ≤ wd B 0 (fun _ => hi) 0 k := by
  intro k
  induction k with
  | zero => intro _; exact ⟨Int.le_refl _, Int.le_refl _⟩
  | succ k ih =>
    intro h
    have i := ih (fun j j0 j1 => h j j0 (by omega))
    have d := h (s + k) (by omega) (by omega)
    have m0 := Int.mul_nonneg hB i.1
    have m1 := Int.mul_le_mul_of_nonneg_left i.2 hB
    show 0 ≤ B * wd B A b s k + (b (s + k) - A) ∧ B * wd B A b s k + (b (s + k) - A) ≤ B * wd B 0 (fun _ => hi) 0 k + (hi - 0)
    omega
theorem wd_top : ∀ k : Nat, k < 8 → wd 256 0 (fun _ => 122) 0 k < 36028797018963968 := by decide +kernel
theorem wd_top2 : ∀ k : Nat, k < 9 → wd 32 0 (fun _ => 26) 0 k < 36028797018963968 := by decide +kernel
theorem wd_top3 : ∀ k : Nat, k < 4 → wd 10 0 (fun _ => 9) 0 k ≤ 999 := by decide +kernel
theorem wd_inj {B A : Int} (st : ∀ x y d e : Int, 1 ≤ d → d < B → 1 ≤ e → e < B → B * x + d = B * y + e → x = y ∧ d = e) (hB : 0 ≤ B) {b' : Int → Int} {s' : Int} : ∀ k k' : Nat, (∀ j, s ≤ j → j < s + k → 1 ≤ b j - A ∧ b j - A < B) → (∀ j, s' ≤ j → j < s' + k' → 1 ≤ b' j - A ∧ b' j - A < B) → wd B A b s k = wd B A b' s' k' → k = k' ∧ ∀ j : Int, 0 ≤ j → j < k → b (s + j) = b' (s' + j) := by
  intro k
  induction k with
  | zero =>
    intro k' _ h2 e
    cases k' with
    | zero => exact ⟨rfl, fun j j0 j1 => by omega⟩
    | succ k' =>
      exfalso
      have d := h2 (s' + k') (by omega) (by omega)
      have i := wd_le (b := b') (s := s') (A := A) (hi := B) hB k' (fun j j0 j1 => by have := h2 j j0 (by omega); omega)
      have m0 := Int.mul_nonneg hB i.1
      have e2 : (0 : Int) = B * wd B A b' s' k' + (b' (s' + k') - A) := e
      omega
  | succ k ih =>
    intro k' h1 h2 e
    cases k' with
    | zero =>
      exfalso
      have d := h1 (s + k) (by omega) (by omega)
      have i := wd_le (b := b) (s := s) (A := A) (hi := B) hB k (fun j j0 j1 => by have := h1 j j0 (by omega); omega)
      have m0 := Int.mul_nonneg hB i.1
      have e2 : B * wd B A b s k + (b (s + k) - A) = 0 := e
      omega
    | succ k' =>
      have d1 := h1 (s + k) (by omega) (by omega)
      have d2 := h2 (s' + k') (by omega) (by omega)
      obtain ⟨q1, q2⟩ := st _ _ _ _ d1.1 d1.2 d2.1 d2.2 e
      obtain ⟨r1, r2⟩ := ih k' (fun j j0 j1 => h1 j j0 (by omega)) (fun j j0 j1 => h2 j j0 (by omega)) q1
      subst r1
      refine ⟨rfl, fun j j0 j1 => ?_⟩
      by_cases c : j = k
      · subst c; omega
      · exact r2 j j0 (by omega)
theorem wd_c {B A : Int} {b' : Int → Int} {s' : Int} : ∀ k : Nat, (∀ j : Int, 0 ≤ j → j < k → b (s + j) = b' (s' + j)) → wd B A b s k = wd B A b' s' k := by
  intro k
  induction k with
  | zero => intro _; rfl
  | succ k ih =>
    intro h
    show B * wd B A b s k + (b (s + k) - A) = B * wd B A b' s' k + (b' (s' + k) - A)
    rw [ih (fun j j0 j1 => h j j0 (by omega)), h k (by omega) (by omega)]
/-- two words are one in both numberings, or in none -/
def WOK (b : Int → Int) (x y : Int) : Prop := ∃ (s : Int) (k : Nat), k ≤ 8 ∧ (∀ j, s ≤ j → j < s + k → 97 ≤ b j ∧ b j ≤ 122) ∧ x = wd 256 0 b s k ∧ y = wd 32 96 b s k
theorem WOK.iff {x y x' y' : Int} (h : WOK b x y) (h' : WOK b x' y') : x = x' ↔ y = y' := by
  obtain ⟨s, k, k8, hl, rfl, rfl⟩ := h
  obtain ⟨s', k', k8', hl', rfl, rfl⟩ := h'
  constructor
  · intro e
    obtain ⟨rfl, q⟩ := wd_inj (B := 256) (A := 0) (fun x y d e _ _ _ _ _ => by omega) (by decide) k k' (fun j j0 j1 => by have := hl j j0 j1; omega) (fun j j0 j1 => by have := hl' j j0 j1; omega) e
    exact wd_c k q
  · intro e
    obtain ⟨rfl, q⟩ := wd_inj (B := 32) (A := 96) (fun x y d e _ _ _ _ _ => by omega) (by decide) k k' (fun j j0 j1 => by have := hl j j0 j1; omega) (fun j j0 j1 => by have := hl' j j0 j1; omega) e
    exact wd_c k q
theorem tok_W (h : p ≤ n) (hk : tK b n p = 1) : WOK b (tW b n p) (tX b n p) := by
  have t := tok_b (b := b) h
  have w := t.2.2.2.2.2.2.1 hk
  refine ⟨tS b n p, (tN b n p - tS b n p).toNat, by omega, fun j j0 j1 => w.2 j j0 (by omega), rfl, rfl⟩
theorem tok_V (h : p ≤ n) (hk : tK b n p = 2) : 0 ≤ tV b n p ∧ tV b n p ≤ 999 := by
  have t := tok_b (b := b) h
  have w := t.2.2.2.2.2.2.2 hk
  have i := wd_le (b := b) (s := tS b n p) (A := 48) (B := 10) (hi := 9) (by decide) (tN b n p - tS b n p).toNat (fun j j0 j1 => by have := w.2 j j0 (by omega); omega)
  have := wd_top3 (tN b n p - tS b n p).toNat (by omega)
  exact ⟨i.1, by show wd _ _ _ _ _ ≤ _; omega⟩
end TOK
theorem sh_or {w c : Int} (w0 : 0 ≤ w) (w1 : w < 36028797018963968) (c0 : 0 ≤ c) (c1 : c < 256) : or64 (shl64 w 8) c = 256 * w + c := by
  have e : ((Int32.ofInt 8).toInt64 &&& 63) = 8 := by decide
  unfold or64 shl64
  rw [e, Int64.ofInt_toInt]
  obtain ⟨x, rfl⟩ := Int.eq_ofNat_of_zero_le w0
  obtain ⟨y, rfl⟩ := Int.eq_ofNat_of_zero_le c0
  show (Int64.toBitVec _).toInt = _
  rw [Int64.toBitVec_or, Int64.toBitVec_shiftLeft]
  show (BitVec.ofInt 64 (x : Int) <<< ((8 : Int64).toBitVec.smod 64) ||| BitVec.ofInt 64 (y : Int)).toInt = _
  have e8 : ((8 : Int64).toBitVec.smod 64) = 8#64 := by decide
  rw [e8]
  have ex : BitVec.ofInt 64 (x : Int) = BitVec.ofNat 64 x := rfl
  have ey : BitVec.ofInt 64 (y : Int) = BitVec.ofNat 64 y := rfl
  rw [ex, ey]
  have hn : (BitVec.ofNat 64 x <<< 8#64 ||| BitVec.ofNat 64 y).toNat = 256 * x + y := by
    simp only [BitVec.toNat_or, BitVec.shiftLeft_eq', BitVec.toNat_shiftLeft, BitVec.toNat_ofNat]
    have m1 : x % 2 ^ 64 = x := Nat.mod_eq_of_lt (by omega)
    have m2 : y % 2 ^ 64 = y := Nat.mod_eq_of_lt (by omega)
    have m3 : 8 % 2 ^ 64 = 8 := by decide
    rw [m1, m2, m3]
    have s1 : x <<< 8 = x * 256 := by rw [Nat.shiftLeft_eq]
    rw [Nat.mod_eq_of_lt (by omega), ← Nat.shiftLeft_add_eq_or_of_lt (by omega : y < 2 ^ 8), s1]
    omega
  rw [BitVec.toInt_eq_toNat_cond, hn]
  rw [if_pos (by omega)]
  omega
