/-! ===== sums, plans, and what the cells hold of them ===== -/
abbrev Pl : Type := Int → Int
def s_N (f : Int → Int) : Nat → Int
  | 0 => 0
  | n + 1 => s_N f n + f (n : Int)
def s_I (f : Int → Int) (n : Int) : Int := s_N f n.toNat
theorem s_I0 {f : Int → Int} : s_I f 0 = 0 := rfl
theorem s_Is {f : Int → Int} {n : Int} (h : 0 ≤ n) : s_I f (n + 1) = s_I f n + f n := by
  unfold s_I
  have e : (n + 1).toNat = n.toNat + 1 := by omega
  have e2 : ((n.toNat : Nat) : Int) = n := Int.toNat_of_nonneg h
  rw [e]
  show s_N f n.toNat + f ((n.toNat : Nat) : Int) = _
  rw [e2]
theorem i_ind {P : Int → Prop} (h0 : P 0) (hs : ∀ n, 0 ≤ n → P n → P (n + 1)) : ∀ n, 0 ≤ n → P n := by
  intro n hn
  have h : ∀ k : Nat, P (k : Int) := by
    intro k
    induction k with
    | zero => exact h0
    | succ k ih =>
      have e : ((k + 1 : Nat) : Int) = (k : Int) + 1 := by omega
      rw [e]
      exact hs _ (by omega) ih
  have e := h n.toNat
  rwa [Int.toNat_of_nonneg hn] at e
theorem s_Ic {f g : Int → Int} {n : Int} (hn : 0 ≤ n) (h : ∀ j, 0 ≤ j → j < n → f j = g j) : s_I f n = s_I g n := by
  revert h
  refine i_ind (P := fun n => (∀ j, 0 ≤ j → j < n → f j = g j) → s_I f n = s_I g n) ?_ ?_ n hn
  · intro _
    rfl
  · intro n hn ih h
    rw [s_Is hn, s_Is hn, ih (fun j h1 h2 => h j h1 (by omega)), h n hn (by omega)]
theorem s_Ib {f : Int → Int} {n b : Int} (hn : 0 ≤ n) (h : ∀ j, 0 ≤ j → j < n → 0 ≤ f j ∧ f j ≤ b) : 0 ≤ s_I f n ∧ s_I f n ≤ n * b := by
  revert h
  refine i_ind (P := fun n => (∀ j, 0 ≤ j → j < n → 0 ≤ f j ∧ f j ≤ b) → 0 ≤ s_I f n ∧ s_I f n ≤ n * b) ?_ ?_ n hn
  · intro _
    rw [s_I0, Int.zero_mul]
    omega
  · intro n hn ih h
    have h1 := ih (fun j h1 h2 => h j h1 (by omega))
    have h2 := h n hn (by omega)
    rw [s_Is hn, Int.add_mul, Int.one_mul]
    omega
theorem mulb {a b A B : Int} (h1 : 0 ≤ a) (h2 : a ≤ A) (h3 : 0 ≤ b) (h4 : b ≤ B) : 0 ≤ a * b ∧ a * b ≤ A * B := ⟨Int.mul_nonneg h1 h3, Int.mul_le_mul h2 h4 h3 (by omega)⟩
/-! ### memory -/
theorem up2_c {α : Type} {f : Nat → Int → α} {o a : Nat} {k : Int} {v : α} (h : a ≠ o) : up2 f o k v a = f a := by
  funext b
  simp [up2, h]
def u1 (f : Int → Int) (k v : Int) : Int → Int := fun b => if b = k then v else f b
theorem u1_s {f : Int → Int} {k v : Int} : u1 f k v k = v := by simp [u1]
theorem u1_n {f : Int → Int} {k v b : Int} (h : b ≠ k) : u1 f k v b = f b := by simp [u1, h]
theorem up2_u {f : Mem} {o : Nat} {k v : Int} : up2 f o k v o = u1 (f o) k v := by
  funext b
  simp [up2, u1]
theorem cpyM_c {μ : Mem} {a0 a1 a : Nat} {n : Int} (h : a ≠ a1) : cpyM μ a0 a1 n a = μ a := by
  funext b
  simp [cpyM, h]
theorem cpyM_s {μ : Mem} {a0 a1 : Nat} {n b : Int} (h : 0 ≤ b ∧ b < n) : cpyM μ a0 a1 n a1 b = μ a0 b := by simp [cpyM, h]
def filM (μ : Mem) (a : Nat) (n v : Int) : Mem := fun c b => if c = a ∧ 0 ≤ b ∧ b < n then v else μ c b
theorem filM_c {μ : Mem} {a c : Nat} {n v : Int} (h : c ≠ a) : filM μ a n v c = μ c := by
  funext b
  simp [filM, h]
theorem filM_s {μ : Mem} {a : Nat} {n v b : Int} (h : 0 ≤ b ∧ b < n) : filM μ a n v a b = v := by simp [filM, h]
theorem filM_0 {μ : Mem} {a : Nat} {v : Int} : filM μ a 0 v = μ := by
  funext c b
  unfold filM
  rw [if_neg (by omega)]
theorem filM_1 {μ : Mem} {a : Nat} {n v : Int} (hn : 0 ≤ n) : up2 (filM μ a n v) a n v = filM μ a (n + 1) v := by
  funext c b
  unfold up2 filM
  by_cases hc : c = a
  · by_cases hb : b = n
    · rw [if_pos ⟨hc, hb⟩, if_pos ⟨hc, by omega, by omega⟩]
    · rw [if_neg (fun h => hb h.2)]
      by_cases h2 : 0 ≤ b ∧ b < n
      · rw [if_pos ⟨hc, h2⟩, if_pos ⟨hc, h2.1, by omega⟩]
      · rw [if_neg (fun h => h2 h.2), if_neg (fun h => h2 (by omega))]
  · rw [if_neg (fun h => hc h.1), if_neg (fun h => hc h.1), if_neg (fun h => hc h.1)]
def AG (lo hi : Nat) (μ μ' : Mem) : Prop := ∀ a, lo ≤ a → a ≤ hi → μ' a = μ a
def FR (lo hi : Nat) (μ μ' : Mem) : Prop := ∀ a, (a < lo ∨ hi < a) → μ' a = μ a
theorem FR.refl {lo hi : Nat} {μ : Mem} : FR lo hi μ μ := fun _ _ => rfl
theorem FR.trans {lo hi : Nat} {μ μ1 μ2 : Mem} (h1 : FR lo hi μ μ1) (h2 : FR lo hi μ1 μ2) : FR lo hi μ μ2 := fun a ha => (h2 a ha).trans (h1 a ha)
theorem FR.mono {lo hi lo' hi' : Nat} {μ μ1 : Mem} (h : FR lo hi μ μ1) (hl : lo' ≤ lo) (hh : hi ≤ hi') : FR lo' hi' μ μ1 := fun a ha => h a (by omega)
theorem FR.up {lo hi o : Nat} {k v : Int} {μ μ1 : Mem} (h : FR lo hi μ μ1) (hl : lo ≤ o ∧ o ≤ hi) : FR lo hi μ (up2 μ1 o k v) := fun a ha => (up2_c (by omega)).trans (h a ha)
theorem FR.cpy {lo hi o x : Nat} {n : Int} {μ μ1 : Mem} (h : FR lo hi μ μ1) (hl : lo ≤ o ∧ o ≤ hi) : FR lo hi μ (cpyM μ1 x o n) := fun a ha => (cpyM_c (by omega)).trans (h a ha)
theorem FR.fil {lo hi o : Nat} {n v : Int} {μ μ1 : Mem} (h : FR lo hi μ μ1) (hl : lo ≤ o ∧ o ≤ hi) : FR lo hi μ (filM μ1 o n v) := fun a ha => (filM_c (by omega)).trans (h a ha)
theorem FR.ag {lo hi lo' hi' : Nat} {μ μ1 : Mem} (h : FR lo hi μ μ1) (hd : hi' < lo ∨ hi < lo') : AG lo' hi' μ μ1 := fun a h1 h2 => h a (by omega)
theorem AG.refl {lo hi : Nat} {μ : Mem} : AG lo hi μ μ := fun _ _ _ => rfl
theorem AG.up {lo hi o : Nat} {k v : Int} {μ μ1 : Mem} (h : AG lo hi μ μ1) (hl : o < lo ∨ hi < o) : AG lo hi μ (up2 μ1 o k v) := fun a h1 h2 => (up2_c (by omega)).trans (h a h1 h2)
theorem AG.trans {lo hi : Nat} {μ μ1 μ2 : Mem} (h1 : AG lo hi μ μ1) (h2 : AG lo hi μ1 μ2) : AG lo hi μ μ2 := fun a ha hb => (h2 a ha hb).trans (h1 a ha hb)
/-! ### plans -/
def PV (p : Pl) : Prop :=
  (∀ t, 0 ≤ t → t < 2 → 0 ≤ p (0 + t) ∧ p (0 + t) ≤ 900 ∧ p (0 + t) ≤ p (2 + t) ∧ p (2 + t) ≤ 1059 ∧ 1 ≤ p (4 + t) ∧ p (4 + t) ≤ 5) ∧
  (∀ t, 0 ≤ t → t < 2 → ∀ c, 0 ≤ c → c < p (4 + t) → 0 ≤ p (6 + 5 * t + c) ∧ p (6 + 5 * t + c) ≤ 99 ∧ 0 ≤ p (16 + (5 * t + c)) ∧ p (16 + (5 * t + c)) ≤ 99 ∧ 0 ≤ p (26 + (5 * t + c)) ∧ p (26 + (5 * t + c)) ≤ 99) ∧
  (∀ m, 0 ≤ m → m < p 36 → 0 ≤ p (37 + m) ∧ p (37 + m) ≤ 20 ∧ 0 ≤ p (41 + m) ∧ p (41 + m) ≤ 20) ∧
  (∀ k, 0 ≤ k → k < p 45 → 0 ≤ p (46 + k) ∧ p (46 + k) ≤ 99) ∧
  (∀ k, 0 ≤ k → k < 12 → 0 ≤ p (49 + k) ∧ p (49 + k) ≤ 999) ∧
  (∀ i, 0 ≤ i → i < p 61 → 0 ≤ p (62 + 5 * i + 0) ∧ p (62 + 5 * i + 0) < p 45 ∧ 1 ≤ p (62 + 5 * i + 1) ∧ p (62 + 5 * i + 1) ≤ 99 ∧ 1 ≤ p (62 + 5 * i + 2) ∧ p (62 + 5 * i + 2) ≤ 9 ∧ 1 ≤ p (62 + 5 * i + 3) ∧ p (62 + 5 * i + 3) ≤ 5 ∧ 1 ≤ p (62 + 5 * i + 4) ∧ p (62 + 5 * i + 4) ≤ 5) ∧
  (∀ j, 0 ≤ j → j < p 87 → 0 ≤ p (88 + 5 * j + 0) ∧ p (88 + 5 * j + 0) < p 61 ∧ 0 ≤ p (88 + 5 * j + 1) ∧ p (88 + 5 * j + 1) < 2 ∧ 0 ≤ p (88 + 5 * j + 2) ∧ p (88 + 5 * j + 2) < p (4 + p (88 + 5 * j + 1)) ∧ 0 ≤ p (88 + 5 * j + 3) ∧ p (88 + 5 * j + 3) < p 36 ∧ 1 ≤ p (88 + 5 * j + 4) ∧ p (88 + 5 * j + 4) ≤ 99) ∧
  1 ≤ p 36 ∧ p 36 ≤ 4 ∧ 0 ≤ p 45 ∧ p 45 ≤ 3 ∧ 1 ≤ p 61 ∧ p 61 ≤ 5 ∧ 0 ≤ p 87 ∧ p 87 ≤ 20
theorem PV.t {p : Pl} (h : PV p) {t : Int} (h0 : 0 ≤ t) (h1 : t < 2) : 0 ≤ p (0 + t) ∧ p (0 + t) ≤ 900 ∧ p (0 + t) ≤ p (2 + t) ∧ p (2 + t) ≤ 1059 ∧ 1 ≤ p (4 + t) ∧ p (4 + t) ≤ 5 := h.1 t h0 h1
theorem PV.c {p : Pl} (h : PV p) {t c : Int} (h0 : 0 ≤ t) (h1 : t < 2) (h2 : 0 ≤ c) (h3 : c < p (4 + t)) : 0 ≤ p (6 + 5 * t + c) ∧ p (6 + 5 * t + c) ≤ 99 ∧ 0 ≤ p (16 + (5 * t + c)) ∧ p (16 + (5 * t + c)) ≤ 99 ∧ 0 ≤ p (26 + (5 * t + c)) ∧ p (26 + (5 * t + c)) ≤ 99 := h.2.1 t h0 h1 c h2 h3
theorem PV.m {p : Pl} (h : PV p) {m : Int} (h0 : 0 ≤ m) (h1 : m < p 36) : 0 ≤ p (37 + m) ∧ p (37 + m) ≤ 20 ∧ 0 ≤ p (41 + m) ∧ p (41 + m) ≤ 20 := h.2.2.1 m h0 h1
theorem PV.k {p : Pl} (h : PV p) {k : Int} (h0 : 0 ≤ k) (h1 : k < p 45) : 0 ≤ p (46 + k) ∧ p (46 + k) ≤ 99 := h.2.2.2.1 k h0 h1
theorem PV.s {p : Pl} (h : PV p) {k : Int} (h0 : 0 ≤ k) (h1 : k < 12) : 0 ≤ p (49 + k) ∧ p (49 + k) ≤ 999 := h.2.2.2.2.1 k h0 h1
theorem PV.i {p : Pl} (h : PV p) {i : Int} (h0 : 0 ≤ i) (h1 : i < p 61) : 0 ≤ p (62 + 5 * i + 0) ∧ p (62 + 5 * i + 0) < p 45 ∧ 1 ≤ p (62 + 5 * i + 1) ∧ p (62 + 5 * i + 1) ≤ 99 ∧ 1 ≤ p (62 + 5 * i + 2) ∧ p (62 + 5 * i + 2) ≤ 9 ∧ 1 ≤ p (62 + 5 * i + 3) ∧ p (62 + 5 * i + 3) ≤ 5 ∧ 1 ≤ p (62 + 5 * i + 4) ∧ p (62 + 5 * i + 4) ≤ 5 := h.2.2.2.2.2.1 i h0 h1
theorem PV.j {p : Pl} (h : PV p) {j : Int} (h0 : 0 ≤ j) (h1 : j < p 87) : 0 ≤ p (88 + 5 * j + 0) ∧ p (88 + 5 * j + 0) < p 61 ∧ 0 ≤ p (88 + 5 * j + 1) ∧ p (88 + 5 * j + 1) < 2 ∧ 0 ≤ p (88 + 5 * j + 2) ∧ p (88 + 5 * j + 2) < p (4 + p (88 + 5 * j + 1)) ∧ 0 ≤ p (88 + 5 * j + 3) ∧ p (88 + 5 * j + 3) < p 36 ∧ 1 ≤ p (88 + 5 * j + 4) ∧ p (88 + 5 * j + 4) ≤ 99 := h.2.2.2.2.2.2.1 j h0 h1
theorem PV.n {p : Pl} (h : PV p) : 1 ≤ p 36 ∧ p 36 ≤ 4 ∧ 0 ≤ p 45 ∧ p 45 ≤ 3 ∧ 1 ≤ p 61 ∧ p 61 ≤ 5 ∧ 0 ≤ p 87 ∧ p 87 ≤ 20 := h.2.2.2.2.2.2.2
def FP (μ : Mem) (f : Nat) (p : Pl) : Prop :=
  (∀ t, 0 ≤ t → t < 2 → μ (f + 2) t = p (0 + t) ∧ μ (f + 3) t = p (4 + t)) ∧
  (∀ t, 0 ≤ t → t < 2 → ∀ c, 0 ≤ c → c < p (4 + t) → μ (f + 4) (5 * t + c) = p (6 + 5 * t + c) ∧ μ (f + 5) (5 * t + c) = p (16 + (5 * t + c)) ∧ μ (f + 6) (5 * t + c) = p (26 + (5 * t + c))) ∧
  (∀ m, 0 ≤ m → m < p 36 → μ (f + 8) m = p (37 + m) ∧ μ (f + 9) m = p (41 + m)) ∧
  (∀ k, 0 ≤ k → k < p 45 → μ (f + 10) k = p (46 + k)) ∧
  (∀ i, 0 ≤ i → i < p 61 → μ (f + 11) i = p (62 + 5 * i + 0) ∧ μ (f + 12) i = p (62 + 5 * i + 1) ∧ μ (f + 13) i = p (62 + 5 * i + 2) ∧ μ (f + 14) i = p (62 + 5 * i + 3) ∧ μ (f + 15) i = p (62 + 5 * i + 4)) ∧
  μ f 15 = p 36 ∧ μ f 16 = p 45 ∧ μ f 17 = p 61
theorem FP.t {μ : Mem} {f : Nat} {p : Pl} (h : FP μ f p) {t : Int} (h0 : 0 ≤ t) (h1 : t < 2) : μ (f + 2) t = p (0 + t) ∧ μ (f + 3) t = p (4 + t) := h.1 t h0 h1
theorem FP.c {μ : Mem} {f : Nat} {p : Pl} (h : FP μ f p) {t c : Int} (h0 : 0 ≤ t) (h1 : t < 2) (h2 : 0 ≤ c) (h3 : c < p (4 + t)) : μ (f + 4) (5 * t + c) = p (6 + 5 * t + c) ∧ μ (f + 5) (5 * t + c) = p (16 + (5 * t + c)) ∧ μ (f + 6) (5 * t + c) = p (26 + (5 * t + c)) := h.2.1 t h0 h1 c h2 h3
theorem FP.m {μ : Mem} {f : Nat} {p : Pl} (h : FP μ f p) {m : Int} (h0 : 0 ≤ m) (h1 : m < p 36) : μ (f + 8) m = p (37 + m) ∧ μ (f + 9) m = p (41 + m) := h.2.2.1 m h0 h1
theorem FP.k {μ : Mem} {f : Nat} {p : Pl} (h : FP μ f p) {k : Int} (h0 : 0 ≤ k) (h1 : k < p 45) : μ (f + 10) k = p (46 + k) := h.2.2.2.1 k h0 h1
theorem FP.i {μ : Mem} {f : Nat} {p : Pl} (h : FP μ f p) {i : Int} (h0 : 0 ≤ i) (h1 : i < p 61) : μ (f + 11) i = p (62 + 5 * i + 0) ∧ μ (f + 12) i = p (62 + 5 * i + 1) ∧ μ (f + 13) i = p (62 + 5 * i + 2) ∧ μ (f + 14) i = p (62 + 5 * i + 3) ∧ μ (f + 15) i = p (62 + 5 * i + 4) := h.2.2.2.2.1 i h0 h1
theorem FP.n {μ : Mem} {f : Nat} {p : Pl} (h : FP μ f p) : μ f 15 = p 36 ∧ μ f 16 = p 45 ∧ μ f 17 = p 61 := h.2.2.2.2.2
theorem FP.ag {μ : Mem} {f : Nat} {p : Pl} (h : FP μ f p) {μ' : Mem} (ha : AG f (f + 15) μ μ') : FP μ' f p := by
  unfold FP
  rw [ha (f + 2) (by omega) (by omega), ha (f + 3) (by omega) (by omega), ha (f + 4) (by omega) (by omega), ha (f + 5) (by omega) (by omega), ha (f + 6) (by omega) (by omega), ha (f + 8) (by omega) (by omega), ha (f + 9) (by omega) (by omega), ha (f + 10) (by omega) (by omega), ha (f + 11) (by omega) (by omega), ha (f + 12) (by omega) (by omega), ha (f + 13) (by omega) (by omega), ha (f + 14) (by omega) (by omega), ha (f + 15) (by omega) (by omega), ha f (by omega) (by omega)]
  exact h
def SP (μ : Mem) (s : Nat) (p : Pl) : Prop :=
  (∀ j, 0 ≤ j → j < p 87 → μ (s + 1) j = p (88 + 5 * j + 0) ∧ μ (s + 2) j = 5 * p (88 + 5 * j + 1) + p (88 + 5 * j + 2) ∧ μ (s + 3) j = p (88 + 5 * j + 3) ∧ μ (s + 4) j = p (88 + 5 * j + 4)) ∧
  (∀ t, 0 ≤ t → t < 2 → μ (s + 5) t = p (2 + t)) ∧ (∀ k, 0 ≤ k → k < 12 → μ (s + 6) k = p (49 + k)) ∧ μ s 6 = p 87
theorem SP.j {μ : Mem} {s : Nat} {p : Pl} (h : SP μ s p) {j : Int} (h0 : 0 ≤ j) (h1 : j < p 87) : μ (s + 1) j = p (88 + 5 * j + 0) ∧ μ (s + 2) j = 5 * p (88 + 5 * j + 1) + p (88 + 5 * j + 2) ∧ μ (s + 3) j = p (88 + 5 * j + 3) ∧ μ (s + 4) j = p (88 + 5 * j + 4) := h.1 j h0 h1
theorem SP.t {μ : Mem} {s : Nat} {p : Pl} (h : SP μ s p) {t : Int} (h0 : 0 ≤ t) (h1 : t < 2) : μ (s + 5) t = p (2 + t) := h.2.1 t h0 h1
theorem SP.k {μ : Mem} {s : Nat} {p : Pl} (h : SP μ s p) {k : Int} (h0 : 0 ≤ k) (h1 : k < 12) : μ (s + 6) k = p (49 + k) := h.2.2.1 k h0 h1
theorem SP.n {μ : Mem} {s : Nat} {p : Pl} (h : SP μ s p) : μ s 6 = p 87 := h.2.2.2
theorem SP.ag {μ : Mem} {s : Nat} {p : Pl} (h : SP μ s p) {μ' : Mem} (ha : AG s (s + 6) μ μ') : SP μ' s p := by
  unfold SP
  rw [ha (s + 1) (by omega) (by omega), ha (s + 2) (by omega) (by omega), ha (s + 3) (by omega) (by omega), ha (s + 4) (by omega) (by omega), ha (s + 5) (by omega) (by omega), ha (s + 6) (by omega) (by omega), ha s (by omega) (by omega)]
  exact h
/-- the jobs of a trolley -/
def cnt (p : Pl) (i : Int) : Int := s_I (fun j => if p (88 + 5 * j + 0) = i then 1 else 0) (p 87)
/-- the demand of a car for a meal -/
def dem (p : Pl) (t c m : Int) : Int := (p (16 + (5 * t + c)) * p (37 + m) + p (26 + (5 * t + c)) * p (41 + m) + 9) / 10
def dmT (p : Pl) (t m : Int) : Int := s_I (fun c => dem p t c m) (p (4 + t))
/-- the walk of a trolley to a car at a speed -/
def wkG (p : Pl) (i t c v : Int) : Int := (max (p (46 + p (62 + 5 * i + 0)) - p (6 + 5 * t + c)) (-(p (46 + p (62 + 5 * i + 0)) - p (6 + 5 * t + c))) + v - 1) / v
def wk (p : Pl) (j : Int) : Int := wkG p (p (88 + 5 * j + 0)) (p (88 + 5 * j + 1)) (p (88 + 5 * j + 2)) (p (62 + 5 * p (88 + 5 * j + 0) + 2))
theorem dem_b {p : Pl} (h : PV p) {t c m : Int} (h0 : 0 ≤ t) (h1 : t < 2) (h2 : 0 ≤ c) (h3 : c < p (4 + t)) (h4 : 0 ≤ m) (h5 : m < p 36) : 0 ≤ dem p t c m ∧ dem p t c m ≤ 396 := by
  have a := h.c h0 h1 h2 h3
  have b := h.m h4 h5
  have c1 := mulb a.2.2.1 a.2.2.2.1 b.1 b.2.1
  have c2 := mulb a.2.2.2.2.1 a.2.2.2.2.2 b.2.2.1 b.2.2.2
  unfold dem
  omega
theorem dmT_b {p : Pl} (h : PV p) {t m : Int} (h0 : 0 ≤ t) (h1 : t < 2) (h4 : 0 ≤ m) (h5 : m < p 36) : 0 ≤ dmT p t m ∧ dmT p t m ≤ 1980 := by
  have a := h.t h0 h1
  have b := s_Ib (f := fun c => dem p t c m) (n := p (4 + t)) (b := 396) (by omega) (fun j h2 h3 => dem_b h h0 h1 h2 h3 h4 h5)
  unfold dmT
  omega
theorem cdiv_b {a v : Int} (ha : 0 ≤ a) (hv : 1 ≤ v) : 0 ≤ (a + v - 1) / v ∧ (a + v - 1) / v ≤ a := by
  have h1 := Int.ediv_nonneg (a := a + v - 1) (b := v) (by omega) (by omega)
  refine ⟨h1, ?_⟩
  have h2 : a + v - 1 < (a + 1) * v := by
    have : a ≤ a * v := by
      have := Int.mul_le_mul_of_nonneg_left hv ha
      omega
    have e : (a + 1) * v = a * v + v := by rw [Int.add_mul, Int.one_mul]
    omega
  have h3 := Int.ediv_lt_of_lt_mul (by omega : 0 < v) h2
  omega
theorem wkG_b {p : Pl} (h : PV p) {i t c v : Int} (hi0 : 0 ≤ i) (hi1 : i < p 61) (h0 : 0 ≤ t) (h1 : t < 2) (h2 : 0 ≤ c) (h3 : c < p (4 + t)) (hv : 1 ≤ v) : 0 ≤ wkG p i t c v ∧ wkG p i t c v ≤ 99 := by
  have a := h.i hi0 hi1
  have b := h.k a.1 a.2.1
  have d := h.c h0 h1 h2 h3
  have e := cdiv_b (a := max (p (46 + p (62 + 5 * i + 0)) - p (6 + 5 * t + c)) (-(p (46 + p (62 + 5 * i + 0)) - p (6 + 5 * t + c)))) (v := v) (by omega) hv
  unfold wkG
  omega
theorem wk_b {p : Pl} (h : PV p) {j : Int} (h0 : 0 ≤ j) (h1 : j < p 87) : 0 ≤ wk p j ∧ wk p j ≤ 99 := by
  have a := h.j h0 h1
  have b := h.i a.1 a.2.1
  exact wkG_b h a.1 a.2.1 a.2.2.1 a.2.2.2.1 a.2.2.2.2.1 a.2.2.2.2.2.1 b.2.2.2.2.1
