/-! ===== what a trolley does at a time ===== -/
def fjN (p : Pl) (f : Int → Int) (i tm : Int) : Nat → Int → Int
  | 0, _ => -1
  | k + 1, x => if p 87 ≤ x then -1 else if p (88 + 5 * x + 0) = i ∧ tm < f x then x else fjN p f i tm k (x + 1)
/-- the first job of a trolley that is finished later -/
def fj (p : Pl) (f : Int → Int) (i tm : Int) : Int := fjN p f i tm (p 87).toNat 0
theorem fjN_s {p : Pl} {f : Int → Int} {i tm : Int} : ∀ (k : Nat) (x : Int), p 87 - x ≤ k → (fjN p f i tm k x = -1 ∧ ∀ j, x ≤ j → j < p 87 → p (88 + 5 * j + 0) = i → f j ≤ tm) ∨ (x ≤ fjN p f i tm k x ∧ fjN p f i tm k x < p 87 ∧ p (88 + 5 * fjN p f i tm k x + 0) = i ∧ tm < f (fjN p f i tm k x) ∧ ∀ j, x ≤ j → j < fjN p f i tm k x → p (88 + 5 * j + 0) = i → f j ≤ tm) := by
  intro k
  induction k with
  | zero => intro x h; exact Or.inl ⟨rfl, fun j a b _ => by omega⟩
  | succ k ih =>
    intro x h
    have e : fjN p f i tm (k + 1) x = if p 87 ≤ x then -1 else if p (88 + 5 * x + 0) = i ∧ tm < f x then x else fjN p f i tm k (x + 1) := rfl
    rw [e]
    by_cases h1 : p 87 ≤ x
    · rw [if_pos h1]; exact Or.inl ⟨rfl, fun j a b _ => by omega⟩
    · rw [if_neg h1]
      by_cases h2 : p (88 + 5 * x + 0) = i ∧ tm < f x
      · rw [if_pos h2]; exact Or.inr ⟨by omega, by omega, h2.1, h2.2, fun j a b _ => by omega⟩
      · rw [if_neg h2]
        have hx : ∀ j, x ≤ j → ¬ x + 1 ≤ j → p (88 + 5 * j + 0) = i → f j ≤ tm := fun j a b c => by
          rw [show j = x by omega] at c ⊢
          omega
        rcases ih (x + 1) (by omega) with ⟨a, b⟩ | ⟨a, b, c, d, g⟩
        · refine Or.inl ⟨a, fun j j0 j1 j2 => ?_⟩
          by_cases q : x + 1 ≤ j
          · exact b j q j1 j2
          · exact hx j j0 q j2
        · refine Or.inr ⟨by omega, b, c, d, fun j j0 j1 j2 => ?_⟩
          by_cases q : x + 1 ≤ j
          · exact g j q j1 j2
          · exact hx j j0 q j2
theorem fj_s {p : Pl} {f : Int → Int} {i tm : Int} : (fj p f i tm = -1 ∧ ∀ j, 0 ≤ j → j < p 87 → p (88 + 5 * j + 0) = i → f j ≤ tm) ∨ (0 ≤ fj p f i tm ∧ fj p f i tm < p 87 ∧ p (88 + 5 * fj p f i tm + 0) = i ∧ tm < f (fj p f i tm) ∧ ∀ j, 0 ≤ j → j < fj p f i tm → p (88 + 5 * j + 0) = i → f j ≤ tm) := fjN_s _ 0 (by omega)
theorem fj_u {p : Pl} {f : Int → Int} {i tm z : Int} (h : (z = -1 ∧ ∀ j, 0 ≤ j → j < p 87 → p (88 + 5 * j + 0) = i → f j ≤ tm) ∨ (0 ≤ z ∧ z < p 87 ∧ p (88 + 5 * z + 0) = i ∧ tm < f z ∧ ∀ j, 0 ≤ j → j < z → p (88 + 5 * j + 0) = i → f j ≤ tm)) : z = fj p f i tm := by
  rcases fj_s (p := p) (f := f) (i := i) (tm := tm) with ⟨a, b⟩ | ⟨a, b, c, d, e⟩
  · rcases h with ⟨rfl, _⟩ | ⟨a', b', c', d', e'⟩
    · exact a.symm
    · have := b z a' b' c'; omega
  · rcases h with ⟨rfl, b'⟩ | ⟨a', b', c', d', e'⟩
    · have := b' _ a b c; omega
    · by_cases h1 : z < fj p f i tm
      · have := e z a' h1 c'; omega
      · by_cases h2 : fj p f i tm < z
        · have := e' _ a h2 c; omega
        · omega
def act (p : Pl) (S : Mem) (i k tm : Int) : Int :=
  if k < 0 then 0 else if tm < S 195 k + S 196 k * p (62 + 5 * i + 3) then 1 else if tm < S 197 k then 2 else if 0 < S 199 k ∧ tm < S 198 k then 3 else if 0 < S 199 k ∧ tm < S 198 k + S 199 k * p (62 + 5 * i + 4) then 4 else 5
def mlo (p : Pl) (S : Mem) (i k tm : Int) : Int :=
  if k < 0 then 0 else if act p S i k tm = 1 then (tm - S 195 k) / p (62 + 5 * i + 3) else if act p S i k tm = 4 then S 196 k - (tm - S 198 k) / p (62 + 5 * i + 4) else if act p S i k tm = 5 then S 196 k - S 199 k else S 196 k
theorem last_e {p : Pl} {i : Int} : ∀ x, 0 ≤ x → (∀ q, 0 ≤ q → q < x → p (88 + 5 * q + 0) ≠ i) ∨ ∃ j, 0 ≤ j ∧ j < x ∧ p (88 + 5 * j + 0) = i ∧ ∀ q, j < q → q < x → p (88 + 5 * q + 0) ≠ i := by
  refine i_ind (Or.inl (fun q a b => by omega)) (fun n hn ih => ?_)
  by_cases h : p (88 + 5 * n + 0) = i
  · exact Or.inr ⟨n, hn, by omega, h, fun q a b => by omega⟩
  · have hx : ∀ q, q < n + 1 → ¬ q < n → p (88 + 5 * q + 0) ≠ i := fun q a b => by
      rw [show q = n by omega]; exact h
    rcases ih with a | ⟨j, j0, j1, j2, j3⟩
    · refine Or.inl (fun q q0 q1 => ?_)
      by_cases c : q < n
      · exact a q q0 c
      · exact hx q q1 c
    · refine Or.inr ⟨j, j0, by omega, j2, fun q q0 q1 => ?_⟩
      by_cases c : q < n
      · exact j3 q q0 c
      · exact hx q q1 c
/-- the job that is found has begun and has meals -/
theorem fj_ok {p : Pl} {S : Mem} {i tm k : Int} (hk : k = fj p (S 200) i tm) (h0 : 0 ≤ k) (ht : 0 ≤ tm) (hP : PrevT p S i k (S 195 k)) (hr : ROk p S k) : S 195 k ≤ tm ∧ S 196 k ≠ 0 ∧ tm < S 200 k := by
  rcases fj_s (p := p) (f := S 200) (i := i) (tm := tm) with ⟨a, b⟩ | ⟨a, b, c, d, e⟩
  · omega
  · rw [← hk] at a b c d e
    have h1 : S 195 k ≤ tm := by
      rcases last_e (p := p) (i := i) k h0 with q | ⟨j, j0, j1, j2, j3⟩
      · have := hP.2 q; omega
      · have r1 := hP.1 j j0 j1 j2 j3
        have r2 := e j j0 j1 j2
        omega
    refine ⟨h1, fun hz => ?_, d⟩
    unfold ROk at hr
    omega
section DO
variable {ρ : Rf} {μ : Mem} {σ : Sg}
end DO
