/-! ===== the class's run and the reference's, side by side ===== -/
theorem u1_u {f : Int → Int} {k v w : Int} : u1 (u1 f k v) k w = u1 f k w := by
  funext b
  unfold u1
  by_cases h : b = k
  · rw [if_pos h, if_pos h]
  · rw [if_neg h, if_neg h, if_neg h]
def CJ (p : Pl) (o : Nat) (μ S : Mem) (j : Int) : Prop :=
  μ (o + 1) j = S 195 j ∧ μ (o + 2) j = S 196 j ∧ μ (o + 3) j = S 195 j + S 196 j * p (62 + 5 * p (88 + 5 * j + 0) + 3) ∧ μ (o + 7) j = S 199 j ∧ μ (o + 8) j = S 200 j ∧ (S 196 j = 0 → μ (o + 4) j = S 195 j) ∧ (S 196 j ≠ 0 → μ (o + 4) j = S 197 j) ∧ (S 199 j = 0 → μ (o + 5) j = μ (o + 4) j) ∧ (S 199 j ≠ 0 → μ (o + 5) j = S 198 j) ∧ μ (o + 6) j = μ (o + 5) j + S 199 j * p (62 + 5 * p (88 + 5 * j + 0) + 4)
def ret0 (S : Mem) (N i : Int) : Prop := S 191 i = 0 ∨ S 189 i ≤ N
def TRel (p : Pl) (o : Nat) (μ S : Mem) (N i : Int) : Prop :=
  (μ (o + 10) i = 0 ∧ S 187 i = p 87 ∧ S 192 i = 0 ∧ ret0 S N i) ∨
  (μ (o + 10) i = 1 ∧ S 187 i = μ (o + 12) i ∧ μ (o + 12) i < p 87 ∧ S 192 i = 0 ∧ S 188 i = μ (o + 11) i ∧ N ≤ μ (o + 11) i ∧ ret0 S N i) ∨
  (μ (o + 10) i = 2 ∧ S 187 i = μ (o + 12) i ∧ μ (o + 12) i < p 87 ∧ S 192 i = 1 ∧ S 188 i = μ (o + 11) i ∧ N ≤ μ (o + 11) i ∧ ret0 S N i ∧ μ (o + 1) (μ (o + 12) i) = S 195 (μ (o + 12) i) ∧ μ (o + 2) (μ (o + 12) i) = S 196 (μ (o + 12) i) ∧ μ (o + 3) (μ (o + 12) i) = S 195 (μ (o + 12) i) + S 196 (μ (o + 12) i) * p (62 + 5 * i + 3)) ∨
  (μ (o + 10) i = 3 ∧ 0 ≤ μ (o + 12) i ∧ μ (o + 12) i < p 87 ∧ p (88 + 5 * μ (o + 12) i + 0) = i ∧ S 187 i = nx p i (-1) (μ (o + 12) i + 1) ∧ S 192 i = 0 ∧ S 188 i = μ (o + 11) i ∧ μ (o + 11) i = μ (o + 8) (μ (o + 12) i) ∧ N ≤ μ (o + 11) i ∧
    ((S 191 i = S 196 (μ (o + 12) i) - S 199 (μ (o + 12) i) ∧ S 189 i = μ (o + 11) i ∧ S 190 i = 4 * p (62 + 5 * i + 0) + p (88 + 5 * μ (o + 12) i + 3)) ∨ (μ (o + 11) i ≤ N ∧ ret0 S N i)))
def pend (p : Pl) (o : Nat) (μ : Mem) (k : Int) : Int → Int := fun i => if μ (o + 10) i = 3 ∧ 4 * p (62 + 5 * i + 0) + p (88 + 5 * μ (o + 12) i + 3) = k then μ (o + 2) (μ (o + 12) i) - μ (o + 7) (μ (o + 12) i) else 0
def sbk (S : Mem) (k : Int) : Int → Int := fun i => if S 190 i = k then S 191 i else 0
def CRel (p : Pl) (o : Nat) (μ S : Mem) (N : Int) : Prop :=
  (∀ i, 0 ≤ i → i < p 61 → TRel p o μ S N i) ∧
  (∀ k, 0 ≤ k → k < 12 → μ (o + 9) k + s_I (pend p o μ k) (p 61) = S 193 k + s_I (sbk S k) 5) ∧
  (∀ d, 0 ≤ d → d < 10 → μ (o + 13) d = S 194 d) ∧ μ o 9 = s_I (S 199) (p 87) ∧
  (∀ j, 0 ≤ j → j < p 87 → j < S 187 (p (88 + 5 * j + 0)) → CJ p o μ S j)
section CR
variable {p : Pl} {o : Nat} {i N : Int} {μ S : Mem}
theorem s_Ix {f : Int → Int} {n m : Int} (hn : 0 ≤ n) (hm : n ≤ m) (h : ∀ j, n ≤ j → j < m → f j = 0) : s_I f m = s_I f n := by
  have e : ∀ k : Nat, n + k ≤ m → s_I f (n + k) = s_I f n := by
    intro k
    induction k with
    | zero => intro _; rw [show n + ((0 : Nat) : Int) = n by omega]
    | succ k ih =>
      intro hk
      rw [show n + ((k + 1 : Nat) : Int) = n + k + 1 by omega, s_Is (by omega), ih (by omega), h (n + k) (by omega) (by omega)]
      omega
  have := e (m - n).toNat (by omega)
  rwa [show n + (((m - n).toNat : Nat) : Int) = m by omega] at this
/-- the class is at a trolley that starts or reaches a door: the reference is at the same one, and has all meals back -/
theorem c_sync (hv : PV p) (hP : PI p S) (h : CRel p o μ S N) (hi : isFi μ o (p 61) i) (h3 : μ (o + 10) i ≠ 3) : fst_ p S = i ∧ CRel p o μ (bb (S 188 i) S) (S 188 i) ∧ bb (S 188 i) S 191 i = 0 ∧ ∀ k, 0 ≤ k → k < 12 → bb (S 188 i) S 193 k = μ (o + 9) k := by
  obtain ⟨g1, g2, g3, g4, g5⟩ := h
  obtain ⟨i0, i1, i2, i3⟩ := hi
  have n := hv.n
  have ti := g1 i i0 i1
  have hki : key μ o i = 2 * μ (o + 11) i + 1 := by unfold key; rw [if_neg h3]
  have hS : S 187 i < p 87 ∧ S 188 i = μ (o + 11) i ∧ N ≤ μ (o + 11) i ∧ ret0 S N i := by
    rcases ti with ⟨e, _⟩ | ⟨e, t1, t2, t3, t4, t5, t6⟩ | ⟨e, t1, t2, t3, t4, t5, t6, _⟩ | ⟨e, _⟩
    · exact absurd e i2
    · exact ⟨by omega, t4, t5, t6⟩
    · exact ⟨by omega, t4, t5, t6⟩
    · exact absurd e h3
  -- of the others
  have oth : ∀ k, 0 ≤ k → k < p 61 → (μ (o + 10) k = 3 → μ (o + 11) i < μ (o + 11) k) ∧ (μ (o + 10) k ≠ 0 → μ (o + 10) k ≠ 3 → μ (o + 11) i < μ (o + 11) k ∨ (μ (o + 11) i = μ (o + 11) k ∧ i ≤ k)) := fun k k0 k1 => by
    have q := i3 k k0 k1
    refine ⟨fun e => ?_, fun e1 e2 => ?_⟩
    · have hk : key μ o k = 2 * μ (o + 11) k := by unfold key; rw [if_pos e]; omega
      have := q (by omega)
      omega
    · have hk : key μ o k = 2 * μ (o + 11) k + 1 := by unfold key; rw [if_neg e2]
      have := q e1
      omega
  have hmin : ∀ k, 0 ≤ k → k < 5 → S 187 k < p 87 → S 188 i < S 188 k ∨ (S 188 i = S 188 k ∧ i ≤ k) := fun k k0 k1 hk => by
    have b := (hP.1.1 k k0 k1).2.2.2.2.2.2.2.2.2.1 hk
    have q := oth k k0 b.1
    rcases g1 k k0 b.1 with ⟨e, t1, _⟩ | ⟨e, t1, t2, t3, t4, _⟩ | ⟨e, t1, t2, t3, t4, _⟩ | ⟨e, t1, t2, t3, t4, t5, t6, _⟩
    · omega
    · have := q.2 (by omega) (by omega); omega
    · have := q.2 (by omega) (by omega); omega
    · have := q.1 e; omega
  have hfst : fst_ p S = i := by
    rcases fst_s (p := p) (S := S) with ⟨a, b⟩ | ⟨a, b, c, d⟩
    · have := b i i0 (by omega); omega
    · have q1 := d i i0 (by omega) hS.1
      have q2 := hmin _ a b c
      omega
  have e187 : bb (S 188 i) S 187 = S 187 := bb_c (by decide) (by decide)
  have e188 : bb (S 188 i) S 188 = S 188 := bb_c (by decide) (by decide)
  have e189 : bb (S 188 i) S 189 = S 189 := bb_c (by decide) (by decide)
  have e190 : bb (S 188 i) S 190 = S 190 := bb_c (by decide) (by decide)
  have e192 : bb (S 188 i) S 192 = S 192 := bb_c (by decide) (by decide)
  have e194 : bb (S 188 i) S 194 = S 194 := bb_c (by decide) (by decide)
  have e195 : bb (S 188 i) S 195 = S 195 := bb_c (by decide) (by decide)
  have e196 : bb (S 188 i) S 196 = S 196 := bb_c (by decide) (by decide)
  have e197 : bb (S 188 i) S 197 = S 197 := bb_c (by decide) (by decide)
  have e198 : bb (S 188 i) S 198 = S 198 := bb_c (by decide) (by decide)
  have e199 : bb (S 188 i) S 199 = S 199 := bb_c (by decide) (by decide)
  have e200 : bb (S 188 i) S 200 = S 200 := bb_c (by decide) (by decide)
  have e191 : ∀ k, bb (S 188 i) S 191 k = if (0 ≤ k ∧ k < 5) ∧ S 189 k ≤ S 188 i then 0 else S 191 k := fun k => bb_1
  have rr : ∀ k, 0 ≤ k → k < 5 → (S 191 k = 0 ∨ S 189 k ≤ S 188 i) → bb (S 188 i) S 191 k = 0 := fun k k0 k1 h => by
    rw [e191]
    split
    · rfl
    · omega
  have hpk : ∀ k x, 0 ≤ x → x < 5 → sbk (bb (S 188 i) S) k x = if x < p 61 then pend p o μ k x else 0 := fun k x x0 x1 => by
    unfold sbk
    rw [e190]
    by_cases hx : x < p 61
    · rw [if_pos hx]
      have q := oth x x0 hx
      unfold pend
      by_cases e3 : μ (o + 10) x = 3
      · rcases g1 x x0 hx with ⟨e, _⟩ | ⟨e, _⟩ | ⟨e, _⟩ | ⟨e, t1, t2, t3, t4, t5, t6, t7, t8, t9⟩
        · omega
        · omega
        · omega
        · have q3 := q.1 e3
          rcases t9 with ⟨u1', u2, u3⟩ | ⟨u1', _⟩
          · have nb := nx_s (p := p) (i := x) (out := -1) (x := μ (o + 12) x + 1) (by omega)
            have cj := g5 (μ (o + 12) x) t1 t2 (by rw [t3]; omega)
            rw [e191, if_neg (show ¬ ((0 ≤ x ∧ x < 5) ∧ S 189 x ≤ S 188 i) by omega), cj.2.1, cj.2.2.2.1, ← u1', ← u3]
            by_cases hk : S 190 x = k
            · rw [if_pos hk, if_pos ⟨e3, hk⟩]
            · rw [if_neg hk, if_neg (fun h => hk h.2)]
          · omega
      · have r0 : S 191 x = 0 ∨ S 189 x ≤ S 188 i := by
          rcases g1 x x0 hx with ⟨e, t1, t2, t3⟩ | ⟨e, t1, t2, t3, t4, t5, t6⟩ | ⟨e, t1, t2, t3, t4, t5, t6, _⟩ | ⟨e, _⟩
          · rcases t3 with h | h
            · exact Or.inl h
            · exact Or.inr (by omega)
          · rcases t6 with h | h
            · exact Or.inl h
            · exact Or.inr (by omega)
          · rcases t6 with h | h
            · exact Or.inl h
            · exact Or.inr (by omega)
          · exact absurd e e3
        rw [if_neg (show ¬ (μ (o + 10) x = 3 ∧ 4 * p (62 + 5 * x + 0) + p (88 + 5 * μ (o + 12) x + 3) = k) from fun h => e3 h.1), rr x x0 x1 r0]
        split <;> rfl
    · rw [if_neg hx]
      have : S 191 x = 0 := by
        by_cases e : S 191 x = 0
        · exact e
        · exact absurd (hP.2.1 x x0 x1 e).2 hx
      rw [rr x x0 x1 (Or.inl this)]
      split <;> rfl
  have hsum : ∀ k, s_I (sbk (bb (S 188 i) S) k) 5 = s_I (pend p o μ k) (p 61) := fun k => by
    rw [s_Ic (by omega) (hpk k), s_Ix (n := p 61) (by omega) (by omega) (fun j j0 _ => if_neg (by omega))]
    exact s_Ic (by omega) (fun j j0 j1 => if_pos j1)
  have hcons : ∀ k, bb (S 188 i) S 193 k + s_I (sbk (bb (S 188 i) S) k) 5 = S 193 k + s_I (sbk S k) 5 := fun k => by
    rw [bb_3]
    have : s_I (fun x => bkd S (S 188 i) k x + sbk (bb (S 188 i) S) k x) 5 = s_I (sbk S k) 5 := by
      refine s_Ic (by omega) (fun x x0 x1 => ?_)
      unfold bkd sbk
      rw [e190, e191]
      by_cases h1 : S 190 x = k
      · rw [if_pos h1, if_pos h1]
        by_cases h2 : S 189 x ≤ S 188 i
        · rw [if_pos ⟨h1, h2⟩, if_pos ⟨⟨x0, x1⟩, h2⟩]; omega
        · rw [if_neg (fun h => h2 h.2), if_neg (fun h => h2 h.2)]; omega
      · rw [if_neg h1, if_neg h1, if_neg (fun h => h1 h.1)]; omega
    rw [s_Id (by omega)] at this
    omega
  refine ⟨hfst, ⟨fun x x0 x1 => ?_, fun k k0 k1 => ?_, ?_, ?_, ?_⟩, ?_, fun k k0 k1 => ?_⟩
  · have q := oth x x0 x1
    have r := rr x x0 (by omega)
    have rz : ret0 S N x → ret0 (bb (S 188 i) S) (S 188 i) x := fun h => by
      unfold ret0 at h ⊢
      rw [e189]
      rcases h with h | h
      · exact Or.inl (r (Or.inl h))
      · exact Or.inr (by omega)
    unfold TRel
    rw [e187, e188, e190, e192, e195, e196, e199]
    rcases g1 x x0 x1 with ⟨e, t1, t2, t3⟩ | ⟨e, t1, t2, t3, t4, t5, t6⟩ | ⟨e, t1, t2, t3, t4, t5, t6, t7⟩ | ⟨e, t1, t2, t3, t4, t5, t6, t7, t8, t9⟩
    · exact Or.inl ⟨e, t1, t2, rz t3⟩
    · have := q.2 (by omega) (by omega)
      exact Or.inr (Or.inl ⟨e, t1, t2, t3, t4, by omega, rz t6⟩)
    · have := q.2 (by omega) (by omega)
      exact Or.inr (Or.inr (Or.inl ⟨e, t1, t2, t3, t4, by omega, rz t6, t7⟩))
    · have q3 := q.1 e
      refine Or.inr (Or.inr (Or.inr ⟨e, t1, t2, t3, t4, t5, t6, t7, by omega, ?_⟩))
      rcases t9 with ⟨u1', u2, u3⟩ | ⟨u1', _⟩
      · left
        rw [e191, e189, if_neg (show ¬ ((0 ≤ x ∧ x < 5) ∧ S 189 x ≤ S 188 i) by omega)]
        exact ⟨u1', u2, u3⟩
      · omega
  · rw [hcons k]; exact g2 k k0 k1
  · rw [e194]; exact g3
  · rw [e199]; exact g4
  · unfold CJ
    rw [e187, e195, e196, e197, e198, e199, e200]
    exact g5
  · refine rr i i0 (by omega) ?_
    rcases hS.2.2.2 with h | h
    · exact Or.inl h
    · exact Or.inr (by omega)
  · have a := hcons k
    have b := g2 k k0 k1
    rw [hsum k] at a
    omega
end CR
