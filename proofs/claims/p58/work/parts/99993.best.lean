/-! ===== best sets: their orders deliver what they tell ===== -/
section BE3
variable {p : Pl} {i v : Int} {s : Nat}
theorem smk_x {r b : Nat} (hb : r.testBit b = true) : ∀ n : Nat, smk p i r n = smk p i (r ^^^ 2 ^ b) n + if b < n then oMe p (ow p i b) else 0 := by
  intro n
  induction n with
  | zero => rfl
  | succ n ih =>
    have e : (r ^^^ 2 ^ b).testBit n = (r.testBit n ^^ decide (b = n)) := by rw [Nat.testBit_xor, Nat.testBit_two_pow]
    show (if r.testBit n then smk p i r n + oMe p (ow p i n) else smk p i r n) = (if (r ^^^ 2 ^ b).testBit n then smk p i (r ^^^ 2 ^ b) n + oMe p (ow p i n) else smk p i (r ^^^ 2 ^ b) n) + _
    rw [e]
    by_cases c : b = n
    · subst c
      rw [if_neg (by omega)] at ih
      rw [hb, if_pos rfl, if_neg (by simp), if_pos (by omega)]
      omega
    · have e2 : (r.testBit n ^^ decide (b = n)) = r.testBit n := by simp [c]
      rw [e2]
      by_cases d : b < n
      · rw [if_pos d] at ih
        rw [if_pos (show b < n + 1 by omega)]
        split <;> omega
      · rw [if_neg d] at ih
        rw [if_neg (show ¬ b < n + 1 by omega)]
        split <;> omega
/-- the jobs of an order up to a place -/
def oSum (p : Pl) (i v : Int) (s : Nat) : Nat → Int
  | 0 => 0
  | q + 1 => oSum p i v s q + oMe p (oK p i v s q)
theorem oS_step (hv : PV p) (hc : cnt p i ≤ 8) (v0 : 1 ≤ v) (hs : s < 2 ^ (cnt p i).toNat) (hg : 0 ≤ gT p i v s) : ∀ q : Nat, q ≤ pc8 s → pc8 (oS p i v s q).1 + q = pc8 s ∧ sm p i (oS p i v s q).1 + oSum p i v s q = sm p i s := by
  have c0 : 0 ≤ cnt p i := (owC_b (p := p) (i := i) hv.n.2.2.2.2.2.2.1).1
  have lt := bw_lt (cnt p i).toNat (by omega)
  intro q
  induction q with
  | zero => intro _; exact ⟨rfl, Int.add_zero _⟩
  | succ q ih =>
    intro hq
    obtain ⟨h1, h2⟩ := ih (by omega)
    have a := oS_i hv hc v0 hs hg q
    have z : (oS p i v s q).1 ≠ 0 := fun z => by
      rw [z] at h1
      have : pc8 0 = 0 := rfl
      omega
    have fe := fit_ex hv hc v0 a.1 z a.2.1 a.2.2
    have fb := (fit_iff.mp fe.2.1).1
    have e : oS p i v s (q + 1) = ((oS p i v s q).1 ^^^ 2 ^ fs p i v (oS p i v s q).1 (oS p i v s q).2, oEnd p v (ow p i (fs p i v (oS p i v s q).1 (oS p i v s q).2)) (oS p i v s q).2) := by
      show (if _ then _ else _) = _
      rw [if_neg z]
    have px := pc_x (n := (oS p i v s q).1) (k := fs p i v (oS p i v s q).1 (oS p i v s q).2) (by omega) (by omega) fb
    have sx := smk_x (p := p) (i := i) fb (cnt p i).toNat
    rw [if_pos (by omega)] at sx
    have eo : oSum p i v s (q + 1) = oSum p i v s q + oMe p (oK p i v s q) := rfl
    rw [e, eo]
    dsimp only
    refine ⟨by omega, ?_⟩
    have e1 : sm p i (oS p i v s q).1 = smk p i (oS p i v s q).1 (cnt p i).toNat := rfl
    have e2 : oK p i v s q = ow p i (fs p i v (oS p i v s q).1 (oS p i v s q).2) := rfl
    show smk p i ((oS p i v s q).1 ^^^ 2 ^ fs p i v (oS p i v s q).1 (oS p i v s q).2) (cnt p i).toNat + _ = _
    rw [e2]
    omega
theorem oS_nz (hv : PV p) (hc : cnt p i ≤ 8) (v0 : 1 ≤ v) (hs : s < 2 ^ (cnt p i).toNat) (hg : 0 ≤ gT p i v s) : (∀ q : Nat, q < pc8 s → (oS p i v s q).1 ≠ 0) ∧ (oS p i v s (pc8 s)).1 = 0 ∧ oSum p i v s (pc8 s) = sm p i s := by
  have c0 : 0 ≤ cnt p i := (owC_b (p := p) (i := i) hv.n.2.2.2.2.2.2.1).1
  have lt := bw_lt (cnt p i).toNat (by omega)
  have st := oS_step hv hc v0 hs hg
  have e := st (pc8 s) (Nat.le_refl _)
  have a := oS_i hv hc v0 hs hg (pc8 s)
  have z : (oS p i v s (pc8 s)).1 = 0 := pc_0 _ (by omega) (by omega)
  refine ⟨fun q hq z => ?_, z, ?_⟩
  · have := (st q (by omega)).1
    rw [z] at this
    have : pc8 0 = 0 := rfl
    omega
  · have := e.2
    rw [z, sm_0] at this
    omega
theorem oSum_b (hv : PV p) (hc : cnt p i ≤ 8) (v0 : 1 ≤ v) (hs : s < 2 ^ (cnt p i).toNat) (hg : 0 ≤ gT p i v s) : ∀ q : Nat, q ≤ pc8 s → 0 ≤ oSum p i v s q ∧ oSum p i v s q ≤ 99 * q := by
  intro q
  induction q with
  | zero => intro _; exact ⟨Int.le_refl _, Int.le_refl _⟩
  | succ q ih =>
    intro hq
    have a := ih (by omega)
    have z := (oS_nz hv hc v0 hs hg).1 q (by omega)
    have k := oK_b hv hc v0 hs hg z
    have b := o_b hv (v := 1) k.1 k.2.1 (by decide)
    have eo : oSum p i v s (q + 1) = oSum p i v s q + oMe p (oK p i v s q) := rfl
    omega
/-! ### the worst job; the least delay -/
theorem fa_p {a b : Int} {T lab : Nat → Int} : ∀ k, fm a T k ≥ a ∧ (fa a b T lab k = b ∨ ∃ j, j < k ∧ fa a b T lab k = lab j ∧ a < T j) := by
  intro k
  induction k with
  | zero => exact ⟨Int.le_refl _, Or.inl rfl⟩
  | succ k ih =>
    have e : fa a b T lab (k + 1) = if fm a T k < T k then lab k else fa a b T lab k := rfl
    have e2 : fm a T (k + 1) = if fm a T k < T k then T k else fm a T k := rfl
    by_cases c : fm a T k < T k
    · rw [if_pos c] at e e2
      exact ⟨by omega, Or.inr ⟨k, Nat.lt_succ_self _, e, by omega⟩⟩
    · rw [if_neg c] at e e2
      refine ⟨by omega, ?_⟩
      rw [e]
      rcases ih.2 with h | ⟨j, j1, j2, j3⟩
      · exact Or.inl h
      · exact Or.inr ⟨j, by omega, j2, j3⟩
theorem wj_p (hn : 0 ≤ p 87) (h : 0 ≤ wj p) : wj p < p 87 ∧ tot p < tot (pDrop p (wj p)) := by
  rcases (fa_p (a := tot p) (b := -1) (T := wjT p) (lab := fun k => (k : Int)) (p 87).toNat).2 with e | ⟨j, j1, j2, j3⟩
  · have e : wj p = -1 := e
    omega
  · have j2 : wj p = (j : Int) := j2
    rw [j2]
    exact ⟨by omega, j3⟩
theorem ndF_p {t : Int} : ∀ (m : Nat) (d : Int), 0 ≤ d → ndF p t m d = -1 ∨ (d ≤ ndF p t m d ∧ ndF p t m d < d + m ∧ lb (u1 p (2 + t) (p (2 + t) + ndF p t m d)) t = false ∧ ∀ e, d ≤ e → e < ndF p t m d → lb (u1 p (2 + t) (p (2 + t) + e)) t = true) := by
  intro m
  induction m with
  | zero => intro d _; exact Or.inl rfl
  | succ m ih =>
    intro d hd
    have e : ndF p t (m + 1) d = if lb (u1 p (2 + t) (p (2 + t) + d)) t = true then ndF p t m (d + 1) else d := rfl
    by_cases c : lb (u1 p (2 + t) (p (2 + t) + d)) t = true
    · rw [if_pos c] at e
      rw [e]
      rcases ih (d + 1) (by omega) with h | ⟨h1, h2, h3, h4⟩
      · exact Or.inl h
      · refine Or.inr ⟨by omega, by omega, h3, fun x x0 x1 => ?_⟩
        by_cases q : x = d
        · rw [q]; exact c
        · exact h4 x (by omega) x1
    · rw [if_neg c] at e
      rw [e]
      refine Or.inr ⟨Int.le_refl _, by omega, by cases q : lb (u1 p (2 + t) (p (2 + t) + d)) t <;> simp_all, fun x x0 x1 => by omega⟩
/-- with the least delay none is needed; with one less some is -/
theorem nd_p {t : Int} (h : 0 ≤ nd p t) : nd p t ≤ 60 ∧ nd (u1 p (2 + t) (p (2 + t) + nd p t)) t = 0 ∧ (0 < nd p t → nd (u1 p (2 + t) (p (2 + t) + nd p t - 1)) t ≠ 0) := by
  have n0 : ∀ q : Pl, nd q t = if lb q t = true then ndF q t 60 1 else 0 := fun q => by
    show (if lb (u1 q (2 + t) (q (2 + t) + 0)) t = true then ndF q t 60 (0 + 1) else 0) = _
    rw [Int.add_zero, u1_id]
    rfl
  rcases ndF_p (p := p) (t := t) 61 0 (Int.le_refl _) with e | ⟨h1, h2, h3, h4⟩
  · have e : nd p t = -1 := e
    omega
  · have h2 : nd p t < 0 + 61 := h2
    have h3 : lb (u1 p (2 + t) (p (2 + t) + nd p t)) t = false := h3
    have h4 : ∀ e, 0 ≤ e → e < nd p t → lb (u1 p (2 + t) (p (2 + t) + e)) t = true := h4
    refine ⟨by omega, ?_, fun hp => ?_⟩
    · rw [n0, if_neg (by rw [h3]; decide)]
    · rw [n0, show p (2 + t) + nd p t - 1 = p (2 + t) + (nd p t - 1) by omega, if_pos (h4 _ (by omega) (by omega))]
      rcases ndF_p (p := u1 p (2 + t) (p (2 + t) + (nd p t - 1))) (t := t) 60 1 (by decide) with e | ⟨k1, -⟩
      · rw [e]; decide
      · omega
end BE3
