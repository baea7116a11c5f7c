/-! ===== sets of own jobs ===== -/
/-! ### bits -/
theorem bw_tab : ∀ n, n < 256 → ∀ k, k < 8 → (and32 (shr32 (n : Nat) (k : Nat)) 1 = if n.testBit k then 1 else 0) ∧ xor32 (n : Nat) (shl32 1 (k : Nat)) = ((n ^^^ 2 ^ k : Nat) : Int) ∧ (n.testBit k = true → and32 (n : Nat) (xor32 (shl32 1 (k : Nat)) (-1)) = ((n ^^^ 2 ^ k : Nat) : Int)) ∧ (n.testBit k = true → n ^^^ 2 ^ k < n) ∧ n ^^^ 2 ^ k < 256 := by decide +kernel
theorem bw_one : ∀ k, k < 9 → shl32 1 (k : Nat) = ((2 ^ k : Nat) : Int) := by decide +kernel
theorem bw_lt : ∀ k, k < 9 → 2 ^ k ≤ 256 := by decide +kernel
theorem bw_big : ∀ m, m < 9 → ∀ n, n < 2 ^ m → ∀ k, k < 8 → n.testBit k = true → k < m := by decide +kernel
theorem bw_some : ∀ n, n < 256 → n ≠ 0 → ∃ k, k < 8 ∧ n.testBit k = true := by decide +kernel
theorem bw_x {n m k : Nat} (hn : n < 2 ^ m) (hk : k < m) : n ^^^ 2 ^ k < 2 ^ m := Nat.xor_lt_two_pow hn (Nat.pow_lt_pow_right (by omega) hk)
theorem bw_t {s k j : Nat} : (s ^^^ 2 ^ k).testBit j = ((s.testBit j) ^^ (decide (k = j))) := by
  rw [Nat.testBit_xor, Nat.testBit_two_pow]
/-! ### a table of sets -/
def TBs (st : (Nat → Int) → Nat → Int) (c : Int) : Nat → Nat → Int
  | 0 => fun _ => c
  | s + 1 => fun x => if x = s + 1 then st (TBs st c s) (s + 1) else TBs st c s x
def TBt (st : (Nat → Int) → Nat → Int) (c : Int) (s : Nat) : Int := TBs st c s s
theorem TBs_e {st : (Nat → Int) → Nat → Int} {c : Int} : ∀ s x, x ≤ s → TBs st c s x = TBt st c x := by
  intro s
  induction s with
  | zero =>
    intro x h
    obtain rfl : x = 0 := by omega
    rfl
  | succ s ih =>
    intro x h
    by_cases hx : x = s + 1
    · subst hx; rfl
    · show (if x = s + 1 then _ else TBs st c s x) = _
      rw [if_neg hx]
      exact ih x (by omega)
theorem TBt_s {st : (Nat → Int) → Nat → Int} {c : Int} {s : Nat} : TBt st c (s + 1) = st (TBs st c s) (s + 1) := by
  show (if s + 1 = s + 1 then st (TBs st c s) (s + 1) else TBs st c s (s + 1)) = _
  rw [if_pos rfl]
/-! ### the own jobs of a trolley -/
def owC (p : Pl) (i : Int) (m : Int) : Int := s_I (fun j => if p (88 + 5 * j + 0) = i then 1 else 0) m
def owA (p : Pl) (i : Int) : Nat → Int → Int
  | 0 => fun _ => 0
  | m + 1 => if p (88 + 5 * (m : Int) + 0) = i then u1 (owA p i m) (owC p i m) m else owA p i m
def ow (p : Pl) (i k : Int) : Int := owA p i (p 87).toNat k
theorem owC_s {p : Pl} {i m : Int} (h : 0 ≤ m) : owC p i (m + 1) = owC p i m + if p (88 + 5 * m + 0) = i then 1 else 0 := s_Is h
theorem owC_b {p : Pl} {i m : Int} (h : 0 ≤ m) : 0 ≤ owC p i m ∧ owC p i m ≤ m := by
  have := s_Ib (f := fun j => if p (88 + 5 * j + 0) = i then 1 else 0) (n := m) (b := 1) h (fun j _ _ => by split <;> omega)
  unfold owC
  omega
theorem owC_m {p : Pl} {i m n : Int} (h : 0 ≤ m) (hn : m ≤ n) : owC p i m ≤ owC p i n := by
  have : ∀ d : Int, 0 ≤ d → owC p i m ≤ owC p i (m + d) := by
    refine i_ind ?_ ?_
    · rw [Int.add_zero]; exact Int.le_refl _
    · intro d hd ih
      have e := owC_s (p := p) (i := i) (m := m + d) (by omega)
      rw [Int.add_assoc] at e
      have : (0 : Int) ≤ if p (88 + 5 * (m + d) + 0) = i then 1 else 0 := by split <;> omega
      omega
  have := this (n - m) (by omega)
  rw [show m + (n - m) = n by omega] at this
  exact this
theorem owA_j {p : Pl} {i : Int} : ∀ m : Nat, ∀ k, 0 ≤ k → k < owC p i m → 0 ≤ owA p i m k ∧ owA p i m k < m ∧ p (88 + 5 * owA p i m k + 0) = i := by
  intro m
  induction m with
  | zero =>
    intro k k0 k1
    have : owC p i ((0 : Nat) : Int) = 0 := s_I0
    omega
  | succ m ih =>
    intro k k0 k1
    have e := owC_s (p := p) (i := i) (m := (m : Int)) (by omega)
    have ee : ((m + 1 : Nat) : Int) = (m : Int) + 1 := by omega
    rw [ee] at k1 ⊢
    have d : owA p i (m + 1) = if p (88 + 5 * (m : Int) + 0) = i then u1 (owA p i m) (owC p i m) m else owA p i m := rfl
    by_cases hm : p (88 + 5 * (m : Int) + 0) = i
    · rw [if_pos hm] at e d
      rw [d]
      by_cases hk : k = owC p i m
      · rw [hk, u1_s]
        exact ⟨by omega, by omega, hm⟩
      · rw [u1_n hk]
        have := ih k k0 (by omega)
        exact ⟨this.1, by omega, this.2.2⟩
    · rw [if_neg hm] at e d
      rw [d]
      have := ih k k0 (by omega)
      exact ⟨this.1, by omega, this.2.2⟩
theorem ow_j {p : Pl} {i k : Int} (hn : 0 ≤ p 87) (h0 : 0 ≤ k) (h1 : k < cnt p i) : 0 ≤ ow p i k ∧ ow p i k < p 87 ∧ p (88 + 5 * ow p i k + 0) = i := by
  have e : (((p 87).toNat : Nat) : Int) = p 87 := Int.toNat_of_nonneg hn
  have := owA_j (p := p) (i := i) (p 87).toNat k h0 (by rw [e]; exact h1)
  rw [e] at this
  exact this
/-! ### one own job -/
def FA : Int := 1000000
def oMe (p : Pl) (j : Int) : Int := min (p (88 + 5 * j + 4)) (p (62 + 5 * p (88 + 5 * j + 0) + 1))
def oWb (p : Pl) (v j : Int) : Int := wkG p (p (88 + 5 * j + 0)) (p (88 + 5 * j + 1)) (p (88 + 5 * j + 2)) v
def oTd (p : Pl) (v j : Int) : Int := oMe p j * p (62 + 5 * p (88 + 5 * j + 0) + 3) + oWb p v j
def oUn (p : Pl) (j : Int) : Int := oMe p j * p (62 + 5 * p (88 + 5 * j + 0) + 4)
def oAr (p : Pl) (j : Int) : Int := p (0 + p (88 + 5 * j + 1))
def oDe (p : Pl) (j : Int) : Int := p (2 + p (88 + 5 * j + 1))
theorem o_b {p : Pl} (h : PV p) {v j : Int} (h0 : 0 ≤ j) (h1 : j < p 87) (hv : 1 ≤ v) : 1 ≤ oMe p j ∧ oMe p j ≤ 99 ∧ 0 ≤ oWb p v j ∧ oWb p v j ≤ 99 ∧ 0 ≤ oTd p v j ∧ oTd p v j ≤ 594 ∧ 0 ≤ oUn p j ∧ oUn p j ≤ 495 ∧ 0 ≤ oAr p j ∧ oAr p j ≤ 900 ∧ oDe p j ≤ 1059 ∧ 0 ≤ oDe p j := by
  have a := h.j h0 h1
  have b := h.i a.1 a.2.1
  have t := h.t a.2.2.1 a.2.2.2.1
  have w := wkG_b h a.1 a.2.1 a.2.2.1 a.2.2.2.1 a.2.2.2.2.1 a.2.2.2.2.2.1 hv
  have m : 1 ≤ oMe p j ∧ oMe p j ≤ 99 := by unfold oMe; omega
  have m1 := mulb (a := oMe p j) (b := p (62 + 5 * p (88 + 5 * j + 0) + 3)) (A := 99) (B := 5) (by omega) (by omega) (by omega) (by omega)
  have m2 := mulb (a := oMe p j) (b := p (62 + 5 * p (88 + 5 * j + 0) + 4)) (A := 99) (B := 5) (by omega) (by omega) (by omega) (by omega)
  unfold oTd oUn oAr oDe oWb
  refine ⟨m.1, m.2, w.1, w.2, by omega, by omega, m2.1, by omega, t.1, by omega, by omega, by omega⟩
/-- when a job is finished that begins at a time and leaves nothing behind -/
def oEnd (p : Pl) (v j t : Int) : Int := if max (t + oTd p v j) (oAr p j) + oUn p j ≤ oDe p j then max (t + oTd p v j) (oAr p j) + oUn p j + oWb p v j else FA
/-- the latest time to begin a job, when the rest may begin no later than x -/
def oLat (p : Pl) (v j x : Int) : Int := if oAr p j ≤ min (oDe p j) (x - oWb p v j) - oUn p j then min (oDe p j) (x - oWb p v j) - oUn p j - oTd p v j else -1
theorem o_le {p : Pl} (h : PV p) {v j t x : Int} (h0 : 0 ≤ j) (h1 : j < p 87) (hv : 1 ≤ v) (ht : 0 ≤ t) : t ≤ oLat p v j x ↔ (oEnd p v j t < FA ∧ oEnd p v j t ≤ x) := by
  have b := o_b h h0 h1 hv
  unfold oLat oEnd FA
  split <;> split <;> omega
theorem oEnd_m {p : Pl} (h : PV p) {v j : Int} (h0 : 0 ≤ j) (h1 : j < p 87) (hv : 1 ≤ v) {t : Int} (ht : 0 ≤ t) : 0 ≤ oEnd p v j t ∧ oEnd p v j t ≤ FA := by
  have b := o_b h h0 h1 hv
  unfold oEnd FA
  split <;> omega
theorem oEnd_far {p : Pl} (h : PV p) {v j : Int} (h0 : 0 ≤ j) (h1 : j < p 87) (hv : 1 ≤ v) : oEnd p v j FA = FA := by
  have b := o_b h h0 h1 hv
  unfold oEnd FA
  rw [if_neg (by omega)]
/-! ### the latest times to begin sets: the class's table -/
def mxk (s : Nat) (h : Nat → Int) : Nat → Int
  | 0 => -1
  | k + 1 => if s.testBit k then max (mxk s h k) (h k) else mxk s h k
theorem mxk_b {s : Nat} {h : Nat → Int} : ∀ n, -1 ≤ mxk s h n ∧ (∀ k, k < n → s.testBit k = true → h k ≤ mxk s h n) ∧ (mxk s h n = -1 ∨ ∃ k, k < n ∧ s.testBit k = true ∧ mxk s h n = h k) := by
  intro n
  induction n with
  | zero => exact ⟨Int.le_refl _, fun k hk => by omega, Or.inl rfl⟩
  | succ n ih =>
    have e : mxk s h (n + 1) = if s.testBit n then max (mxk s h n) (h n) else mxk s h n := rfl
    by_cases hb : s.testBit n = true
    · rw [if_pos hb] at e
      refine ⟨by omega, fun k hk hs => ?_, ?_⟩
      · by_cases hkn : k = n
        · subst hkn; omega
        · have := ih.2.1 k (by omega) hs; omega
      · by_cases hm : mxk s h n ≤ h n
        · exact Or.inr ⟨n, by omega, hb, by omega⟩
        · rcases ih.2.2 with q | ⟨k, hk, hs, q⟩
          · omega
          · exact Or.inr ⟨k, by omega, hs, by omega⟩
    · rw [if_neg hb] at e
      rw [e]
      refine ⟨ih.1, fun k hk hs => ?_, ?_⟩
      · by_cases hkn : k = n
        · subst hkn; exact absurd hs hb
        · exact ih.2.1 k (by omega) hs
      · rcases ih.2.2 with q | ⟨k, hk, hs, q⟩
        · exact Or.inl q
        · exact Or.inr ⟨k, by omega, hs, q⟩
theorem mxk_c {s : Nat} {h g : Nat → Int} : ∀ n, (∀ k, k < n → s.testBit k = true → h k = g k) → mxk s h n = mxk s g n := by
  intro n
  induction n with
  | zero => intro _; rfl
  | succ n ih =>
    intro hh
    show (if s.testBit n then max (mxk s h n) (h n) else mxk s h n) = (if s.testBit n then max (mxk s g n) (g n) else mxk s g n)
    rw [ih (fun k hk => hh k (by omega))]
    by_cases hb : s.testBit n = true
    · rw [if_pos hb, if_pos hb, hh n (by omega) hb]
    · rw [if_neg hb, if_neg hb]
def gTs (p : Pl) (i v : Int) (f : Nat → Int) (s : Nat) : Int := mxk s (fun k => oLat p v (ow p i k) (f (s ^^^ 2 ^ k))) (cnt p i).toNat
def gT (p : Pl) (i v : Int) : Nat → Int := TBt (gTs p i v) FA
theorem gT_0 {p : Pl} {i v : Int} : gT p i v 0 = FA := rfl
theorem gT_s {p : Pl} {i v : Int} {s : Nat} (hc : cnt p i ≤ 8) (hs : 0 < s) (hs2 : s < 256) : gT p i v s = gTs p i v (gT p i v) s := by
  obtain ⟨m, rfl⟩ : ∃ m, s = m + 1 := ⟨s - 1, by omega⟩
  show TBt (gTs p i v) FA (m + 1) = _
  rw [TBt_s]
  refine mxk_c _ (fun k hk hb => ?_)
  show oLat p v (ow p i k) (TBs (gTs p i v) FA m ((m + 1) ^^^ 2 ^ k)) = oLat p v (ow p i k) (gT p i v ((m + 1) ^^^ 2 ^ k))
  rw [TBs_e _ _ (by have := (bw_tab (m + 1) hs2 k (by omega)).2.2.2.1 hb; omega)]
  rfl
/-! ### the reference's table: when sets are finished -/
def EPt (p : Pl) (i v t : Int) (n : Nat) (f : Nat → Int) : Prop :=
  f 0 = t ∧ ∀ s, 0 < s → s < 2 ^ n → 0 ≤ f s ∧ f s ≤ FA ∧ (∀ k, k < n → s.testBit k = true → f s ≤ oEnd p v (ow p i k) (f (s ^^^ 2 ^ k))) ∧ (f s = FA ∨ ∃ k, k < n ∧ s.testBit k = true ∧ f s = oEnd p v (ow p i k) (f (s ^^^ 2 ^ k)))
theorem EP_g {p : Pl} (h : PV p) {i v t : Int} {n : Nat} {f : Nat → Int} (hn : (n : Int) = cnt p i) (hc : cnt p i ≤ 8) (hv : 1 ≤ v) (hE : EPt p i v t n f) (ht : 0 ≤ t) (ht2 : t < FA) {w : Nat} (hw : w < 2 ^ n) : f w < FA ↔ t ≤ gT p i v w := by
  have p87 := h.n.2.2.2.2.2.2.1
  have oj : ∀ k : Nat, k < n → 0 ≤ ow p i (k : Int) ∧ ow p i (k : Int) < p 87 := fun k hk => by
    have := ow_j (p := p) (i := i) (k := (k : Int)) p87 (by omega) (by omega)
    exact ⟨this.1, this.2.1⟩
  have lt : (2 : Nat) ^ n ≤ 256 := bw_lt n (by omega)
  have f0 : ∀ s, s < 2 ^ n → 0 ≤ f s := fun s hs => by
    by_cases q : s = 0
    · subst q; rw [hE.1]; exact ht
    · exact (hE.2 s (by omega) hs).1
  have cn : (cnt p i).toNat = n := by omega
  have g1 : ∀ s k, 0 < s → s < 2 ^ n → k < n → s.testBit k = true → oLat p v (ow p i (k : Int)) (gT p i v (s ^^^ 2 ^ k)) ≤ gT p i v s := fun s k h0 h1 h2 h3 => by
    rw [gT_s hc h0 (by omega)]
    unfold gTs
    rw [cn]
    exact (mxk_b n).2.1 k h2 h3
  constructor
  · intro hf
    have A : ∀ m s, s < m → s < 2 ^ n → (∀ k, s.testBit k = true → w.testBit k = true) → f s < FA → f s ≤ gT p i v (w ^^^ s) → t ≤ gT p i v w := by
      intro m
      induction m with
      | zero => intro s h; omega
      | succ m ih =>
        intro s hm hs hsub hf hg
        by_cases q : s = 0
        · subst q
          rw [hE.1, Nat.xor_zero] at hg
          exact hg
        · obtain ⟨a1, a2, a3, a4⟩ := hE.2 s (by omega) hs
          rcases a4 with e | ⟨k, hk, hb, e⟩
          · omega
          · have xs := bw_tab s (by omega) k (by omega)
            have lt1 := xs.2.2.2.1 hb
            have fx := f0 (s ^^^ 2 ^ k) (by omega)
            have wk := hsub k hb
            have rb : (w ^^^ (s ^^^ 2 ^ k)).testBit k = true := by
              rw [Nat.testBit_xor, bw_t, wk, hb]
              simp
            have rl : w ^^^ (s ^^^ 2 ^ k) < 2 ^ n := Nat.xor_lt_two_pow hw (by omega)
            have re : (w ^^^ (s ^^^ 2 ^ k)) ^^^ 2 ^ k = w ^^^ s := by rw [← Nat.xor_assoc, Nat.xor_assoc, Nat.xor_self, Nat.xor_zero]
            have r0 : 0 < w ^^^ (s ^^^ 2 ^ k) := by
              rcases Nat.eq_zero_or_pos (w ^^^ (s ^^^ 2 ^ k)) with z | z
              · rw [z, Nat.zero_testBit] at rb; cases rb
              · exact z
            have gl := g1 _ k r0 rl hk rb
            rw [re] at gl
            have o := (o_le h (oj k hk).1 (oj k hk).2 hv fx (x := gT p i v (w ^^^ s))).mpr ⟨by omega, by omega⟩
            have fF : f (s ^^^ 2 ^ k) < FA := by
              by_cases q2 : s ^^^ 2 ^ k = 0
              · rw [q2, hE.1]; exact ht2
              · have b := (hE.2 _ (by omega) (by omega : s ^^^ 2 ^ k < 2 ^ n)).2.1
                rcases Int.lt_or_le (f (s ^^^ 2 ^ k)) FA with z | z
                · exact z
                · have z2 : f (s ^^^ 2 ^ k) = FA := by omega
                  rw [z2, oEnd_far h (oj k hk).1 (oj k hk).2 hv] at e
                  omega
            refine ih _ (by omega) (by omega) (fun j hj => hsub j ?_) fF (by omega)
            rw [bw_t] at hj
            by_cases jk : k = j
            · subst jk; exact hb
            · simpa [jk] using hj
    refine A _ w (Nat.lt_succ_self _) hw (fun _ q => q) hf ?_
    rw [Nat.xor_self, gT_0]
    omega
  · intro hg
    have B : ∀ m s, (w ^^^ s) < m → s < 2 ^ n → (∀ k, s.testBit k = true → w.testBit k = true) → f s < FA → f s ≤ gT p i v (w ^^^ s) → f w < FA := by
      intro m
      induction m with
      | zero => intro s h; omega
      | succ m ih =>
        intro s hm hs hsub hf hg
        by_cases q : w ^^^ s = 0
        · have : w = s := by
            have e : (w ^^^ s) ^^^ s = s := by rw [q, Nat.zero_xor]
            rwa [Nat.xor_assoc, Nat.xor_self, Nat.xor_zero] at e
          rw [this]; exact hf
        · have rl : w ^^^ s < 2 ^ n := Nat.xor_lt_two_pow hw hs
          have e := gT_s (p := p) (i := i) (v := v) (s := w ^^^ s) hc (by omega) (by omega)
          unfold gTs at e
          rw [cn] at e
          have fx := f0 s hs
          rcases (mxk_b (s := w ^^^ s) (h := fun k => oLat p v (ow p i k) (gT p i v ((w ^^^ s) ^^^ 2 ^ k))) n).2.2 with z | ⟨k, hk, hb, z⟩
          · omega
          · have xs := bw_tab (w ^^^ s) (by omega) k (by omega)
            have lt1 := xs.2.2.2.1 hb
            have z2 : gT p i v (w ^^^ s) = oLat p v (ow p i k) (gT p i v ((w ^^^ s) ^^^ 2 ^ k)) := by rw [e, z]
            have o := (o_le h (oj k hk).1 (oj k hk).2 hv fx (x := gT p i v ((w ^^^ s) ^^^ 2 ^ k))).mp (by omega)
            have sk : s.testBit k = false ∧ w.testBit k = true := by
              rw [Nat.testBit_xor] at hb
              cases hs' : s.testBit k
              · rw [hs'] at hb
                exact ⟨rfl, by simpa using hb⟩
              · have := hsub k hs'
                rw [hs', this] at hb
                cases hb
            have tb : (s ^^^ 2 ^ k).testBit k = true := by
              rw [bw_t, sk.1]
              simp
            have tl : s ^^^ 2 ^ k < 2 ^ n := bw_x hs hk
            have t0 : 0 < s ^^^ 2 ^ k := by
              rcases Nat.eq_zero_or_pos (s ^^^ 2 ^ k) with z | z
              · rw [z, Nat.zero_testBit] at tb; cases tb
              · exact z
            have te : (s ^^^ 2 ^ k) ^^^ 2 ^ k = s := by rw [Nat.xor_assoc, Nat.xor_self, Nat.xor_zero]
            have fe := (hE.2 _ t0 tl).2.2.1 k hk tb
            rw [te] at fe
            have we : w ^^^ (s ^^^ 2 ^ k) = (w ^^^ s) ^^^ 2 ^ k := by rw [Nat.xor_assoc]
            refine ih (s ^^^ 2 ^ k) (by rw [we]; omega) tl (fun j hj => ?_) (by omega) (by rw [we]; omega)
            rw [bw_t] at hj
            by_cases jk : k = j
            · subst jk; exact sk.2
            · exact hsub j (by simpa [jk] using hj)
    refine B _ 0 (Nat.lt_succ_self _) (Nat.two_pow_pos n) (fun k hk => by rw [Nat.zero_testBit] at hk; cases hk) (by rw [hE.1]; exact ht2) ?_
    rw [hE.1, Nat.xor_zero]
    exact hg
