/-! ===== best sets and their orders: the class ===== -/
def smk (p : Pl) (i : Int) (s : Nat) : Nat → Int
  | 0 => 0
  | k + 1 => if s.testBit k then smk p i s k + oMe p (ow p i k) else smk p i s k
def sm (p : Pl) (i : Int) (s : Nat) : Int := smk p i s (cnt p i).toNat
def bs (p : Pl) (i v : Int) : Nat → Nat
  | 0 => 0
  | m + 1 => if 0 ≤ gT p i v (m + 1) ∧ sm p i (bs p i v m) < sm p i (m + 1) then m + 1 else bs p i v m
def spd (p : Pl) (i : Int) : Int := p (62 + 5 * i + 2)
def bst (p : Pl) (i : Int) : Nat := bs p i (spd p i) (2 ^ (cnt p i).toNat - 1)
def fit (p : Pl) (i v : Int) (r : Nat) (t : Int) (k : Nat) : Bool := r.testBit k && decide (t ≤ oLat p v (ow p i k) (gT p i v (r ^^^ 2 ^ k)))
theorem fit_iff {p : Pl} {i v : Int} {r : Nat} {t : Int} {k : Nat} : fit p i v r t k = true ↔ (r.testBit k = true ∧ t ≤ oLat p v (ow p i k) (gT p i v (r ^^^ 2 ^ k))) := by
  unfold fit
  rw [Bool.and_eq_true, decide_eq_true_iff]
/-- the first job that fits, from one on -/
def fsF (p : Pl) (i v : Int) (r : Nat) (t : Int) : Nat → Nat → Nat
  | 0, _ => 0
  | m + 1, k => if fit p i v r t k then k else fsF p i v r t m (k + 1)
def fs (p : Pl) (i v : Int) (r : Nat) (t : Int) : Nat := fsF p i v r t (cnt p i).toNat 0
theorem fsF_b {p : Pl} {i v : Int} {r : Nat} {t : Int} : ∀ m k, (∃ j, k ≤ j ∧ j < k + m ∧ fit p i v r t j) → k ≤ fsF p i v r t m k ∧ fsF p i v r t m k < k + m ∧ fit p i v r t (fsF p i v r t m k) := by
  intro m
  induction m with
  | zero => intro k ⟨j, a, b, _⟩; omega
  | succ m ih =>
    intro k ⟨j, a, b, c⟩
    have e : fsF p i v r t (m + 1) k = if fit p i v r t k then k else fsF p i v r t m (k + 1) := rfl
    by_cases q : fit p i v r t k
    · rw [if_pos q] at e
      rw [e]
      exact ⟨by omega, by omega, q⟩
    · rw [if_neg q] at e
      rw [e]
      have hj : j ≠ k := fun h => q (h ▸ c)
      have := ih (k + 1) ⟨j, by omega, by omega, c⟩
      exact ⟨by omega, by omega, this.2.2⟩
def oS (p : Pl) (i v : Int) (s : Nat) : Nat → Nat × Int
  | 0 => (s, 0)
  | q + 1 => if (oS p i v s q).1 = 0 then oS p i v s q else ((oS p i v s q).1 ^^^ 2 ^ fs p i v (oS p i v s q).1 (oS p i v s q).2, oEnd p v (ow p i (fs p i v (oS p i v s q).1 (oS p i v s q).2)) (oS p i v s q).2)
def oK (p : Pl) (i v : Int) (s q : Nat) : Int := ow p i (fs p i v (oS p i v s q).1 (oS p i v s q).2)
/-- an order: as many places, and the jobs in them -/
def ORD (p : Pl) (i v : Int) (s : Nat) (n : Int) (f : Int → Int) : Prop := 0 ≤ n ∧ n ≤ cnt p i ∧ (oS p i v s n.toNat).1 = 0 ∧ ∀ q : Nat, (q : Int) < n → (oS p i v s q).1 ≠ 0 ∧ f q = oK p i v s q
theorem oS_z {p : Pl} {i v : Int} {s q : Nat} (h : (oS p i v s q).1 = 0) : ∀ d, (oS p i v s (q + d)).1 = 0 := by
  intro d
  induction d with
  | zero => exact h
  | succ d ih =>
    have e : oS p i v s ((q + d) + 1) = if (oS p i v s (q + d)).1 = 0 then oS p i v s (q + d) else ((oS p i v s (q + d)).1 ^^^ 2 ^ fs p i v (oS p i v s (q + d)).1 (oS p i v s (q + d)).2, oEnd p v (ow p i (fs p i v (oS p i v s (q + d)).1 (oS p i v s (q + d)).2)) (oS p i v s (q + d)).2) := rfl
    show (oS p i v s ((q + d) + 1)).1 = 0
    rw [e, if_pos ih]
    exact ih
theorem ORD.lt {p : Pl} {i v : Int} {s : Nat} {n : Int} {f : Int → Int} (h : ORD p i v s n f) {x : Int} (x0 : 0 ≤ x) : x < n ↔ (oS p i v s x.toNat).1 ≠ 0 := by
  obtain ⟨a, _, b, c⟩ := h
  constructor
  · intro hx
    exact (c x.toNat (by omega)).1
  · intro hx
    rcases Int.lt_or_le x n with q | q
    · exact q
    · exact absurd (by have := oS_z b (x.toNat - n.toNat); rwa [show n.toNat + (x.toNat - n.toNat) = x.toNat by omega] at this) hx
theorem ORD.v {p : Pl} {i v : Int} {s : Nat} {n : Int} {f : Int → Int} (h : ORD p i v s n f) {x : Int} (x0 : 0 ≤ x) (x1 : x < n) : f x = oK p i v s x.toNat := by
  have := (h.2.2.2 x.toNat (by omega)).2
  rwa [show ((x.toNat : Nat) : Int) = x by omega] at this
theorem smk_b {p : Pl} (h : PV p) {i : Int} {s : Nat} : ∀ k : Nat, (k : Int) ≤ cnt p i → 0 ≤ smk p i s k ∧ smk p i s k ≤ 99 * k := by
  intro k
  induction k with
  | zero => intro _; exact ⟨Int.le_refl _, Int.le_refl _⟩
  | succ k ih =>
    intro hk
    have b := ih (by omega)
    have oj := ow_j (p := p) (i := i) (k := (k : Int)) h.n.2.2.2.2.2.2.1 (by omega) (by omega)
    have o := o_b h (v := 1) oj.1 oj.2.1 (by omega)
    have e : smk p i s (k + 1) = if s.testBit k then smk p i s k + oMe p (ow p i k) else smk p i s k := rfl
    split at e <;> omega
theorem sm_0 {p : Pl} {i : Int} : sm p i 0 = 0 := by
  have : ∀ n, smk p i 0 n = 0 := by
    intro n
    induction n with
    | zero => rfl
    | succ n ih =>
      show (if (0 : Nat).testBit n then _ else _) = _
      rw [if_neg (by rw [Nat.zero_testBit]; decide), ih]
  exact this _
theorem bs_b {p : Pl} {i v : Int} : ∀ m, bs p i v m ≤ m ∧ (bs p i v m = 0 ∨ 0 ≤ gT p i v (bs p i v m)) := by
  intro m
  induction m with
  | zero => exact ⟨Nat.le_refl _, Or.inl rfl⟩
  | succ m ih =>
    show (if _ then _ else _) ≤ _ ∧ ((if _ then _ else _) = 0 ∨ 0 ≤ gT p i v (if _ then _ else _))
    by_cases q : 0 ≤ gT p i v (m + 1) ∧ sm p i (bs p i v m) < sm p i (m + 1)
    · rw [if_pos q]; exact ⟨Nat.le_refl _, Or.inr q.1⟩
    · rw [if_neg q]; exact ⟨by omega, ih.2⟩
theorem pc_tab : ∀ n, n < 256 → ∀ k, k < 8 → n.testBit k = true → (((n ^^^ 2 ^ k).testBit 0).toNat + ((n ^^^ 2 ^ k).testBit 1).toNat + ((n ^^^ 2 ^ k).testBit 2).toNat + ((n ^^^ 2 ^ k).testBit 3).toNat + ((n ^^^ 2 ^ k).testBit 4).toNat + ((n ^^^ 2 ^ k).testBit 5).toNat + ((n ^^^ 2 ^ k).testBit 6).toNat + ((n ^^^ 2 ^ k).testBit 7).toNat) + 1 = ((n.testBit 0).toNat + (n.testBit 1).toNat + (n.testBit 2).toNat + (n.testBit 3).toNat + (n.testBit 4).toNat + (n.testBit 5).toNat + (n.testBit 6).toNat + (n.testBit 7).toNat) := by decide +kernel
def pc8 (n : Nat) : Nat := (n.testBit 0).toNat + (n.testBit 1).toNat + (n.testBit 2).toNat + (n.testBit 3).toNat + (n.testBit 4).toNat + (n.testBit 5).toNat + (n.testBit 6).toNat + (n.testBit 7).toNat
theorem pc_x {n k : Nat} (h : n < 256) (hk : k < 8) (hb : n.testBit k = true) : pc8 (n ^^^ 2 ^ k) + 1 = pc8 n := pc_tab n h k hk hb
theorem pc_n : ∀ m, m < 9 → ∀ n, n < 2 ^ m → pc8 n ≤ m := by decide +kernel
theorem pc_0 : ∀ n, n < 256 → pc8 n = 0 → n = 0 := by decide +kernel
section CBe
variable {ρ : Rf} {μ μ0 : Mem} {p : Pl}
theorem k_canDo {s : Nat} {x : Int} (hs : s < 256) (hx : μ 150 (s : Int) = x) : qE mX5_canDo GG GG [qP 141, qI s] ρ μ (fun z ρ' μ' => ((z = 1 ∧ 0 ≤ x) ∨ (z = 0 ∧ ¬ 0 ≤ x)) ∧ ρ' = ρ ∧ μ' = μ) := by
  refine e_X5_canDo ?_
  rw [hx]
  refine ⟨(by omega), ?_⟩
  refine ⟨fun hc2 => ?_, fun hc2 => ?_⟩
  · exact ⟨by omega, rfl, rfl⟩
  · exact ⟨by omega, rfl, rfl⟩
theorem k_mealsOf {s : Nat} {i v : Int} (hv : PV p) (hc : cnt p i ≤ 8) (hs : s < 256) (S : SLO μ p i v) : qE mX5_mealsOf GG GG [qP 141, qI s] ρ μ (fun z ρ' μ' => z = sm p i s ∧ ρ' = ρ ∧ μ' = μ) := by
  have c0 : 0 ≤ cnt p i := (owC_b (p := p) (i := i) hv.n.2.2.2.2.2.2.1).1
  have L : ∀ (m : Nat) (k : Nat), (cnt p i).toNat - k < m → (k : Int) ≤ cnt p i → qX mX5_mealsOf GG (fun z ρ' μ' => z = sm p i s ∧ ρ' = ρ ∧ μ' = μ) GG (0, 0) 4 [some (qP 141), some (qI s), some (qI (smk p i s k)), some (qI (k : Int))] [] ρ μ := by
    intro m
    induction m with
    | zero => intro k h; omega
    | succ m ih =>
      intro k hm hk
      have e1 : ((k : Int) + 1) = ((k + 1 : Nat) : Int) := by omega
      have e : smk p i s (k + 1) = if s.testBit k then smk p i s k + oMe p (ow p i k) else smk p i s k := rfl
      have b := smk_b hv (i := i) (s := s) k hk
      refine w_X5_mealsOf_4 ?_
      rw [S.1]
      refine ⟨fun hc1 => ?_, fun hc1 => ?_⟩
      · exact ⟨by unfold sm; rw [show (cnt p i).toNat = k by omega], rfl, rfl⟩
      · have t := bw_tab s hs k (by omega)
        rw [t.1]
        refine ⟨fun hc3 => ?_, fun hc3 => ?_⟩
        · refine ⟨(by unfold i32; omega), ?_⟩
          have f : s.testBit k = false := by
            cases q : s.testBit k
            · rfl
            · rw [q] at hc3; exact absurd rfl hc3
          rw [if_neg (by rw [f]; decide)] at e
          rw [e1, ← e]
          exact ih (k + 1) (by omega) (by omega)
        · have f : s.testBit k = true := by
            cases q : s.testBit k
            · rw [q] at hc3; exact absurd hc3 (by decide)
            · rfl
          have oj := ow_j (p := p) (i := i) (k := (k : Int)) hv.n.2.2.2.2.2.2.1 (by omega) (by omega)
          have o := o_b hv (v := 1) oj.1 oj.2.1 (by omega)
          have me := (S.2 (k : Int) (by omega) (by omega)).2.1
          rw [me]
          rw [if_pos f] at e
          refine ⟨(by omega), ?_⟩
          refine ⟨(by unfold i32; omega), ?_⟩
          refine ⟨(by unfold i32; omega), ?_⟩
          rw [e1, ← e]
          exact ih (k + 1) (by omega) (by omega)
  refine e_X5_mealsOf ?_
  exact L _ 0 (Nat.lt_succ_self _) (by omega)
theorem k_firstFits {r : Nat} {i v t : Int} (hv : PV p) (hc : cnt p i ≤ 8) (v0 : 1 ≤ v) (hs : r < 2 ^ (cnt p i).toNat) (S : SLO μ p i v) (T : SLT μ p i v (2 ^ (cnt p i).toNat)) : qE mX5_firstThatFits GG GG [qP 141, qI r, qI t] ρ μ (fun z ρ' μ' => z = ((fs p i v r t : Nat) : Int) ∧ ρ' = ρ ∧ μ' = μ) := by
  have c0 : 0 ≤ cnt p i := (owC_b (p := p) (i := i) hv.n.2.2.2.2.2.2.1).1
  have lt := bw_lt (cnt p i).toNat (by omega)
  have L : ∀ (m : Nat) (k : Nat), (cnt p i).toNat - k = m → (k : Int) ≤ cnt p i → fs p i v r t = fsF p i v r t m k → qX mX5_firstThatFits GG (fun z ρ' μ' => z = ((fs p i v r t : Nat) : Int) ∧ ρ' = ρ ∧ μ' = μ) GG (0, 0) 2 [some (qP 141), some (qI r), some (qI t), some (qI (k : Int))] [] ρ μ := by
    intro m
    induction m with
    | zero =>
      intro k hm hk he
      refine w_X5_firstThatFits_2 ?_
      rw [S.1]
      refine ⟨fun hc1 => ?_, fun hc1 => ?_⟩
      · exact ⟨by rw [he]; rfl, rfl, rfl⟩
      · omega
    | succ m ih =>
      intro k hm hk he
      have e1 : ((k : Int) + 1) = ((k + 1 : Nat) : Int) := by omega
      have e : fsF p i v r t (m + 1) k = if fit p i v r t k then k else fsF p i v r t m (k + 1) := rfl
      refine w_X5_firstThatFits_2 ?_
      rw [S.1]
      refine ⟨fun hc1 => ?_, fun hc1 => ?_⟩
      · omega
      · have tt := bw_tab r (by omega) k (by omega)
        rw [tt.1]
        refine ⟨fun hc3 => ?_, fun hc3 => ?_⟩
        · refine ⟨(by unfold i32; omega), ?_⟩
          have f : ¬ fit p i v r t k := fun q => by
            rw [if_pos (fit_iff.mp q).1] at hc3
            exact hc3 rfl
          rw [if_neg f] at e
          rw [e1]
          exact ih (k + 1) (by omega) (by omega) (by rw [he, e])
        · have f : r.testBit k = true := by
            cases q : r.testBit k
            · rw [q] at hc3; exact absurd hc3 (by decide)
            · rfl
          have oj := ow_j (p := p) (i := i) (k := (k : Int)) hv.n.2.2.2.2.2.2.1 (by omega) (by omega)
          have lt := tt.2.2.2.1 f
          refine ⟨_, k_lbWith hv oj.1 oj.2.1 v0 (by omega) (by omega) f (S.2 _ (by omega) (by omega)) (T _ (by omega)) (gT_b hv hc v0 (by omega)), ?_⟩
          rintro z1 ρ2 μ3 ⟨hq6_1, hq6_2, hq6_3⟩
          obtain rfl := hq6_1.symm
          obtain rfl := hq6_2.symm
          obtain rfl := hq6_3.symm
          refine ⟨fun hc7 => ?_, fun hc7 => ?_⟩
          · refine ⟨(by unfold i32; omega), ?_⟩
            rw [if_neg (fun q => by have := (fit_iff.mp q).2; omega)] at e
            rw [e1]
            exact ih (k + 1) (by omega) (by omega) (by rw [he, e])
          · rw [if_pos (fit_iff.mpr ⟨f, by omega⟩)] at e
            exact ⟨by rw [he, e], rfl, rfl⟩
  refine e_X5_firstThatFits ?_
  exact L _ 0 rfl (by omega) rfl
/-- from a time on a set can be done: a first job fits -/
theorem fit_ex (hv : PV p) {i v t : Int} (hc : cnt p i ≤ 8) (v0 : 1 ≤ v) {r : Nat} (hr : r < 2 ^ (cnt p i).toNat) (r0 : r ≠ 0) (t0 : 0 ≤ t) (ht : t ≤ gT p i v r) : (fs p i v r t : Int) < cnt p i ∧ fit p i v r t (fs p i v r t) ∧ oEnd p v (ow p i (fs p i v r t)) t < FA ∧ oEnd p v (ow p i (fs p i v r t)) t ≤ gT p i v (r ^^^ 2 ^ fs p i v r t) := by
  have c0 : 0 ≤ cnt p i := (owC_b (p := p) (i := i) hv.n.2.2.2.2.2.2.1).1
  have lt := bw_lt (cnt p i).toNat (by omega)
  have e := gT_s (p := p) (i := i) (v := v) (s := r) hc (by omega) (by omega)
  unfold gTs at e
  have ex : ∃ j, 0 ≤ j ∧ j < 0 + (cnt p i).toNat ∧ fit p i v r t j := by
    rcases (mxk_b (s := r) (h := fun k => oLat p v (ow p i k) (gT p i v (r ^^^ 2 ^ k))) (cnt p i).toNat).2.2 with z | ⟨k, hk, hb, z⟩
    · omega
    · refine ⟨k, by omega, by omega, fit_iff.mpr ⟨hb, ?_⟩⟩
      have z2 : gT p i v r = oLat p v (ow p i k) (gT p i v (r ^^^ 2 ^ k)) := by rw [e, z]
      omega
  have b := fsF_b _ _ ex
  have bl : fs p i v r t < (cnt p i).toNat := by
    have := b.2.1
    unfold fs
    omega
  have bf : fit p i v r t (fs p i v r t) := b.2.2
  have oj := ow_j (p := p) (i := i) (k := ((fs p i v r t : Nat) : Int)) hv.n.2.2.2.2.2.2.1 (by omega) (by omega)
  have o := (o_le hv oj.1 oj.2.1 v0 t0 (x := gT p i v (r ^^^ 2 ^ fs p i v r t))).mp (fit_iff.mp bf).2
  exact ⟨by omega, bf, o.1, o.2⟩
theorem k_layOrder {s : Nat} {i v : Int} (hv : PV p) (hc : cnt p i ≤ 8) (v0 : 1 ≤ v) (S : SLO μ0 p i v) (T : SLT μ0 p i v (2 ^ (cnt p i).toNat)) (hset : μ0 141 3 = (s : Int)) (hs : s < 2 ^ (cnt p i).toNat) (hg : 0 ≤ gT p i v s) : qE mX5_layOrder GG GG [qP 141] ρ μ0 (fun _ ρ' μ' => ρ' = ρ ∧ ORD p i v s (μ' 141 4) (μ' 143) ∧ (∀ a, a ≠ 141 → a ≠ 143 → μ' a = μ0 a) ∧ (∀ k, k ≠ 4 → μ' 141 k = μ0 141 k)) := by
  have c0 : 0 ≤ cnt p i := (owC_b (p := p) (i := i) hv.n.2.2.2.2.2.2.1).1
  have lt := bw_lt (cnt p i).toNat (by omega)
  have L : ∀ (m : Nat) (q : Nat) (r : Nat) (t : Int) (μ : Mem), (cnt p i).toNat - q < m → (q : Int) ≤ cnt p i → oS p i v s q = (r, t) → r < 2 ^ (cnt p i).toNat → 0 ≤ t → t < FA → t ≤ gT p i v r → q + pc8 r ≤ (cnt p i).toNat → μ 141 4 = (q : Int) → (∀ j : Nat, j < q → (oS p i v s j).1 ≠ 0 ∧ μ 143 j = oK p i v s j) → (∀ a, a ≠ 141 → a ≠ 143 → μ a = μ0 a) → (∀ k, k ≠ 4 → μ 141 k = μ0 141 k) → qX mX5_layOrder GG (fun _ ρ' μ' => ρ' = ρ ∧ ORD p i v s (μ' 141 4) (μ' 143) ∧ (∀ a, a ≠ 141 → a ≠ 143 → μ' a = μ0 a) ∧ (∀ k, k ≠ 4 → μ' 141 k = μ0 141 k)) GG (0, 0) 14 [some (qP 141), some (qI (r : Int)), some (qI t), some (qI (q : Int)), none] [] ρ μ := by
    intro m
    induction m with
    | zero => intro q r t μ h; omega
    | succ m ih =>
      intro q r t μ hm hq he hr t0 t1 hg hpc h4 h143 ha hk
      have e1 : ((q : Int) + 1) = ((q + 1 : Nat) : Int) := by omega
      have S1 : SLO μ p i v := S.fr (hk 2 (by omega)) (fun a h1 h2 h3 => ha a (by omega) h2)
      have T1 : SLT μ p i v (2 ^ (cnt p i).toNat) := fun x hx => by rw [ha 150 (by omega) (by omega)]; exact T x hx
      have fin : r = 0 → (fun _ ρ' μ' => ρ' = ρ ∧ ORD p i v s (μ' 141 4) (μ' 143) ∧ (∀ a, a ≠ 141 → a ≠ 143 → μ' a = μ0 a) ∧ (∀ k, k ≠ 4 → μ' 141 k = μ0 141 k)) 0 ρ μ := fun r0 => by
        refine ⟨rfl, ⟨by omega, by omega, ?_, fun j hj => h143 j (by omega)⟩, ha, hk⟩
        rw [h4, Int.toNat_natCast, he]
        exact r0
      refine w_X5_layOrder_14 ?_
      rw [S1.1]
      refine ⟨fun hc1 => ?_, fun hc1 => ?_⟩
      · refine fin (pc_0 r (by omega) (by omega))
      · refine ⟨fun hc3 => ?_, fun hc3 => ?_⟩
        · exact fin (by omega)
        · have r0 : r ≠ 0 := by omega
          have fe := fit_ex hv hc v0 hr r0 t0 hg
          have oj := ow_j (p := p) (i := i) (k := ((fs p i v r t : Nat) : Int)) hv.n.2.2.2.2.2.2.1 (by omega) (by omega)
          have o := o_b hv (v := v) oj.1 oj.2.1 v0
          have PJ := S1.2 ((fs p i v r t : Nat) : Int) (by omega) (by omega)
          obtain ⟨P1, P2, P3, P4, P5, P6, P7⟩ := PJ
          have tb := bw_tab r (by omega) (fs p i v r t) (by omega)
          have tb2 := tb.2.2.1 (fit_iff.mp fe.2.1).1
          have tb3 := tb.2.2.2.1 (fit_iff.mp fe.2.1).1
          have pcx := pc_x (by omega : r < 256) (by omega : fs p i v r t < 8) (fit_iff.mp fe.2.1).1
          refine ⟨_, k_firstFits hv hc v0 hr S1 T1, ?_⟩
          rintro z1 ρ2 μ3 ⟨hq5_1, hq5_2, hq5_3⟩
          obtain rfl := hq5_1.symm
          obtain rfl := hq5_2.symm
          obtain rfl := hq5_3.symm
          try simp (disch := omega) only [up2_c, up2_s, P1, P3, P4, P5, P6, h4, tb2]
          refine ⟨(by omega), ?_⟩
          refine ⟨(by omega), ?_⟩
          intro μ5 eμ5; subst eμ5
          try simp (disch := omega) only [up2_c, up2_s, P1, P3, P4, P5, P6, h4, tb2]
          refine ⟨(by unfold i32; omega), ?_⟩
          intro μ6 eμ6; subst eμ6
          try simp (disch := omega) only [up2_c, up2_s, P1, P3, P4, P5, P6, h4, tb2]
          refine ⟨(by omega), ?_⟩
          refine ⟨(by unfold FA at t1; unfold i32; omega), ?_⟩
          refine ⟨(by omega), ?_⟩
          refine ⟨(by omega), ?_⟩
          refine ⟨(by unfold FA at t1; unfold i32; omega), ?_⟩
          refine ⟨(by omega), ?_⟩
          refine ⟨(by unfold FA at t1; unfold i32; omega), ?_⟩
          refine ⟨(by unfold i32; omega), ?_⟩
          have oe : oEnd p v (ow p i (fs p i v r t)) t = max (t + oTd p v (ow p i (fs p i v r t))) (oAr p (ow p i (fs p i v r t))) + oUn p (ow p i (fs p i v r t)) + oWb p v (ow p i (fs p i v r t)) := by
            have z := fe.2.2.1
            unfold oEnd at z ⊢
            split at z
            · rw [if_pos (by assumption)]
            · unfold FA at z; omega
          rw [← oe, e1]
          have ee : oS p i v s (q + 1) = (r ^^^ 2 ^ fs p i v r t, oEnd p v (ow p i (fs p i v r t)) t) := by
            show (if _ then _ else _) = _
            rw [he, if_neg r0]
          have mo := oEnd_m hv oj.1 oj.2.1 v0 t0
          refine ih (q + 1) _ _ _ (by omega) (by omega) ee (by omega) mo.1 fe.2.2.1 fe.2.2.2 (by omega) up2_s (fun j hj => ?_) (fun a h1 h2 => by rw [up2_c h1, up2_c h2]; exact ha a h1 h2) (fun k h => by rw [up2_k h, up2_c (by decide)]; exact hk k h)
          rw [up2_c (by decide)]
          by_cases jq : j = q
          · subst jq
            rw [up2_s, he]
            refine ⟨r0, ?_⟩
            unfold oK
            rw [he]
          · rw [up2_k (by omega)]
            exact h143 j (by omega)
  refine e_X5_layOrder ?_
  intro μ1 eμ1; subst eμ1
  rw [up2_k (by decide), hset]
  exact L _ 0 s 0 _ (Nat.lt_succ_self _) (by omega) rfl hs (by omega) (by unfold FA; omega) hg (by have := pc_n (cnt p i).toNat (by omega) s hs; omega) up2_s (fun j hj => by omega) (fun a h1 h2 => up2_c h1) (fun k h => up2_k h)
end CBe
