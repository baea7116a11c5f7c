/-! ===== the law's plan, loaded: what is known of it ===== -/
def DW (W : Int → Int) : Prop := WOK2 W ∧ (∀ t, 0 ≤ t → t < 2 → W t ≤ 900 ∧ W t ≤ W (2 + t) ∧ W (2 + t) ≤ 255) ∧ (∀ k, 0 ≤ k → k < 4 → W (10 + 3 * k + 0) ≤ 99 ∧ W (10 + 3 * k + 1) ≤ 99 ∧ W (10 + 3 * k + 2) ≤ 99) ∧ (∀ k, 0 ≤ k → k < 2 → W (30 + 2 * k) ≤ 20 ∧ W (31 + 2 * k) ≤ 20 ∧ W (40 + k) ≤ 99) ∧
  (∀ i, 0 ≤ i → i < 3 → W (50 + 5 * i + 0) ≤ 1 ∧ 1 ≤ W (50 + 5 * i + 1) ∧ W (50 + 5 * i + 1) ≤ 99 ∧ 1 ≤ W (50 + 5 * i + 2) ∧ W (50 + 5 * i + 2) ≤ 9 ∧ 1 ≤ W (50 + 5 * i + 3) ∧ W (50 + 5 * i + 3) ≤ 5 ∧ 1 ≤ W (50 + 5 * i + 4) ∧ W (50 + 5 * i + 4) ≤ 5) ∧ (2 ≤ W 70 ∧ W 70 ≤ 6) ∧
  ∀ j, 0 ≤ j → j < W 70 → W (71 + 5 * j + 0) ≤ 2 ∧ W (71 + 5 * j + 1) ≤ 1 ∧ W (71 + 5 * j + 2) ≤ 1 ∧ 1 ≤ W (75 + 5 * j) ∧ W (75 + 5 * j) ≤ 99
def jlL (W : Int → Int) (j : Int) : List Tkn := [kT jobW, nT (W (71 + 5 * j + 0)), nT (W (71 + 5 * j + 1)), nT (W (71 + 5 * j + 2)), mT (W (74 + 5 * j)), nT (W (75 + 5 * j))]
/-- the draft behind the trolleys, with so many jobs -/
def JD (W : Int → Int) (j : Int) (D : Sg) : Prop := (D 1 2 = W 2 ∧ D 1 3 = W 3 ∧ D 1 4 = 2 ∧ D 1 5 = 2 ∧ D 1 36 = 2 ∧ D 1 45 = 2 ∧ D 1 61 = 3 ∧ D 1 87 = j ∧ D 1 63 = W 51 ∧ D 1 68 = W 56 ∧ D 1 73 = W 61) ∧ (D 4 0 = 1 ∧ D 4 1 = 1) ∧ (D 2 0 = teaV ∧ D 2 1 = riceV)
theorem fnd_m {D : Sg} {v : Int} (h36 : D 1 36 = 2) (h0 : D 2 0 = teaV) (h1 : D 2 1 = riceV) : fnd (D 2) (D 1 36) (mV v) = if v = 0 then 0 else 1 := by
  have k := tea_kw
  rw [h36]
  show (if D 2 0 = mV v then 0 else if D 2 (0 + 1) = mV v then 0 + 1 else -1) = _
  rw [show (0 : Int) + 1 = 1 from rfl, h0, h1]
  unfold mV
  by_cases c : v = 0
  · rw [if_pos c, if_pos c, if_pos rfl]
  · rw [if_neg c, if_neg c, if_neg k.2.2.1, if_pos rfl]
theorem cnt_le {p : Pl} {i : Int} (h : 0 ≤ p 87) : cnt p i ≤ p 87 := by
  have := (s_Ib (f := fun j => if p (88 + 5 * j + 0) = i then 1 else 0) (b := 1) h (fun j _ _ => by show 0 ≤ (if _ then _ else _ : Int) ∧ (if _ then _ else _ : Int) ≤ 1; split <;> omega)).2
  unfold cnt
  omega
/-- the cells of the draft that matter, one by one -/
def KQ (d2 d3 c0 c1 m k y j p0 p1 p2 e0 e1 n0 n1 s0 s1 s4 s5 : Int) (D : Sg) : Prop := (D 1 2 = d2 ∧ D 1 3 = d3 ∧ D 1 4 = c0 ∧ D 1 5 = c1 ∧ D 1 36 = m ∧ D 1 45 = k ∧ D 1 61 = y ∧ D 1 87 = j ∧ D 1 63 = p0 ∧ D 1 68 = p1 ∧ D 1 73 = p2) ∧ (D 4 0 = e0 ∧ D 4 1 = e1) ∧ (D 2 0 = n0 ∧ D 2 1 = n1) ∧ (D 5 0 = s0 ∧ D 5 1 = s1 ∧ D 5 4 = s4 ∧ D 5 5 = s5)
section KQS
variable {d2 d3 c0 c1 m k y j p0 p1 p2 e0 e1 n0 n1 s0 s1 s4 s5 : Int} {D : Sg}
theorem kd_self (D : Sg) : KD (D 1) (D 4) (D 2) (D 5) D := ⟨⟨rfl, rfl, rfl, rfl, rfl, rfl, rfl, rfl, rfl, rfl, rfl⟩, ⟨rfl, rfl⟩, ⟨rfl, rfl⟩, rfl, rfl, rfl, rfl⟩
theorem kq_tra0 {a d : Int} (h : KQ d2 d3 c0 c1 m k y j p0 p1 p2 e0 e1 n0 n1 s0 s1 s4 s5 D) : KQ d d3 c0 c1 m k y j p0 p1 p2 1 e1 n0 n1 s0 s1 s4 s5 (trX D 0 a d) := by
  obtain ⟨⟨a1, a2, a3, a4, a5, a6, a7, a8, a9, a10, a11⟩, ⟨b1, b2⟩, ⟨f1, f2⟩, g1, g2, g3, g4⟩ := h
  have K := kd_tra (t := 0) (a := a) (d := d) (kd_self D) (Or.inl rfl)
  obtain ⟨⟨x1, x2, x3, x4, x5, x6, x7, x8, x9, x10, x11⟩, ⟨y1, y2⟩, ⟨z1, z2⟩, w1, w2, w3, w4⟩ := K
  refine ⟨⟨x1.trans ?_, x2.trans ?_, x3.trans ?_, x4.trans ?_, x5.trans ?_, x6.trans ?_, x7.trans ?_, x8.trans ?_, x9.trans ?_, x10.trans ?_, x11.trans ?_⟩, ⟨y1.trans ?_, y2.trans ?_⟩, ⟨z1.trans ?_, z2.trans ?_⟩, w1.trans ?_, w2.trans ?_, w3.trans ?_, w4.trans ?_⟩
  all_goals first | assumption | (simp [u1, a1, a2, a3, a4, a5, a6, a7, a8, a9, a10, a11, b1, b2, f1, f2, g1, g2, g3, g4]; done)
theorem kq_tra1 {a d : Int} (h : KQ d2 d3 c0 c1 m k y j p0 p1 p2 e0 e1 n0 n1 s0 s1 s4 s5 D) : KQ d2 d c0 c1 m k y j p0 p1 p2 e0 1 n0 n1 s0 s1 s4 s5 (trX D 1 a d) := by
  obtain ⟨⟨a1, a2, a3, a4, a5, a6, a7, a8, a9, a10, a11⟩, ⟨b1, b2⟩, ⟨f1, f2⟩, g1, g2, g3, g4⟩ := h
  have K := kd_tra (t := 1) (a := a) (d := d) (kd_self D) (Or.inr rfl)
  obtain ⟨⟨x1, x2, x3, x4, x5, x6, x7, x8, x9, x10, x11⟩, ⟨y1, y2⟩, ⟨z1, z2⟩, w1, w2, w3, w4⟩ := K
  refine ⟨⟨x1.trans ?_, x2.trans ?_, x3.trans ?_, x4.trans ?_, x5.trans ?_, x6.trans ?_, x7.trans ?_, x8.trans ?_, x9.trans ?_, x10.trans ?_, x11.trans ?_⟩, ⟨y1.trans ?_, y2.trans ?_⟩, ⟨z1.trans ?_, z2.trans ?_⟩, w1.trans ?_, w2.trans ?_, w3.trans ?_, w4.trans ?_⟩
  all_goals first | assumption | (simp [u1, a1, a2, a3, a4, a5, a6, a7, a8, a9, a10, a11, b1, b2, f1, f2, g1, g2, g3, g4]; done)
theorem kq_car0 {q1 q2 q3 : Int} (h : KQ d2 d3 c0 c1 m k y j p0 p1 p2 e0 e1 n0 n1 s0 s1 s4 s5 D) (hc : 0 ≤ c0 ∧ c0 < 5) : KQ d2 d3 (c0 + 1) c1 m k y j p0 p1 p2 e0 e1 n0 n1 s0 s1 s4 s5 (caX D 0 q1 q2 q3) := by
  obtain ⟨⟨a1, a2, a3, a4, a5, a6, a7, a8, a9, a10, a11⟩, ⟨b1, b2⟩, ⟨f1, f2⟩, g1, g2, g3, g4⟩ := h
  have K := kd_car (t := 0) (p1 := q1) (p2 := q2) (p3 := q3) (kd_self D) (Or.inl rfl) (by rw [show (4 : Int) + 0 = 4 from rfl, a3]; exact hc)
  obtain ⟨⟨x1, x2, x3, x4, x5, x6, x7, x8, x9, x10, x11⟩, ⟨y1, y2⟩, ⟨z1, z2⟩, w1, w2, w3, w4⟩ := K
  refine ⟨⟨x1.trans ?_, x2.trans ?_, x3.trans ?_, x4.trans ?_, x5.trans ?_, x6.trans ?_, x7.trans ?_, x8.trans ?_, x9.trans ?_, x10.trans ?_, x11.trans ?_⟩, ⟨y1.trans ?_, y2.trans ?_⟩, ⟨z1.trans ?_, z2.trans ?_⟩, w1.trans ?_, w2.trans ?_, w3.trans ?_, w4.trans ?_⟩
  all_goals first | assumption | (simp [u1, a1, a2, a3, a4, a5, a6, a7, a8, a9, a10, a11, b1, b2, f1, f2, g1, g2, g3, g4]; done)
theorem kq_car1 {q1 q2 q3 : Int} (h : KQ d2 d3 c0 c1 m k y j p0 p1 p2 e0 e1 n0 n1 s0 s1 s4 s5 D) (hc : 0 ≤ c1 ∧ c1 < 5) : KQ d2 d3 c0 (c1 + 1) m k y j p0 p1 p2 e0 e1 n0 n1 s0 s1 s4 s5 (caX D 1 q1 q2 q3) := by
  obtain ⟨⟨a1, a2, a3, a4, a5, a6, a7, a8, a9, a10, a11⟩, ⟨b1, b2⟩, ⟨f1, f2⟩, g1, g2, g3, g4⟩ := h
  have K := kd_car (t := 1) (p1 := q1) (p2 := q2) (p3 := q3) (kd_self D) (Or.inr rfl) (by rw [show (4 : Int) + 1 = 5 from rfl, a4]; exact hc)
  obtain ⟨⟨x1, x2, x3, x4, x5, x6, x7, x8, x9, x10, x11⟩, ⟨y1, y2⟩, ⟨z1, z2⟩, w1, w2, w3, w4⟩ := K
  refine ⟨⟨x1.trans ?_, x2.trans ?_, x3.trans ?_, x4.trans ?_, x5.trans ?_, x6.trans ?_, x7.trans ?_, x8.trans ?_, x9.trans ?_, x10.trans ?_, x11.trans ?_⟩, ⟨y1.trans ?_, y2.trans ?_⟩, ⟨z1.trans ?_, z2.trans ?_⟩, w1.trans ?_, w2.trans ?_, w3.trans ?_, w4.trans ?_⟩
  all_goals first | assumption | (simp [u1, a1, a2, a3, a4, a5, a6, a7, a8, a9, a10, a11, b1, b2, f1, f2, g1, g2, g3, g4]; done)
theorem kq_mea0 {w x q1 q2 : Int} (h : KQ d2 d3 c0 c1 m k y j p0 p1 p2 e0 e1 n0 n1 s0 s1 s4 s5 D) (hm : m = 0) : KQ d2 d3 c0 c1 1 k y j p0 p1 p2 e0 e1 w n1 s0 s1 s4 s5 (meX D w x q1 q2) := by
  obtain ⟨⟨a1, a2, a3, a4, a5, a6, a7, a8, a9, a10, a11⟩, ⟨b1, b2⟩, ⟨f1, f2⟩, g1, g2, g3, g4⟩ := h
  subst hm
  have K := kd_mea (w := w) (x := x) (p1 := q1) (p2 := q2) (kd_self D) (by omega)
  obtain ⟨⟨x1, x2, x3, x4, x5, x6, x7, x8, x9, x10, x11⟩, ⟨y1, y2⟩, ⟨z1, z2⟩, w1, w2, w3, w4⟩ := K
  refine ⟨⟨x1.trans ?_, x2.trans ?_, x3.trans ?_, x4.trans ?_, x5.trans ?_, x6.trans ?_, x7.trans ?_, x8.trans ?_, x9.trans ?_, x10.trans ?_, x11.trans ?_⟩, ⟨y1.trans ?_, y2.trans ?_⟩, ⟨z1.trans ?_, z2.trans ?_⟩, w1.trans ?_, w2.trans ?_, w3.trans ?_, w4.trans ?_⟩
  all_goals first | assumption | (simp [u1, a1, a2, a3, a4, a5, a6, a7, a8, a9, a10, a11, b1, b2, f1, f2, g1, g2, g3, g4]; done)
theorem kq_mea1 {w x q1 q2 : Int} (h : KQ d2 d3 c0 c1 m k y j p0 p1 p2 e0 e1 n0 n1 s0 s1 s4 s5 D) (hm : m = 1) : KQ d2 d3 c0 c1 2 k y j p0 p1 p2 e0 e1 n0 w s0 s1 s4 s5 (meX D w x q1 q2) := by
  obtain ⟨⟨a1, a2, a3, a4, a5, a6, a7, a8, a9, a10, a11⟩, ⟨b1, b2⟩, ⟨f1, f2⟩, g1, g2, g3, g4⟩ := h
  subst hm
  have K := kd_mea (w := w) (x := x) (p1 := q1) (p2 := q2) (kd_self D) (by omega)
  obtain ⟨⟨x1, x2, x3, x4, x5, x6, x7, x8, x9, x10, x11⟩, ⟨y1, y2⟩, ⟨z1, z2⟩, w1, w2, w3, w4⟩ := K
  refine ⟨⟨x1.trans ?_, x2.trans ?_, x3.trans ?_, x4.trans ?_, x5.trans ?_, x6.trans ?_, x7.trans ?_, x8.trans ?_, x9.trans ?_, x10.trans ?_, x11.trans ?_⟩, ⟨y1.trans ?_, y2.trans ?_⟩, ⟨z1.trans ?_, z2.trans ?_⟩, w1.trans ?_, w2.trans ?_, w3.trans ?_, w4.trans ?_⟩
  all_goals first | assumption | (simp [u1, a1, a2, a3, a4, a5, a6, a7, a8, a9, a10, a11, b1, b2, f1, f2, g1, g2, g3, g4]; done)
theorem kq_kit {q1 : Int} (h : KQ d2 d3 c0 c1 m k y j p0 p1 p2 e0 e1 n0 n1 s0 s1 s4 s5 D) (hk : 0 ≤ k ∧ k < 3) : KQ d2 d3 c0 c1 m (k + 1) y j p0 p1 p2 e0 e1 n0 n1 s0 s1 s4 s5 (kiX D q1) := by
  obtain ⟨⟨a1, a2, a3, a4, a5, a6, a7, a8, a9, a10, a11⟩, ⟨b1, b2⟩, ⟨f1, f2⟩, g1, g2, g3, g4⟩ := h
  have K := kd_kit (p1 := q1) (kd_self D) (by omega)
  obtain ⟨⟨x1, x2, x3, x4, x5, x6, x7, x8, x9, x10, x11⟩, ⟨y1, y2⟩, ⟨z1, z2⟩, w1, w2, w3, w4⟩ := K
  refine ⟨⟨x1.trans ?_, x2.trans ?_, x3.trans ?_, x4.trans ?_, x5.trans ?_, x6.trans ?_, x7.trans ?_, x8.trans ?_, x9.trans ?_, x10.trans ?_, x11.trans ?_⟩, ⟨y1.trans ?_, y2.trans ?_⟩, ⟨z1.trans ?_, z2.trans ?_⟩, w1.trans ?_, w2.trans ?_, w3.trans ?_, w4.trans ?_⟩
  all_goals first | assumption | (simp [u1, a1, a2, a3, a4, a5, a6, a7, a8, a9, a10, a11, b1, b2, f1, f2, g1, g2, g3, g4]; done)
theorem kq_sto0 {q1 : Int} (h : KQ d2 d3 c0 c1 m k y j p0 p1 p2 e0 e1 n0 n1 s0 s1 s4 s5 D) : KQ d2 d3 c0 c1 m k y j p0 p1 p2 e0 e1 n0 n1 1 s1 s4 s5 (stX D 0 q1) := by
  obtain ⟨⟨a1, a2, a3, a4, a5, a6, a7, a8, a9, a10, a11⟩, ⟨b1, b2⟩, ⟨f1, f2⟩, g1, g2, g3, g4⟩ := h
  have K := kd_sto (i := 0) (q := q1) (kd_self D) (by decide)
  obtain ⟨⟨x1, x2, x3, x4, x5, x6, x7, x8, x9, x10, x11⟩, ⟨y1, y2⟩, ⟨z1, z2⟩, w1, w2, w3, w4⟩ := K
  refine ⟨⟨x1.trans ?_, x2.trans ?_, x3.trans ?_, x4.trans ?_, x5.trans ?_, x6.trans ?_, x7.trans ?_, x8.trans ?_, x9.trans ?_, x10.trans ?_, x11.trans ?_⟩, ⟨y1.trans ?_, y2.trans ?_⟩, ⟨z1.trans ?_, z2.trans ?_⟩, w1.trans ?_, w2.trans ?_, w3.trans ?_, w4.trans ?_⟩
  all_goals first | assumption | (simp [u1, a1, a2, a3, a4, a5, a6, a7, a8, a9, a10, a11, b1, b2, f1, f2, g1, g2, g3, g4]; done)
theorem kq_sto1 {q1 : Int} (h : KQ d2 d3 c0 c1 m k y j p0 p1 p2 e0 e1 n0 n1 s0 s1 s4 s5 D) : KQ d2 d3 c0 c1 m k y j p0 p1 p2 e0 e1 n0 n1 s0 1 s4 s5 (stX D 1 q1) := by
  obtain ⟨⟨a1, a2, a3, a4, a5, a6, a7, a8, a9, a10, a11⟩, ⟨b1, b2⟩, ⟨f1, f2⟩, g1, g2, g3, g4⟩ := h
  have K := kd_sto (i := 1) (q := q1) (kd_self D) (by decide)
  obtain ⟨⟨x1, x2, x3, x4, x5, x6, x7, x8, x9, x10, x11⟩, ⟨y1, y2⟩, ⟨z1, z2⟩, w1, w2, w3, w4⟩ := K
  refine ⟨⟨x1.trans ?_, x2.trans ?_, x3.trans ?_, x4.trans ?_, x5.trans ?_, x6.trans ?_, x7.trans ?_, x8.trans ?_, x9.trans ?_, x10.trans ?_, x11.trans ?_⟩, ⟨y1.trans ?_, y2.trans ?_⟩, ⟨z1.trans ?_, z2.trans ?_⟩, w1.trans ?_, w2.trans ?_, w3.trans ?_, w4.trans ?_⟩
  all_goals first | assumption | (simp [u1, a1, a2, a3, a4, a5, a6, a7, a8, a9, a10, a11, b1, b2, f1, f2, g1, g2, g3, g4]; done)
theorem kq_sto4 {q1 : Int} (h : KQ d2 d3 c0 c1 m k y j p0 p1 p2 e0 e1 n0 n1 s0 s1 s4 s5 D) : KQ d2 d3 c0 c1 m k y j p0 p1 p2 e0 e1 n0 n1 s0 s1 1 s5 (stX D 4 q1) := by
  obtain ⟨⟨a1, a2, a3, a4, a5, a6, a7, a8, a9, a10, a11⟩, ⟨b1, b2⟩, ⟨f1, f2⟩, g1, g2, g3, g4⟩ := h
  have K := kd_sto (i := 4) (q := q1) (kd_self D) (by decide)
  obtain ⟨⟨x1, x2, x3, x4, x5, x6, x7, x8, x9, x10, x11⟩, ⟨y1, y2⟩, ⟨z1, z2⟩, w1, w2, w3, w4⟩ := K
  refine ⟨⟨x1.trans ?_, x2.trans ?_, x3.trans ?_, x4.trans ?_, x5.trans ?_, x6.trans ?_, x7.trans ?_, x8.trans ?_, x9.trans ?_, x10.trans ?_, x11.trans ?_⟩, ⟨y1.trans ?_, y2.trans ?_⟩, ⟨z1.trans ?_, z2.trans ?_⟩, w1.trans ?_, w2.trans ?_, w3.trans ?_, w4.trans ?_⟩
  all_goals first | assumption | (simp [u1, a1, a2, a3, a4, a5, a6, a7, a8, a9, a10, a11, b1, b2, f1, f2, g1, g2, g3, g4]; done)
theorem kq_sto5 {q1 : Int} (h : KQ d2 d3 c0 c1 m k y j p0 p1 p2 e0 e1 n0 n1 s0 s1 s4 s5 D) : KQ d2 d3 c0 c1 m k y j p0 p1 p2 e0 e1 n0 n1 s0 s1 s4 1 (stX D 5 q1) := by
  obtain ⟨⟨a1, a2, a3, a4, a5, a6, a7, a8, a9, a10, a11⟩, ⟨b1, b2⟩, ⟨f1, f2⟩, g1, g2, g3, g4⟩ := h
  have K := kd_sto (i := 5) (q := q1) (kd_self D) (by decide)
  obtain ⟨⟨x1, x2, x3, x4, x5, x6, x7, x8, x9, x10, x11⟩, ⟨y1, y2⟩, ⟨z1, z2⟩, w1, w2, w3, w4⟩ := K
  refine ⟨⟨x1.trans ?_, x2.trans ?_, x3.trans ?_, x4.trans ?_, x5.trans ?_, x6.trans ?_, x7.trans ?_, x8.trans ?_, x9.trans ?_, x10.trans ?_, x11.trans ?_⟩, ⟨y1.trans ?_, y2.trans ?_⟩, ⟨z1.trans ?_, z2.trans ?_⟩, w1.trans ?_, w2.trans ?_, w3.trans ?_, w4.trans ?_⟩
  all_goals first | assumption | (simp [u1, a1, a2, a3, a4, a5, a6, a7, a8, a9, a10, a11, b1, b2, f1, f2, g1, g2, g3, g4]; done)
theorem kq_tro0 {k0 q0 v0 l0 w0 : Int} (h : KQ d2 d3 c0 c1 m k y j p0 p1 p2 e0 e1 n0 n1 s0 s1 s4 s5 D) (hy : y = 0) : KQ d2 d3 c0 c1 m k 1 j q0 p1 p2 e0 e1 n0 n1 s0 s1 s4 s5 (tyX D k0 q0 v0 l0 w0) := by
  obtain ⟨⟨a1, a2, a3, a4, a5, a6, a7, a8, a9, a10, a11⟩, ⟨b1, b2⟩, ⟨f1, f2⟩, g1, g2, g3, g4⟩ := h
  subst hy
  have K := kd_tro (k0 := k0) (c0 := q0) (v0 := v0) (l0 := l0) (w0 := w0) (kd_self D) (by omega)
  obtain ⟨⟨x1, x2, x3, x4, x5, x6, x7, x8, x9, x10, x11⟩, ⟨y1, y2⟩, ⟨z1, z2⟩, w1, w2, w3, w4⟩ := K
  refine ⟨⟨x1.trans ?_, x2.trans ?_, x3.trans ?_, x4.trans ?_, x5.trans ?_, x6.trans ?_, x7.trans ?_, x8.trans ?_, x9.trans ?_, x10.trans ?_, x11.trans ?_⟩, ⟨y1.trans ?_, y2.trans ?_⟩, ⟨z1.trans ?_, z2.trans ?_⟩, w1.trans ?_, w2.trans ?_, w3.trans ?_, w4.trans ?_⟩
  all_goals first | assumption | (simp [u1, a1, a2, a3, a4, a5, a6, a7, a8, a9, a10, a11, b1, b2, f1, f2, g1, g2, g3, g4]; done)
theorem kq_tro1 {k0 q0 v0 l0 w0 : Int} (h : KQ d2 d3 c0 c1 m k y j p0 p1 p2 e0 e1 n0 n1 s0 s1 s4 s5 D) (hy : y = 1) : KQ d2 d3 c0 c1 m k 2 j p0 q0 p2 e0 e1 n0 n1 s0 s1 s4 s5 (tyX D k0 q0 v0 l0 w0) := by
  obtain ⟨⟨a1, a2, a3, a4, a5, a6, a7, a8, a9, a10, a11⟩, ⟨b1, b2⟩, ⟨f1, f2⟩, g1, g2, g3, g4⟩ := h
  subst hy
  have K := kd_tro (k0 := k0) (c0 := q0) (v0 := v0) (l0 := l0) (w0 := w0) (kd_self D) (by omega)
  obtain ⟨⟨x1, x2, x3, x4, x5, x6, x7, x8, x9, x10, x11⟩, ⟨y1, y2⟩, ⟨z1, z2⟩, w1, w2, w3, w4⟩ := K
  refine ⟨⟨x1.trans ?_, x2.trans ?_, x3.trans ?_, x4.trans ?_, x5.trans ?_, x6.trans ?_, x7.trans ?_, x8.trans ?_, x9.trans ?_, x10.trans ?_, x11.trans ?_⟩, ⟨y1.trans ?_, y2.trans ?_⟩, ⟨z1.trans ?_, z2.trans ?_⟩, w1.trans ?_, w2.trans ?_, w3.trans ?_, w4.trans ?_⟩
  all_goals first | assumption | (simp [u1, a1, a2, a3, a4, a5, a6, a7, a8, a9, a10, a11, b1, b2, f1, f2, g1, g2, g3, g4]; done)
theorem kq_tro2 {k0 q0 v0 l0 w0 : Int} (h : KQ d2 d3 c0 c1 m k y j p0 p1 p2 e0 e1 n0 n1 s0 s1 s4 s5 D) (hy : y = 2) : KQ d2 d3 c0 c1 m k 3 j p0 p1 q0 e0 e1 n0 n1 s0 s1 s4 s5 (tyX D k0 q0 v0 l0 w0) := by
  obtain ⟨⟨a1, a2, a3, a4, a5, a6, a7, a8, a9, a10, a11⟩, ⟨b1, b2⟩, ⟨f1, f2⟩, g1, g2, g3, g4⟩ := h
  subst hy
  have K := kd_tro (k0 := k0) (c0 := q0) (v0 := v0) (l0 := l0) (w0 := w0) (kd_self D) (by omega)
  obtain ⟨⟨x1, x2, x3, x4, x5, x6, x7, x8, x9, x10, x11⟩, ⟨y1, y2⟩, ⟨z1, z2⟩, w1, w2, w3, w4⟩ := K
  refine ⟨⟨x1.trans ?_, x2.trans ?_, x3.trans ?_, x4.trans ?_, x5.trans ?_, x6.trans ?_, x7.trans ?_, x8.trans ?_, x9.trans ?_, x10.trans ?_, x11.trans ?_⟩, ⟨y1.trans ?_, y2.trans ?_⟩, ⟨z1.trans ?_, z2.trans ?_⟩, w1.trans ?_, w2.trans ?_, w3.trans ?_, w4.trans ?_⟩
  all_goals first | assumption | (simp [u1, a1, a2, a3, a4, a5, a6, a7, a8, a9, a10, a11, b1, b2, f1, f2, g1, g2, g3, g4]; done)
end KQS
theorem fnK (i : Int) {d2 d3 c0 c1 k y j p0 p1 p2 e0 e1 s0 s1 s4 s5 : Int} {D : Sg} (h : KQ d2 d3 c0 c1 2 k y j p0 p1 p2 e0 e1 teaV riceV s0 s1 s4 s5 D) : fnd (D 2) (D 1 36) (mV i) = if i = 0 then 0 else 1 := fnd_m h.1.2.2.2.2.1 h.2.2.1.1 h.2.2.1.2
section PLN
variable {b : Int → Int} {n p : Int} {T : Tk} {D D' : Sg} {r ts : List Tkn} {v w k : Int} {m0 : Nat} {A E N S W : Int → Int}
theorem ln_jl {j : Int} (h : JD W j D) (hW : DW W) (j0 : 0 ≤ j ∧ j < W 70) : ∃ D', (∀ p, LNx b n p D (jlL W j) D') ∧ JD W (j + 1) D' := by
  obtain ⟨⟨a1, a2, a3, a4, a5, a6, a7, a8, a9, a10, a11⟩, ⟨b1, b2⟩, ⟨c1, c2⟩⟩ := h
  have w := hW.2.2.2.2.2.2 j j0.1 j0.2
  have w6 := hW.2.2.2.2.2.1
  have w0 := fun k (h0 : 0 ≤ k) (h1 : k < 200) => hW.1 k h0 h1
  have i0 := w0 (71 + 5 * j + 0) (by omega) (by omega)
  have i1 := w0 (71 + 5 * j + 1) (by omega) (by omega)
  have i2 := w0 (71 + 5 * j + 2) (by omega) (by omega)
  have hf := fnd_m (v := W (74 + 5 * j)) a5 c1 c2
  have e4 : D 4 (W (71 + 5 * j + 1)) ≠ 0 := by
    obtain q | q : W (71 + 5 * j + 1) = 0 ∨ W (71 + 5 * j + 1) = 1 := by omega
    · rw [q, b1]; decide
    · rw [q, b2]; decide
  have e5 : D 1 (4 + W (71 + 5 * j + 1)) = 2 := by
    obtain q | q : W (71 + 5 * j + 1) = 0 ∨ W (71 + 5 * j + 1) = 1 := by omega
    · rw [q]; exact a3
    · rw [q]; exact a4
  have K : KD (D 1) (D 4) (D 2) (D 5) D := ⟨⟨rfl, rfl, rfl, rfl, rfl, rfl, rfl, rfl, rfl, rfl, rfl⟩, ⟨rfl, rfl⟩, ⟨rfl, rfl⟩, rfl, rfl, rfl, rfl⟩
  have K2 := kd_job (i := W (71 + 5 * j + 0)) (t := W (71 + 5 * j + 1)) (c := W (71 + 5 * j + 2)) (m := if W (74 + 5 * j) = 0 then 0 else 1) (q := W (75 + 5 * j)) K (by omega)
  refine ⟨_, fun p => ln_job (by omega) (by omega) ?_ (by omega) e4 (by omega) hf (by split <;> decide) (by omega), ?_⟩
  · have := cnt_le (p := D 1) (i := W (71 + 5 * j + 0)) (by omega)
    omega
  · obtain ⟨⟨x1, x2, x3, x4, x5, x6, x7, x8, x9, x10, x11⟩, ⟨y1, y2⟩, ⟨z1, z2⟩, -⟩ := K2
    refine ⟨⟨x1.trans ?_, x2.trans ?_, x3.trans ?_, x4.trans ?_, x5.trans ?_, x6.trans ?_, x7.trans ?_, x8.trans ?_, x9.trans ?_, x10.trans ?_, x11.trans ?_⟩, ⟨y1.trans b1, y2.trans b2⟩, ⟨z1.trans c1, z2.trans c2⟩⟩
    all_goals first | (rw [u1_s, a8]; done) | (rw [u1_n (by decide)]; assumption)
theorem rd_jobs (hW : DW W) : ∀ (k : Nat) (j : Int) (D : Sg) (m0 : Nat), JD W j D → 0 ≤ j → RdS b n m0 D (jlL W j ++ jobsL W k (j + 1)) → j + k + 1 = W 70 → m0 + k ≤ 900 → ∃ D', JD W (W 70) D' ∧ (pT b n).1 = 0 ∧ (pZ b n).1 = D' := by
  intro k
  induction k with
  | zero =>
    intro j D m0 h j0 hr hj hm
    have w := hW.2.2.2.2.2.1
    obtain ⟨D', l1, l2⟩ := ln_jl (b := b) (n := n) h hW ⟨j0, by omega⟩
    have hr : RdS b n m0 D (jlL W j ++ []) := hr
    rw [List.append_nil] at hr
    have l3 := l2
    obtain ⟨⟨a1, a2, a3, a4, a5, a6, a7, a8, a9, a10, a11⟩, ⟨b1, b2⟩, ⟨c1, c2⟩⟩ := l2
    have e := rs_e hr (by omega) l1 ⟨⟨by omega, by show D' 1 (4 + 0) ≠ 0; rw [show (4 : Int) + 0 = 4 from rfl]; omega⟩, ⟨by omega, by show D' 1 (4 + 1) ≠ 0; rw [show (4 : Int) + 1 = 5 from rfl]; omega⟩, by omega, by omega⟩
    refine ⟨D', ?_, e.1, e.2⟩
    rw [show W 70 = j + 1 by omega]
    exact l3
  | succ k ih =>
    intro j D m0 h j0 hr hj hm
    have w := hW.2.2.2.2.2.1
    obtain ⟨D', l1, l2⟩ := ln_jl (b := b) (n := n) h hW ⟨j0, by omega⟩
    have hr : RdS b n m0 D (jlL W j ++ cT :: (jlL W (j + 1) ++ jobsL W k (j + 1 + 1))) := hr
    exact ih (j + 1) D' (m0 + 1) l2 (by omega) (rs_c hr l1) (by omega) (by omega)
theorem rst_c {Q : Sg → Prop} (h : RdS b n m0 D (ts ++ cT :: r)) (hl : ∀ p, LNx b n p D ts D') (K : Q D') : ∃ D', Q D' ∧ RdS b n (m0 + 1) D' r := ⟨D', K, rs_c h hl⟩
theorem fnd_0 {f : Int → Int} {w : Int} : fnd f 0 w = -1 := rfl
theorem fnd_1 {f : Int → Int} {w : Int} (h : f 0 ≠ w) : fnd f 1 w = -1 := by
  show (if f 0 = w then (0 : Int) else -1) = -1
  rw [if_neg h]
theorem rd_txt (hW : DW W) (ht : Toks b n 0 (txtL W)) : ∃ D', JD W (W 70) D' ∧ (pT b n).1 = 0 ∧ (pZ b n).1 = D' := by
  have w := hW.2.2.2.2.2.1
  have wt := hW.2.1
  have wc := hW.2.2.1
  have wm := hW.2.2.2.1
  have wy := hW.2.2.2.2.1
  have w0 := fun k (h0 : 0 ≤ k) (h1 : k < 200) => hW.1 k h0 h1
  have g := fun k (h0 : 0 ≤ k) (h1 : k < 200) => (w0 k h0 h1).1
  obtain ⟨k, hk⟩ : ∃ k : Nat, (W 70).toNat = k + 1 := ⟨(W 70).toNat - 1, by omega⟩
  have h0 : RdS b n 0 D0 (txtL W) := ⟨T0, 0, ⟨rfl, rfl⟩, ht, fun m => rfl⟩
  have K0 : KQ 0 0 0 0 0 0 0 0 0 0 0 0 0 0 0 0 0 0 0 D0 := ⟨⟨rfl, rfl, rfl, rfl, rfl, rfl, rfl, rfl, rfl, rfl, rfl⟩, ⟨rfl, rfl⟩, ⟨rfl, rfl⟩, rfl, rfl, rfl, rfl⟩
  unfold txtL at h0
  rw [hk] at h0
  have t1 := wt 1 (by decide) (by decide)
  have t0 := wt 0 (by decide) (by decide)
  have v1 := w0 1 (by decide) (by decide)
  have v0 := w0 0 (by decide) (by decide)
  obtain ⟨D1, K1, h1⟩ := rst_c (ts := [kT trainW, nT 1, bT fromW, nT (W 1), bT toW, nT (W (2 + 1))]) h0 (fun p => ln_tra (by omega) K0.2.1.2 (by omega) (by omega)) (kq_tra1 (a := W 1) (d := W (2 + 1)) K0)
  clear h0 K0
  obtain ⟨D2, K2, h2⟩ := rst_c (ts := [kT trainW, nT 0, bT fromW, nT (W 0), bT toW, nT (W (2 + 0))]) h1 (fun p => ln_tra (by omega) K1.2.1.1 (by omega) (by omega)) (kq_tra0 (a := W 0) (d := W (2 + 0)) K1)
  clear h1 K1
  have c0 := wc 0 (by decide) (by decide)
  have c1 := wc 1 (by decide) (by decide)
  have c2 := wc 2 (by decide) (by decide)
  have c3 := wc 3 (by decide) (by decide)
  obtain ⟨D3, K3, h3⟩ := rst_c (ts := [kT carW, nT 0, nT (W (10 + 3 * 0 + 0)), nT (W (10 + 3 * 0 + 1)), nT (W (10 + 3 * 0 + 2))]) h2 (fun p => ln_car (t := 0) (by omega) (by rw [K2.2.1.1]; decide) (by rw [show (4 : Int) + 0 = 4 from rfl, K2.1.2.2.1]; decide) ⟨g _ (by omega) (by omega), c0.1⟩ ⟨g _ (by omega) (by omega), c0.2.1⟩ ⟨g _ (by omega) (by omega), c0.2.2⟩) (kq_car0 (q1 := W (10 + 3 * 0 + 0)) (q2 := W (10 + 3 * 0 + 1)) (q3 := W (10 + 3 * 0 + 2)) K2 (by decide))
  clear h2 K2
  obtain ⟨D4, K4, h4⟩ := rst_c (ts := [kT carW, nT 0, nT (W (10 + 3 * 1 + 0)), nT (W (10 + 3 * 1 + 1)), nT (W (10 + 3 * 1 + 2))]) h3 (fun p => ln_car (t := 0) (by omega) (by rw [K3.2.1.1]; decide) (by rw [show (4 : Int) + 0 = 4 from rfl, K3.1.2.2.1]; decide) ⟨g _ (by omega) (by omega), c1.1⟩ ⟨g _ (by omega) (by omega), c1.2.1⟩ ⟨g _ (by omega) (by omega), c1.2.2⟩) (kq_car0 (q1 := W (10 + 3 * 1 + 0)) (q2 := W (10 + 3 * 1 + 1)) (q3 := W (10 + 3 * 1 + 2)) K3 (by decide))
  clear h3 K3
  obtain ⟨D5, K5, h5⟩ := rst_c (ts := [kT carW, nT 1, nT (W (10 + 3 * 2 + 0)), nT (W (10 + 3 * 2 + 1)), nT (W (10 + 3 * 2 + 2))]) h4 (fun p => ln_car (t := 1) (by omega) (by rw [K4.2.1.2]; decide) (by rw [show (4 : Int) + 1 = 5 from rfl, K4.1.2.2.2.1]; decide) ⟨g _ (by omega) (by omega), c2.1⟩ ⟨g _ (by omega) (by omega), c2.2.1⟩ ⟨g _ (by omega) (by omega), c2.2.2⟩) (kq_car1 (q1 := W (10 + 3 * 2 + 0)) (q2 := W (10 + 3 * 2 + 1)) (q3 := W (10 + 3 * 2 + 2)) K4 (by decide))
  clear h4 K4
  obtain ⟨D6, K6, h6⟩ := rst_c (ts := [kT carW, nT 1, nT (W (10 + 3 * 3 + 0)), nT (W (10 + 3 * 3 + 1)), nT (W (10 + 3 * 3 + 2))]) h5 (fun p => ln_car (t := 1) (by omega) (by rw [K5.2.1.2]; decide) (by rw [show (4 : Int) + 1 = 5 from rfl, K5.1.2.2.2.1]; decide) ⟨g _ (by omega) (by omega), c3.1⟩ ⟨g _ (by omega) (by omega), c3.2.1⟩ ⟨g _ (by omega) (by omega), c3.2.2⟩) (kq_car1 (q1 := W (10 + 3 * 3 + 0)) (q2 := W (10 + 3 * 3 + 1)) (q3 := W (10 + 3 * 3 + 2)) K5 (by decide))
  clear h5 K5
  have m0 := wm 0 (by decide) (by decide)
  have m1 := wm 1 (by decide) (by decide)
  obtain ⟨x0, h7⟩ := rs_m (v := 0) (p1 := W (30 + 2 * 0)) (p2 := W (31 + 2 * 0)) h6 (by rw [K6.1.2.2.2.2.1]; decide) (by rw [K6.1.2.2.2.2.1, fnd_0]; decide) ⟨g _ (by omega) (by omega), m0.1⟩ ⟨g _ (by omega) (by omega), m0.2.1⟩
  have K7 := kq_mea0 (w := mV 0) (x := x0) (q1 := W (30 + 2 * 0)) (q2 := W (31 + 2 * 0)) K6 rfl
  clear h6 K6
  revert h7 K7
  generalize meX D6 (mV 0) x0 (W (30 + 2 * 0)) (W (31 + 2 * 0)) = D7
  intro h7 K7
  obtain ⟨x1, h8⟩ := rs_m (v := 1) (p1 := W (30 + 2 * 1)) (p2 := W (31 + 2 * 1)) h7 (by rw [K7.1.2.2.2.2.1]; decide) (by rw [K7.1.2.2.2.2.1, fnd_1 (by rw [K7.2.2.1.1]; exact tea_kw.2.2.1)]; decide) ⟨g _ (by omega) (by omega), m1.1⟩ ⟨g _ (by omega) (by omega), m1.2.1⟩
  have K8 := kq_mea1 (w := mV 1) (x := x1) (q1 := W (30 + 2 * 1)) (q2 := W (31 + 2 * 1)) K7 rfl
  clear h7 K7
  revert h8 K8
  generalize meX D7 (mV 1) x1 (W (30 + 2 * 1)) (W (31 + 2 * 1)) = D8
  intro h8 K8
  obtain ⟨D9, K9, h9⟩ := rst_c (ts := [kT kitW, nT (W (40 + 0))]) h8 (fun p => ln_kit (by rw [K8.1.2.2.2.2.2.1]; decide) ⟨g _ (by omega) (by omega), m0.2.2⟩) (kq_kit (q1 := W (40 + 0)) K8 (by decide))
  clear h8 K8
  obtain ⟨D10, K10, h10⟩ := rst_c (ts := [kT stoW, nT 0, mT 0, nT (W (42 + 2 * 0 + 0))]) h9 (fun p => ln_sto (c := 0) (i := 0) (by rw [K9.1.2.2.2.2.2.1]; decide) (fnK 0 K9) (by decide) (by rw [show (4 : Int) * 0 + 0 = 0 from rfl]; exact K9.2.2.2.1) (w0 _ (by omega) (by omega))) (kq_sto0 (q1 := W (42 + 2 * 0 + 0)) K9)
  clear h9 K9
  obtain ⟨D11, K11, h11⟩ := rst_c (ts := [kT stoW, nT 0, mT 1, nT (W (42 + 2 * 0 + 1))]) h10 (fun p => ln_sto (c := 0) (i := 1) (by rw [K10.1.2.2.2.2.2.1]; decide) (fnK 1 K10) (by decide) (by rw [show (4 : Int) * 0 + 1 = 1 from rfl]; exact K10.2.2.2.2.1) (w0 _ (by omega) (by omega))) (kq_sto1 (q1 := W (42 + 2 * 0 + 1)) K10)
  clear h10 K10
  obtain ⟨D12, K12, h12⟩ := rst_c (ts := [kT kitW, nT (W (40 + 1))]) h11 (fun p => ln_kit (by rw [K11.1.2.2.2.2.2.1]; decide) ⟨g _ (by omega) (by omega), m1.2.2⟩) (kq_kit (q1 := W (40 + 1)) K11 (by decide))
  clear h11 K11
  obtain ⟨D13, K13, h13⟩ := rst_c (ts := [kT stoW, nT 1, mT 0, nT (W (42 + 2 * 1 + 0))]) h12 (fun p => ln_sto (c := 1) (i := 0) (by rw [K12.1.2.2.2.2.2.1]; decide) (fnK 0 K12) (by decide) (by rw [show (4 : Int) * 1 + 0 = 4 from rfl]; exact K12.2.2.2.2.2.1) (w0 _ (by omega) (by omega))) (kq_sto4 (q1 := W (42 + 2 * 1 + 0)) K12)
  clear h12 K12
  obtain ⟨D14, K14, h14⟩ := rst_c (ts := [kT stoW, nT 1, mT 1, nT (W (42 + 2 * 1 + 1))]) h13 (fun p => ln_sto (c := 1) (i := 1) (by rw [K13.1.2.2.2.2.2.1]; decide) (fnK 1 K13) (by decide) (by rw [show (4 : Int) * 1 + 1 = 5 from rfl]; exact K13.2.2.2.2.2.2) (w0 _ (by omega) (by omega))) (kq_sto5 (q1 := W (42 + 2 * 1 + 1)) K13)
  clear h13 K13
  have y0 := wy 0 (by decide) (by decide)
  have y1 := wy 1 (by decide) (by decide)
  have y2 := wy 2 (by decide) (by decide)
  obtain ⟨D15, K15, h15⟩ := rst_c (ts := [kT troW, nT (W (50 + 5 * 0 + 0)), nT (W (50 + 5 * 0 + 1)), nT (W (50 + 5 * 0 + 2)), nT (W (50 + 5 * 0 + 3)), nT (W (50 + 5 * 0 + 4))]) h14 (fun p => ln_tro (by rw [K14.1.2.2.2.2.2.2.1]; decide) ⟨g _ (by omega) (by omega), by rw [K14.1.2.2.2.2.2.1]; show W (50 + 5 * 0 + 0) ≤ 1; omega, by omega⟩ ⟨y0.2.1, y0.2.2.1⟩ ⟨y0.2.2.2.1, y0.2.2.2.2.1⟩ ⟨y0.2.2.2.2.2.1, y0.2.2.2.2.2.2.1⟩ ⟨y0.2.2.2.2.2.2.2.1, y0.2.2.2.2.2.2.2.2⟩) (kq_tro0 (k0 := W (50 + 5 * 0 + 0)) (q0 := W (50 + 5 * 0 + 1)) (v0 := W (50 + 5 * 0 + 2)) (l0 := W (50 + 5 * 0 + 3)) (w0 := W (50 + 5 * 0 + 4)) K14 rfl)
  clear h14 K14
  obtain ⟨D16, K16, h16⟩ := rst_c (ts := [kT troW, nT (W (50 + 5 * 1 + 0)), nT (W (50 + 5 * 1 + 1)), nT (W (50 + 5 * 1 + 2)), nT (W (50 + 5 * 1 + 3)), nT (W (50 + 5 * 1 + 4))]) h15 (fun p => ln_tro (by rw [K15.1.2.2.2.2.2.2.1]; decide) ⟨g _ (by omega) (by omega), by rw [K15.1.2.2.2.2.2.1]; show W (50 + 5 * 1 + 0) ≤ 1; omega, by omega⟩ ⟨y1.2.1, y1.2.2.1⟩ ⟨y1.2.2.2.1, y1.2.2.2.2.1⟩ ⟨y1.2.2.2.2.2.1, y1.2.2.2.2.2.2.1⟩ ⟨y1.2.2.2.2.2.2.2.1, y1.2.2.2.2.2.2.2.2⟩) (kq_tro1 (k0 := W (50 + 5 * 1 + 0)) (q0 := W (50 + 5 * 1 + 1)) (v0 := W (50 + 5 * 1 + 2)) (l0 := W (50 + 5 * 1 + 3)) (w0 := W (50 + 5 * 1 + 4)) K15 rfl)
  clear h15 K15
  obtain ⟨D17, K17, h17⟩ := rst_c (ts := [kT troW, nT (W (50 + 5 * 2 + 0)), nT (W (50 + 5 * 2 + 1)), nT (W (50 + 5 * 2 + 2)), nT (W (50 + 5 * 2 + 3)), nT (W (50 + 5 * 2 + 4))]) h16 (fun p => ln_tro (by rw [K16.1.2.2.2.2.2.2.1]; decide) ⟨g _ (by omega) (by omega), by rw [K16.1.2.2.2.2.2.1]; show W (50 + 5 * 2 + 0) ≤ 1; omega, by omega⟩ ⟨y2.2.1, y2.2.2.1⟩ ⟨y2.2.2.2.1, y2.2.2.2.2.1⟩ ⟨y2.2.2.2.2.2.1, y2.2.2.2.2.2.2.1⟩ ⟨y2.2.2.2.2.2.2.2.1, y2.2.2.2.2.2.2.2.2⟩) (kq_tro2 (k0 := W (50 + 5 * 2 + 0)) (q0 := W (50 + 5 * 2 + 1)) (v0 := W (50 + 5 * 2 + 2)) (l0 := W (50 + 5 * 2 + 3)) (w0 := W (50 + 5 * 2 + 4)) K16 rfl)
  clear h16 K16
  refine rd_jobs hW k 0 _ _ ⟨⟨K17.1.1.trans rfl, K17.1.2.1.trans rfl, K17.1.2.2.1, K17.1.2.2.2.1, K17.1.2.2.2.2.1, K17.1.2.2.2.2.2.1, K17.1.2.2.2.2.2.2.1, K17.1.2.2.2.2.2.2.2.1, K17.1.2.2.2.2.2.2.2.2.1, K17.1.2.2.2.2.2.2.2.2.2.1, K17.1.2.2.2.2.2.2.2.2.2.2⟩, K17.2.1, K17.2.2.1⟩ (Int.le_refl _) h17 (by omega) (by omega)
end PLN
