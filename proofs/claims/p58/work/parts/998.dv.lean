/-! ===== a line keeps the draft within bounds ===== -/
section DVs
variable {b : Int → Int} {n : Int} {T : Tk} {D : Sg}
theorem tr_DV {t a d : Int} (hv : DV b D) (ht : 0 ≤ t ∧ t < 2) (ha : 0 ≤ a ∧ a ≤ 900) (hd : a ≤ d ∧ d ≤ 999) : DV b (trX D t a d) := by
  have cb := hv.2.2.2.2.2.2.2.1
  have e1 : (trX D t a d) 1 = u1 (u1 (D 1) (0 + t) a) (2 + t) d := rfl
  have e4 : (trX D t a d) 4 = u1 (D 4) t 1 := rfl
  refine ⟨?_, ?_, ?_, ?_, ?_, ?_, ?_, ?_, ?_, ?_, ?_⟩
  · intro x x0 x1
    have q := hv.1 x x0 x1
    rw [e1, e4]
    by_cases e : x = t
    · subst e
      simp (disch := omega) only [u1_n, u1_s]
      exact ⟨q.1, q.2.1, fun _ => ⟨ha.1, ha.2, hd.1, hd.2⟩⟩
    · simp (disch := omega) only [u1_n]
      exact q
  · intro t t0 t1 c c0 c1
    have z := hv.1 t t0 t1
    rw [e1] at c1 ⊢
    simp (disch := omega) only [u1_n] at c1
    simp (disch := omega) only [u1_n]
    exact hv.2.1 t t0 t1 c c0 c1
  · intro m m0 m1
    rw [e1] at m1 ⊢
    simp (disch := omega) only [u1_n] at m1
    simp (disch := omega) only [u1_n]
    exact hv.2.2.1 m m0 m1
  · intro k k0 k1
    rw [e1] at k1 ⊢
    simp (disch := omega) only [u1_n] at k1
    simp (disch := omega) only [u1_n]
    exact hv.2.2.2.1 k k0 k1
  · intro k k0 k1
    rw [e1]
    simp (disch := omega) only [u1_n]
    exact hv.2.2.2.2.1 k k0 k1
  · intro i i0 i1
    rw [e1] at i1 ⊢
    simp (disch := omega) only [u1_n] at i1
    simp (disch := omega) only [u1_n]
    exact hv.2.2.2.2.2.1 i i0 i1
  · intro j j0 j1
    rw [e1] at j1 ⊢
    simp (disch := omega) only [u1_n] at j1
    have q := hv.2.2.2.2.2.2.1 j j0 j1
    simp (disch := omega) only [u1_n]
    exact q
  · rw [e1]
    simp (disch := omega) only [u1_n]
    exact cb
  · intro y
    rw [show cnt ((trX D t a d) 1) y = cnt (D 1) y from cnt_e (by rw [e1]; simp (disch := omega) only [u1_n]) (by omega) (fun j j0 j1 => by rw [e1]; simp (disch := omega) only [u1_n]) y]
    exact hv.2.2.2.2.2.2.2.2.1 y
  · intro k hk
    rw [e1]
    simp (disch := omega) only [u1_n]
    exact hv.2.2.2.2.2.2.2.2.2.1 k hk
  · intro m m0 m1
    rw [e1] at m1
    simp (disch := omega) only [u1_n] at m1
    exact hv.2.2.2.2.2.2.2.2.2.2 m m0 m1
theorem ca_DV {t p q r : Int} (hv : DV b D) (ht : 0 ≤ t ∧ t < 2) (hl : D 1 (4 + t) < 5) (hp : 0 ≤ p ∧ p ≤ 99) (hq : 0 ≤ q ∧ q ≤ 99) (hr : 0 ≤ r ∧ r ≤ 99) : DV b (caX D t p q r) := by
  have cb := hv.2.2.2.2.2.2.2.1
  have e1 : (caX D t p q r) 1 = u1 (u1 (u1 (u1 (D 1) (6 + (5 * t + D 1 (4 + t))) p) (16 + (5 * t + D 1 (4 + t))) q) (26 + (5 * t + D 1 (4 + t))) r) (4 + t) (D 1 (4 + t) + 1) := rfl
  have e4 : (caX D t p q r) 4 = D 4 := rfl
  refine ⟨?_, ?_, ?_, ?_, ?_, ?_, ?_, ?_, ?_, ?_, ?_⟩
  · intro x x0 x1
    have z := hv.1 x x0 x1
    have zt := hv.1 t ht.1 ht.2
    rw [e1, e4]
    by_cases e : x = t
    · subst e
      simp (disch := omega) only [u1_n, u1_s]
      exact ⟨by omega, by omega, z.2.2⟩
    · simp (disch := omega) only [u1_n]
      exact z
  · intro x x0 x1 c c0 c1
    have z := hv.1 x x0 x1
    have zt := hv.1 t ht.1 ht.2
    rw [e1] at c1 ⊢
    by_cases e : x = t
    · subst e
      rw [u1_s] at c1
      by_cases ec : c = D 1 (4 + x)
      · have g1 : 6 + 5 * x + c = 6 + (5 * x + D 1 (4 + x)) := by omega
        have g2 : 5 * x + c = 5 * x + D 1 (4 + x) := by omega
        rw [g1, g2]
        simp (disch := omega) only [u1_n, u1_s]
        exact ⟨hp.1, hp.2, hq.1, hq.2, hr.1, hr.2⟩
      · simp (disch := omega) only [u1_n]
        exact hv.2.1 x x0 x1 c c0 (by omega)
    · simp (disch := omega) only [u1_n] at c1
      simp (disch := omega) only [u1_n]
      exact hv.2.1 x x0 x1 c c0 c1
  · intro m m0 m1
    have zt := hv.1 t ht.1 ht.2
    rw [e1] at m1 ⊢
    simp (disch := omega) only [u1_n] at m1
    simp (disch := omega) only [u1_n]
    exact hv.2.2.1 m m0 m1
  · intro k k0 k1
    have zt := hv.1 t ht.1 ht.2
    rw [e1] at k1 ⊢
    simp (disch := omega) only [u1_n] at k1
    simp (disch := omega) only [u1_n]
    exact hv.2.2.2.1 k k0 k1
  · intro k k0 k1
    have zt := hv.1 t ht.1 ht.2
    rw [e1]
    simp (disch := omega) only [u1_n]
    exact hv.2.2.2.2.1 k k0 k1
  · intro i i0 i1
    have zt := hv.1 t ht.1 ht.2
    rw [e1] at i1 ⊢
    simp (disch := omega) only [u1_n] at i1
    simp (disch := omega) only [u1_n]
    exact hv.2.2.2.2.2.1 i i0 i1
  · intro j j0 j1
    have zt := hv.1 t ht.1 ht.2
    rw [e1] at j1 ⊢
    simp (disch := omega) only [u1_n] at j1
    have z := hv.2.2.2.2.2.2.1 j j0 j1
    by_cases e : D 1 (88 + 5 * j + 1) = t
    · simp (disch := omega) only [u1_n]
      rw [e, u1_s]
      rw [e] at z
      exact ⟨z.1, z.2.1, z.2.2.1, z.2.2.2.1, z.2.2.2.2.1, by omega, z.2.2.2.2.2.2⟩
    · simp (disch := omega) only [u1_n]
      exact z
  · have zt := hv.1 t ht.1 ht.2
    rw [e1]
    simp (disch := omega) only [u1_n]
    exact cb
  · intro i
    have zt := hv.1 t ht.1 ht.2
    rw [show cnt ((caX D t p q r) 1) i = cnt (D 1) i from cnt_e (by rw [e1]; simp (disch := omega) only [u1_n]) (by omega) (fun j j0 j1 => by rw [e1]; simp (disch := omega) only [u1_n]) i]
    exact hv.2.2.2.2.2.2.2.2.1 i
  · intro k hk
    have zt := hv.1 t ht.1 ht.2
    rw [e1]
    simp (disch := omega) only [u1_n]
    exact hv.2.2.2.2.2.2.2.2.2.1 k hk
  · intro m m0 m1
    have zt := hv.1 t ht.1 ht.2
    rw [e1] at m1
    simp (disch := omega) only [u1_n] at m1
    exact hv.2.2.2.2.2.2.2.2.2.2 m m0 m1
theorem me_DV {w x p q : Int} (hv : DV b D) (hl : D 1 36 < 4) (hp : 0 ≤ p ∧ p ≤ 20) (hq : 0 ≤ q ∧ q ≤ 20) (hw : WOK b w x) : DV b (meX D w x p q) := by
  have cb := hv.2.2.2.2.2.2.2.1
  have e1 : (meX D w x p q) 1 = u1 (u1 (u1 (D 1) (37 + D 1 36) p) (41 + D 1 36) q) 36 (D 1 36 + 1) := rfl
  have e4 : (meX D w x p q) 4 = D 4 := rfl
  refine ⟨?_, ?_, ?_, ?_, ?_, ?_, ?_, ?_, ?_, ?_, ?_⟩
  · intro t t0 t1
    have q := hv.1 t t0 t1
    rw [e1, e4]
    simp (disch := omega) only [u1_n]
    exact q
  · intro t t0 t1 c c0 c1
    have z := hv.1 t t0 t1
    rw [e1] at c1 ⊢
    simp (disch := omega) only [u1_n] at c1
    simp (disch := omega) only [u1_n]
    exact hv.2.1 t t0 t1 c c0 c1
  · intro m m0 m1
    rw [e1] at m1 ⊢
    rw [u1_s] at m1
    by_cases e : m = D 1 36
    · rw [e]
      simp (disch := omega) only [u1_n, u1_s]
      exact ⟨hp.1, hp.2, hq.1, hq.2⟩
    · simp (disch := omega) only [u1_n]
      exact hv.2.2.1 m m0 (by omega)
  · intro k k0 k1
    rw [e1] at k1 ⊢
    simp (disch := omega) only [u1_n] at k1
    simp (disch := omega) only [u1_n]
    exact hv.2.2.2.1 k k0 k1
  · intro k k0 k1
    rw [e1]
    simp (disch := omega) only [u1_n]
    exact hv.2.2.2.2.1 k k0 k1
  · intro i i0 i1
    rw [e1] at i1 ⊢
    simp (disch := omega) only [u1_n] at i1
    simp (disch := omega) only [u1_n]
    exact hv.2.2.2.2.2.1 i i0 i1
  · intro j j0 j1
    rw [e1] at j1 ⊢
    simp (disch := omega) only [u1_n] at j1
    have z := hv.2.2.2.2.2.2.1 j j0 j1
    simp (disch := omega) only [u1_n, u1_s]
    exact ⟨z.1, z.2.1, z.2.2.1, z.2.2.2.1, z.2.2.2.2.1, z.2.2.2.2.2.1, z.2.2.2.2.2.2.1, by omega, z.2.2.2.2.2.2.2.2⟩
  · rw [e1]
    simp (disch := omega) only [u1_n, u1_s]
    omega
  · intro y
    rw [show cnt ((meX D w x p q) 1) y = cnt (D 1) y from cnt_e (by rw [e1]; simp (disch := omega) only [u1_n]) (by omega) (fun j j0 j1 => by rw [e1]; simp (disch := omega) only [u1_n]) y]
    exact hv.2.2.2.2.2.2.2.2.1 y
  · intro k hk
    rw [e1]
    simp (disch := omega) only [u1_n]
    exact hv.2.2.2.2.2.2.2.2.2.1 k hk
  · intro m m0 m1
    rw [e1, u1_s] at m1
    show WOK b (u1 (D 2) (D 1 36) w m) (u1 (D 3) (D 1 36) x m)
    by_cases e : m = D 1 36
    · rw [e, u1_s, u1_s]; exact hw
    · rw [u1_n e, u1_n e]; exact hv.2.2.2.2.2.2.2.2.2.2 m m0 (by omega)
theorem ki_DV {p : Int} (hv : DV b D) (hl : D 1 45 < 3) (hp : 0 ≤ p ∧ p ≤ 99) : DV b (kiX D p) := by
  have cb := hv.2.2.2.2.2.2.2.1
  have e1 : (kiX D p) 1 = u1 (u1 (D 1) (46 + D 1 45) p) 45 (D 1 45 + 1) := rfl
  have e4 : (kiX D p) 4 = D 4 := rfl
  refine ⟨?_, ?_, ?_, ?_, ?_, ?_, ?_, ?_, ?_, ?_, ?_⟩
  · intro t t0 t1
    have q := hv.1 t t0 t1
    rw [e1, e4]
    simp (disch := omega) only [u1_n]
    exact q
  · intro t t0 t1 c c0 c1
    have z := hv.1 t t0 t1
    rw [e1] at c1 ⊢
    simp (disch := omega) only [u1_n] at c1
    simp (disch := omega) only [u1_n]
    exact hv.2.1 t t0 t1 c c0 c1
  · intro m m0 m1
    rw [e1] at m1 ⊢
    simp (disch := omega) only [u1_n] at m1
    simp (disch := omega) only [u1_n]
    exact hv.2.2.1 m m0 m1
  · intro m m0 m1
    rw [e1] at m1 ⊢
    rw [u1_s] at m1
    by_cases e : m = D 1 45
    · rw [e]
      simp (disch := omega) only [u1_n, u1_s]
      exact hp
    · simp (disch := omega) only [u1_n]
      exact hv.2.2.2.1 m m0 (by omega)
  · intro k k0 k1
    rw [e1]
    simp (disch := omega) only [u1_n]
    exact hv.2.2.2.2.1 k k0 k1
  · intro i i0 i1
    rw [e1] at i1 ⊢
    simp (disch := omega) only [u1_n] at i1
    have z := hv.2.2.2.2.2.1 i i0 i1
    simp (disch := omega) only [u1_n, u1_s]
    exact ⟨z.1, by omega, z.2.2⟩
  · intro j j0 j1
    rw [e1] at j1 ⊢
    simp (disch := omega) only [u1_n] at j1
    have q := hv.2.2.2.2.2.2.1 j j0 j1
    simp (disch := omega) only [u1_n]
    exact q
  · rw [e1]
    simp (disch := omega) only [u1_n, u1_s]
    omega
  · intro y
    rw [show cnt ((kiX D p) 1) y = cnt (D 1) y from cnt_e (by rw [e1]; simp (disch := omega) only [u1_n]) (by omega) (fun j j0 j1 => by rw [e1]; simp (disch := omega) only [u1_n]) y]
    exact hv.2.2.2.2.2.2.2.2.1 y
  · intro k hk
    rw [e1]
    simp (disch := omega) only [u1_n]
    exact hv.2.2.2.2.2.2.2.2.2.1 k hk
  · intro m m0 m1
    rw [e1] at m1
    simp (disch := omega) only [u1_n] at m1
    exact hv.2.2.2.2.2.2.2.2.2.2 m m0 m1
theorem st_DV {i q : Int} (hv : DV b D) (hi : 0 ≤ i ∧ i < 12) (hq : 0 ≤ q ∧ q ≤ 999) : DV b (stX D i q) := by
  have cb := hv.2.2.2.2.2.2.2.1
  have e1 : (stX D i q) 1 = u1 (D 1) (49 + i) q := rfl
  have e4 : (stX D i q) 4 = D 4 := rfl
  refine ⟨?_, ?_, ?_, ?_, ?_, ?_, ?_, ?_, ?_, ?_, ?_⟩
  · intro t t0 t1
    have q := hv.1 t t0 t1
    rw [e1, e4]
    simp (disch := omega) only [u1_n]
    exact q
  · intro t t0 t1 c c0 c1
    have z := hv.1 t t0 t1
    rw [e1] at c1 ⊢
    simp (disch := omega) only [u1_n] at c1
    simp (disch := omega) only [u1_n]
    exact hv.2.1 t t0 t1 c c0 c1
  · intro m m0 m1
    rw [e1] at m1 ⊢
    simp (disch := omega) only [u1_n] at m1
    simp (disch := omega) only [u1_n]
    exact hv.2.2.1 m m0 m1
  · intro k k0 k1
    rw [e1] at k1 ⊢
    simp (disch := omega) only [u1_n] at k1
    simp (disch := omega) only [u1_n]
    exact hv.2.2.2.1 k k0 k1
  · intro k k0 k1
    rw [e1]
    by_cases e : k = i
    · rw [e, u1_s]; exact hq
    · simp (disch := omega) only [u1_n]
      exact hv.2.2.2.2.1 k k0 k1
  · intro i i0 i1
    rw [e1] at i1 ⊢
    simp (disch := omega) only [u1_n] at i1
    simp (disch := omega) only [u1_n]
    exact hv.2.2.2.2.2.1 i i0 i1
  · intro j j0 j1
    rw [e1] at j1 ⊢
    simp (disch := omega) only [u1_n] at j1
    have q := hv.2.2.2.2.2.2.1 j j0 j1
    simp (disch := omega) only [u1_n]
    exact q
  · rw [e1]
    simp (disch := omega) only [u1_n]
    exact cb
  · intro y
    rw [show cnt ((stX D i q) 1) y = cnt (D 1) y from cnt_e (by rw [e1]; simp (disch := omega) only [u1_n]) (by omega) (fun j j0 j1 => by rw [e1]; simp (disch := omega) only [u1_n]) y]
    exact hv.2.2.2.2.2.2.2.2.1 y
  · intro k hk
    rw [e1]
    simp (disch := omega) only [u1_n]
    exact hv.2.2.2.2.2.2.2.2.2.1 k hk
  · intro m m0 m1
    rw [e1] at m1
    simp (disch := omega) only [u1_n] at m1
    exact hv.2.2.2.2.2.2.2.2.2.2 m m0 m1
theorem ty_DV {k0 c0 v0 l0 w0 : Int} (hv : DV b D) (hl : D 1 61 < 5) (hk : 0 ≤ k0 ∧ k0 < D 1 45) (hc : 1 ≤ c0 ∧ c0 ≤ 99) (hw : 1 ≤ v0 ∧ v0 ≤ 9) (hx : 1 ≤ l0 ∧ l0 ≤ 5) (hy : 1 ≤ w0 ∧ w0 ≤ 5) : DV b (tyX D k0 c0 v0 l0 w0) := by
  have cb := hv.2.2.2.2.2.2.2.1
  have e1 : (tyX D k0 c0 v0 l0 w0) 1 = u1 (u1 (u1 (u1 (u1 (u1 (D 1) (62 + 5 * D 1 61 + 0) k0) (62 + 5 * D 1 61 + 1) c0) (62 + 5 * D 1 61 + 2) v0) (62 + 5 * D 1 61 + 3) l0) (62 + 5 * D 1 61 + 4) w0) 61 (D 1 61 + 1) := rfl
  have e4 : (tyX D k0 c0 v0 l0 w0) 4 = D 4 := rfl
  refine ⟨?_, ?_, ?_, ?_, ?_, ?_, ?_, ?_, ?_, ?_, ?_⟩
  · intro t t0 t1
    have q := hv.1 t t0 t1
    rw [e1, e4]
    simp (disch := omega) only [u1_n]
    exact q
  · intro t t0 t1 c c0 c1
    have z := hv.1 t t0 t1
    rw [e1] at c1 ⊢
    simp (disch := omega) only [u1_n] at c1
    simp (disch := omega) only [u1_n]
    exact hv.2.1 t t0 t1 c c0 c1
  · intro m m0 m1
    rw [e1] at m1 ⊢
    simp (disch := omega) only [u1_n] at m1
    simp (disch := omega) only [u1_n]
    exact hv.2.2.1 m m0 m1
  · intro k k0 k1
    rw [e1] at k1 ⊢
    simp (disch := omega) only [u1_n] at k1
    simp (disch := omega) only [u1_n]
    exact hv.2.2.2.1 k k0 k1
  · intro k k0 k1
    rw [e1]
    simp (disch := omega) only [u1_n]
    exact hv.2.2.2.2.1 k k0 k1
  · intro i i0 i1
    rw [e1] at i1 ⊢
    rw [u1_s] at i1
    by_cases e : i = D 1 61
    · rw [e]
      simp (disch := omega) only [u1_n, u1_s]
      exact ⟨hk.1, hk.2, hc.1, hc.2, hw.1, hw.2, hx.1, hx.2, hy.1, hy.2⟩
    · simp (disch := omega) only [u1_n]
      exact hv.2.2.2.2.2.1 i i0 (by omega)
  · intro j j0 j1
    rw [e1] at j1 ⊢
    simp (disch := omega) only [u1_n] at j1
    have z := hv.2.2.2.2.2.2.1 j j0 j1
    simp (disch := omega) only [u1_n, u1_s]
    exact ⟨z.1, by omega, z.2.2⟩
  · rw [e1]
    simp (disch := omega) only [u1_n, u1_s]
    omega
  · intro y
    rw [show cnt ((tyX D k0 c0 v0 l0 w0) 1) y = cnt (D 1) y from cnt_e (by rw [e1]; simp (disch := omega) only [u1_n]) (by omega) (fun j j0 j1 => by rw [e1]; simp (disch := omega) only [u1_n]) y]
    exact hv.2.2.2.2.2.2.2.2.1 y
  · intro k hk
    rw [e1]
    simp (disch := omega) only [u1_n]
    exact hv.2.2.2.2.2.2.2.2.2.1 k hk
  · intro m m0 m1
    rw [e1] at m1
    simp (disch := omega) only [u1_n] at m1
    exact hv.2.2.2.2.2.2.2.2.2.2 m m0 m1
end DVs
