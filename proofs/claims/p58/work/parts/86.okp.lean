/-! ===== plans that changes leave are sound ===== -/
section OKs
variable {ρ : Rf} {μ μ0 : Mem} {σ : Sg} {p q : Pl}
theorem drop_cnt {r i : Int} (hr : 0 ≤ r ∧ r < p 87) : cnt (pDrop p r) i ≤ cnt p i := by
  have e87 : pDrop p r 87 = p 87 - 1 := drop_87
  have A : ∀ m, 0 ≤ m → m ≤ r → m ≤ p 87 - 1 → owC (pDrop p r) i m = owC p i m := by
    intro m m0
    refine i_ind (P := fun m => m ≤ r → m ≤ p 87 - 1 → owC (pDrop p r) i m = owC p i m) (fun _ _ => rfl) (fun x x0 ih h1 h2 => ?_) m m0
    rw [owC_s x0, owC_s x0, ih (by omega) (by omega), drop_j hr.1 x0 (by omega) (by omega), show (if x < r then x else x + 1) = x from if_pos (by omega)]
  have B : ∀ d, 0 ≤ d → r + d ≤ p 87 - 1 → owC (pDrop p r) i (r + d) ≤ owC p i (r + d + 1) := by
    intro d d0
    refine i_ind (P := fun d => r + d ≤ p 87 - 1 → owC (pDrop p r) i (r + d) ≤ owC p i (r + d + 1)) (fun h => ?_) (fun x x0 ih h => ?_) d d0
    · rw [Int.add_zero, A r hr.1 (Int.le_refl _) (by omega)]
      exact owC_m hr.1 (by omega)
    · have e := owC_s (p := pDrop p r) (i := i) (m := r + x) (by omega)
      have e2 := owC_s (p := p) (i := i) (m := r + x + 1) (by omega)
      rw [drop_j hr.1 (by omega) (by omega) (by omega), show (if r + x < r then r + x else r + x + 1) = r + x + 1 from if_neg (by omega)] at e
      have := ih (by omega)
      rw [show r + (x + 1) = r + x + 1 by omega, e, e2]
      omega
  have := B (p 87 - 1 - r) (by omega) (by omega)
  show owC (pDrop p r) i (pDrop p r 87) ≤ owC p i (p 87)
  rw [e87]
  rw [show r + (p 87 - 1 - r) = p 87 - 1 by omega, show p 87 - 1 + 1 = p 87 by omega] at this
  exact this
theorem drop_OKP (ho : OKP p) {r : Int} (hr : 0 ≤ r ∧ r < p 87) : OKP (pDrop p r) := by
  have n := ho.1.n
  refine ⟨drop_PV ho.1 hr, by rw [drop_lo hr.1 (by omega)]; exact ho.2.1, by rw [drop_lo hr.1 (by omega)]; exact ho.2.2.1, fun i => ?_, fun k hk => ?_⟩
  · have := drop_cnt (p := p) (i := i) hr
    have := ho.2.2.2.1 i
    omega
  · unfold pDrop
    rw [if_neg (by omega), if_neg (by omega)]
    exact ho.2.2.2.2 k hk
theorem add_cnt {i t c m v x : Int} (hn : 0 ≤ p 87) : cnt (pAdd p i t c m v) x = cnt p x + if i = x then 1 else 0 := by
  show owC (pAdd p i t c m v) x (pAdd p i t c m v 87) = owC p x (p 87) + _
  rw [add_87, owC_s hn, (add_new hn).1]
  have : owC (pAdd p i t c m v) x (p 87) = owC p x (p 87) := s_Ic hn (fun j j0 j1 => by rw [pAdd_o (by omega) hn])
  rw [this]
theorem add_OKP (ho : OKP p) {i t c m v : Int} (hn : p 87 < 20) (hk : cnt p i < 8) (hi : 0 ≤ i ∧ i < p 61) (ht : 0 ≤ t ∧ t < 2) (hc : 0 ≤ c ∧ c < p (4 + t)) (hm : 0 ≤ m ∧ m < p 36) (h0 : 1 ≤ v ∧ v ≤ 99) : OKP (pAdd p i t c m v) := by
  have n := ho.1.n
  refine ⟨add_PV ho.1 hn hi ht hc hm h0, by rw [pAdd_o (by omega) (by omega)]; exact ho.2.1, by rw [pAdd_o (by omega) (by omega)]; exact ho.2.2.1, fun x => ?_, fun k hk2 => ?_⟩
  · rw [add_cnt (by omega)]
    have := ho.2.2.2.1 x
    split
    · rename_i e; rw [← e]; omega
    · omega
  · unfold pAdd
    rw [u1_n (by omega), u1_n (by omega), u1_n (by omega), u1_n (by omega), u1_n (by omega), u1_n (by omega)]
    exact ho.2.2.2.2 k hk2
theorem swap_cnt {a b i : Int} (ha : 0 ≤ a ∧ a < p 87) (hb : 0 ≤ b ∧ b < p 87) (hab : a ≠ b) : cnt (pSwap p a b) i = cnt p i := by
  have e87 : pSwap p a b 87 = p 87 := swap_o ha.1 hb.1 (by omega)
  have A : ∀ m, 0 ≤ m → owC (pSwap p a b) i m = owC p i m + (if a < m then (if p (88 + 5 * b + 0) = i then 1 else 0) - (if p (88 + 5 * a + 0) = i then 1 else 0) else 0) + (if b < m then (if p (88 + 5 * a + 0) = i then 1 else 0) - (if p (88 + 5 * b + 0) = i then 1 else 0) else 0) := by
    refine i_ind ?_ (fun m m0 ih => ?_)
    · rw [if_neg (by omega), if_neg (by omega)]
      rfl
    · rw [owC_s m0, owC_s m0, ih, swap_j (by omega)]
      by_cases c1 : m = a
      · subst c1
        rw [if_pos rfl, if_neg (show ¬ m < m by omega), if_pos (show m < m + 1 by omega)]
        by_cases c2 : b < m
        · rw [if_pos c2, if_pos (show b < m + 1 by omega)]; omega
        · rw [if_neg c2, if_neg (show ¬ b < m + 1 by omega)]; omega
      · rw [if_neg c1]
        by_cases c3 : m = b
        · subst c3
          rw [if_pos rfl, if_neg (show ¬ m < m by omega), if_pos (show m < m + 1 by omega)]
          by_cases c2 : a < m
          · rw [if_pos c2, if_pos (show a < m + 1 by omega)]; omega
          · rw [if_neg c2, if_neg (show ¬ a < m + 1 by omega)]; omega
        · rw [if_neg c3]
          by_cases c2 : a < m
          · rw [if_pos c2, if_pos (show a < m + 1 by omega)]
            by_cases c4 : b < m
            · rw [if_pos c4, if_pos (show b < m + 1 by omega)]; omega
            · rw [if_neg c4, if_neg (show ¬ b < m + 1 by omega)]; omega
          · rw [if_neg c2, if_neg (show ¬ a < m + 1 by omega)]
            by_cases c4 : b < m
            · rw [if_pos c4, if_pos (show b < m + 1 by omega)]; omega
            · rw [if_neg c4, if_neg (show ¬ b < m + 1 by omega)]; omega
  have := A (p 87) (by omega)
  rw [if_pos ha.2, if_pos hb.2] at this
  show owC (pSwap p a b) i (pSwap p a b 87) = owC p i (p 87)
  rw [e87, this]
  omega
theorem swap_OKP (ho : OKP p) {a b : Int} (ha : 0 ≤ a ∧ a < p 87) (hb : 0 ≤ b ∧ b < p 87) (hab : a ≠ b) : OKP (pSwap p a b) := by
  have n := ho.1.n
  refine ⟨swap_PV ho.1 ha hb, by rw [swap_o ha.1 hb.1 (by omega)]; exact ho.2.1, by rw [swap_o ha.1 hb.1 (by omega)]; exact ho.2.2.1, fun i => by rw [swap_cnt ha hb hab]; exact ho.2.2.2.1 i, fun k hk => ?_⟩
  unfold pSwap
  rw [if_neg (by omega), if_neg (by omega)]
  exact ho.2.2.2.2 k hk
end OKs
