section CPQ
variable {ρ : Rf} {μ μ0 : Mem} {b : Int → Int} {n : Int} {T : Tk} {f s : Nat} {D : Sg}
theorem k_clearS {o : Nat} (ho : isO 6 o) : qE mX6_clear GG GG [qP o] ρ μ (fun _ ρ' μ' => ρ' = ρ ∧ FR o (o + 6) μ μ' ∧ (∀ k, 0 ≤ k → k < 12 → μ' (o + 6) k = 0) ∧ μ' o 6 = 0) := by
  refine e_X6_clear ho ?_
  intro μ1 eμ1; subst eμ1
  refine ⟨_, k_fill (ar6_5 ho) (by omega), ?_⟩
  rintro z2 ρ3 μ4 ⟨hq2_1, hq2_2⟩
  obtain rfl := hq2_1.symm
  obtain rfl := hq2_2.symm
  exact ⟨rfl, FR.fil (FR.up FR.refl (by omega)) (by omega), fun k k0 k1 => filM_s ⟨k0, by omega⟩, by rw [filM_c (by omega), up2_s]⟩
theorem rd_s {x : Int} : rdT b n D (0, -1, x, 0) = rdT b n D T0 ∧ rdS b n D (0, -1, x, 0) = rdS b n D T0 := by
  have e : fTk b n (0, -1, x, 0) = fTk b n T0 := by rw [fTk_o rfl, fTk_o rfl]; rfl
  unfold rdT rdS
  rw [e]
  exact ⟨rfl, rfl⟩
theorem lns_s {x : Int} {m : Nat} : lns b n (m + 1) D (0, -1, x, 0) = lns b n (m + 1) D T0 := by
  show (if _ then _ else _ : Sg × Tk) = (if _ then _ else _ : Sg × Tk)
  rw [rd_s.1, rd_s.2]
theorem lns_u {m m' : Nat} (ht : TOK n T) (hc : T.1 = 0) (h : (n - T.2.2.2).toNat < m) (h' : (n - T.2.2.2).toNat < m') : lns b n m D T = lns b n m' D T := by
  have L : ∀ (m m' : Nat) (D : Sg) (T : Tk), TOK n T → T.1 = 0 → (n - T.2.2.2).toNat < m → (n - T.2.2.2).toNat < m' → lns b n m D T = lns b n m' D T := by
    intro m
    induction m with
    | zero => intro m' D T ht hc h; omega
    | succ m ih =>
      intro m' D T ht hc h h'
      cases m' with
      | zero => omega
      | succ m' =>
        have l := rd_LE (b := b) (D := D) ht
        have tb := tok_b (b := b) l.1.2.1
        show (if _ then _ else _ : Sg × Tk) = (if _ then _ else _ : Sg × Tk)
        by_cases c : (rdT b n D T).1 = 0 ∧ tK b n (rdT b n D T).2.2.2 = 3
        · rw [if_pos c, if_pos c]
          have p1 := (tb.2.2.2.2.2.1 (by omega)).1
          have e : (fTk b n (rdT b n D T)).2.2.2 = tN b n (rdT b n D T).2.2.2 := by rw [fTk_o c.1]
          have p2 : T.2.2.2 ≤ (fTk b n T).2.2.2 := (LE.tk (b := b) (LE.refl ht)).2
          exact ih m' _ _ (fTk_t l.1) (by rw [fTk_1]; exact c.1) (by have := l.2; omega) (by have := l.2; omega)
        · rw [if_neg c, if_neg c]
  exact L m m' D T ht hc h h'
theorem k_parse (hb : BY b) (n0 : 0 ≤ n) (hn : n ≤ 900) (hx : ∀ k, 0 ≤ k → k < n → μ0 2 k = sb (b k)) (fs : ((f = 155 ∧ s = 171) ∨ (f = 4 ∧ s = 20))) (r5 : ρ 1 5 = f) (r6 : ρ 1 6 = s) : qE mX2_parse GG GG [qP 1, qI n] ρ μ0 (fun _ ρ' μ' => ρ' = ρ ∧ μ' 1 3 = (pT b n).1 ∧ μ' 1 4 = (pT b n).2.1 ∧ CD ρ μ' f s (pZ b n).1 ∧ (∀ a, a ≠ 1 → a ≠ 3 → (a < f ∨ f + 15 < a) → (a < s ∨ s + 6 < a) → μ' a = μ0 a) ∧ ∀ k, (k < 3 ∨ 12 < k) → μ' 1 k = μ0 1 k) := by
  have i0 : isO 0 f := by rcases fs with e | e <;> (rw [e.1]; rfl)
  have i6 : isO 6 s := by rcases fs with e | e <;> (rw [e.2]; rfl)
  have zok := lns_ok (b := b) (n := n) 901 D0 T0 D0_DV (T0_t n0)
  have zv : DV b (pZ b n).1 := zok.1
  have zt : TOK n (pZ b n).2 := zok.2
  have L108 : ∀ μ1 : Mem, CT μ1 b n (fn1 b n (pZ b n).2) → CD ρ μ1 f s (pZ b n).1 → ((∀ a, a ≠ 1 → a ≠ 3 → (a < f ∨ f + 15 < a) → (a < s ∨ s + 6 < a) → μ1 a = μ0 a) ∧ ∀ k, (k < 3 ∨ 12 < k) → μ1 1 k = μ0 1 k) → qX mX2_parse GG (fun _ ρ' μ' => ρ' = ρ ∧ μ' 1 3 = (pT b n).1 ∧ μ' 1 4 = (pT b n).2.1 ∧ CD ρ μ' f s (pZ b n).1 ∧ (∀ a, a ≠ 1 → a ≠ 3 → (a < f ∨ f + 15 < a) → (a < s ∨ s + 6 < a) → μ' a = μ0 a) ∧ ∀ k, (k < 3 ∨ 12 < k) → μ' 1 k = μ0 1 k) GG (0, 0) 108 [some (qP 1), none, none] [] ρ μ1 := by
    intro μ1 c1 d1 g1
    refine w_X2_parse_108 ?_
    refine ⟨_, k_isComplete d1 zv, ?_⟩
    rintro z1 ρ2 μ3 ⟨hz, hq1_1, hq1_2⟩
    obtain rfl := hq1_1.symm
    obtain rfl := hq1_2.symm
    refine ⟨fun hc2 => ?_, fun hc2 => ?_⟩
    · have e : pT b n = fn1 b n (pZ b n).2 := by unfold pT fn2; rw [if_pos (by rcases hz with h | h; exact h.2; omega)]
      exact ⟨rfl, by rw [e]; exact c1.2.1, by rw [e]; exact c1.2.2.1, d1, g1.1, g1.2⟩
    · refine ⟨_, k_refuse (x := 5) (by decide) c1, ?_⟩
      rintro z5 ρ6 μ7 ⟨hq4_1, c2, o2⟩
      obtain rfl := hq4_1.symm
      have e : pT b n = fR 5 (fn1 b n (pZ b n).2) := by unfold pT fn2; rw [if_neg (by rcases hz with h | h; omega; exact h.2)]
      exact ⟨rfl, by rw [e]; exact c2.2.1, by rw [e]; exact c2.2.2.1, d1.ob o2, fun a x y z w => (o2.1 a x).trans (g1.1 a x y z w), fun k x => (o2.2 k (by omega)).trans (g1.2 k x)⟩
  have L96 : ∀ μ1 : Mem, CT μ1 b n (fTk b n (pZ b n).2) → CD ρ μ1 f s (pZ b n).1 → ((pZ b n).2.1 = 0 → μ1 1 10 = tK b n (pZ b n).2.2.2.2) → ((∀ a, a ≠ 1 → a ≠ 3 → (a < f ∨ f + 15 < a) → (a < s ∨ s + 6 < a) → μ1 a = μ0 a) ∧ ∀ k, (k < 3 ∨ 12 < k) → μ1 1 k = μ0 1 k) → qX mX2_parse GG (fun _ ρ' μ' => ρ' = ρ ∧ μ' 1 3 = (pT b n).1 ∧ μ' 1 4 = (pT b n).2.1 ∧ CD ρ μ' f s (pZ b n).1 ∧ (∀ a, a ≠ 1 → a ≠ 3 → (a < f ∨ f + 15 < a) → (a < s ∨ s + 6 < a) → μ' a = μ0 a) ∧ ∀ k, (k < 3 ∨ 12 < k) → μ' 1 k = μ0 1 k) GG (0, 0) 96 [some (qP 1), none, none] [] ρ μ1 := by
    intro μ1 c1 d1 hk g1
    refine w_X2_parse_96 ?_
    refine ⟨fun hc1 => ?_, fun hc1 => ?_⟩
    · refine L108 μ1 ?_ d1 g1
      unfold fn1
      by_cases c : (pZ b n).2.1 = 0
      · rw [if_pos (by have := hk c; omega)]; exact c1
      · rw [fR_c (by rw [fTk_1]; exact c)]; split <;> exact c1
    · refine ⟨_, k_refuse (x := 1) (by decide) c1, ?_⟩
      rintro z1 ρ2 μ3 ⟨hq3_1, c2, o2⟩
      obtain rfl := hq3_1.symm
      refine L108 _ ?_ (d1.ob o2) ⟨fun a x y z w => (o2.1 a x).trans (g1.1 a x y z w), fun k x => (o2.2 k (by omega)).trans (g1.2 k x)⟩
      unfold fn1
      by_cases c : (pZ b n).2.1 = 0
      · rw [if_neg (by have := hk c; omega)]; exact c2
      · rw [fR_c (by rw [fTk_1]; exact c)] at c2 ⊢; split <;> exact c2
  have L57 : ∀ (m : Nat) (x : Int) (D : Sg) (T : Tk) (μ1 : Mem), (n - T.2.2.2).toNat < m → T.1 = 0 → 0 ≤ x → x ≤ T.2.2.2 → CT μ1 b n T → CD ρ μ1 f s D → DV b D → ((∀ a, a ≠ 1 → a ≠ 3 → (a < f ∨ f + 15 < a) → (a < s ∨ s + 6 < a) → μ1 a = μ0 a) ∧ ∀ k, (k < 3 ∨ 12 < k) → μ1 1 k = μ0 1 k) → lns b n m D T = pZ b n → qX mX2_parse GG (fun _ ρ' μ' => ρ' = ρ ∧ μ' 1 3 = (pT b n).1 ∧ μ' 1 4 = (pT b n).2.1 ∧ CD ρ μ' f s (pZ b n).1 ∧ (∀ a, a ≠ 1 → a ≠ 3 → (a < f ∨ f + 15 < a) → (a < s ∨ s + 6 < a) → μ' a = μ0 a) ∧ ∀ k, (k < 3 ∨ 12 < k) → μ' 1 k = μ0 1 k) GG (0, 0) 57 [some (qP 1), none, some (qI x)] [] ρ μ1 := by
    intro m
    induction m with
    | zero => intro x D T μ1 h; omega
    | succ m ih =>
      intro x D T μ1 hm hc x0 x1 c1 d1 hv g1 hz
      have ht := c1.2.2.2.2.2
      have l := rd_LE (b := b) (D := D) ht
      have tb := tok_b (b := b) l.1.2.1
      have p2 : T.2.2.2 ≤ (fTk b n T).2.2.2 := (LE.tk (b := b) (LE.refl ht)).2
      have hz' : (if (rdT b n D T).1 = 0 ∧ tK b n (rdT b n D T).2.2.2 = 3 then lns b n m (rdS b n D T) (fTk b n (rdT b n D T)) else (rdS b n D T, rdT b n D T)) = pZ b n := hz
      have tle := ht.2.1
      refine w_X2_parse_57 ?_
      refine ⟨fun hc1 => ?_, fun hc1 => ?_⟩
      · exfalso; omega
      · refine ⟨_, k_readLine hb hn c1 hc d1 hv, ?_⟩
        rintro z1 ρ2 μ3 ⟨hq3_1, c2, d2, q2⟩
        obtain rfl := hq3_1.symm
        refine ⟨_, k_adv hb hn c2, ?_⟩
        rintro z5 ρ6 μ7 ⟨hq4_1, c3, o3, v3⟩
        obtain rfl := hq4_1.symm
        have g3 : (∀ a, a ≠ 1 → a ≠ 3 → (a < f ∨ f + 15 < a) → (a < s ∨ s + 6 < a) → μ7 a = μ0 a) ∧ ∀ k, (k < 3 ∨ 12 < k) → μ7 1 k = μ0 1 k := ⟨fun a x y z w => (o3.1 a x).trans ((q2.1 a x y z w).trans (g1.1 a x y z w)), fun k x => (o3.2 k (by omega)).trans ((q2.2 k (by omega)).trans (g1.2 k x))⟩
        rw [c3.2.1, fTk_1]
        refine ⟨fun hc5 => ?_, fun hc5 => ?_⟩
        · rw [if_neg (fun y => by omega)] at hz'
          have e1 : rdS b n D T = (pZ b n).1 := by rw [← hz']
          have e2 : rdT b n D T = (pZ b n).2 := by rw [← hz']
          exact L96 μ7 (by rw [← e2]; exact c3) (by rw [← e1]; exact d2.ob o3) (fun y => by rw [← e2] at y; omega) g3
        · have v3 := v3 (by omega)
          refine ⟨fun hc7 => ?_, fun hc7 => ?_⟩
          · refine ⟨(by unfold i32; omega), ?_⟩
            rw [if_pos ⟨by omega, by omega⟩] at hz'
            have e : (fTk b n (rdT b n D T)).2.2.2 = tN b n (rdT b n D T).2.2.2 := by rw [fTk_o (by omega)]
            have p1 := (tb.2.2.2.2.2.1 (by omega)).1
            have l2 := l.2
            exact ih (x + 1) _ _ μ7 (by omega) (by rw [fTk_1]; omega) (by omega) (by omega) c3 (d2.ob o3) (rd_DV hv ht) g3 hz'
          · rw [if_neg (fun y => by omega)] at hz'
            have e1 : rdS b n D T = (pZ b n).1 := by rw [← hz']
            have e2 : rdT b n D T = (pZ b n).2 := by rw [← hz']
            exact L96 μ7 (by rw [← e2]; exact c3) (by rw [← e1]; exact d2.ob o3) (fun y => by rw [← e2]; exact v3.1) g3
  have L16 : ∀ (m : Nat) (x : Int) (μ1 : Mem), (12 - x).toNat < m → 0 ≤ x → x ≤ 12 → ((∀ a, a ≠ 1 → a ≠ 3 → (a < f ∨ f + 15 < a) → (a < s ∨ s + 6 < a) → μ1 a = μ0 a) ∧ ∀ k, (k < 3 ∨ 12 < k) → μ1 1 k = μ0 1 k) → (∀ t, 0 ≤ t → t < 2 → μ1 (f + 1) t = 0 ∧ μ1 (f + 3) t = 0) → μ1 f 15 = 0 → μ1 f 16 = 0 → μ1 f 17 = 0 → (∀ k, 0 ≤ k → k < 12 → μ1 (s + 6) k = 0) → μ1 s 6 = 0 → (∀ k, 0 ≤ k → k < x → μ1 3 k = 0) → qX mX2_parse GG (fun _ ρ' μ' => ρ' = ρ ∧ μ' 1 3 = (pT b n).1 ∧ μ' 1 4 = (pT b n).2.1 ∧ CD ρ μ' f s (pZ b n).1 ∧ (∀ a, a ≠ 1 → a ≠ 3 → (a < f ∨ f + 15 < a) → (a < s ∨ s + 6 < a) → μ' a = μ0 a) ∧ ∀ k, (k < 3 ∨ 12 < k) → μ' 1 k = μ0 1 k) GG (0, 0) 16 [some (qP 1), some (qI n), some (qI x)] [] ρ μ1 := by
    intro m
    induction m with
    | zero => intro x μ1 h; omega
    | succ m ih =>
      intro x μ1 hm x0 x1 g1 hf h15 h16 h17 hs h6 h3
      refine w_X2_parse_16 ?_
      refine ⟨fun hc1 => ?_, fun hc1 => ?_⟩
      · intro μ1 eμ1; subst eμ1
        intro μ2 eμ2; subst eμ2
        intro μ3 eμ3; subst eμ3
        intro μ4 eμ4; subst eμ4
        have ec : ∀ a, a ≠ 1 → up2 (up2 (up2 (up2 μ1 1 3 0) 1 4 (-1)) 1 7 n) 1 8 0 a = μ1 a := fun a x => by rw [up2_c x, up2_c x, up2_c x, up2_c x]
        have ek : ∀ k, k ≠ 3 → k ≠ 4 → k ≠ 7 → k ≠ 8 → up2 (up2 (up2 (up2 μ1 1 3 0) 1 4 (-1)) 1 7 n) 1 8 0 1 k = μ1 1 k := fun k x y z w => by rw [up2_k w, up2_k z, up2_k y, up2_k x]
        have dv : DV b D0 := D0_DV
        refine L57 901 0 D0 (0, -1, up2 (up2 (up2 (up2 μ1 1 3 0) 1 4 (-1)) 1 7 n) 1 8 0 1 9, 0) _ (by show (n - 0).toNat < 901; omega) rfl (Int.le_refl _) (Int.le_refl _) ?_ ?_ dv ?_ lns_s
        · refine ⟨⟨fun k k0 k1 => by rw [ec 2 (by decide), g1.1 2 (by decide) (by decide) (by omega) (by omega)]; exact hx k k0 k1, by rw [up2_k (by decide), up2_s]⟩, by rw [up2_k (by decide), up2_k (by decide), up2_k (by decide), up2_s], by rw [up2_k (by decide), up2_k (by decide), up2_s], rfl, up2_s, ⟨Int.le_refl _, n0, Int.le_refl _⟩⟩
        · refine ⟨fs, r5, r6, ?_, ?_, fun k k0 k1 => by rw [ec 3 (by decide)]; exact h3 k k0 (by omega)⟩
          · unfold FD
            rw [ec (f + 1) (by omega), ec (f + 3) (by omega), ec f (by omega)]
            exact ⟨fun t t0 t1 => ⟨(hf t t0 t1).1, (hf t t0 t1).2, fun y => absurd rfl y⟩, fun t t0 t1 c c0 c1 => by have : c < 0 := c1; omega, fun m m0 m1 => by have : m < 0 := m1; omega, fun k k0 k1 => by have : k < 0 := k1; omega, fun i i0 i1 => by have : i < 0 := i1; omega, h15, h16, h17⟩
          · unfold SD
            rw [ec (s + 6) (by omega), ec s (by omega)]
            exact ⟨fun j j0 j1 => by have : j < 0 := j1; omega, fun t t0 t1 y => absurd rfl y, hs, h6⟩
        · exact ⟨fun a x y z w => (ec a x).trans (g1.1 a x y z w), fun k x => (ek k (by omega) (by omega) (by omega) (by omega)).trans (g1.2 k x)⟩
      · refine ⟨(by omega), ?_⟩
        intro μ5 eμ5; subst eμ5
        refine ⟨(by unfold i32; omega), ?_⟩
        refine ih (x + 1) _ (by omega) (by omega) (by omega) ⟨fun a y z v w => by rw [up2_c z]; exact g1.1 a y z v w, fun k y => by rw [up2_c (by decide)]; exact g1.2 k y⟩ (fun t t0 t1 => by rw [up2_c (by omega), up2_c (by omega)]; exact hf t t0 t1) (by rw [up2_c (by omega)]; exact h15) (by rw [up2_c (by omega)]; exact h16) (by rw [up2_c (by omega)]; exact h17) (fun k k0 k1 => by rw [up2_c (by omega)]; exact hs k k0 k1) (by rw [up2_c (by omega)]; exact h6) (fun k k0 k1 => ?_)
        rw [up2_u]
        by_cases e : k = x
        · rw [e, u1_s]
        · rw [u1_n e]; exact h3 k k0 (by omega)
  refine e_X2_parse ?_
  rw [r5]
  refine ⟨(by exact i0), ?_⟩
  refine ⟨_, k_clearF i0, ?_⟩
  rintro z2 ρ3 μ4 ⟨hq2_1, f1, t1, e15, e16, e17⟩
  obtain rfl := hq2_1.symm
  rw [r6]
  refine ⟨(by exact i6), ?_⟩
  refine ⟨_, k_clearS i6, ?_⟩
  rintro z7 ρ8 μ9 ⟨hq4_1, f2, s2, e6⟩
  obtain rfl := hq4_1.symm
  refine L16 _ 0 _ (Nat.lt_succ_self _) (Int.le_refl _) (by omega) ⟨fun a x y z w => by rw [f2 a (by omega), f1 a (by omega)], fun k x => by rw [f2 1 (by omega), f1 1 (by omega)]⟩ (fun t t0 t2 => by rw [f2 (f + 1) (by omega), f2 (f + 3) (by omega)]; exact t1 t t0 t2) (by rw [f2 f (by omega)]; exact e15) (by rw [f2 f (by omega)]; exact e16) (by rw [f2 f (by omega)]; exact e17) s2 e6 (fun k k0 k1 => by omega)
end CPQ
