/-! ===== contracts on the part of a plan that changes, and on the history ===== -/
theorem QPst_mono {k n0 : Nat} {φ0 : Nat → Nat} {Gf : Gx} {P P' : Int → Rf → Mem → Prop} (h : ∀ z ρ' μ', P z ρ' μ' → P' z ρ' μ') {u : (Nat → Nat) × Rf × Mem × Int} (q : QPst k n0 φ0 Gf P u) : QPst k n0 φ0 Gf P' u := ⟨q.1, q.2.1, h _ _ _ q.2.2.1, q.2.2.2⟩
theorem QcX_mono {k n0 : Nat} {φ0 : Nat → Nat} {Gf : Gx} {P P' : Int → Rf → Mem → Prop} {D : va_G} {cA : Nat → ClassId} {A : Nat → Prop} (h : ∀ z ρ' μ', P z ρ' μ' → P' z ρ' μ') {a : Array Value} {st t : State} {o : Outcome} (q : QcX k n0 φ0 Gf P D cA A a st o t) : QcX k n0 φ0 Gf P' D cA A a st o t := by
  rcases k with _ | _ | _ | _ | _ | k
  · obtain ⟨⟨u, e1, e2, e3⟩, f⟩ := q
    exact ⟨⟨u, e1, QPst_mono h e2, e3⟩, f⟩
  · obtain ⟨⟨r, u, e1, ⟨e2, e4⟩, e3⟩, f⟩ := q
    exact ⟨⟨r, u, e1, ⟨e2, QPst_mono h e4⟩, e3⟩, f⟩
  · obtain ⟨⟨r, u, e1, ⟨e2, e4⟩, e3⟩, f⟩ := q
    exact ⟨⟨r, u, e1, ⟨e2, QPst_mono h e4⟩, e3⟩, f⟩
  · obtain ⟨⟨r, u, e1, ⟨e2, e4⟩, e3⟩, f⟩ := q
    exact ⟨⟨r, u, e1, ⟨e2, QPst_mono h e4⟩, e3⟩, f⟩
  · obtain ⟨⟨u, ra, e1, e2, e3⟩, f⟩ := q
    exact ⟨⟨u, ra, e1, QPst_mono h e2, e3⟩, f⟩
  · obtain ⟨⟨r, u, e1, ⟨e2, e4⟩, e3⟩, f⟩ := q
    exact ⟨⟨r, u, e1, ⟨e2, QPst_mono h e4⟩, e3⟩, f⟩
theorem qE_post {M : MI} {Gf G : Gx} {as : List AV} {ρ : Rf} {μ : Mem} {P P' : Int → Rf → Mem → Prop} (h : ∀ z ρ' μ', P z ρ' μ' → P' z ρ' μ') (hE : qE M Gf G as ρ μ P) : qE M Gf G as ρ μ P' := by
  intro h1 h2 l D cA ad φ sz p e ha hf1 hf2 s m args below hfr hap hP hK
  obtain ⟨n, o, w1, w2, w3, w4, w5⟩ := hE h1 h2 l D cA ad φ sz p e ha hf1 hf2 s m args below hfr hap hP hK
  exact ⟨n, o, w1, w2, w3, QcX_mono h w4, w5⟩
def pAdd (p : Pl) (i t c m q : Int) : Pl := u1 (u1 (u1 (u1 (u1 (u1 p (88 + 5 * p 87 + 0) i) (88 + 5 * p 87 + 1) t) (88 + 5 * p 87 + 2) c) (88 + 5 * p 87 + 3) m) (88 + 5 * p 87 + 4) q) 87 (p 87 + 1)
def pDrop (p : Pl) (r : Int) : Pl := fun k => if k = 87 then p 87 - 1 else if 88 + 5 * r ≤ k ∧ k < 88 + 5 * (p 87 - 1) then p (k + 5) else p k
def pSwap (p : Pl) (a b : Int) : Pl := fun k => if 88 + 5 * a ≤ k ∧ k < 88 + 5 * a + 5 then p (k - 5 * a + 5 * b) else if 88 + 5 * b ≤ k ∧ k < 88 + 5 * b + 5 then p (k - 5 * b + 5 * a) else p k
def shf (g : Int → Int) (r m : Int) : Int → Int := fun b => if r ≤ b ∧ b < m then g (b + 1) else g b
def swp (g : Int → Int) (a b : Int) : Int → Int := u1 (u1 g a (g b)) b (g a)
theorem k_takeJob {ρ : Rf} {μ : Mem} {o x : Nat} {a b : Int} (ho : isO 6 o) (hx : isO 6 x) (ha : 0 ≤ a ∧ a < 20) (hb : 0 ≤ b ∧ b < 20) (hd : x = o ∨ x + 6 < o ∨ o + 6 < x) : qE mX6_takeJob GG GG [qP o, qP x, qI a, qI b] ρ μ (fun _ ρ' μ' => ρ' = ρ ∧ FR (o + 1) (o + 4) μ μ' ∧ ∀ w : Nat, 1 ≤ w → w ≤ 4 → μ' (o + w) = u1 (μ (o + w)) b (μ (x + w) a)) := by
  refine e_X6_takeJob ho hx ?_
  refine ⟨(by omega), ?_⟩
  refine ⟨(by omega), ?_⟩
  intro μ1 eμ1; subst eμ1
  refine ⟨(by omega), ?_⟩
  refine ⟨(by omega), ?_⟩
  intro μ2 eμ2; subst eμ2
  refine ⟨(by omega), ?_⟩
  refine ⟨(by omega), ?_⟩
  intro μ3 eμ3; subst eμ3
  refine ⟨(by omega), ?_⟩
  refine ⟨(by omega), ?_⟩
  intro μ4 eμ4; subst eμ4
  refine ⟨rfl, FR.up (FR.up (FR.up (FR.up FR.refl (by omega)) (by omega)) (by omega)) (by omega), fun w h1 h2 => ?_⟩
  obtain rfl | rfl | rfl | rfl : w = 1 ∨ w = 2 ∨ w = 3 ∨ w = 4 := by omega
  · rw [up2_c (by omega), up2_c (by omega), up2_c (by omega), up2_u]
  · rw [up2_c (by omega), up2_c (by omega), up2_u, up2_c (by omega), up2_c (by omega)]
  · rw [up2_c (by omega), up2_u, up2_c (by omega), up2_c (by omega), up2_c (by omega), up2_c (by omega)]
  · rw [up2_u, up2_c (by omega), up2_c (by omega), up2_c (by omega), up2_c (by omega), up2_c (by omega), up2_c (by omega)]
theorem shf_1 {g : Int → Int} {r m : Int} (h : r ≤ m) : u1 (shf g r m) m (shf g r m (m + 1)) = shf g r (m + 1) := by
  funext b
  unfold u1 shf
  by_cases hb : b = m
  · rw [if_pos hb, if_neg (by omega), if_pos (by omega), hb]
  · rw [if_neg hb]
    by_cases h2 : r ≤ b ∧ b < m
    · rw [if_pos h2, if_pos (by omega)]
    · rw [if_neg h2, if_neg (by omega)]
theorem k_removeAt0 {ρ : Rf} {μ : Mem} {o : Nat} {r n : Int} (ho : isO 6 o) (hn : μ o 6 = n) (hr : 0 ≤ r ∧ r < n) (hn2 : n ≤ 20) : qE mX6_removeAt GG GG [qP o, qI r] ρ μ (fun (_ : Int) (ρ' : Rf) (μ' : Mem) => ρ' = ρ ∧ FR o (o + 4) μ μ' ∧ (∀ w : Nat, 1 ≤ w → w ≤ 4 → μ' (o + w) = shf (μ (o + w)) r (n - 1)) ∧ μ' o 6 = n - 1) := by
  have L : ∀ (k : Nat) (x : Int) (μ1 : Mem), (n - x).toNat < k → r + 1 ≤ x → x ≤ n → FR (o + 1) (o + 4) μ μ1 → (∀ w : Nat, 1 ≤ w → w ≤ 4 → μ1 (o + w) = shf (μ (o + w)) r (x - 1)) → qX mX6_removeAt GG (fun (_ : Int) (ρ' : Rf) (μ' : Mem) => ρ' = ρ ∧ FR o (o + 4) μ μ' ∧ (∀ w : Nat, 1 ≤ w → w ≤ 4 → μ' (o + w) = shf (μ (o + w)) r (n - 1)) ∧ μ' o 6 = n - 1) GG (0, 0) 4 [some (qP o), none, some (qI x)] [] ρ μ1 := by
    intro k
    induction k with
    | zero => intro x μ1 h; omega
    | succ k ih =>
      intro x μ1 hk h0 h1 hf hw
      have hn1 : μ1 o 6 = n := by rw [hf o (by omega)]; exact hn
      refine w_X6_removeAt_4 ho ?_
      refine ⟨fun hc1 => ?_, fun hc1 => ?_⟩
      · refine ⟨(by unfold i32; omega), ?_⟩
        intro μ1 eμ1; subst eμ1
        refine ⟨rfl, FR.up (hf.mono (by omega) (by omega)) (by omega), fun w h2 h3 => ?_, ?_⟩
        · rw [up2_c (by omega), hw w h2 h3, show x = n by omega]
        · rw [up2_s, hn1]
      · refine ⟨(by unfold i32; omega), ?_⟩
        refine ⟨_, k_takeJob ho ho (by omega) (by omega) (Or.inl rfl), ?_⟩
        rintro z2 ρ3 μ4 ⟨hq6_1, hf2, hw2⟩
        obtain rfl := hq6_1.symm
        refine ⟨(by unfold i32; omega), ?_⟩
        refine ih _ _ (by omega) (by omega) (by omega) (hf.trans hf2) (fun w h2 h3 => ?_)
        rw [hw2 w h2 h3, hw w h2 h3]
        have e := shf_1 (g := μ (o + w)) (r := r) (m := x - 1) (by omega)
        rw [show x - 1 + 1 = x by omega] at e
        rw [e, show x + 1 - 1 = x by omega]
  refine e_X6_removeAt ho ?_
  refine ⟨(by unfold i32; omega), ?_⟩
  refine L _ _ _ (Nat.lt_succ_self _) (by omega) (by omega) FR.refl (fun w h2 h3 => ?_)
  funext b
  unfold shf
  rw [if_neg (by omega)]
theorem SP_drop {μ μ' : Mem} {o : Nat} {p : Pl} {r : Int} (hs : SP μ o p) (hn : p 87 ≤ 20) (hr : 0 ≤ r ∧ r < p 87) (hf : FR o (o + 4) μ μ') (hw : ∀ w : Nat, 1 ≤ w → w ≤ 4 → μ' (o + w) = shf (μ (o + w)) r (p 87 - 1)) (h6 : μ' o 6 = p 87 - 1) : SP μ' o (pDrop p r) := by
  have e87 : pDrop p r 87 = p 87 - 1 := by simp [pDrop]
  refine ⟨fun j h0 h1 => ?_, fun t h0 h1 => ?_, fun k h0 h1 => ?_, ?_⟩
  · rw [e87] at h1
    rw [hw 1 (by omega) (by omega), hw 2 (by omega) (by omega), hw 3 (by omega) (by omega), hw 4 (by omega) (by omega)]
    by_cases hj : r ≤ j
    · have a := hs.j (j := j + 1) (by omega) (by omega)
      have e : ∀ z : Int, 0 ≤ z → z < 5 → pDrop p r (88 + 5 * j + z) = p (88 + 5 * (j + 1) + z) := fun z h2 h3 => by
        unfold pDrop
        rw [if_neg (by omega), if_pos (by omega), show 88 + 5 * j + z + 5 = 88 + 5 * (j + 1) + z by omega]
      have s : ∀ g : Int → Int, shf g r (p 87 - 1) j = g (j + 1) := fun g => by unfold shf; rw [if_pos (by omega)]
      rw [s, s, s, s, e 0 (by omega) (by omega), e 1 (by omega) (by omega), e 2 (by omega) (by omega), e 3 (by omega) (by omega), e 4 (by omega) (by omega)]
      exact a
    · have a := hs.j (j := j) (by omega) (by omega)
      have e : ∀ z : Int, 0 ≤ z → z < 5 → pDrop p r (88 + 5 * j + z) = p (88 + 5 * j + z) := fun z h2 h3 => by
        unfold pDrop
        rw [if_neg (by omega), if_neg (by omega)]
      have s : ∀ g : Int → Int, shf g r (p 87 - 1) j = g j := fun g => by unfold shf; rw [if_neg (by omega)]
      rw [s, s, s, s, e 0 (by omega) (by omega), e 1 (by omega) (by omega), e 2 (by omega) (by omega), e 3 (by omega) (by omega), e 4 (by omega) (by omega)]
      exact a
  · rw [hf (o + 5) (by omega), hs.t h0 h1]
    unfold pDrop
    rw [if_neg (by omega), if_neg (by omega)]
  · rw [hf (o + 6) (by omega), hs.k h0 h1]
    unfold pDrop
    rw [if_neg (by omega), if_neg (by omega)]
  · rw [h6, e87]
theorem k_removeAt {ρ : Rf} {μ : Mem} {o : Nat} {p : Pl} {r : Int} (ho : isO 6 o) (hs : SP μ o p) (hn : p 87 ≤ 20) (hr : 0 ≤ r ∧ r < p 87) : qE mX6_removeAt GG GG [qP o, qI r] ρ μ (fun _ ρ' μ' => ρ' = ρ ∧ FR o (o + 4) μ μ' ∧ SP μ' o (pDrop p r)) :=
  qE_post (fun z ρ' μ' h => ⟨h.1, h.2.1, SP_drop hs hn hr h.2.1 h.2.2.1 h.2.2.2⟩) (k_removeAt0 ho hs.n hr hn)
theorem k_exchangeIn {ρ : Rf} {μ : Mem} {a n : Nat} {x y : Int} (ha : GG.2[a]? = some (10, n)) (hx : 0 ≤ x ∧ x < n) (hy : 0 ≤ y ∧ y < n) : qE mX6_exchangeIn GG GG [qP a, qI x, qI y] ρ μ (fun _ ρ' μ' => ρ' = ρ ∧ FR a a μ μ' ∧ μ' a = swp (μ a) x y) := by
  refine e_X6_exchangeIn ha ?_
  refine ⟨(by omega), ?_⟩
  refine ⟨(by omega), ?_⟩
  refine ⟨(by omega), ?_⟩
  intro μ1 eμ1; subst eμ1
  refine ⟨(by omega), ?_⟩
  intro μ2 eμ2; subst eμ2
  exact ⟨rfl, FR.up (FR.up FR.refl (by omega)) (by omega), by rw [up2_u, up2_u]; rfl⟩
theorem k_exchange0 {ρ : Rf} {μ : Mem} {o : Nat} {x y : Int} (ho : isO 6 o) (hx : 0 ≤ x ∧ x < 20) (hy : 0 ≤ y ∧ y < 20) : qE mX6_exchange GG GG [qP o, qI x, qI y] ρ μ (fun _ ρ' μ' => ρ' = ρ ∧ FR (o + 1) (o + 4) μ μ' ∧ ∀ w : Nat, 1 ≤ w → w ≤ 4 → μ' (o + w) = swp (μ (o + w)) x y) := by
  refine e_X6_exchange ho ?_
  refine ⟨_, k_exchangeIn (ar6_0 ho) (by omega) (by omega), ?_⟩
  rintro z1 ρ2 μ3 ⟨hq1_1, f1, e1⟩
  obtain rfl := hq1_1.symm
  refine ⟨_, k_exchangeIn (ar6_1 ho) (by omega) (by omega), ?_⟩
  rintro z5 ρ6 μ7 ⟨hq2_1, f2, e2⟩
  obtain rfl := hq2_1.symm
  refine ⟨_, k_exchangeIn (ar6_2 ho) (by omega) (by omega), ?_⟩
  rintro z9 ρ10 μ11 ⟨hq3_1, f3, e3⟩
  obtain rfl := hq3_1.symm
  refine ⟨_, k_exchangeIn (ar6_3 ho) (by omega) (by omega), ?_⟩
  rintro z13 ρ14 μ15 ⟨hq4_1, f4, e4⟩
  obtain rfl := hq4_1.symm
  refine ⟨rfl, (((f1.mono (by omega) (by omega)).trans (f2.mono (by omega) (by omega))).trans (f3.mono (by omega) (by omega))).trans (f4.mono (by omega) (by omega)), fun w h1 h2 => ?_⟩
  obtain rfl | rfl | rfl | rfl : w = 1 ∨ w = 2 ∨ w = 3 ∨ w = 4 := by omega
  · rw [f4 _ (by omega), f3 _ (by omega), f2 _ (by omega), e1]
  · rw [f4 _ (by omega), f3 _ (by omega), e2, f1 _ (by omega)]
  · rw [f4 _ (by omega), e3, f2 _ (by omega), f1 _ (by omega)]
  · rw [e4, f3 _ (by omega), f2 _ (by omega), f1 _ (by omega)]
theorem SP_swap {μ μ' : Mem} {o : Nat} {p : Pl} {x y : Int} (hs : SP μ o p) (hn : p 87 ≤ 20) (hx : 0 ≤ x ∧ x < p 87) (hy : 0 ≤ y ∧ y < p 87) (hf : FR (o + 1) (o + 4) μ μ') (hw : ∀ w : Nat, 1 ≤ w → w ≤ 4 → μ' (o + w) = swp (μ (o + w)) x y) : SP μ' o (pSwap p x y) := by
  have e87 : pSwap p x y 87 = p 87 := by unfold pSwap; rw [if_neg (by omega), if_neg (by omega)]
  refine ⟨fun j h0 h1 => ?_, fun t h0 h1 => ?_, fun k h0 h1 => ?_, ?_⟩
  · rw [e87] at h1
    rw [hw 1 (by omega) (by omega), hw 2 (by omega) (by omega), hw 3 (by omega) (by omega), hw 4 (by omega) (by omega)]
    obtain ⟨q, hq0, hq1, s, e⟩ : ∃ q : Int, 0 ≤ q ∧ q < p 87 ∧ (∀ g : Int → Int, swp g x y j = g q) ∧ ∀ z : Int, 0 ≤ z → z < 5 → pSwap p x y (88 + 5 * j + z) = p (88 + 5 * q + z) := by
      by_cases hj : j = x
      · refine ⟨y, hy.1, hy.2, fun g => ?_, fun z h2 h3 => ?_⟩
        · unfold swp
          by_cases hxy : x = y
          · rw [hj, hxy, u1_s]
          · rw [hj, u1_n hxy, u1_s]
        · unfold pSwap
          rw [if_pos (by omega), show 88 + 5 * j + z - 5 * x + 5 * y = 88 + 5 * y + z by omega]
      · by_cases hj2 : j = y
        · refine ⟨x, hx.1, hx.2, fun g => ?_, fun z h2 h3 => ?_⟩
          · unfold swp
            rw [hj2, u1_s]
          · unfold pSwap
            rw [if_neg (by omega), if_pos (by omega), show 88 + 5 * j + z - 5 * y + 5 * x = 88 + 5 * x + z by omega]
        · refine ⟨j, h0, h1, fun g => ?_, fun z h2 h3 => ?_⟩
          · unfold swp
            rw [u1_n hj2, u1_n hj]
          · unfold pSwap
            rw [if_neg (by omega), if_neg (by omega)]
    rw [s, s, s, s, e 0 (by omega) (by omega), e 1 (by omega) (by omega), e 2 (by omega) (by omega), e 3 (by omega) (by omega), e 4 (by omega) (by omega)]
    exact hs.j hq0 hq1
  · rw [hf (o + 5) (by omega), hs.t h0 h1]
    unfold pSwap
    rw [if_neg (by omega), if_neg (by omega)]
  · rw [hf (o + 6) (by omega), hs.k h0 h1]
    unfold pSwap
    rw [if_neg (by omega), if_neg (by omega)]
  · rw [hf o (by omega), hs.n, e87]
theorem k_exchange {ρ : Rf} {μ : Mem} {o : Nat} {p : Pl} {x y : Int} (ho : isO 6 o) (hs : SP μ o p) (hn : p 87 ≤ 20) (hx : 0 ≤ x ∧ x < p 87) (hy : 0 ≤ y ∧ y < p 87) : qE mX6_exchange GG GG [qP o, qI x, qI y] ρ μ (fun _ ρ' μ' => ρ' = ρ ∧ FR (o + 1) (o + 4) μ μ' ∧ SP μ' o (pSwap p x y)) :=
  qE_post (fun z ρ' μ' h => ⟨h.1, h.2.1, SP_swap hs hn hx hy h.2.1 h.2.2⟩) (k_exchange0 ho (by omega) (by omega))
theorem k_addLast0 {ρ : Rf} {μ : Mem} {o : Nat} {n a b c d : Int} (ho : isO 6 o) (hn : μ o 6 = n) (h0 : 0 ≤ n ∧ n < 20) : qE mX6_addLast GG GG [qP o, qI a, qI b, qI c, qI d] ρ μ (fun _ ρ' μ' => ρ' = ρ ∧ FR o (o + 4) μ μ' ∧ μ' (o + 1) = u1 (μ (o + 1)) n a ∧ μ' (o + 2) = u1 (μ (o + 2)) n b ∧ μ' (o + 3) = u1 (μ (o + 3)) n c ∧ μ' (o + 4) = u1 (μ (o + 4)) n d ∧ μ' o 6 = n + 1) := by
  have d1 : o ≠ o + 1 := by omega
  have d2 : o ≠ o + 2 := by omega
  have d3 : o ≠ o + 3 := by omega
  have d4 : o ≠ o + 4 := by omega
  refine e_X6_addLast ho ?_
  refine ⟨fun hc1 => ?_, fun hc1 => ?_⟩
  · refine ⟨(by omega), ?_⟩
    intro μ1 eμ1; subst eμ1
    rw [up2_c d1]
    refine ⟨(by omega), ?_⟩
    intro μ2 eμ2; subst eμ2
    rw [up2_c d2, up2_c d1]
    refine ⟨(by omega), ?_⟩
    intro μ3 eμ3; subst eμ3
    rw [up2_c d3, up2_c d2, up2_c d1]
    refine ⟨(by omega), ?_⟩
    intro μ4 eμ4; subst eμ4
    rw [up2_c d4, up2_c d3, up2_c d2, up2_c d1]
    refine ⟨(by unfold i32; omega), ?_⟩
    intro μ5 eμ5; subst eμ5
    rw [hn]
    refine ⟨rfl, FR.up (FR.up (FR.up (FR.up (FR.up FR.refl (by omega)) (by omega)) (by omega)) (by omega)) (by omega), ?_, ?_, ?_, ?_, up2_s⟩
    · rw [up2_c (by omega), up2_c (by omega), up2_c (by omega), up2_c (by omega), up2_u]
    · rw [up2_c (by omega), up2_c (by omega), up2_c (by omega), up2_u, up2_c (by omega)]
    · rw [up2_c (by omega), up2_c (by omega), up2_u, up2_c (by omega), up2_c (by omega)]
    · rw [up2_c (by omega), up2_u, up2_c (by omega), up2_c (by omega), up2_c (by omega)]
  · omega
theorem pAdd_o {p : Pl} {i t c m q k : Int} (h : k < 87 ∨ (87 < k ∧ k < 88 + 5 * p 87)) (hn : 0 ≤ p 87) : pAdd p i t c m q k = p k := by
  unfold pAdd
  rw [u1_n (by omega), u1_n (by omega), u1_n (by omega), u1_n (by omega), u1_n (by omega), u1_n (by omega)]
theorem SP_add {μ μ' : Mem} {o : Nat} {p : Pl} {i t c m q : Int} (hs : SP μ o p) (hn : 0 ≤ p 87 ∧ p 87 < 20) (hf : FR o (o + 4) μ μ') (e1 : μ' (o + 1) = u1 (μ (o + 1)) (p 87) i) (e2 : μ' (o + 2) = u1 (μ (o + 2)) (p 87) (5 * t + c)) (e3 : μ' (o + 3) = u1 (μ (o + 3)) (p 87) m) (e4 : μ' (o + 4) = u1 (μ (o + 4)) (p 87) q) (h6 : μ' o 6 = p 87 + 1) : SP μ' o (pAdd p i t c m q) := by
  have e87 : pAdd p i t c m q 87 = p 87 + 1 := by unfold pAdd; rw [u1_s]
  refine ⟨fun j h0 h1 => ?_, fun t h0 h1 => ?_, fun k h0 h1 => ?_, ?_⟩
  · rw [e87] at h1
    rw [e1, e2, e3, e4]
    by_cases hj : j = p 87
    · rw [hj, u1_s, u1_s, u1_s, u1_s]
      unfold pAdd
      refine ⟨?_, ?_, ?_, ?_⟩
      · rw [u1_n (by omega), u1_n (by omega), u1_n (by omega), u1_n (by omega), u1_n (by omega), u1_s]
      · rw [u1_n (b := 88 + 5 * p 87 + 1) (by omega), u1_n (b := 88 + 5 * p 87 + 1) (by omega), u1_n (b := 88 + 5 * p 87 + 1) (by omega), u1_n (b := 88 + 5 * p 87 + 1) (by omega), u1_s, u1_n (b := 88 + 5 * p 87 + 2) (by omega), u1_n (b := 88 + 5 * p 87 + 2) (by omega), u1_n (b := 88 + 5 * p 87 + 2) (by omega), u1_s]
      · rw [u1_n (by omega), u1_n (by omega), u1_s]
      · rw [u1_n (by omega), u1_s]
    · rw [u1_n hj, u1_n hj, u1_n hj, u1_n hj, pAdd_o (by omega) hn.1, pAdd_o (by omega) hn.1, pAdd_o (by omega) hn.1, pAdd_o (by omega) hn.1, pAdd_o (by omega) hn.1]
      exact hs.j h0 (by omega)
  · rw [hf (o + 5) (by omega), hs.t h0 h1, pAdd_o (by omega) hn.1]
  · rw [hf (o + 6) (by omega), hs.k h0 h1, pAdd_o (by omega) hn.1]
  · rw [h6, e87]
theorem k_addLast {ρ : Rf} {μ : Mem} {o : Nat} {p : Pl} {i t c m q d : Int} (ho : isO 6 o) (hs : SP μ o p) (hn : 0 ≤ p 87 ∧ p 87 < 20) (hd : d = 5 * t + c) : qE mX6_addLast GG GG [qP o, qI i, qI d, qI m, qI q] ρ μ (fun _ ρ' μ' => ρ' = ρ ∧ FR o (o + 4) μ μ' ∧ SP μ' o (pAdd p i t c m q)) := by
  subst hd
  exact qE_post (fun z ρ' μ' h => ⟨h.1, h.2.1, SP_add hs hn h.2.1 h.2.2.1 h.2.2.2.1 h.2.2.2.2.1 h.2.2.2.2.2.1 h.2.2.2.2.2.2⟩) (k_addLast0 ho hs.n hn)
/-! ### the history -/
def HPm (ρ : Rf) : Prop := (∀ i : Int, 0 ≤ i → i < 10 → isO 6 (ρ 70 i) ∧ 71 ≤ ρ 70 i ∧ ρ 70 i ≤ 134) ∧ ∀ i j : Int, 0 ≤ i → i < 10 → 0 ≤ j → j < 10 → i ≠ j → ρ 70 i + 6 < ρ 70 j ∨ ρ 70 j + 6 < ρ 70 i
def HS (ρ : Rf) (μ : Mem) (n : Int) (h : Int → Pl) : Prop := μ 69 1 = n ∧ ∀ i : Int, 0 ≤ i → i < n → SP μ (ρ 70 i) (h i)
def hN (n : Int) : Int := if n = 10 then 10 else n + 1
def hPush (n : Int) (h : Int → Pl) (p : Pl) : Int → Pl := fun i => if i = hN n - 1 then p else if n = 10 then h (i + 1) else h i
theorem k_dropFirst {ρ : Rf} {μ : Mem} (hp : HPm ρ) : qE mX1_dropFirst GG GG [qP 69] ρ μ (fun (_ : Int) (ρ' : Rf) (μ' : Mem) => (∀ a, a ≠ 70 → ρ' a = ρ a) ∧ (∀ i : Int, 0 ≤ i → i < 9 → ρ' 70 i = ρ 70 (i + 1)) ∧ ρ' 70 9 = ρ 70 0 ∧ μ' = up2 μ 69 1 9) := by
  have L : ∀ (k : Nat) (x : Int) (ρ1 : Rf), (10 - x).toNat < k → 1 ≤ x → x ≤ 10 → (∀ a, a ≠ 70 → ρ1 a = ρ a) → (∀ i : Int, 0 ≤ i → i < x - 1 → ρ1 70 i = ρ 70 (i + 1)) → (∀ i : Int, x ≤ i → i < 10 → ρ1 70 i = ρ 70 i) → qX mX1_dropFirst GG (fun (_ : Int) (ρ' : Rf) (μ' : Mem) => (∀ a, a ≠ 70 → ρ' a = ρ a) ∧ (∀ i : Int, 0 ≤ i → i < 9 → ρ' 70 i = ρ 70 (i + 1)) ∧ ρ' 70 9 = ρ 70 0 ∧ μ' = up2 μ 69 1 9) GG (0, 0) 9 [some (qP 69), some (qP (ρ 70 0)), some (qI x)] [] ρ1 μ := by
    intro k
    induction k with
    | zero => intro x ρ1 h; omega
    | succ k ih =>
      intro x ρ1 hk h0 h1 ha hb hc
      refine w_X1_dropFirst_9 (hp.1 0 (by omega) (by omega)).1 ?_
      refine ⟨fun hc1 => ?_, fun hc1 => ?_⟩
      · intro ρ1 eρ1; subst eρ1
        intro μ2 eμ2; subst eμ2
        refine ⟨fun a h => ?_, fun i h2 h3 => ?_, up2_s, rfl⟩
        · rw [up2_c h]; exact ha a h
        · rw [up2_k (by omega)]; exact hb i h2 (by omega)
      · refine ⟨(by unfold i32; omega), ?_⟩
        refine ⟨(by omega), ?_⟩
        refine ⟨(by rw [hc _ (by omega) (by omega)]; exact (hp.1 _ (by omega) (by omega)).1), ?_⟩
        refine ⟨(by omega), ?_⟩
        intro ρ4 eρ4; subst eρ4
        refine ⟨(by unfold i32; omega), ?_⟩
        refine ih _ _ (by omega) (by omega) (by omega) (fun a h => ?_) (fun i h2 h3 => ?_) (fun i h2 h3 => ?_)
        · rw [up2_c h]; exact ha a h
        · by_cases hi : i = x - 1
          · rw [hi, up2_s, hc x (by omega) (by omega), show x - 1 + 1 = x by omega]
          · rw [up2_k hi]; exact hb i h2 (by omega)
        · rw [up2_k (by omega)]; exact hc i (by omega) h3
  refine e_X1_dropFirst ?_
  refine ⟨(by exact (hp.1 _ (by omega) (by omega)).1), ?_⟩
  exact L _ 1 ρ (Nat.lt_succ_self _) (by omega) (by omega) (fun _ _ => rfl) (fun i h2 h3 => by omega) (fun _ _ _ => rfl)
theorem HPm.drop {ρ ρ' : Rf} (hp : HPm ρ) (h1 : ∀ i : Int, 0 ≤ i → i < 9 → ρ' 70 i = ρ 70 (i + 1)) (h2 : ρ' 70 9 = ρ 70 0) : HPm ρ' := by
  have e : ∀ i : Int, 0 ≤ i → i < 10 → ∃ j : Int, 0 ≤ j ∧ j < 10 ∧ ρ' 70 i = ρ 70 j ∧ (i = 9 ∧ j = 0 ∨ i < 9 ∧ j = i + 1) := fun i a b => by
    by_cases h : i = 9
    · exact ⟨0, by omega, by omega, by rw [h, h2], Or.inl ⟨h, rfl⟩⟩
    · exact ⟨i + 1, by omega, by omega, h1 i a (by omega), Or.inr ⟨by omega, rfl⟩⟩
  refine ⟨fun i a b => ?_, fun i j a b c d hn => ?_⟩
  · obtain ⟨j, j0, j1, e1, _⟩ := e i a b
    rw [e1]
    exact hp.1 j j0 j1
  · obtain ⟨i', i0, i1, e1, f1⟩ := e i a b
    obtain ⟨j', j0, j1, e2, f2⟩ := e j c d
    rw [e1, e2]
    exact hp.2 i' j' i0 i1 j0 j1 (by omega)
theorem k_push {ρ : Rf} {μ : Mem} {s : Nat} {p : Pl} {n : Int} {h : Int → Pl} (ho : isO 6 s) (hd : s + 6 < 69 ∨ 140 < s) (hs : SP μ s p) (hn : p 87 ≤ 20) (hp : HPm ρ) (hh : HS ρ μ n h) (hn0 : 0 ≤ n ∧ n ≤ 10) : qE mX1_push GG GG [qP 69, qP s] ρ μ (fun (_ : Int) (ρ' : Rf) (μ' : Mem) => (∀ a, a ≠ 70 → ρ' a = ρ a) ∧ HPm ρ' ∧ FR 69 140 μ μ' ∧ HS ρ' μ' (hN n) (hPush n h p)) := by
  obtain ⟨hc, hv⟩ := hh
  have fr : ∀ (q : Nat) (μ' : Mem), FR q (q + 6) μ μ' → (69 < q ∧ q ≤ 134) → FR 69 140 μ μ' := fun q μ' hf hq => hf.mono (by omega) (by omega)
  refine e_X1_push ho ?_
  refine ⟨fun hc1 => ?_, fun hc1 => ?_⟩
  · refine ⟨(by omega), ?_⟩
    refine ⟨(by exact (hp.1 _ (by omega) (by omega)).1), ?_⟩
    refine ⟨_, k_copyFrom (hp.1 (μ 69 1) (by omega) (by omega)).1 ho (by have := hp.1 (μ 69 1) (by omega) (by omega); omega), ?_⟩
    rintro z2 ρ3 μ4 ⟨hq4_1, f1, c1⟩
    obtain rfl := hq4_1.symm
    have q := hp.1 (μ 69 1) (by omega) (by omega)
    have e1 : μ4 69 = μ 69 := f1 69 (by omega)
    rw [e1]
    refine ⟨(by unfold i32; omega), ?_⟩
    intro μ6 eμ6; subst eμ6
    have hN1 : hN n = n + 1 := by unfold hN; rw [if_neg (by omega)]
    refine ⟨fun _ _ => rfl, hp, FR.up (fr _ _ f1 (by omega)) (by omega), ?_, fun i i0 i1 => ?_⟩
    · rw [up2_s, hN1, hc]
    · rw [hN1] at i1
      unfold hPush
      rw [hN1]
      by_cases hi : i = n
      · rw [if_pos (by omega), hi, ← hc]
        exact (c1.sp hs hn).ag (AG.up AG.refl (by omega))
      · rw [if_neg (by omega), if_neg (by omega)]
        have q2 := hp.2 i (μ 69 1) i0 (by omega) (by omega) (by omega) (by omega)
        have q3 := hp.1 i i0 (by omega)
        exact (hv i i0 (by omega)).ag (AG.up (f1.ag (by omega)) (by omega))
  · refine ⟨_, k_dropFirst hp, ?_⟩
    rintro z7 ρ8 μ9 ⟨r1, r2, r3, hq8_1⟩
    obtain rfl := hq8_1.symm
    have hp2 := hp.drop r2 r3
    have e0 : up2 μ 69 1 9 69 1 = 9 := up2_s
    rw [e0]
    refine ⟨(by omega), ?_⟩
    refine ⟨(by exact (hp2.1 9 (by omega) (by omega)).1), ?_⟩
    refine ⟨_, k_copyFrom (hp2.1 9 (by omega) (by omega)).1 ho (by have := hp2.1 9 (by omega) (by omega); omega), ?_⟩
    rintro z12 ρ13 μ14 ⟨hq11_1, f1, c1⟩
    obtain rfl := hq11_1.symm
    have q := hp2.1 9 (by omega) (by omega)
    have e1 : μ14 69 1 = 9 := by rw [f1 69 (by omega)]; exact up2_s
    rw [e1]
    refine ⟨(by unfold i32; omega), ?_⟩
    intro μ16 eμ16; subst eμ16
    have hn10 : n = 10 := by omega
    have hN1 : hN n = 10 := by unfold hN; rw [if_pos hn10]
    have f0 : FR 69 140 μ (up2 μ 69 1 9) := FR.up FR.refl (by omega)
    refine ⟨fun a ha => r1 a ha, hp2, FR.up (f0.trans (f1.mono (by omega) (by omega))) (by omega), ?_, fun i i0 i1 => ?_⟩
    · rw [up2_s, hN1]; rfl
    · rw [hN1] at i1
      unfold hPush
      rw [hN1]
      by_cases hi : i = 9
      · rw [if_pos (by omega), hi]
        have hs2 : SP (up2 μ 69 1 9) s p := hs.ag (AG.up AG.refl (by omega))
        exact (c1.sp hs2 hn).ag (AG.up AG.refl (by omega))
      · rw [if_neg (by omega), if_pos hn10, r2 i i0 (by omega)]
        have q2 := hp2.2 i 9 i0 (by omega) (by omega) (by omega) hi
        have q3 := hp2.1 i i0 (by omega)
        rw [r2 i i0 (by omega)] at q2 q3
        exact ((hv (i + 1) (by omega) (by omega)).ag (AG.up AG.refl (by omega))).ag (AG.up (f1.ag (by omega)) (by omega))
theorem k_popInto {ρ : Rf} {μ : Mem} {s : Nat} {n : Int} {h : Int → Pl} (ho : isO 6 s) (hd : s + 6 < 69 ∨ 140 < s) (hp : HPm ρ) (hh : HS ρ μ n h) (hn0 : 0 < n ∧ n ≤ 10) (hq : h (n - 1) 87 ≤ 20) : qE mX1_popInto GG GG [qP 69, qP s] ρ μ (fun _ ρ' μ' => ρ' = ρ ∧ (∀ a, a ≠ 69 → (a < s ∨ s + 6 < a) → μ' a = μ a) ∧ HS ρ μ' (n - 1) h ∧ SP μ' s (h (n - 1))) := by
  obtain ⟨hc, hv⟩ := hh
  refine e_X1_popInto ho ?_
  refine ⟨fun hc1 => ?_, fun hc1 => ?_⟩
  · refine ⟨(by unfold i32; omega), ?_⟩
    intro μ1 eμ1; subst eμ1
    rw [up2_s]
    refine ⟨(by omega), ?_⟩
    refine ⟨(by exact (hp.1 _ (by omega) (by omega)).1), ?_⟩
    refine ⟨_, k_copyFrom ho (hp.1 (μ 69 1 - 1) (by omega) (by omega)).1 (by have := hp.1 (μ 69 1 - 1) (by omega) (by omega); omega), ?_⟩
    rintro z3 ρ4 μ5 ⟨hq6_1, f1, c1⟩
    obtain rfl := hq6_1.symm
    have q := hp.1 (μ 69 1 - 1) (by omega) (by omega)
    have hv2 : ∀ i : Int, 0 ≤ i → i < n → SP (up2 μ 69 1 (μ 69 1 - 1)) (ρ 70 i) (h i) := fun i i0 i1 => (hv i i0 i1).ag (AG.up AG.refl (by have := hp.1 i i0 (by omega); omega))
    refine ⟨rfl, fun a h1 h2 => ?_, ⟨?_, fun i i0 i1 => ?_⟩, ?_⟩
    · rw [f1 a h2, up2_c h1]
    · rw [f1 69 (by omega), up2_s, hc]
    · exact (hv2 i i0 (by omega)).ag (f1.ag (by have := hp.1 i i0 (by omega); omega))
    · rw [hc] at c1 hv2
      exact c1.sp (hv2 (n - 1) (by omega) (by omega)) hq
  · omega
