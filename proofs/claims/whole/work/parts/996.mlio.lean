/-! ===== the reference's lines: meal, stock, trolley ===== -/
section MLO
variable {ρ : Rf} {μ : Mem} {b : Int → Int} {n : Int} {T : Tk} {D : Sg}
theorem m_readMeal (hb : BY b) (hn : n ≤ 900) (h : MT μ b n T) (hp : T.1 = 0 → Mp μ T) (hd : MD μ D) (hv : DV b D) : qE mX8_readMeal GG GG [qP 178] ρ μ (fun _ ρ' μ' => ρ' = ρ ∧ MT μ' b n (me5 b n D T) ∧ PQ μ μ' ∧ ((me5 b n D T).1 = 0 → Ma μ' b n (me5 b n D T) ∧ MD μ' (meS b n D T))) := by
  have cb := hv.2.2.2.2.2.2.2.1
  have F72 : ∀ μ1 : Mem, MT μ1 b n (me3 b n D T) → OM μ μ1 → ((me3 b n D T).1 = 0 → Mp μ1 (me3 b n D T) ∧ μ1 178 11 = tX b n T.2.2.2) → qX mX8_readMeal GG (fun _ ρ' μ' => ρ' = ρ ∧ MT μ' b n (me5 b n D T) ∧ PQ μ μ' ∧ ((me5 b n D T).1 = 0 → Ma μ' b n (me5 b n D T) ∧ MD μ' (meS b n D T))) GG (0, 0) 72 [some (qP 178), some (qI (D 1 36))] [] ρ μ1 := by
    intro μ1 c1 o1 p1
    have ct := c1.2.2.2.2.2
    have d1 := hd.om o1
    refine w_X8_readMeal_72 ?_
    rw [c1.2.1]
    refine ⟨fun hc1 => ?_, fun hc1 => ?_⟩
    · have m3 : (me3 b n D T).1 = 0 := by omega
      have m2 := me3_0 m3
      have m1 := me1_0 (fKw_0 (show (fKw b n (-1) (me1 D T)).1 = 0 by have := m3; rw [m2.2] at this; exact this)).1
      obtain ⟨pp, pw⟩ := p1 m3
      rw [pw]
      refine ⟨(by omega), ?_⟩
      intro μ1 eμ1; subst eμ1
      refine ⟨_, m_adv hb hn (c1.up (by decide)) (fun x => by rw [up2_c (by decide)]; exact pp.2), ?_⟩
      rintro z2 ρ3 μ4 ⟨hq4_1, c2, o2, a2⟩
      obtain rfl := hq4_1.symm
      refine ⟨(by unfold i32; omega), ?_⟩
      refine ⟨_, m_number hb hn c2 a2, ?_⟩
      rintro z6 ρ7 μ8 ⟨hq6_1, hq6_2, c3, o3, a3⟩
      obtain rfl := hq6_1.symm
      obtain rfl := hq6_2.symm
      refine ⟨(by omega), ?_⟩
      intro μ10 eμ10; subst eμ10
      refine ⟨(by unfold i32; omega), ?_⟩
      refine ⟨_, m_number hb hn (c3.up (by decide)) (fun x => (a3 x).up (by decide)), ?_⟩
      rintro z11 ρ12 μ13 ⟨hq10_1, hq10_2, c4, o4, a4⟩
      obtain rfl := hq10_1.symm
      obtain rfl := hq10_2.symm
      refine ⟨(by omega), ?_⟩
      intro μ15 eμ15; subst eμ15
      have g181 : μ13 181 = u1 (μ1 181) (37 + D 1 36) (vNu b n 0 20 (me3 b n D T)) := by rw [o4.1 181 (by decide), up2_u, o3.1 181 (by decide), o2.1 181 (by decide), up2_c (by decide)]
      rw [up2_k (by omega), g181, u1_n (by omega), d1.1 36 (by decide) (by decide)]
      refine ⟨(by unfold i32; omega), ?_⟩
      intro μ16 eμ16; subst eμ16
      have pq : PQ μ μ13 := (((o1.pq.up (by decide)).trans o2.pq).trans o3.pq).up (by decide) |>.trans o4.pq
      refine ⟨rfl, (MT.up (T := me5 b n D T) c4 (by decide)).up (by decide), (pq.up (by decide)).up (by decide), fun x => ⟨((a4 x).up (by decide)).up (by decide), ?_⟩⟩
      unfold meS
      rw [if_pos x]
      have g184 : μ13 184 = u1 (μ1 184) (D 1 36) (tX b n T.2.2.2) := by rw [o4.1 184 (by decide), up2_c (by decide), o3.1 184 (by decide), o2.1 184 (by decide), up2_u]
      have g185 : μ13 185 = μ1 185 := by rw [o4.1 185 (by decide), up2_c (by decide), o3.1 185 (by decide), o2.1 185 (by decide), up2_c (by decide)]
      have g186 : μ13 186 = μ1 186 := by rw [o4.1 186 (by decide), up2_c (by decide), o3.1 186 (by decide), o2.1 186 (by decide), up2_c (by decide)]
      have e1 : ∀ w x p q, meX D w x p q 1 = u1 (u1 (u1 (D 1) (37 + D 1 36) p) (41 + D 1 36) q) 36 (D 1 36 + 1) := fun _ _ _ _ => rfl
      have e3 : ∀ w x p q, meX D w x p q 3 = u1 (D 3) (D 1 36) x := fun _ _ _ _ => rfl
      refine ⟨?_, fun m m0 m1 => ?_, fun t t0 t1 => ?_, fun k k0 k1 => ?_⟩
      · intro x x0 x1; rw [up2_u, up2_u, g181, e1]; exact u1_cg (u1_cg (u1_cg (d1.1 x x0 x1)))
      · rw [e1, u1_s] at m1
        rw [up2_c (by decide), up2_c (by decide), g184, e3]
        by_cases e : m = D 1 36
        · rw [e, u1_s, u1_s]
        · rw [u1_n e, u1_n e]; exact d1.2.1 m m0 (by omega)
      · rw [up2_c (by decide), up2_c (by decide), g185]
        exact d1.2.2.1 t t0 t1
      · rw [up2_c (by decide), up2_c (by decide), g186]
        exact d1.2.2.2 k k0 k1
    · have m3 : ¬ (me3 b n D T).1 = 0 := by omega
      have e5 : me5 b n D T = me3 b n D T := by unfold me5 me4; rw [fNu_c (T := me3 b n D T) m3, fNu_c m3]
      exact ⟨rfl, by rw [e5]; exact c1, o1.pq, fun x => by rw [e5] at x; exact absurd x m3⟩
  have E49 : ∀ μ1 : Mem, MT μ1 b n (me2 b n D T) → OM μ μ1 → (me2 b n D T).1 ≠ 0 → qX mX8_readMeal GG (fun _ ρ' μ' => ρ' = ρ ∧ MT μ' b n (me5 b n D T) ∧ PQ μ μ' ∧ ((me5 b n D T).1 = 0 → Ma μ' b n (me5 b n D T) ∧ MD μ' (meS b n D T))) GG (0, 0) 49 [some (qP 178), some (qI (D 1 36))] [] ρ μ1 := by
    intro μ1 c1 o1 ne
    have e3 : me3 b n D T = me2 b n D T := by unfold me3; rw [fR_c ne]; split <;> rfl
    refine w_X8_readMeal_49 ?_
    rw [c1.2.1]
    refine ⟨fun hc1 => ?_, fun hc1 => ?_⟩
    · exact F72 μ1 (by rw [e3]; exact c1) o1 (fun x => by rw [e3] at x; exact absurd x ne)
    · exfalso; omega
  have G49 : ∀ μ1 : Mem, MT μ1 b n (me2 b n D T) → OM μ μ1 → (me2 b n D T).1 = 0 → Mp μ1 (me2 b n D T) → μ1 178 11 = tX b n T.2.2.2 → tK b n T.2.2.2 = 1 → T.2.2.2 ≤ n → qX mX8_readMeal GG (fun _ ρ' μ' => ρ' = ρ ∧ MT μ' b n (me5 b n D T) ∧ PQ μ μ' ∧ ((me5 b n D T).1 = 0 → Ma μ' b n (me5 b n D T) ∧ MD μ' (meS b n D T))) GG (0, 0) 49 [some (qP 178), some (qI (D 1 36))] [] ρ μ1 := by
    intro μ1 c1 o1 c0 pp pw hk hle
    have d1 := hd.om o1
    have e36 : μ1 181 36 = D 1 36 := d1.1 36 (by decide) (by decide)
    have fw := fnd_w d1 hv hle hk
    refine w_X8_readMeal_49 ?_
    rw [c1.2.1, pw]
    refine ⟨fun hc1 => ?_, fun hc1 => ?_⟩
    · exfalso; omega
    · refine ⟨_, m_mealBy (by omega) (by omega), ?_⟩
      rintro z1 ρ2 μ3 ⟨hq3_1, hq3_2, hq3_3⟩
      obtain rfl := hq3_1.symm
      obtain rfl := hq3_2.symm
      obtain rfl := hq3_3.symm
      rw [fw]
      refine ⟨fun hc4 => ?_, fun hc4 => ?_⟩
      · have e3 : me3 b n D T = me2 b n D T := by unfold me3; rw [if_pos (by omega)]
        exact F72 μ1 (by rw [e3]; exact c1) o1 (fun _ => ⟨by rw [e3]; exact pp, pw⟩)
      · refine ⟨_, m_report (x := 3) (by decide) c1 (fun _ => pp), ?_⟩
        rintro z5 ρ6 μ7 ⟨hq6_1, c2, o2, k2⟩
        obtain rfl := hq6_1.symm
        have e3 : me3 b n D T = fR 3 (me2 b n D T) := by unfold me3; rw [if_neg (by omega)]
        exact F72 _ (by rw [e3]; exact c2) (o1.trans o2) (fun x => by rw [e3] at x; exact absurd x (fR_k (by decide)))
  have G44 : ∀ μ1 : Mem, MT μ1 b n (me1 D T) → OM μ μ1 → (me1 D T).1 = 0 → Ma μ1 b n (me1 D T) → fR 1 (fTk b n (me1 D T)) = me2 b n D T → qX mX8_readMeal GG (fun _ ρ' μ' => ρ' = ρ ∧ MT μ' b n (me5 b n D T) ∧ PQ μ μ' ∧ ((me5 b n D T).1 = 0 → Ma μ' b n (me5 b n D T) ∧ MD μ' (meS b n D T))) GG (0, 0) 44 [some (qP 178), some (qI (D 1 36))] [] ρ μ1 := by
    intro μ1 c1 o1 c0 a1 e
    refine w_X8_readMeal_44 ?_
    refine ⟨_, m_report (x := 1) (by decide) (c1.tk c0).2 (fun _ => a1.p c0), ?_⟩
    rintro z1 ρ2 μ3 ⟨hq1_1, c2, o2, k2⟩
    obtain rfl := hq1_1.symm
    rw [e] at c2
    exact E49 _ c2 (o1.trans o2) (by rw [← e]; exact fR_k (by decide))
  have F18 : ∀ μ1 : Mem, MT μ1 b n (me1 D T) → OM μ μ1 → ((me1 D T).1 = 0 → Mp μ1 (me1 D T)) → qX mX8_readMeal GG (fun _ ρ' μ' => ρ' = ρ ∧ MT μ' b n (me5 b n D T) ∧ PQ μ μ' ∧ ((me5 b n D T).1 = 0 → Ma μ' b n (me5 b n D T) ∧ MD μ' (meS b n D T))) GG (0, 0) 18 [some (qP 178), some (qI (D 1 36))] [] ρ μ1 := by
    intro μ1 c1 o1 p1
    have tb := tok_b (b := b) c1.2.2.2.2.1
    have r2 := rk_2 (k := tK b n (me1 D T).2.2.2) (by omega) (by omega)
    have e2 : me2 b n D T = fKw b n (-1) (me1 D T) := rfl
    refine w_X8_readMeal_18 ?_
    refine ⟨_, m_adv hb hn c1 (fun x => (p1 x).2), ?_⟩
    rintro z1 ρ2 μ3 ⟨hq1_1, c2, o2, a2⟩
    obtain rfl := hq1_1.symm
    rw [c2.2.1]
    refine ⟨fun hc2 => ?_, fun hc2 => ?_⟩
    · have ne : (me1 D T).1 ≠ 0 := by omega
      have e : me2 b n D T = me1 D T := by rw [e2, fKw_c ne]
      exact E49 _ (by rw [e]; exact c2) (o1.trans o2) (by rw [e]; exact ne)
    · refine ⟨fun hc4 => ?_, fun hc4 => ?_⟩
      · have c0 : (me1 D T).1 = 0 := by omega
        have a := a2 c0
        refine G44 _ c2 (o1.trans o2) c0 a ?_
        rw [e2]
        unfold fKw
        rw [if_pos c0, if_neg (fun x => by have := r2.2.1.mpr x.1; rw [← a.2.2.1] at this; omega)]
      · refine ⟨_, m_res hb hn c2 a2, ?_⟩
        rintro z5 ρ6 μ7 ⟨hz, hq6_1, hq6_2⟩
        obtain rfl := hq6_1.symm
        obtain rfl := hq6_2.symm
        refine ⟨fun hc7 => ?_, fun hc7 => ?_⟩
        · have c0 : (me1 D T).1 = 0 := by omega
          have a := a2 c0
          have hk := r2.2.1.mp (by rw [← a.2.2.1]; omega)
          have aw := a.2.2.2.1 hk
          rw [if_pos ⟨c0, hk⟩] at hz
          have e : me2 b n D T = fTk b n (me1 D T) := by rw [e2]; unfold fKw; rw [if_pos c0, if_pos ⟨hk, by have := kw_r (tW b n (me1 D T).2.2.2); omega⟩]
          rw [me1_p] at hk aw
          exact G49 _ (by rw [e]; exact (c2.tk c0).2) (o1.trans o2) (by rw [e, fTk_1]; exact c0) (by rw [e]; exact a.p c0) aw hk (by have := c1.2.2.2.2.1; rw [me1_p] at this; exact this)
        · have c0 : (me1 D T).1 = 0 := by omega
          have a := a2 c0
          have hk := r2.2.1.mp (by rw [← a.2.2.1]; omega)
          rw [if_pos ⟨c0, hk⟩] at hz
          refine G44 _ c2 (o1.trans o2) c0 a ?_
          rw [e2]
          unfold fKw
          rw [if_pos c0, if_neg (fun x => by omega)]
  refine e_X8_readMeal ?_
  rw [show μ 181 36 = D 1 36 from hd.1 36 (by decide) (by decide)]
  refine ⟨fun hc1 => ?_, fun hc1 => ?_⟩
  · exact F18 _ (by unfold me1; rw [if_pos (by omega)]; exact h) OM.refl (fun x => by unfold me1 at x ⊢; rw [if_pos (by omega)] at x ⊢; exact hp x)
  · refine ⟨_, m_report (x := 4) (by decide) h hp, ?_⟩
    rintro z1 ρ2 μ3 ⟨hq3_1, c1, o1, k1⟩
    obtain rfl := hq3_1.symm
    exact F18 _ (by unfold me1; rw [if_neg (by omega)]; exact c1) o1 (fun x => by unfold me1 at x; rw [if_neg (by omega)] at x; exact absurd x (fR_k (by decide)))
/-! ### stock -/
theorem st3_0 (h : (st3 b n D T).1 = 0) : D 5 (stI b n D T) = 0 ∧ st3 b n D T = st2 b n D T := by
  unfold st3 at h ⊢
  by_cases c : D 5 (stI b n D T) = 0
  · rw [if_pos c]; exact ⟨c, rfl⟩
  · rw [if_neg c] at h; exact absurd h (fR_k (by decide))
theorem vMl_b (hv : DV b D) (h : (fMl b n D T).1 = 0) : 0 ≤ vMl b n D T ∧ vMl b n D T < D 1 36 := by
  have cb := hv.2.2.2.2.2.2.2.1
  have f := fMl_0 h
  have := fnd_b (f := D 2) (c := D 1 36) (w := tW b n T.2.2.2) cb.1
  unfold vMl
  omega
theorem m_readStock (hb : BY b) (hn : n ≤ 900) (h : MT μ b n T) (hp : T.1 = 0 → Mp μ T) (hd : MD μ D) (hv : DV b D) : qE mX8_readStock GG GG [qP 178] ρ μ (fun _ ρ' μ' => ρ' = ρ ∧ MT μ' b n (st4 b n D T) ∧ PQ μ μ' ∧ ((st4 b n D T).1 = 0 → Ma μ' b n (st4 b n D T) ∧ MD μ' (stS b n D T))) := by
  have cb := hv.2.2.2.2.2.2.2.1
  have F49 : ∀ (μ1 : Mem) (k m : Int), MT μ1 b n (st3 b n D T) → OM μ μ1 → ((st3 b n D T).1 = 0 → Mp μ1 (st3 b n D T) ∧ 4 * k + m = stI b n D T ∧ 0 ≤ k ∧ k < 3 ∧ 0 ≤ m ∧ m < 4) → qX mX8_readStock GG (fun _ ρ' μ' => ρ' = ρ ∧ MT μ' b n (st4 b n D T) ∧ PQ μ μ' ∧ ((st4 b n D T).1 = 0 → Ma μ' b n (st4 b n D T) ∧ MD μ' (stS b n D T))) GG (0, 0) 49 [some (qP 178), some (qI k), some (qI m), none] [] ρ μ1 := by
    intro μ1 k m c1 o1 p1
    refine w_X8_readStock_49 ?_
    refine ⟨_, m_adv hb hn c1 (fun x => (p1 x).1.2), ?_⟩
    rintro z1 ρ2 μ3 ⟨hq1_1, c2, o2, a2⟩
    obtain rfl := hq1_1.symm
    refine ⟨_, m_number hb hn c2 a2, ?_⟩
    rintro z5 ρ6 μ7 ⟨hq2_1, hq2_2, c3, o3, a3⟩
    obtain rfl := hq2_1.symm
    obtain rfl := hq2_2.symm
    have oo := (o1.trans o2).trans o3
    have dd := hd.om oo
    have ct := c3.2.2.2.2.2
    have c3' : MT μ7 b n (st4 b n D T) := c3
    rw [c3.2.1]
    refine ⟨fun hc3 => ?_, fun hc3 => ?_⟩
    · have c0 : (fNu b n 0 999 (st3 b n D T)).1 = 0 := by omega
      obtain ⟨pp, pi, k0, k1, m0, m1⟩ := p1 (fNu_0 c0).1
      refine ⟨(by unfold i32; omega), ?_⟩
      refine ⟨(by unfold i32; omega), ?_⟩
      refine ⟨(by omega), ?_⟩
      intro μ9 eμ9; subst eμ9
      refine ⟨(by unfold i32; omega), ?_⟩
      refine ⟨(by unfold i32; omega), ?_⟩
      refine ⟨(by unfold i32; omega), ?_⟩
      refine ⟨(by omega), ?_⟩
      intro μ10 eμ10; subst eμ10
      refine ⟨rfl, (c3'.up (by decide)).up (by decide), (oo.pq.up (by decide)).up (by decide), fun _ => ⟨((a3 c0).up (by decide)).up (by decide), ?_⟩⟩
      unfold stS
      rw [if_pos (show (st4 b n D T).1 = 0 from c0), ← pi, show 49 + 4 * k + m = 49 + (4 * k + m) by omega]
      have e1 : ∀ i q, stX D i q 1 = u1 (D 1) (49 + i) q := fun _ _ => rfl
      refine ⟨?_, fun x m0 m1 => ?_, fun t t0 t1 => ?_, fun x k0 k1 => ?_⟩
      · intro x x0 x1; rw [up2_u, up2_c (by decide)]; exact u1_cg (dd.1 x x0 x1)
      · rw [up2_c (by decide), up2_c (by decide)]
        refine dd.2.1 x m0 ?_
        rw [e1, u1_n (by omega)] at m1
        exact m1
      · rw [up2_c (by decide), up2_c (by decide)]
        exact dd.2.2.1 t t0 t1
      · rw [up2_c (by decide), up2_u]
        show _ = u1 (D 5) _ 1 x
        exact u1_cg (dd.2.2.2 x k0 k1)
    · exact ⟨rfl, c3', oo.pq, fun x => absurd (show (fNu b n 0 999 (st3 b n D T)).1 = 0 from x) (by omega)⟩
  refine e_X8_readStock ?_
  refine ⟨_, m_adv hb hn h (fun x => (hp x).2), ?_⟩
  rintro z1 ρ2 μ3 ⟨hq1_1, c1, o1, a1⟩
  obtain rfl := hq1_1.symm
  rw [show μ3 181 45 = D 1 45 from (hd.om o1).1 45 (by decide) (by decide)]
  refine ⟨(by unfold i32; omega), ?_⟩
  refine ⟨_, m_number hb hn c1 a1, ?_⟩
  rintro z5 ρ6 μ7 ⟨hq3_1, hq3_2, c2, o2, a2⟩
  obtain rfl := hq3_1.symm
  obtain rfl := hq3_2.symm
  refine ⟨_, m_peekMeal (D := D) hb hn c2 a2 (fun _ => (hd.om o1).om o2) hv, ?_⟩
  rintro z9 ρ10 μ11 ⟨zm, hq4_1, c3, o3, p3⟩
  obtain rfl := hq4_1.symm
  have oo := (o1.trans o2).trans o3
  have dd := hd.om oo
  have ct := c3.2.2.2.2.2
  have vm := vNu_m (b := b) (n := n) (lo := 0) (hi := D 1 45 - 1) (T := T)
  have es : fMl b n D (fNu b n 0 (D 1 45 - 1) T) = st2 b n D T := rfl
  rw [es] at c3 p3 zm
  rw [c3.2.1]
  refine ⟨fun hc5 => ?_, fun hc5 => ?_⟩
  · have ne : (st2 b n D T).1 ≠ 0 := by omega
    have e3 : st3 b n D T = st2 b n D T := by unfold st3; rw [fR_c ne]; split <;> rfl
    exact F49 _ _ _ (by rw [e3]; exact c3) oo (fun x => by rw [e3] at x; exact absurd x ne)
  · have c0 : (st2 b n D T).1 = 0 := by omega
    have zm := zm c0
    subst zm
    have vb := vMl_b (T := st1 b n D T) hv c0
    have eM : vMl b n D (fNu b n 0 (D 1 45 - 1) T) = vMl b n D (st1 b n D T) := rfl
    rw [eM]
    have n0 := vNu_b (fMl_0 (show (fMl b n D (fNu b n 0 (D 1 45 - 1) T)).1 = 0 from c0)).1
    have eI : 4 * vNu b n 0 (D 1 45 - 1) T + vMl b n D (st1 b n D T) = stI b n D T := rfl
    refine ⟨(by unfold i32; omega), ?_⟩
    refine ⟨(by unfold i32; omega), ?_⟩
    refine ⟨(by omega), ?_⟩
    rw [dd.2.2.2 _ (by omega) (by omega), eI]
    refine ⟨fun hc10 => ?_, fun hc10 => ?_⟩
    · have e3 : st3 b n D T = st2 b n D T := by unfold st3; rw [if_pos (by omega)]
      exact F49 _ _ _ (by rw [e3]; exact c3) oo (fun _ => ⟨by rw [e3]; exact p3 c0, eI, by omega, by omega, by omega, by omega⟩)
    · refine ⟨_, m_report (x := 3) (by decide) c3 p3, ?_⟩
      rintro z13 ρ14 μ15 ⟨hq12_1, c4, o4, k4⟩
      obtain rfl := hq12_1.symm
      have e3 : st3 b n D T = fR 3 (st2 b n D T) := by unfold st3; rw [if_neg (by omega)]
      exact F49 _ _ _ (by rw [e3]; exact c4) (oo.trans o4) (fun x => by rw [e3] at x; exact absurd x (fR_k (by decide)))
/-! ### trolley -/
theorem m_readTrolley (hb : BY b) (hn : n ≤ 900) (h : MT μ b n T) (hp : T.1 = 0 → Mp μ T) (hd : MD μ D) (hv : DV b D) : qE mX8_readTrolley GG GG [qP 178] ρ μ (fun _ ρ' μ' => ρ' = ρ ∧ MT μ' b n (ty6 b n D T) ∧ PQ μ μ' ∧ ((ty6 b n D T).1 = 0 → Ma μ' b n (ty6 b n D T) ∧ MD μ' (tyS b n D T))) := by
  have cb := hv.2.2.2.2.2.2.2.1
  have F18 : ∀ μ1 : Mem, MT μ1 b n (ty1 D T) → OM μ μ1 → ((ty1 D T).1 = 0 → Mp μ1 (ty1 D T)) → qX mX8_readTrolley GG (fun _ ρ' μ' => ρ' = ρ ∧ MT μ' b n (ty6 b n D T) ∧ PQ μ μ' ∧ ((ty6 b n D T).1 = 0 → Ma μ' b n (ty6 b n D T) ∧ MD μ' (tyS b n D T))) GG (0, 0) 18 [some (qP 178), some (qI (D 1 61)), none, none, none, none, none, none] [] ρ μ1 := by
    intro μ1 c1 o1 p1
    refine w_X8_readTrolley_18 ?_
    refine ⟨_, m_adv hb hn c1 (fun x => (p1 x).2), ?_⟩
    rintro z1 ρ2 μ3 ⟨hq1_1, c2, o2, a2⟩
    obtain rfl := hq1_1.symm
    rw [show μ3 181 45 = D 1 45 from (hd.om (o1.trans o2)).1 45 (by decide) (by decide)]
    refine ⟨(by unfold i32; omega), ?_⟩
    refine ⟨_, m_number hb hn c2 a2, ?_⟩
    rintro z5 ρ6 μ7 ⟨hq3_1, hq3_2, c3, o3, a3⟩
    obtain rfl := hq3_1.symm
    obtain rfl := hq3_2.symm
    refine ⟨_, m_number hb hn c3 a3, ?_⟩
    rintro z9 ρ10 μ11 ⟨hq4_1, hq4_2, c4, o4, a4⟩
    obtain rfl := hq4_1.symm
    obtain rfl := hq4_2.symm
    refine ⟨_, m_number hb hn c4 a4, ?_⟩
    rintro z13 ρ14 μ15 ⟨hq5_1, hq5_2, c5, o5, a5⟩
    obtain rfl := hq5_1.symm
    obtain rfl := hq5_2.symm
    refine ⟨_, m_number hb hn c5 a5, ?_⟩
    rintro z17 ρ18 μ19 ⟨hq6_1, hq6_2, c6, o6, a6⟩
    obtain rfl := hq6_1.symm
    obtain rfl := hq6_2.symm
    refine ⟨_, m_number hb hn c6 a6, ?_⟩
    rintro z21 ρ22 μ23 ⟨hq7_1, hq7_2, c7, o7, a7⟩
    obtain rfl := hq7_1.symm
    obtain rfl := hq7_2.symm
    have oo := (((((o1.trans o2).trans o3).trans o4).trans o5).trans o6).trans o7
    have dd := hd.om oo
    have ct := c7.2.2.2.2.2
    have c7' : MT μ23 b n (ty6 b n D T) := c7
    rw [c7.2.1]
    refine ⟨fun hc8 => ?_, fun hc8 => ?_⟩
    · have c0 : (fNu b n 1 5 (fNu b n 1 5 (fNu b n 1 9 (fNu b n 1 99 (fNu b n 0 (D 1 45 - 1) (ty1 D T)))))).1 = 0 := by omega
      have m1 := ty1_0 (fNu_0 (fNu_0 (fNu_0 (fNu_0 (fNu_0 c0).1).1).1).1).1
      have ec : μ23 181 61 = D 1 61 := dd.1 61 (by decide) (by decide)
      refine ⟨(by unfold i32; omega), ?_⟩
      refine ⟨(by unfold i32; omega), ?_⟩
      refine ⟨(by unfold i32; omega), ?_⟩
      refine ⟨(by omega), ?_⟩
      intro μ25 eμ25; subst eμ25
      refine ⟨(by unfold i32; omega), ?_⟩
      refine ⟨(by omega), ?_⟩
      intro μ26 eμ26; subst eμ26
      refine ⟨(by unfold i32; omega), ?_⟩
      refine ⟨(by omega), ?_⟩
      intro μ27 eμ27; subst eμ27
      refine ⟨(by unfold i32; omega), ?_⟩
      refine ⟨(by omega), ?_⟩
      intro μ28 eμ28; subst eμ28
      refine ⟨(by unfold i32; omega), ?_⟩
      refine ⟨(by omega), ?_⟩
      intro μ29 eμ29; subst eμ29
      rw [up2_k (by omega), up2_k (by omega), up2_k (by omega), up2_k (by omega), up2_k (by omega), ec]
      refine ⟨(by unfold i32; omega), ?_⟩
      intro μ30 eμ30; subst eμ30
      refine ⟨rfl, (((((c7'.up (by decide)).up (by decide)).up (by decide)).up (by decide)).up (by decide)).up (by decide), (((((oo.pq.up (by decide)).up (by decide)).up (by decide)).up (by decide)).up (by decide)).up (by decide), fun _ => ⟨((((((a7 c0).up (by decide)).up (by decide)).up (by decide)).up (by decide)).up (by decide)).up (by decide), ?_⟩⟩
      unfold tyS
      rw [if_pos (show (ty6 b n D T).1 = 0 from c0)]
      have e1 : ∀ k0 c0 v0 l0 w0, tyX D k0 c0 v0 l0 w0 1 = u1 (u1 (u1 (u1 (u1 (u1 (D 1) (62 + 5 * D 1 61 + 0) k0) (62 + 5 * D 1 61 + 1) c0) (62 + 5 * D 1 61 + 2) v0) (62 + 5 * D 1 61 + 3) l0) (62 + 5 * D 1 61 + 4) w0) 61 (D 1 61 + 1) := fun _ _ _ _ _ => rfl
      refine ⟨?_, fun x m0 m1 => ?_, fun t t0 t1 => ?_, fun x k0 k1 => ?_⟩
      · intro x x0 x1; rw [up2_u, up2_u, up2_u, up2_u, up2_u, up2_u]; exact u1_cg (u1_cg (u1_cg (u1_cg (u1_cg (u1_cg (dd.1 x x0 x1))))))
      · rw [up2_c (by decide), up2_c (by decide), up2_c (by decide), up2_c (by decide), up2_c (by decide), up2_c (by decide)]
        refine dd.2.1 x m0 ?_
        rw [e1, u1_n (by omega), u1_n (by omega), u1_n (by omega), u1_n (by omega), u1_n (by omega), u1_n (by omega)] at m1
        exact m1
      · rw [up2_c (by decide), up2_c (by decide), up2_c (by decide), up2_c (by decide), up2_c (by decide), up2_c (by decide)]
        exact dd.2.2.1 t t0 t1
      · rw [up2_c (by decide), up2_c (by decide), up2_c (by decide), up2_c (by decide), up2_c (by decide), up2_c (by decide)]
        exact dd.2.2.2 x k0 k1
    · exact ⟨rfl, c7', oo.pq, fun x => absurd (show (fNu b n 1 5 (fNu b n 1 5 (fNu b n 1 9 (fNu b n 1 99 (fNu b n 0 (D 1 45 - 1) (ty1 D T)))))).1 = 0 from x) (by omega)⟩
  refine e_X8_readTrolley ?_
  rw [show μ 181 61 = D 1 61 from hd.1 61 (by decide) (by decide)]
  refine ⟨fun hc1 => ?_, fun hc1 => ?_⟩
  · exact F18 _ (by unfold ty1; rw [if_pos (by omega)]; exact h) OM.refl (fun x => by unfold ty1 at x ⊢; rw [if_pos (by omega)] at x ⊢; exact hp x)
  · refine ⟨_, m_report (x := 4) (by decide) h hp, ?_⟩
    rintro z1 ρ2 μ3 ⟨hq3_1, c1, o1, k1⟩
    obtain rfl := hq3_1.symm
    exact F18 _ (by unfold ty1; rw [if_neg (by omega)]; exact c1) o1 (fun x => by unfold ty1 at x; rw [if_neg (by omega)] at x; exact absurd x (fR_k (by decide)))
end MLO
