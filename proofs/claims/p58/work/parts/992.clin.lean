/-! ===== the class's lines: train, car, meal, kitchen ===== -/
def PF (f s : Nat) (μ μ' : Mem) : Prop := (∀ a, a ≠ 1 → a ≠ 3 → (a < f ∨ f + 15 < a) → (a < s ∨ s + 6 < a) → μ' a = μ a) ∧ ∀ k, (k < 3 ∨ (4 < k ∧ k < 8) ∨ 12 < k) → μ' 1 k = μ 1 k
theorem OB.pf {f s : Nat} {μ μ' : Mem} (o : OB μ μ') : PF f s μ μ' := ⟨fun a x _ _ _ => o.1 a x, o.2⟩
theorem PF.trans {f s : Nat} {μ0 μ1 μ2 : Mem} (h1 : PF f s μ0 μ1) (h2 : PF f s μ1 μ2) : PF f s μ0 μ2 := ⟨fun a x y z w => (h2.1 a x y z w).trans (h1.1 a x y z w), fun k x => (h2.2 k x).trans (h1.2 k x)⟩
section CLI
variable {ρ : Rf} {μ : Mem} {b : Int → Int} {n : Int} {T : Tk} {f s : Nat} {D : Sg}
theorem CT.c {μ' : Mem} (h : CT μ b n T) (h1 : μ' 1 = μ 1) (h2 : μ' 2 = μ 2) : CT μ' b n T := by
  unfold CT TXc at *
  rw [h1, h2]
  exact h
theorem PF.up {μ1 : Mem} {c : Nat} {k v : Int} (fs : ((f = 155 ∧ s = 171) ∨ (f = 4 ∧ s = 20))) (h : PF f s μ μ1) (hc : c = 3 ∨ (f ≤ c ∧ c ≤ f + 15) ∨ (s ≤ c ∧ c ≤ s + 6)) : PF f s μ (up2 μ1 c k v) := ⟨fun a x y z w => by rw [up2_c (by omega)]; exact h.1 a x y z w, fun k x => by rw [up2_c (by omega)]; exact h.2 k x⟩
theorem FD_tr {t a d : Int} (fs : ((f = 155 ∧ s = 171) ∨ (f = 4 ∧ s = 20))) (ht : 0 ≤ t ∧ t < 2) (h : FD μ f D) : FD (up2 (up2 (up2 μ (f + 1) t 1) (f + 2) t a) (s + 5) t d) f (trX D t a d) := by
  obtain ⟨h1, h2, h3, h4, h5, h6⟩ := h
  have e1 : trX D t a d 1 = u1 (u1 (D 1) (0 + t) a) (2 + t) d := rfl
  have e2 : trX D t a d 2 = D 2 := rfl
  have e4 : trX D t a d 4 = u1 (D 4) t 1 := rfl
  unfold FD
  rw [e1, e2, e4]
  refine ⟨fun x x0 x1 => ?_, fun x x0 x1 c c0 c1 => ?_, fun m m0 m1 => ?_, fun k k0 k1 => ?_, fun i i0 i1 => ?_, ?_⟩
  · obtain ⟨a1, a2, a3⟩ := h1 x x0 x1
    by_cases hx : x = t
    · subst hx
      simp (disch := omega) only [up2_c, up2_u, u1_n, u1_s]
      exact ⟨trivial, a2, fun _ => trivial⟩
    · simp (disch := omega) only [up2_c, up2_u, u1_n, u1_s]
      exact ⟨a1, a2, a3⟩
  · rw [u1_n (by omega), u1_n (by omega)] at c1
    simp (disch := omega) only [up2_c, up2_u, u1_n, u1_s]
    exact h2 x x0 x1 c c0 c1
  · rw [u1_n (by omega), u1_n (by omega)] at m1
    simp (disch := omega) only [up2_c, up2_u, u1_n, u1_s]
    exact h3 m m0 m1
  · rw [u1_n (by omega), u1_n (by omega)] at k1
    simp (disch := omega) only [up2_c, up2_u, u1_n, u1_s]
    exact h4 k k0 k1
  · rw [u1_n (by omega), u1_n (by omega)] at i1
    simp (disch := omega) only [up2_c, up2_u, u1_n, u1_s]
    exact h5 i i0 i1
  · simp (disch := omega) only [up2_c, up2_u, u1_n, u1_s]
    exact h6
theorem SD_tr {t a d : Int} (fs : ((f = 155 ∧ s = 171) ∨ (f = 4 ∧ s = 20))) (ht : 0 ≤ t ∧ t < 2) (h : SD μ s D) : SD (up2 (up2 (up2 μ (f + 1) t 1) (f + 2) t a) (s + 5) t d) s (trX D t a d) := by
  obtain ⟨h1, h2, h3, h4⟩ := h
  have e1 : trX D t a d 1 = u1 (u1 (D 1) (0 + t) a) (2 + t) d := rfl
  have e4 : trX D t a d 4 = u1 (D 4) t 1 := rfl
  unfold SD
  rw [e1, e4]
  refine ⟨fun j j0 j1 => ?_, fun x x0 x1 x2 => ?_, fun k k0 k1 => ?_, ?_⟩
  · rw [u1_n (by omega), u1_n (by omega)] at j1
    simp (disch := omega) only [up2_c, up2_u, u1_n, u1_s]
    exact h1 j j0 j1
  · by_cases hx : x = t
    · subst hx
      simp (disch := omega) only [up2_c, up2_u, u1_n, u1_s]
    · rw [u1_n hx] at x2
      simp (disch := omega) only [up2_c, up2_u, u1_n, u1_s]
      exact h2 x x0 x1 x2
  · simp (disch := omega) only [up2_c, up2_u, u1_n, u1_s]
    exact h3 k k0 k1
  · simp (disch := omega) only [up2_c, up2_u, u1_n, u1_s]
    exact h4
theorem k_readTrain (hb : BY b) (hn : n ≤ 900) (h : CT μ b n T) (hd : CD ρ μ f s D) : qE mX2_readTrain GG GG [qP 1] ρ μ (fun _ ρ' μ' => ρ' = ρ ∧ CT μ' b n (tr6 b n D T) ∧ CD ρ μ' f s (trS b n D T) ∧ PF f s μ μ') := by
  have vr := vNu_r (b := b) (n := n) (lo := 0) (hi := 1) (T := T) (by decide)
  have fs := hd.1
  have F24 : ∀ μ1 : Mem, CT μ1 b n (tr2 b n D T) → OB μ μ1 → qX mX2_readTrain GG (fun _ ρ' μ' => ρ' = ρ ∧ CT μ' b n (tr6 b n D T) ∧ CD ρ μ' f s (trS b n D T) ∧ PF f s μ μ') GG (0, 0) 24 [some (qP 1), some (qI (vNu b n 0 1 T)), none, none] [] ρ μ1 := by
    intro μ1 c1 o1
    refine w_X2_readTrain_24 ?_
    refine ⟨_, k_takeKeyword hb hn (fun x => kw_7) c1, ?_⟩
    rintro z1 ρ2 μ3 ⟨hq1_1, c2, o2⟩
    obtain rfl := hq1_1.symm
    refine ⟨_, k_takeNumber hb hn c2, ?_⟩
    rintro z5 ρ6 μ7 ⟨hq2_1, hq2_2, c3, o3⟩
    obtain rfl := hq2_1.symm
    obtain rfl := hq2_2.symm
    refine ⟨_, k_takeKeyword hb hn (fun x => kw_8) c3, ?_⟩
    rintro z9 ρ10 μ11 ⟨hq3_1, c4, o4⟩
    obtain rfl := hq3_1.symm
    refine ⟨_, k_takeNumber hb hn c4, ?_⟩
    rintro z13 ρ14 μ15 ⟨hq4_1, hq4_2, c5, o5⟩
    obtain rfl := hq4_1.symm
    obtain rfl := hq4_2.symm
    have oo := (((o1.trans o2).trans o3).trans o4).trans o5
    rw [c5.2.1]
    refine ⟨fun hc5 => ?_, fun hc5 => ?_⟩
    · exact ⟨rfl, c5, by unfold trS; rw [if_neg (show ¬ (tr6 b n D T).1 = 0 by show ¬ (fNu b n (trA b n D T) 999 (fKw b n 8 (tr4 b n D T))).1 = 0; unfold trA tr4; omega)]; exact hd.ob oo, oo.pf⟩
    · rw [hd.2.1]
      refine ⟨(by exact hd.i0), ?_⟩
      refine ⟨(by omega), ?_⟩
      intro μ18 eμ18; subst eμ18
      refine ⟨(by omega), ?_⟩
      intro μ19 eμ19; subst eμ19
      rw [hd.2.2.1]
      refine ⟨(by exact hd.i6), ?_⟩
      refine ⟨(by omega), ?_⟩
      intro μ21 eμ21; subst eμ21
      have dd := hd.ob oo
      have c0 : (tr6 b n D T).1 = 0 := by show (fNu b n (trA b n D T) 999 (fKw b n 8 (tr4 b n D T))).1 = 0; unfold trA tr4; omega
      refine ⟨rfl, c5.c (by rw [up2_c (by omega), up2_c (by omega), up2_c (by omega)]) (by rw [up2_c (by omega), up2_c (by omega), up2_c (by omega)]), ?_, PF.up hd.1 (PF.up hd.1 (PF.up hd.1 oo.pf (by omega)) (by omega)) (by omega)⟩
      unfold trS
      rw [if_pos c0]
      exact ⟨hd.1, hd.2.1, hd.2.2.1, FD_tr hd.1 ⟨vr.1, by omega⟩ dd.2.2.2.1, SD_tr hd.1 ⟨vr.1, by omega⟩ dd.2.2.2.2.1, fun k k0 k1 => by rw [up2_c (by omega), up2_c (by omega), up2_c (by omega)]; exact dd.2.2.2.2.2 k k0 k1⟩
  refine e_X2_readTrain ?_
  refine ⟨_, k_takeNumber hb hn h, ?_⟩
  rintro z1 ρ2 μ3 ⟨hq1_1, hq1_2, c1, o1⟩
  obtain rfl := hq1_1.symm
  obtain rfl := hq1_2.symm
  rw [hd.2.1]
  refine ⟨(by exact hd.i0), ?_⟩
  refine ⟨(by omega), ?_⟩
  rw [((hd.ob o1).2.2.2.1.1 _ vr.1 (by omega)).1]
  refine ⟨fun hc4 => ?_, fun hc4 => ?_⟩
  · exact F24 _ (by unfold tr2; rw [if_pos (by omega)]; exact c1) o1
  · refine ⟨_, k_refuse (x := 3) (by decide) c1, ?_⟩
    rintro z6 ρ7 μ8 ⟨hq6_1, c2, o2⟩
    obtain rfl := hq6_1.symm
    exact F24 _ (by unfold tr2; rw [if_neg (by omega)]; exact c2) (o1.trans o2)
/-! ### car -/
theorem FD_ca {t p q r : Int} (fs : ((f = 155 ∧ s = 171) ∨ (f = 4 ∧ s = 20))) (ht : 0 ≤ t ∧ t < 2) (hc : ∀ x, 0 ≤ x → x < 2 → 0 ≤ D 1 (4 + x) ∧ D 1 (4 + x) ≤ 5) (hl : D 1 (4 + t) < 5) (h : FD μ f D) : FD (up2 (up2 (up2 (up2 μ (f + 4) (5 * t + D 1 (4 + t)) p) (f + 5) (5 * t + D 1 (4 + t)) q) (f + 6) (5 * t + D 1 (4 + t)) r) (f + 3) t (D 1 (4 + t) + 1)) f (caX D t p q r) := by
  obtain ⟨h1, h2, h3, h4, h5, h6⟩ := h
  have e1 : caX D t p q r 1 = u1 (u1 (u1 (u1 (D 1) (6 + (5 * t + D 1 (4 + t))) p) (16 + (5 * t + D 1 (4 + t))) q) (26 + (5 * t + D 1 (4 + t))) r) (4 + t) (D 1 (4 + t) + 1) := rfl
  have e2 : caX D t p q r 2 = D 2 := rfl
  have e4 : caX D t p q r 4 = D 4 := rfl
  have ct := hc t ht.1 ht.2
  unfold FD
  rw [e1, e2, e4]
  refine ⟨fun x x0 x1 => ?_, fun x x0 x1 c c0 c1 => ?_, fun m m0 m1 => ?_, fun k k0 k1 => ?_, fun i i0 i1 => ?_, ?_⟩
  · obtain ⟨a1, a2, a3⟩ := h1 x x0 x1
    by_cases hx : x = t
    · subst hx
      simp (disch := omega) only [up2_c, up2_u, u1_n, u1_s]
      exact ⟨a1, trivial, a3⟩
    · simp (disch := omega) only [up2_c, up2_u, u1_n, u1_s]
      exact ⟨a1, a2, a3⟩
  · have cx := hc x x0 x1
    by_cases hx : x = t
    · subst hx
      rw [u1_s] at c1
      by_cases hc : c = D 1 (4 + x)
      · have g1 : 6 + 5 * x + c = 6 + (5 * x + D 1 (4 + x)) := by omega
        have g2 : 16 + (5 * x + c) = 16 + (5 * x + D 1 (4 + x)) := by omega
        have g3 : 26 + (5 * x + c) = 26 + (5 * x + D 1 (4 + x)) := by omega
        have g4 : 5 * x + c = 5 * x + D 1 (4 + x) := by omega
        rw [g1, g2, g3, g4]
        simp (disch := omega) only [up2_c, up2_u, u1_n, u1_s]
        exact ⟨trivial, trivial, trivial⟩
      · simp (disch := omega) only [up2_c, up2_u, u1_n, u1_s]
        exact h2 x x0 x1 c c0 (by omega)
    · rw [u1_n (by omega), u1_n (by omega), u1_n (by omega), u1_n (by omega)] at c1
      simp (disch := omega) only [up2_c, up2_u, u1_n, u1_s]
      exact h2 x x0 x1 c c0 c1
  · rw [u1_n (by omega), u1_n (by omega), u1_n (by omega), u1_n (by omega)] at m1
    simp (disch := omega) only [up2_c, up2_u, u1_n, u1_s]
    exact h3 m m0 m1
  · rw [u1_n (by omega), u1_n (by omega), u1_n (by omega), u1_n (by omega)] at k1
    simp (disch := omega) only [up2_c, up2_u, u1_n, u1_s]
    exact h4 k k0 k1
  · rw [u1_n (by omega), u1_n (by omega), u1_n (by omega), u1_n (by omega)] at i1
    simp (disch := omega) only [up2_c, up2_u, u1_n, u1_s]
    exact h5 i i0 i1
  · simp (disch := omega) only [up2_c, up2_u, u1_n, u1_s]
    exact h6
theorem SD_eq {μ' : Mem} {D' : Sg} (h : SD μ s D) (hm : ∀ a, s ≤ a → a ≤ s + 6 → μ' a = μ a) (h4 : D' 4 = D 4) (h1 : ∀ x, (x = 2 ∨ x = 3 ∨ (49 ≤ x ∧ x < 61) ∨ 87 ≤ x) → D' 1 x = D 1 x) : SD μ' s D' := by
  unfold SD
  rw [hm s (by omega) (by omega), hm (s + 1) (by omega) (by omega), hm (s + 2) (by omega) (by omega), hm (s + 3) (by omega) (by omega), hm (s + 4) (by omega) (by omega), hm (s + 5) (by omega) (by omega), hm (s + 6) (by omega) (by omega), h4, h1 87 (by omega)]
  refine ⟨fun j j0 j1 => ?_, fun x x0 x1 x2 => ?_, fun k k0 k1 => ?_, h.2.2.2⟩
  · rw [h1 _ (by omega), h1 _ (by omega), h1 _ (by omega), h1 _ (by omega), h1 _ (by omega)]
    exact h.1 j j0 j1
  · rw [h1 _ (by omega)]
    exact h.2.1 x x0 x1 x2
  · rw [h1 _ (by omega)]
    exact h.2.2.1 k k0 k1
theorem k_readCar (hb : BY b) (hn : n ≤ 900) (h : CT μ b n T) (hd : CD ρ μ f s D) (hv : DV b D) : qE mX2_readCar GG GG [qP 1] ρ μ (fun _ ρ' μ' => ρ' = ρ ∧ CT μ' b n (ca6 b n D T) ∧ CD ρ μ' f s (caS b n D T) ∧ PF f s μ μ') := by
  have vr := vNu_r (b := b) (n := n) (lo := 0) (hi := 1) (T := T) (by decide)
  have fs := hd.1
  have dc := fun x x0 x1 => (hv.1 x x0 x1)
  have F30 : ∀ μ1 : Mem, CT μ1 b n (ca3 b n D T) → OB μ μ1 → qX mX2_readCar GG (fun _ ρ' μ' => ρ' = ρ ∧ CT μ' b n (ca6 b n D T) ∧ CD ρ μ' f s (caS b n D T) ∧ PF f s μ μ') GG (0, 0) 30 [some (qP 1), some (qI (vNu b n 0 1 T)), none, none, none, none] [] ρ μ1 := by
    intro μ1 c1 o1
    refine w_X2_readCar_30 ?_
    refine ⟨_, k_takeNumber hb hn c1, ?_⟩
    rintro z1 ρ2 μ3 ⟨hq1_1, hq1_2, c2, o2⟩
    obtain rfl := hq1_1.symm
    obtain rfl := hq1_2.symm
    refine ⟨_, k_takeNumber hb hn c2, ?_⟩
    rintro z5 ρ6 μ7 ⟨hq2_1, hq2_2, c3, o3⟩
    obtain rfl := hq2_1.symm
    obtain rfl := hq2_2.symm
    refine ⟨_, k_takeNumber hb hn c3, ?_⟩
    rintro z9 ρ10 μ11 ⟨hq3_1, hq3_2, c4, o4⟩
    obtain rfl := hq3_1.symm
    obtain rfl := hq3_2.symm
    have oo := ((o1.trans o2).trans o3).trans o4
    have dd := hd.ob oo
    have ec := (dd.2.2.2.1.1 _ vr.1 (by omega : vNu b n 0 1 T < 2)).2.1
    have bc := dc _ vr.1 (by omega : vNu b n 0 1 T < 2)
    rw [c4.2.1]
    refine ⟨fun hc4 => ?_, fun hc4 => ?_⟩
    · exact ⟨rfl, c4, by unfold caS; rw [if_neg (show ¬ (ca6 b n D T).1 = 0 by show ¬ (fNu b n 0 99 (fNu b n 0 99 (fNu b n 0 99 (ca3 b n D T)))).1 = 0; omega)]; exact dd, oo.pf⟩
    · have c0 : (fNu b n 0 99 (fNu b n 0 99 (fNu b n 0 99 (ca3 b n D T)))).1 = 0 := by omega
      have c0' := (fNu_0 (fNu_0 (fNu_0 c0).1).1).1
      have hl : D 1 (4 + vNu b n 0 1 T) < 5 := by
        by_cases q : D 1 (4 + vNu b n 0 1 T) < 5
        · exact q
        · unfold ca3 at c0'; rw [if_neg q] at c0'; exact absurd c0' (fR_k (by decide))
      rw [hd.2.1, ec]
      refine ⟨(by exact hd.i0), ?_⟩
      refine ⟨(by omega), ?_⟩
      refine ⟨_, k_doorIndex (by omega) (by omega), ?_⟩
      rintro z14 ρ15 μ16 ⟨hq8_1, hq8_2, hq8_3⟩
      obtain rfl := hq8_1.symm
      obtain rfl := hq8_2.symm
      obtain rfl := hq8_3.symm
      rw [hd.2.1]
      refine ⟨(by exact hd.i0), ?_⟩
      refine ⟨(by omega), ?_⟩
      intro μ19 eμ19; subst eμ19
      refine ⟨(by omega), ?_⟩
      intro μ20 eμ20; subst eμ20
      refine ⟨(by omega), ?_⟩
      intro μ21 eμ21; subst eμ21
      refine ⟨(by omega), ?_⟩
      rw [up2_c (by omega), up2_c (by omega), up2_c (by omega), ec]
      refine ⟨(by unfold i32; omega), ?_⟩
      refine ⟨(by omega), ?_⟩
      intro μ22 eμ22; subst eμ22
      refine ⟨rfl, c4.c (by rw [up2_c (by omega), up2_c (by omega), up2_c (by omega), up2_c (by omega)]) (by rw [up2_c (by omega), up2_c (by omega), up2_c (by omega), up2_c (by omega)]), ?_, PF.up fs (PF.up fs (PF.up fs (PF.up fs oo.pf (by omega)) (by omega)) (by omega)) (by omega)⟩
      unfold caS
      rw [if_pos (show (ca6 b n D T).1 = 0 from c0)]
      refine ⟨hd.1, hd.2.1, hd.2.2.1, FD_ca fs ⟨vr.1, by omega⟩ (fun x x0 x1 => ⟨(dc x x0 x1).1, (dc x x0 x1).2.1⟩) hl dd.2.2.2.1, SD_eq dd.2.2.2.2.1 (fun a a0 a1 => by rw [up2_c (by omega), up2_c (by omega), up2_c (by omega), up2_c (by omega)]) rfl (fun x hx => ?_), fun k k0 k1 => by rw [up2_c (by omega), up2_c (by omega), up2_c (by omega), up2_c (by omega)]; exact dd.2.2.2.2.2 k k0 k1⟩
      show u1 (u1 (u1 (u1 (D 1) _ _) _ _) _ _) _ _ x = _
      rw [u1_n (by omega), u1_n (by omega), u1_n (by omega), u1_n (by omega)]
  refine e_X2_readCar ?_
  refine ⟨_, k_takeNumber hb hn h, ?_⟩
  rintro z1 ρ2 μ3 ⟨hq1_1, hq1_2, c1, o1⟩
  obtain rfl := hq1_1.symm
  obtain rfl := hq1_2.symm
  refine ⟨_, k_refuseUnknown c1 (hd.ob o1) ⟨vr.1, by omega⟩, ?_⟩
  rintro z5 ρ6 μ7 ⟨hq2_1, c2, o2⟩
  obtain rfl := hq2_1.symm
  rw [hd.2.1]
  refine ⟨(by exact hd.i0), ?_⟩
  refine ⟨(by omega), ?_⟩
  rw [((hd.ob (o1.trans o2)).2.2.2.1.1 _ vr.1 (by omega)).2.1]
  refine ⟨fun hc5 => ?_, fun hc5 => ?_⟩
  · exact F30 _ (by unfold ca3; rw [if_pos (by omega)]; exact c2) (o1.trans o2)
  · refine ⟨_, k_refuse (x := 4) (by decide) c2, ?_⟩
    rintro z10 ρ11 μ12 ⟨hq7_1, c3, o3⟩
    obtain rfl := hq7_1.symm
    exact F30 _ (by unfold ca3; rw [if_neg (by omega)]; exact c3) ((o1.trans o2).trans o3)
/-! ### meal -/
theorem FD_me {w x p q : Int} (fs : ((f = 155 ∧ s = 171) ∨ (f = 4 ∧ s = 20))) (hc : 0 ≤ D 1 36 ∧ D 1 36 < 4) (hk : ∀ x, 0 ≤ x → x < 2 → D 1 (4 + x) ≤ 5) (h : FD μ f D) : FD (up2 (up2 (up2 (up2 μ (f + 7) (D 1 36) w) (f + 8) (D 1 36) p) (f + 9) (D 1 36) q) f 15 (D 1 36 + 1)) f (meX D w x p q) := by
  obtain ⟨h1, h2, h3, h4, h5, h6⟩ := h
  have e1 : meX D w x p q 1 = u1 (u1 (u1 (D 1) (37 + D 1 36) p) (41 + D 1 36) q) 36 (D 1 36 + 1) := rfl
  have e2 : meX D w x p q 2 = u1 (D 2) (D 1 36) w := rfl
  have e4 : meX D w x p q 4 = D 4 := rfl
  unfold FD
  rw [e1, e2, e4]
  refine ⟨fun x x0 x1 => ?_, fun x x0 x1 c c0 c1 => ?_, fun m m0 m1 => ?_, fun k k0 k1 => ?_, fun i i0 i1 => ?_, ?_⟩
  · simp (disch := omega) only [up2_c, up2_u, u1_n, u1_s]
    exact h1 x x0 x1
  · rw [u1_n (by omega), u1_n (by omega), u1_n (by omega)] at c1
    have cx := hk x x0 x1
    simp (disch := omega) only [up2_c, up2_u, u1_n, u1_s]
    exact h2 x x0 x1 c c0 c1
  · rw [u1_s] at m1
    by_cases hm : m = D 1 36
    · rw [hm]
      simp (disch := omega) only [up2_c, up2_u, u1_n, u1_s]
      exact ⟨trivial, trivial, trivial⟩
    · simp (disch := omega) only [up2_c, up2_u, u1_n, u1_s]
      exact h3 m m0 (by omega)
  · rw [u1_n (by omega), u1_n (by omega), u1_n (by omega)] at k1
    simp (disch := omega) only [up2_c, up2_u, u1_n, u1_s]
    exact h4 k k0 k1
  · rw [u1_n (by omega), u1_n (by omega), u1_n (by omega)] at i1
    simp (disch := omega) only [up2_c, up2_u, u1_n, u1_s]
    exact h5 i i0 i1
  · simp (disch := omega) only [up2_k, up2_s, up2_c, u1_s, u1_n]
    exact ⟨trivial, h6.2⟩
theorem me1_p : (me1 D T).2.2.2 = T.2.2.2 := by
  unfold me1 fR
  split
  · rfl
  · split <;> rfl
theorem me1_0 (h : (me1 D T).1 = 0) : D 1 36 < 4 ∧ me1 D T = T := by
  unfold me1 at h ⊢
  by_cases c : D 1 36 < 4
  · rw [if_pos c]; exact ⟨c, rfl⟩
  · rw [if_neg c] at h; exact absurd h (fR_k (by decide))
theorem me3_0 (h : (me3 b n D T).1 = 0) : fnd (D 2) (D 1 36) (tW b n T.2.2.2) < 0 ∧ me3 b n D T = me2 b n D T := by
  unfold me3 at h ⊢
  by_cases c : fnd (D 2) (D 1 36) (tW b n T.2.2.2) < 0
  · rw [if_pos c]; exact ⟨c, rfl⟩
  · rw [if_neg c] at h; exact absurd h (fR_k (by decide))
theorem k_readMeal (hb : BY b) (hn : n ≤ 900) (h : CT μ b n T) (hd : CD ρ μ f s D) (hv : DV b D) : qE mX2_readMeal GG GG [qP 1] ρ μ (fun _ ρ' μ' => ρ' = ρ ∧ CT μ' b n (me5 b n D T) ∧ CD ρ μ' f s (meS b n D T) ∧ PF f s μ μ') := by
  have fs := hd.1
  have cb := hv.2.2.2.2.2.2.2.1
  have F41 : ∀ (μ1 : Mem) (w : Int), CT μ1 b n (me3 b n D T) → OB μ μ1 → ((me3 b n D T).1 = 0 → w = tW b n T.2.2.2) → qX mX2_readMeal GG (fun _ ρ' μ' => ρ' = ρ ∧ CT μ' b n (me5 b n D T) ∧ CD ρ μ' f s (meS b n D T) ∧ PF f s μ μ') GG (0, 0) 41 [some (qP 1), some (qJ w), none, none, none] [] ρ μ1 := by
    intro μ1 w c1 o1 hw
    refine w_X2_readMeal_41 ?_
    refine ⟨_, k_takeNumber hb hn c1, ?_⟩
    rintro z1 ρ2 μ3 ⟨hq1_1, hq1_2, c2, o2⟩
    obtain rfl := hq1_1.symm
    obtain rfl := hq1_2.symm
    try simp (disch := omega) only [up2_c, e15]
    refine ⟨_, k_takeNumber hb hn c2, ?_⟩
    rintro z5 ρ6 μ7 ⟨hq2_1, hq2_2, c3, o3⟩
    obtain rfl := hq2_1.symm
    obtain rfl := hq2_2.symm
    try simp (disch := omega) only [up2_c, e15]
    have oo := (o1.trans o2).trans o3
    have dd := hd.ob oo
    have e15 := dd.2.2.2.1.2.2.2.2.2.1
    rw [c3.2.1]
    refine ⟨fun hc3 => ?_, fun hc3 => ?_⟩
    · exact ⟨rfl, c3, by unfold meS; rw [if_neg (show ¬ (me5 b n D T).1 = 0 by show ¬ (fNu b n 0 20 (fNu b n 0 20 (me3 b n D T))).1 = 0; omega)]; exact dd, oo.pf⟩
    · have c0 : (fNu b n 0 20 (fNu b n 0 20 (me3 b n D T))).1 = 0 := by omega
      have m3 := (fNu_0 (fNu_0 c0).1).1
      have m2 := me3_0 m3
      have m1 := me1_0 (fKw_0 (show (fKw b n (-1) (me1 D T)).1 = 0 by have := m3; rw [m2.2] at this; exact this)).1
      have hw := hw m3
      subst hw
      rw [hd.2.1, e15]
      refine ⟨(by exact hd.i0), ?_⟩
      refine ⟨(by omega), ?_⟩
      intro μ10 eμ10; subst eμ10
      try simp (disch := omega) only [up2_c, e15]
      refine ⟨(by omega), ?_⟩
      intro μ11 eμ11; subst eμ11
      try simp (disch := omega) only [up2_c, e15]
      refine ⟨(by omega), ?_⟩
      intro μ12 eμ12; subst eμ12
      try simp (disch := omega) only [up2_c, e15]
      refine ⟨(by unfold i32; omega), ?_⟩
      intro μ13 eμ13; subst eμ13
      try simp (disch := omega) only [up2_c, e15]
      refine ⟨by trivial, c3.c (by rw [up2_c (by omega), up2_c (by omega), up2_c (by omega), up2_c (by omega)]) (by rw [up2_c (by omega), up2_c (by omega), up2_c (by omega), up2_c (by omega)]), ?_, PF.up fs (PF.up fs (PF.up fs (PF.up fs oo.pf (by omega)) (by omega)) (by omega)) (by omega)⟩
      unfold meS
      rw [if_pos (show (me5 b n D T).1 = 0 from c0)]
      refine ⟨hd.1, hd.2.1, hd.2.2.1, FD_me fs ⟨cb.1, m1.1⟩ (fun x x0 x1 => (hv.1 x x0 x1).2.1) dd.2.2.2.1, SD_eq dd.2.2.2.2.1 (fun a a0 a1 => by rw [up2_c (by omega), up2_c (by omega), up2_c (by omega), up2_c (by omega)]) rfl (fun x hx => ?_), fun k k0 k1 => by rw [up2_c (by omega), up2_c (by omega), up2_c (by omega), up2_c (by omega)]; exact dd.2.2.2.2.2 k k0 k1⟩
      show u1 (u1 (u1 (D 1) _ _) _ _) _ _ x = _
      rw [u1_n (by omega), u1_n (by omega), u1_n (by omega)]
  have F16 : ∀ μ1 : Mem, CT μ1 b n (me1 D T) → OB μ μ1 → qX mX2_readMeal GG (fun _ ρ' μ' => ρ' = ρ ∧ CT μ' b n (me5 b n D T) ∧ CD ρ μ' f s (meS b n D T) ∧ PF f s μ μ') GG (0, 0) 16 [some (qP 1), none, none, none, none] [] ρ μ1 := by
    intro μ1 c1 o1
    refine w_X2_readMeal_16 ?_
    refine ⟨_, k_takeName hb hn c1, ?_⟩
    rintro z1 ρ2 μ3 ⟨hq1_1, c2, o2, w2⟩
    obtain rfl := hq1_1.symm
    rw [me1_p] at w2
    rw [hd.2.1]
    refine ⟨(by exact hd.i0), ?_⟩
    refine ⟨_, k_mealNamed (hd.ob (o1.trans o2)) hv, ?_⟩
    rintro z6 ρ7 μ8 ⟨hq3_1, hq3_2, hq3_3⟩
    obtain rfl := hq3_1.symm
    obtain rfl := hq3_2.symm
    obtain rfl := hq3_3.symm
    refine ⟨fun hc4 => ?_, fun hc4 => ?_⟩
    · have e : me3 b n D T = fKw b n (-1) (me1 D T) := by
        by_cases q : (fKw b n (-1) (me1 D T)).1 = 0
        · unfold me3; rw [← w2 q, if_pos (by omega)]; rfl
        · unfold me3 me2; rw [fR_c q]; split <;> rfl
      exact F41 _ _ (by rw [e]; exact c2) (o1.trans o2) (fun x => w2 (by rw [← e]; exact x))
    · refine ⟨_, k_refuse (x := 3) (by decide) c2, ?_⟩
      rintro z10 ρ11 μ12 ⟨hq6_1, c3, o3⟩
      obtain rfl := hq6_1.symm
      have e : me3 b n D T = fR 3 (fKw b n (-1) (me1 D T)) := by
        by_cases q : (fKw b n (-1) (me1 D T)).1 = 0
        · unfold me3; rw [← w2 q, if_neg (by omega)]; rfl
        · unfold me3 me2; rw [fR_c q]; split <;> rfl
      exact F41 _ _ (by rw [e]; exact c3) ((o1.trans o2).trans o3) (fun x => by rw [e] at x; exact absurd x (fR_k (by decide)))
  refine e_X2_readMeal ?_
  rw [hd.2.1]
  refine ⟨(by exact hd.i0), ?_⟩
  rw [hd.2.2.2.1.2.2.2.2.2.1]
  refine ⟨fun hc2 => ?_, fun hc2 => ?_⟩
  · exact F16 _ (by unfold me1; rw [if_pos (by omega)]; exact h) OB.refl
  · refine ⟨_, k_refuse (x := 4) (by decide) h, ?_⟩
    rintro z2 ρ3 μ4 ⟨hq4_1, c1, o1⟩
    obtain rfl := hq4_1.symm
    exact F16 _ (by unfold me1; rw [if_neg (by omega)]; exact c1) o1
/-! ### kitchen -/
theorem FD_ki {p : Int} (fs : ((f = 155 ∧ s = 171) ∨ (f = 4 ∧ s = 20))) (hc : 0 ≤ D 1 45 ∧ D 1 45 < 3) (hk : ∀ x, 0 ≤ x → x < 2 → D 1 (4 + x) ≤ 5) (hm : D 1 36 ≤ 4) (h : FD μ f D) : FD (up2 (up2 μ (f + 10) (D 1 45) p) f 16 (D 1 45 + 1)) f (kiX D p) := by
  obtain ⟨h1, h2, h3, h4, h5, h6⟩ := h
  have e1 : kiX D p 1 = u1 (u1 (D 1) (46 + D 1 45) p) 45 (D 1 45 + 1) := rfl
  have e2 : kiX D p 2 = D 2 := rfl
  have e4 : kiX D p 4 = D 4 := rfl
  unfold FD
  rw [e1, e2, e4]
  refine ⟨fun x x0 x1 => ?_, fun x x0 x1 c c0 c1 => ?_, fun m m0 m1 => ?_, fun k k0 k1 => ?_, fun i i0 i1 => ?_, ?_⟩
  · simp (disch := omega) only [up2_c, up2_u, u1_n, u1_s]
    exact h1 x x0 x1
  · rw [u1_n (by omega), u1_n (by omega)] at c1
    have cx := hk x x0 x1
    simp (disch := omega) only [up2_c, up2_u, u1_n, u1_s]
    exact h2 x x0 x1 c c0 c1
  · rw [u1_n (by omega), u1_n (by omega)] at m1
    simp (disch := omega) only [up2_c, up2_u, u1_n, u1_s]
    exact h3 m m0 m1
  · rw [u1_s] at k1
    by_cases hx : k = D 1 45
    · rw [hx]
      simp (disch := omega) only [up2_c, up2_u, u1_n, u1_s]
    · simp (disch := omega) only [up2_c, up2_u, u1_n, u1_s]
      exact h4 k k0 (by omega)
  · rw [u1_n (by omega), u1_n (by omega)] at i1
    simp (disch := omega) only [up2_c, up2_u, u1_n, u1_s]
    exact h5 i i0 i1
  · simp (disch := omega) only [up2_k, up2_s, up2_c, u1_s, u1_n]
    exact ⟨h6.1, trivial, h6.2.2⟩
theorem ki1_0 (h : (ki1 D T).1 = 0) : D 1 45 < 3 ∧ ki1 D T = T := by
  unfold ki1 at h ⊢
  by_cases c : D 1 45 < 3
  · rw [if_pos c]; exact ⟨c, rfl⟩
  · rw [if_neg c] at h; exact absurd h (fR_k (by decide))
theorem k_readKitchen (hb : BY b) (hn : n ≤ 900) (h : CT μ b n T) (hd : CD ρ μ f s D) (hv : DV b D) : qE mX2_readKitchen GG GG [qP 1] ρ μ (fun _ ρ' μ' => ρ' = ρ ∧ CT μ' b n (ki2 b n D T) ∧ CD ρ μ' f s (kiS b n D T) ∧ PF f s μ μ') := by
  have fs := hd.1
  have cb := hv.2.2.2.2.2.2.2.1
  have F16 : ∀ μ1 : Mem, CT μ1 b n (ki1 D T) → OB μ μ1 → qX mX2_readKitchen GG (fun _ ρ' μ' => ρ' = ρ ∧ CT μ' b n (ki2 b n D T) ∧ CD ρ μ' f s (kiS b n D T) ∧ PF f s μ μ') GG (0, 0) 16 [some (qP 1), none] [] ρ μ1 := by
    intro μ1 c1 o1
    refine w_X2_readKitchen_16 ?_
    refine ⟨_, k_takeNumber hb hn c1, ?_⟩
    rintro z1 ρ2 μ3 ⟨hq1_1, hq1_2, c2, o2⟩
    obtain rfl := hq1_1.symm
    obtain rfl := hq1_2.symm
    try simp (disch := omega) only [up2_c, e16]
    have oo := o1.trans o2
    have dd := hd.ob oo
    have e16 := dd.2.2.2.1.2.2.2.2.2.2.1
    rw [c2.2.1]
    refine ⟨fun hc2 => ?_, fun hc2 => ?_⟩
    · exact ⟨rfl, c2, by unfold kiS; rw [if_neg (show ¬ (ki2 b n D T).1 = 0 by show ¬ (fNu b n 0 99 (ki1 D T)).1 = 0; omega)]; exact dd, oo.pf⟩
    · have c0 : (fNu b n 0 99 (ki1 D T)).1 = 0 := by omega
      have m1 := ki1_0 (fNu_0 c0).1
      rw [hd.2.1, e16]
      refine ⟨(by exact hd.i0), ?_⟩
      refine ⟨(by omega), ?_⟩
      intro μ6 eμ6; subst eμ6
      try simp (disch := omega) only [up2_c, e16]
      refine ⟨(by unfold i32; omega), ?_⟩
      intro μ7 eμ7; subst eμ7
      try simp (disch := omega) only [up2_c, e16]
      refine ⟨by trivial, c2.c (by rw [up2_c (by omega), up2_c (by omega)]) (by rw [up2_c (by omega), up2_c (by omega)]), ?_, PF.up fs (PF.up fs oo.pf (by omega)) (by omega)⟩
      unfold kiS
      rw [if_pos (show (ki2 b n D T).1 = 0 from c0)]
      refine ⟨hd.1, hd.2.1, hd.2.2.1, FD_ki fs ⟨cb.2.2.1, m1.1⟩ (fun x x0 x1 => (hv.1 x x0 x1).2.1) cb.2.1 dd.2.2.2.1, SD_eq dd.2.2.2.2.1 (fun a a0 a1 => by rw [up2_c (by omega), up2_c (by omega)]) rfl (fun x hx => ?_), fun k k0 k1 => by rw [up2_c (by omega), up2_c (by omega)]; exact dd.2.2.2.2.2 k k0 k1⟩
      show u1 (u1 (D 1) _ _) _ _ x = _
      rw [u1_n (by omega), u1_n (by omega)]
  refine e_X2_readKitchen ?_
  rw [hd.2.1]
  refine ⟨(by exact hd.i0), ?_⟩
  rw [hd.2.2.2.1.2.2.2.2.2.2.1]
  refine ⟨fun hc2 => ?_, fun hc2 => ?_⟩
  · exact F16 _ (by unfold ki1; rw [if_pos (by omega)]; exact h) OB.refl
  · refine ⟨_, k_refuse (x := 4) (by decide) h, ?_⟩
    rintro z2 ρ3 μ4 ⟨hq4_1, c1, o1⟩
    obtain rfl := hq4_1.symm
    exact F16 _ (by unfold ki1; rw [if_neg (by omega)]; exact c1) o1
end CLI
