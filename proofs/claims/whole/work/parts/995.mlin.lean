/-! ===== the reference's lines: train, car, meal, kitchen ===== -/
def PQ (μ μ' : Mem) : Prop := (∀ a, a ≠ 178 → a ≠ 181 → a ≠ 184 → a ≠ 185 → a ≠ 186 → μ' a = μ a) ∧ ∀ k, (k < 5 ∨ 11 < k) → μ' 178 k = μ 178 k
theorem OM.pq {μ μ' : Mem} (o : OM μ μ') : PQ μ μ' := ⟨fun a x _ _ _ _ => o.1 a x, o.2⟩
theorem PQ.trans {μ0 μ1 μ2 : Mem} (h1 : PQ μ0 μ1) (h2 : PQ μ1 μ2) : PQ μ0 μ2 := ⟨fun a x y z w v => (h2.1 a x y z w v).trans (h1.1 a x y z w v), fun k x => (h2.2 k x).trans (h1.2 k x)⟩
theorem PQ.up {μ μ1 : Mem} {c : Nat} {k v : Int} (h : PQ μ μ1) (hc : c = 181 ∨ c = 184 ∨ c = 185 ∨ c = 186) : PQ μ (up2 μ1 c k v) := ⟨fun a x y z w u => by rw [up2_c (by omega)]; exact h.1 a x y z w u, fun k x => by rw [up2_c (by omega)]; exact h.2 k x⟩
section MLI
variable {ρ : Rf} {μ : Mem} {b : Int → Int} {n : Int} {T : Tk} {D : Sg}
theorem MT.up {c : Nat} {k v : Int} (h : MT μ b n T) (hc : c = 181 ∨ c = 184 ∨ c = 185 ∨ c = 186) : MT (up2 μ c k v) b n T := by
  unfold MT TXm at *
  rw [up2_c (by omega), up2_c (by omega)]
  exact h
theorem Ma.up {c : Nat} {k v : Int} (h : Ma μ b n T) (hc : c = 181 ∨ c = 184 ∨ c = 185 ∨ c = 186) : Ma (up2 μ c k v) b n T := by
  unfold Ma at *
  rw [up2_c (by omega)]
  exact h
theorem m_readTrain (hb : BY b) (hn : n ≤ 900) (h : MT μ b n T) (hp : T.1 = 0 → Mp μ T) (hd : MD μ D) : qE mX8_readTrain GG GG [qP 178] ρ μ (fun _ ρ' μ' => ρ' = ρ ∧ MT μ' b n (tr6 b n D T) ∧ PQ μ μ' ∧ ((tr6 b n D T).1 = 0 → Ma μ' b n (tr6 b n D T) ∧ MD μ' (trS b n D T))) := by
  have vr := vNu_r (b := b) (n := n) (lo := 0) (hi := 1) (T := T) (by decide)
  have F25 : ∀ μ1 : Mem, MT μ1 b n (tr2 b n D T) → OM μ μ1 → ((tr2 b n D T).1 = 0 → Mp μ1 (tr2 b n D T)) → qX mX8_readTrain GG (fun _ ρ' μ' => ρ' = ρ ∧ MT μ' b n (tr6 b n D T) ∧ PQ μ μ' ∧ ((tr6 b n D T).1 = 0 → Ma μ' b n (tr6 b n D T) ∧ MD μ' (trS b n D T))) GG (0, 0) 25 [some (qP 178), some (qI (vNu b n 0 1 T)), none, none] [] ρ μ1 := by
    intro μ1 c1 o1 p1
    refine w_X8_readTrain_25 ?_
    refine ⟨_, m_adv hb hn c1 (fun x => (p1 x).2), ?_⟩
    rintro z1 ρ2 μ3 ⟨hq1_1, c2, o2, a2⟩
    obtain rfl := hq1_1.symm
    refine ⟨_, m_keyword hb hn (by decide) c2 a2, ?_⟩
    rintro z5 ρ6 μ7 ⟨hq2_1, c3, o3, a3⟩
    obtain rfl := hq2_1.symm
    refine ⟨_, m_number hb hn c3 a3, ?_⟩
    rintro z9 ρ10 μ11 ⟨hq3_1, hq3_2, c4, o4, a4⟩
    obtain rfl := hq3_1.symm
    obtain rfl := hq3_2.symm
    refine ⟨_, m_keyword hb hn (by decide) c4 a4, ?_⟩
    rintro z13 ρ14 μ15 ⟨hq4_1, c5, o5, a5⟩
    obtain rfl := hq4_1.symm
    refine ⟨_, m_number hb hn c5 a5, ?_⟩
    rintro z17 ρ18 μ19 ⟨hq5_1, hq5_2, c6, o6, a6⟩
    obtain rfl := hq5_1.symm
    obtain rfl := hq5_2.symm
    have oo := ((((o1.trans o2).trans o3).trans o4).trans o5).trans o6
    have dd := hd.om oo
    have ct := c6.2.2.2.2.2
    have c6' : MT μ19 b n (tr6 b n D T) := c6
    rw [c6.2.1]
    refine ⟨fun hc6 => ?_, fun hc6 => ?_⟩
    · refine ⟨(by omega), ?_⟩
      intro μ21 eμ21; subst eμ21
      refine ⟨(by unfold i32; omega), ?_⟩
      refine ⟨(by omega), ?_⟩
      intro μ22 eμ22; subst eμ22
      refine ⟨(by unfold i32; omega), ?_⟩
      refine ⟨(by omega), ?_⟩
      intro μ23 eμ23; subst eμ23
      have c0 : (tr6 b n D T).1 = 0 := by
        show (fNu b n (trA b n D T) 999 (fKw b n 8 (tr4 b n D T))).1 = 0
        unfold trA tr4
        omega
      refine ⟨rfl, ((c6'.up (by decide)).up (by decide)).up (by decide), ((oo.pq.up (by decide)).up (by decide)).up (by decide), fun _ => ⟨(((a6 c0).up (by decide)).up (by decide)).up (by decide), ?_⟩⟩
      unfold trS
      rw [if_pos c0]
      refine ⟨?_, fun m m0 m1 => ?_, fun t t0 t1 => ?_, fun k k0 k1 => ?_⟩
      · intro x x0 x1; rw [up2_u, up2_u, up2_c (by decide)]; exact u1_cg (u1_cg (dd.1 x x0 x1))
      · rw [up2_c (by decide), up2_c (by decide), up2_c (by decide)]
        refine dd.2.1 m m0 ?_
        have e : trX D (vNu b n 0 1 T) (trA b n D T) (trD b n D T) 1 36 = D 1 36 := by show u1 (u1 (D 1) _ _) _ _ 36 = _; rw [u1_n (by omega), u1_n (by omega)]
        rw [← e]; exact m1
      · rw [up2_c (by decide), up2_c (by decide), up2_u]
        show _ = u1 (D 4) _ 1 t
        exact u1_cg (dd.2.2.1 t t0 t1)
      · rw [up2_c (by decide), up2_c (by decide), up2_c (by decide)]
        exact dd.2.2.2 k k0 k1
    · have c0 : ¬ (tr6 b n D T).1 = 0 := by
        show ¬ (fNu b n (trA b n D T) 999 (fKw b n 8 (tr4 b n D T))).1 = 0
        unfold trA tr4
        omega
      exact ⟨rfl, c6', oo.pq, fun x => absurd x c0⟩
  refine e_X8_readTrain ?_
  refine ⟨_, m_adv hb hn h (fun x => (hp x).2), ?_⟩
  rintro z1 ρ2 μ3 ⟨hq1_1, c1, o1, a1⟩
  obtain rfl := hq1_1.symm
  refine ⟨_, m_peek c1 a1, ?_⟩
  rintro z5 ρ6 μ7 ⟨hq2_1, hq2_2, c2, o2, p2⟩
  obtain rfl := hq2_1.symm
  obtain rfl := hq2_2.symm
  refine ⟨(by omega), ?_⟩
  rw [(hd.om (o1.trans o2)).2.2.1 _ vr.1 (by omega)]
  refine ⟨fun hc4 => ?_, fun hc4 => ?_⟩
  · exact F25 _ (by unfold tr2; rw [if_pos (by omega)]; exact c2) (o1.trans o2) (fun x => by unfold tr2 at x ⊢; rw [if_pos (by omega)] at x ⊢; exact p2 x)
  · refine ⟨_, m_report (x := 3) (by decide) c2 p2, ?_⟩
    rintro z9 ρ10 μ11 ⟨hq6_1, c3, o3, k3⟩
    obtain rfl := hq6_1.symm
    exact F25 _ (by unfold tr2; rw [if_neg (by omega)]; exact c3) ((o1.trans o2).trans o3) (fun x => by unfold tr2 at x; rw [if_neg (by omega)] at x; exact absurd x (fR_k (by decide)))
/-! ### car -/
theorem m_readCar (hb : BY b) (hn : n ≤ 900) (h : MT μ b n T) (hp : T.1 = 0 → Mp μ T) (hd : MD μ D) (hv : DV b D) : qE mX8_readCar GG GG [qP 178] ρ μ (fun _ ρ' μ' => ρ' = ρ ∧ MT μ' b n (ca6 b n D T) ∧ PQ μ μ' ∧ ((ca6 b n D T).1 = 0 → Ma μ' b n (ca6 b n D T) ∧ MD μ' (caS b n D T))) := by
  have vr := vNu_r (b := b) (n := n) (lo := 0) (hi := 1) (T := T) (by decide)
  have bc := hv.1 _ vr.1 (by omega : vNu b n 0 1 T < 2)
  have F26 : ∀ μ1 : Mem, MT μ1 b n (ca3 b n D T) → OM μ μ1 → ((ca3 b n D T).1 = 0 → Mp μ1 (ca3 b n D T)) → qX mX8_readCar GG (fun _ ρ' μ' => ρ' = ρ ∧ MT μ' b n (ca6 b n D T) ∧ PQ μ μ' ∧ ((ca6 b n D T).1 = 0 → Ma μ' b n (ca6 b n D T) ∧ MD μ' (caS b n D T))) GG (0, 0) 26 [some (qP 178), some (qI (vNu b n 0 1 T)), none, none, none, none] [] ρ μ1 := by
    intro μ1 c1 o1 p1
    refine w_X8_readCar_26 ?_
    refine ⟨_, m_adv hb hn c1 (fun x => (p1 x).2), ?_⟩
    rintro z1 ρ2 μ3 ⟨hq1_1, c2, o2, a2⟩
    obtain rfl := hq1_1.symm
    refine ⟨_, m_number hb hn c2 a2, ?_⟩
    rintro z5 ρ6 μ7 ⟨hq2_1, hq2_2, c3, o3, a3⟩
    obtain rfl := hq2_1.symm
    obtain rfl := hq2_2.symm
    refine ⟨_, m_number hb hn c3 a3, ?_⟩
    rintro z9 ρ10 μ11 ⟨hq3_1, hq3_2, c4, o4, a4⟩
    obtain rfl := hq3_1.symm
    obtain rfl := hq3_2.symm
    refine ⟨_, m_number hb hn c4 a4, ?_⟩
    rintro z13 ρ14 μ15 ⟨hq4_1, hq4_2, c5, o5, a5⟩
    obtain rfl := hq4_1.symm
    obtain rfl := hq4_2.symm
    have oo := (((o1.trans o2).trans o3).trans o4).trans o5
    have dd := hd.om oo
    have ct := c5.2.2.2.2.2
    have c5' : MT μ15 b n (ca6 b n D T) := c5
    rw [c5.2.1]
    refine ⟨fun hc5 => ?_, fun hc5 => ?_⟩
    · have c0 : (fNu b n 0 99 (fNu b n 0 99 (fNu b n 0 99 (ca3 b n D T)))).1 = 0 := by omega
      have c0' := (fNu_0 (fNu_0 (fNu_0 c0).1).1).1
      have hl : D 1 (4 + vNu b n 0 1 T) < 5 := by
        by_cases q : D 1 (4 + vNu b n 0 1 T) < 5
        · exact q
        · unfold ca3 at c0'; rw [if_neg q] at c0'; exact absurd c0' (fR_k (by decide))
      have ec : μ15 181 (4 + vNu b n 0 1 T) = D 1 (4 + vNu b n 0 1 T) := dd.1 _ (by omega) (by omega)
      rw [ec]
      refine ⟨(by unfold i32; omega), ?_⟩
      refine ⟨(by unfold i32; omega), ?_⟩
      refine ⟨(by omega), ?_⟩
      refine ⟨(by unfold i32; omega), ?_⟩
      refine ⟨(by unfold i32; omega), ?_⟩
      refine ⟨(by omega), ?_⟩
      intro μ17 eμ17; subst eμ17
      refine ⟨(by unfold i32; omega), ?_⟩
      refine ⟨(by omega), ?_⟩
      intro μ18 eμ18; subst eμ18
      refine ⟨(by unfold i32; omega), ?_⟩
      refine ⟨(by omega), ?_⟩
      intro μ19 eμ19; subst eμ19
      refine ⟨(by unfold i32; omega), ?_⟩
      refine ⟨(by omega), ?_⟩
      rw [up2_k (by omega), up2_k (by omega), up2_k (by omega), ec]
      refine ⟨(by unfold i32; omega), ?_⟩
      refine ⟨(by omega), ?_⟩
      intro μ20 eμ20; subst eμ20
      refine ⟨rfl, (((c5'.up (by decide)).up (by decide)).up (by decide)).up (by decide), (((oo.pq.up (by decide)).up (by decide)).up (by decide)).up (by decide), fun _ => ⟨((((a5 c0).up (by decide)).up (by decide)).up (by decide)).up (by decide), ?_⟩⟩
      unfold caS
      rw [if_pos (show (ca6 b n D T).1 = 0 from c0)]
      refine ⟨?_, fun m m0 m1 => ?_, fun t t0 t1 => ?_, fun k k0 k1 => ?_⟩
      · intro x x0 x1; rw [up2_u, up2_u, up2_u, up2_u]; exact u1_cg (u1_cg (u1_cg (u1_cg (dd.1 x x0 x1))))
      · rw [up2_c (by decide), up2_c (by decide), up2_c (by decide), up2_c (by decide)]
        refine dd.2.1 m m0 ?_
        have e : ∀ p q r, caX D (vNu b n 0 1 T) p q r 1 36 = D 1 36 := fun p q r => by show u1 (u1 (u1 (u1 (D 1) _ _) _ _) _ _) _ _ 36 = _; rw [u1_n (by omega), u1_n (by omega), u1_n (by omega), u1_n (by omega)]
        rw [← e _ _ _]; exact m1
      · rw [up2_c (by decide), up2_c (by decide), up2_c (by decide), up2_c (by decide)]
        exact dd.2.2.1 t t0 t1
      · rw [up2_c (by decide), up2_c (by decide), up2_c (by decide), up2_c (by decide)]
        exact dd.2.2.2 k k0 k1
    · exact ⟨rfl, c5', oo.pq, fun x => absurd (show (fNu b n 0 99 (fNu b n 0 99 (fNu b n 0 99 (ca3 b n D T)))).1 = 0 from x) (by omega)⟩
  refine e_X8_readCar ?_
  refine ⟨_, m_adv hb hn h (fun x => (hp x).2), ?_⟩
  rintro z1 ρ2 μ3 ⟨hq1_1, c1, o1, a1⟩
  obtain rfl := hq1_1.symm
  refine ⟨_, m_peekTrain (D := D) c1 a1 (fun _ => hd.om o1), ?_⟩
  rintro z5 ρ6 μ7 ⟨hq2_1, hq2_2, c2, o2, p2⟩
  obtain rfl := hq2_1.symm
  obtain rfl := hq2_2.symm
  refine ⟨(by unfold i32; omega), ?_⟩
  refine ⟨(by omega), ?_⟩
  have d2 := hd.om (o1.trans o2)
  rw [d2.1 _ (by omega) (by omega)]
  refine ⟨fun hc5 => ?_, fun hc5 => ?_⟩
  · exact F26 _ (by unfold ca3; rw [if_pos (by omega)]; exact c2) (o1.trans o2) (fun x => by unfold ca3 at x ⊢; rw [if_pos (by omega)] at x ⊢; exact p2 x)
  · refine ⟨_, m_report (x := 4) (by decide) c2 p2, ?_⟩
    rintro z9 ρ10 μ11 ⟨hq7_1, c3, o3, k3⟩
    obtain rfl := hq7_1.symm
    exact F26 _ (by unfold ca3; rw [if_neg (by omega)]; exact c3) ((o1.trans o2).trans o3) (fun x => by unfold ca3 at x; rw [if_neg (by omega)] at x; exact absurd x (fR_k (by decide)))
/-! ### kitchen -/
theorem m_readKitchen (hb : BY b) (hn : n ≤ 900) (h : MT μ b n T) (hp : T.1 = 0 → Mp μ T) (hd : MD μ D) (hv : DV b D) : qE mX8_readKitchen GG GG [qP 178] ρ μ (fun _ ρ' μ' => ρ' = ρ ∧ MT μ' b n (ki2 b n D T) ∧ PQ μ μ' ∧ ((ki2 b n D T).1 = 0 → Ma μ' b n (ki2 b n D T) ∧ MD μ' (kiS b n D T))) := by
  have cb := hv.2.2.2.2.2.2.2.1
  have F18 : ∀ μ1 : Mem, MT μ1 b n (ki1 D T) → OM μ μ1 → ((ki1 D T).1 = 0 → Mp μ1 (ki1 D T)) → qX mX8_readKitchen GG (fun _ ρ' μ' => ρ' = ρ ∧ MT μ' b n (ki2 b n D T) ∧ PQ μ μ' ∧ ((ki2 b n D T).1 = 0 → Ma μ' b n (ki2 b n D T) ∧ MD μ' (kiS b n D T))) GG (0, 0) 18 [some (qP 178), some (qI (D 1 45)), none] [] ρ μ1 := by
    intro μ1 c1 o1 p1
    refine w_X8_readKitchen_18 ?_
    refine ⟨_, m_adv hb hn c1 (fun x => (p1 x).2), ?_⟩
    rintro z1 ρ2 μ3 ⟨hq1_1, c2, o2, a2⟩
    obtain rfl := hq1_1.symm
    refine ⟨_, m_number hb hn c2 a2, ?_⟩
    rintro z5 ρ6 μ7 ⟨hq2_1, hq2_2, c3, o3, a3⟩
    obtain rfl := hq2_1.symm
    obtain rfl := hq2_2.symm
    have oo := (o1.trans o2).trans o3
    have dd := hd.om oo
    have ct := c3.2.2.2.2.2
    have c3' : MT μ7 b n (ki2 b n D T) := c3
    rw [c3.2.1]
    refine ⟨fun hc3 => ?_, fun hc3 => ?_⟩
    · have c0 : (fNu b n 0 99 (ki1 D T)).1 = 0 := by omega
      have m1 := ki1_0 (fNu_0 c0).1
      have ec : μ7 181 45 = D 1 45 := dd.1 45 (by decide) (by decide)
      refine ⟨(by unfold i32; omega), ?_⟩
      refine ⟨(by omega), ?_⟩
      intro μ9 eμ9; subst eμ9
      rw [up2_k (by omega), ec]
      refine ⟨(by unfold i32; omega), ?_⟩
      intro μ10 eμ10; subst eμ10
      refine ⟨rfl, (c3'.up (by decide)).up (by decide), (oo.pq.up (by decide)).up (by decide), fun _ => ⟨((a3 c0).up (by decide)).up (by decide), ?_⟩⟩
      unfold kiS
      rw [if_pos (show (ki2 b n D T).1 = 0 from c0)]
      refine ⟨?_, fun m m0 m1 => ?_, fun t t0 t1 => ?_, fun k k0 k1 => ?_⟩
      · intro x x0 x1; rw [up2_u, up2_u]; exact u1_cg (u1_cg (dd.1 x x0 x1))
      · rw [up2_c (by decide), up2_c (by decide)]
        refine dd.2.1 m m0 ?_
        have e1 : ∀ p, kiX D p 1 = u1 (u1 (D 1) (46 + D 1 45) p) 45 (D 1 45 + 1) := fun _ => rfl
        have e : ∀ p, kiX D p 1 36 = D 1 36 := fun p => by rw [e1, u1_n (by omega), u1_n (by omega)]
        rw [← e _]; exact m1
      · rw [up2_c (by decide), up2_c (by decide)]
        exact dd.2.2.1 t t0 t1
      · rw [up2_c (by decide), up2_c (by decide)]
        exact dd.2.2.2 k k0 k1
    · exact ⟨rfl, c3', oo.pq, fun x => absurd (show (fNu b n 0 99 (ki1 D T)).1 = 0 from x) (by omega)⟩
  refine e_X8_readKitchen ?_
  rw [show μ 181 45 = D 1 45 from hd.1 45 (by decide) (by decide)]
  refine ⟨fun hc1 => ?_, fun hc1 => ?_⟩
  · exact F18 _ (by unfold ki1; rw [if_pos (by omega)]; exact h) OM.refl (fun x => by unfold ki1 at x ⊢; rw [if_pos (by omega)] at x ⊢; exact hp x)
  · refine ⟨_, m_report (x := 4) (by decide) h hp, ?_⟩
    rintro z1 ρ2 μ3 ⟨hq3_1, c1, o1, k1⟩
    obtain rfl := hq3_1.symm
    exact F18 _ (by unfold ki1; rw [if_neg (by omega)]; exact c1) o1 (fun x => by unfold ki1 at x; rw [if_neg (by omega)] at x; exact absurd x (fR_k (by decide)))
end MLI
