/-! ===== the reference's lines: job; a line ===== -/
section MJO
variable {ρ : Rf} {μ : Mem} {b : Int → Int} {n : Int} {T : Tk} {D : Sg} {p : Pl}
theorem m_jobsOfD {i : Int} (hp : μ 181 = p) (hn : 0 ≤ p 87 ∧ p 87 ≤ 20) : qE mX8_jobsOf GG GG [qP 181, qI i] ρ μ (fun z ρ' μ' => z = cnt p i ∧ ρ' = ρ ∧ μ' = μ) := by
  have L : ∀ (k : Nat) (x : Int), (p 87 - x).toNat < k → 0 ≤ x → x ≤ p 87 → qX mX8_jobsOf GG (fun z ρ' μ' => z = cnt p i ∧ ρ' = ρ ∧ μ' = μ) GG (0, 0) 4 [some (qP 181), some (qI i), some (qI (owC p i x)), some (qI x)] [] ρ μ := by
    intro k
    induction k with
    | zero => intro x h; omega
    | succ k ih =>
      intro x hk h0 h1
      have sb := owC_b (p := p) (i := i) h0
      have e := owC_s (p := p) (i := i) h0
      refine w_X8_jobsOf_4 (nx0 := 188) rfl ?_
      refine ⟨(by omega), ?_⟩
      rw [hp]
      refine ⟨fun hc2 => ?_, fun hc2 => ?_⟩
      · exact ⟨by rw [show x = p 87 by omega]; rfl, rfl, rfl⟩
      · refine ⟨(by unfold i32; omega), ?_⟩
        refine ⟨(by unfold i32; omega), ?_⟩
        refine ⟨(by unfold i32; omega), ?_⟩
        refine ⟨(by omega), ?_⟩
        refine ⟨fun hc8 => ?_, fun hc8 => ?_⟩
        · refine ⟨(by unfold i32; omega), ?_⟩
          refine ⟨(by unfold i32; omega), ?_⟩
          rw [if_neg hc8] at e
          rw [← e]
          exact ih _ (by omega) (by omega) (by omega)
        · refine ⟨(by unfold i32; omega), ?_⟩
          refine ⟨(by unfold i32; omega), ?_⟩
          rw [if_pos (by omega)] at e
          rw [← e]
          exact ih _ (by omega) (by omega) (by omega)
  refine e_X8_jobsOf (nx0 := 188) rfl ?_
  exact L _ 0 (Nat.lt_succ_self _) (by omega) (by omega)
theorem m_layJobD {j i t c m v : Int} (hj : 0 ≤ j ∧ j < 20) : qE mX8_layJob GG GG [qP 181, qI j, qI i, qI t, qI c, qI m, qI v] ρ μ (fun _ ρ' μ' => ρ' = ρ ∧ μ' = up2 (up2 (up2 (up2 (up2 μ 181 (88 + 5 * j + 0) i) 181 (88 + 5 * j + 1) t) 181 (88 + 5 * j + 2) c) 181 (88 + 5 * j + 3) m) 181 (88 + 5 * j + 4) v) := by
  refine e_X8_layJob (nx0 := 188) rfl ?_
  refine ⟨(by unfold i32; omega), ?_⟩
  refine ⟨(by unfold i32; omega), ?_⟩
  refine ⟨(by unfold i32; omega), ?_⟩
  refine ⟨(by omega), ?_⟩
  intro μ1 eμ1; subst eμ1
  refine ⟨(by unfold i32; omega), ?_⟩
  refine ⟨(by omega), ?_⟩
  intro μ2 eμ2; subst eμ2
  refine ⟨(by unfold i32; omega), ?_⟩
  refine ⟨(by omega), ?_⟩
  intro μ3 eμ3; subst eμ3
  refine ⟨(by unfold i32; omega), ?_⟩
  refine ⟨(by omega), ?_⟩
  intro μ4 eμ4; subst eμ4
  refine ⟨(by unfold i32; omega), ?_⟩
  refine ⟨(by omega), ?_⟩
  intro μ5 eμ5; subst eμ5
  exact ⟨rfl, rfl⟩
theorem m_readJob (hb : BY b) (hn : n ≤ 900) (h : MT μ b n T) (hp : T.1 = 0 → Mp μ T) (hd : MD μ D) (hv : DV b D) : qE mX8_readJob GG GG [qP 178] ρ μ (fun _ ρ' μ' => ρ' = ρ ∧ MT μ' b n (jo7 b n D T) ∧ PQ μ μ' ∧ ((jo7 b n D T).1 = 0 → Ma μ' b n (jo7 b n D T) ∧ MD μ' (joS b n D T))) := by
  have cb := hv.2.2.2.2.2.2.2.1
  have F61 : ∀ μ1 : Mem, MT μ1 b n (jo3 b n D T) → OM μ μ1 → ((jo3 b n D T).1 = 0 → Mp μ1 (jo3 b n D T)) → qX mX8_readJob GG (fun _ ρ' μ' => ρ' = ρ ∧ MT μ' b n (jo7 b n D T) ∧ PQ μ μ' ∧ ((jo7 b n D T).1 = 0 → Ma μ' b n (jo7 b n D T) ∧ MD μ' (joS b n D T))) GG (0, 0) 61 [some (qP 178), some (qI (joI b n D T)), none, none, none, none] [] ρ μ1 := by
    intro μ1 c1 o1 p1
    have vt := vNu_r (b := b) (n := n) (lo := 0) (hi := 1) (T := jo3 b n D T) (by decide)
    have et : vNu b n 0 1 (jo3 b n D T) = joT b n D T := rfl
    rw [et] at vt
    have ec : vNu b n 0 (D 1 (4 + joT b n D T) - 1) (jo4 b n D T) = joC b n D T := rfl
    have ct := hv.1 _ vt.1 (by omega)
    refine w_X8_readJob_61 ?_
    refine ⟨_, m_adv hb hn c1 (fun x => (p1 x).2), ?_⟩
    rintro z1 ρ2 μ3 ⟨hq1_1, c2, o2, a2⟩
    obtain rfl := hq1_1.symm
    refine ⟨_, m_peekTrain (D := D) c2 a2 (fun _ => (hd.om o1).om o2), ?_⟩
    rintro z5 ρ6 μ7 ⟨hq2_1, hq2_2, c3, o3, p3⟩
    obtain rfl := hq2_1.symm
    obtain rfl := hq2_2.symm
    have c3 : MT μ7 b n (jo4 b n D T) := c3
    have p3 : (jo4 b n D T).1 = 0 → Mp μ7 (jo4 b n D T) := p3
    rw [et]
    refine ⟨_, m_adv hb hn c3 (fun x => (p3 x).2), ?_⟩
    rintro z9 ρ10 μ11 ⟨hq3_1, c4, o4, a4⟩
    obtain rfl := hq3_1.symm
    have d4 := (((hd.om o1).om o2).om o3).om o4
    rw [show μ11 181 (4 + joT b n D T) = D 1 (4 + joT b n D T) from d4.1 _ (by omega) (by omega)]
    refine ⟨(by unfold i32; omega), ?_⟩
    refine ⟨(by omega), ?_⟩
    refine ⟨(by unfold i32; omega), ?_⟩
    refine ⟨_, m_number hb hn c4 a4, ?_⟩
    rintro z13 ρ14 μ15 ⟨hq7_1, hq7_2, c5, o5, a5⟩
    obtain rfl := hq7_1.symm
    obtain rfl := hq7_2.symm
    refine ⟨_, m_peekMeal (D := D) hb hn c5 a5 (fun _ => d4.om o5) hv, ?_⟩
    rintro z17 ρ18 μ19 ⟨zm, hq8_1, c6, o6, p6⟩
    obtain rfl := hq8_1.symm
    refine ⟨_, m_adv hb hn c6 (fun x => (p6 x).2), ?_⟩
    rintro z21 ρ22 μ23 ⟨hq9_1, c7, o7, a7⟩
    obtain rfl := hq9_1.symm
    refine ⟨_, m_number hb hn c7 a7, ?_⟩
    rintro z25 ρ26 μ27 ⟨hq10_1, hq10_2, c8, o8, a8⟩
    obtain rfl := hq10_1.symm
    obtain rfl := hq10_2.symm
    have oo := ((((((o1.trans o2).trans o3).trans o4).trans o5).trans o6).trans o7).trans o8
    have dd := hd.om oo
    have cz := c8.2.2.2.2.2
    have c8' : MT μ27 b n (jo7 b n D T) := c8
    rw [c8.2.1]
    refine ⟨fun hc11 => ?_, fun hc11 => ?_⟩
    · have c0 : (jo7 b n D T).1 = 0 := by
        show (fNu b n 1 99 (fMl b n D (fNu b n 0 (D 1 (4 + joT b n D T) - 1) (jo4 b n D T)))).1 = 0
        omega
      have q6 := (fNu_0 (show (fNu b n 1 99 (jo6 b n D T)).1 = 0 from c0)).1
      have q5 := (fMl_0 (show (fMl b n D (jo5 b n D T)).1 = 0 from q6)).1
      have q4 := (fNu_0 (show (fNu b n 0 (D 1 (4 + joT b n D T) - 1) (jo4 b n D T)).1 = 0 from q5)).1
      have q3 := (fNu_0 (fUt_0 (show (fUt D (joT b n D T) (fNu b n 0 1 (jo3 b n D T))).1 = 0 from q4)).1).1
      have q2 := (jo3_0 q3)
      have q1 := jo1_0 (fNu_0 (show (fNu b n 0 (D 1 61 - 1) (jo1 D T)).1 = 0 by rw [q2.2] at q3; exact q3)).1
      have zm := zm q6
      subst zm
      rw [ec, show μ27 181 87 = D 1 87 from dd.1 87 (by decide) (by decide)]
      refine ⟨_, m_layJobD (by omega), ?_⟩
      rintro z29 ρ30 μ31 ⟨hq12_1, hq12_2⟩
      obtain rfl := hq12_1.symm
      obtain rfl := hq12_2.symm
      rw [up2_k (by omega), up2_k (by omega), up2_k (by omega), up2_k (by omega), up2_k (by omega), show μ27 181 87 = D 1 87 from dd.1 87 (by decide) (by decide)]
      refine ⟨(by unfold i32; omega), ?_⟩
      intro μ33 eμ33; subst eμ33
      refine ⟨rfl, (((((c8'.up (by decide)).up (by decide)).up (by decide)).up (by decide)).up (by decide)).up (by decide), (((((oo.pq.up (by decide)).up (by decide)).up (by decide)).up (by decide)).up (by decide)).up (by decide), fun _ => ⟨((((((a8 c0).up (by decide)).up (by decide)).up (by decide)).up (by decide)).up (by decide)).up (by decide), ?_⟩⟩
      unfold joS
      rw [if_pos c0]
      refine ⟨?_, fun x m0 m1 => ?_, fun t t0 t1 => ?_, fun x k0 k1 => ?_⟩
      · intro x x0 x1; rw [up2_u, up2_u, up2_u, up2_u, up2_u, up2_u]; exact u1_cg (u1_cg (u1_cg (u1_cg (u1_cg (u1_cg (dd.1 x x0 x1))))))
      · rw [up2_c (by decide), up2_c (by decide), up2_c (by decide), up2_c (by decide), up2_c (by decide), up2_c (by decide)]
        refine dd.2.1 x m0 ?_
        have e1 : ∀ i t c m q, joX D i t c m q 1 = pAdd (D 1) i t c m q := fun _ _ _ _ _ => rfl
        have e : ∀ i t c m q, joX D i t c m q 1 36 = D 1 36 := fun i t c m q => by rw [e1]; exact pAdd_o (p := D 1) (k := 36) (by omega) (by omega)
        rw [← e _ _ _ _ _]; exact m1
      · rw [up2_c (by decide), up2_c (by decide), up2_c (by decide), up2_c (by decide), up2_c (by decide), up2_c (by decide)]
        exact dd.2.2.1 t t0 t1
      · rw [up2_c (by decide), up2_c (by decide), up2_c (by decide), up2_c (by decide), up2_c (by decide), up2_c (by decide)]
        exact dd.2.2.2 x k0 k1
    · have c0 : ¬ (jo7 b n D T).1 = 0 := by
        show ¬ (fNu b n 1 99 (fMl b n D (fNu b n 0 (D 1 (4 + joT b n D T) - 1) (jo4 b n D T)))).1 = 0
        omega
      exact ⟨rfl, c8', oo.pq, fun x => absurd x c0⟩
  have F17 : ∀ μ1 : Mem, MT μ1 b n (jo1 D T) → OM μ μ1 → ((jo1 D T).1 = 0 → Mp μ1 (jo1 D T)) → qX mX8_readJob GG (fun _ ρ' μ' => ρ' = ρ ∧ MT μ' b n (jo7 b n D T) ∧ PQ μ μ' ∧ ((jo7 b n D T).1 = 0 → Ma μ' b n (jo7 b n D T) ∧ MD μ' (joS b n D T))) GG (0, 0) 17 [some (qP 178), none, none, none, none, none] [] ρ μ1 := by
    intro μ1 c1 o1 p1
    refine w_X8_readJob_17 ?_
    refine ⟨_, m_adv hb hn c1 (fun x => (p1 x).2), ?_⟩
    rintro z1 ρ2 μ3 ⟨hq1_1, c2, o2, a2⟩
    obtain rfl := hq1_1.symm
    rw [show μ3 181 61 = D 1 61 from (hd.om (o1.trans o2)).1 61 (by decide) (by decide)]
    refine ⟨(by unfold i32; omega), ?_⟩
    refine ⟨_, m_peek c2 a2, ?_⟩
    rintro z5 ρ6 μ7 ⟨hq3_1, hq3_2, c3, o3, p3⟩
    obtain rfl := hq3_1.symm
    obtain rfl := hq3_2.symm
    have oo := (o1.trans o2).trans o3
    have dd := hd.om oo
    have eI : vNu b n 0 (D 1 61 - 1) (jo1 D T) = joI b n D T := rfl
    have c3 : MT μ7 b n (jo2 b n D T) := c3
    have p3 : (jo2 b n D T).1 = 0 → Mp μ7 (jo2 b n D T) := p3
    rw [c3.2.1, eI]
    refine ⟨fun hc4 => ?_, fun hc4 => ?_⟩
    · have ne : (jo2 b n D T).1 ≠ 0 := by omega
      have e3 : jo3 b n D T = jo2 b n D T := by unfold jo3; rw [fR_c ne]; split <;> rfl
      exact F61 _ (by rw [e3]; exact c3) oo (fun x => by rw [e3] at x; exact absurd x ne)
    · have e87 := dd.1 87 (by decide) (by decide)
      refine ⟨_, m_jobsOfD rfl (by omega), ?_⟩
      rintro z9 ρ10 μ11 ⟨hq6_1, hq6_2, hq6_3⟩
      obtain rfl := hq6_1.symm
      obtain rfl := hq6_2.symm
      obtain rfl := hq6_3.symm
      have c8 := hv.2.2.2.2.2.2.2.2.1 (joI b n D T)
      have ecn : cnt (μ7 181) (joI b n D T) = cnt (D 1) (joI b n D T) := cnt_e (p := D 1) (q := μ7 181) e87 (by omega) (fun j j0 j1 => dd.1 _ (by omega) (by omega)) _
      rw [ecn]
      refine ⟨fun hc7 => ?_, fun hc7 => ?_⟩
      · have e3 : jo3 b n D T = jo2 b n D T := by unfold jo3; rw [if_pos (by omega)]
        exact F61 _ (by rw [e3]; exact c3) oo (fun x => by rw [e3] at x ⊢; exact p3 x)
      · refine ⟨_, m_report (x := 4) (by decide) c3 p3, ?_⟩
        rintro z13 ρ14 μ15 ⟨hq9_1, c4, o4, k4⟩
        obtain rfl := hq9_1.symm
        have e3 : jo3 b n D T = fR 4 (jo2 b n D T) := by unfold jo3; rw [if_neg (by omega)]
        exact F61 _ (by rw [e3]; exact c4) (oo.trans o4) (fun x => by rw [e3] at x; exact absurd x (fR_k (by decide)))
  refine e_X8_readJob ?_
  rw [show μ 181 87 = D 1 87 from hd.1 87 (by decide) (by decide)]
  refine ⟨fun hc1 => ?_, fun hc1 => ?_⟩
  · exact F17 _ (by unfold jo1; rw [if_pos (by omega)]; exact h) OM.refl (fun x => by unfold jo1 at x ⊢; rw [if_pos (by omega)] at x ⊢; exact hp x)
  · refine ⟨_, m_report (x := 4) (by decide) h hp, ?_⟩
    rintro z1 ρ2 μ3 ⟨hq3_1, c1, o1, k1⟩
    obtain rfl := hq3_1.symm
    exact F17 _ (by unfold jo1; rw [if_neg (by omega)]; exact c1) o1 (fun x => by unfold jo1 at x; rw [if_neg (by omega)] at x; exact absurd x (fR_k (by decide)))
theorem m_readLine (hb : BY b) (hn : n ≤ 900) (h : MT μ b n T) (hc : T.1 = 0) (ha : Ma μ b n T) (hd : MD μ D) (hv : DV b D) : qE mX8_readLine GG GG [qP 178] ρ μ (fun _ ρ' μ' => ρ' = ρ ∧ MT μ' b n (rdT b n D T) ∧ PQ μ μ' ∧ ((rdT b n D T).1 = 0 → Ma μ' b n (rdT b n D T) ∧ MD μ' (rdS b n D T))) := by
  have ht := (h.tk hc).2
  have hp : (fTk b n T).1 = 0 → Mp μ (fTk b n T) := fun _ => ha.p hc
  have K : ∀ z : Int, z = (if T.1 = 0 ∧ tK b n T.2.2.2 = 1 then kwI (tW b n T.2.2.2) else -1) → 0 ≤ z → tK b n T.2.2.2 = 1 ∧ kwI (tW b n T.2.2.2) = z := by
    intro z hz z0
    by_cases k : tK b n T.2.2.2 = 1
    · rw [if_pos ⟨hc, k⟩] at hz; exact ⟨k, hz.symm⟩
    · rw [if_neg (fun x => k x.2)] at hz; omega
  refine e_X8_readLine ?_
  refine ⟨_, m_res hb hn h (fun _ => ha), ?_⟩
  rintro z1 ρ2 μ3 ⟨hz, hq1_1, hq1_2⟩
  obtain rfl := hq1_1.symm
  obtain rfl := hq1_2.symm
  refine ⟨fun hc2 => ?_, fun hc2 => ?_, fun hc2 => ?_, fun hc2 => ?_, fun hc2 => ?_, fun hc2 => ?_, fun hc2 => ?_, fun hc2 => ?_⟩
  · refine ⟨_, m_report (x := 1) (by decide) ht hp, ?_⟩
    rintro z5 ρ6 μ7 ⟨hq3_1, c2, o2, k2⟩
    obtain rfl := hq3_1.symm
    have eT : rdT b n D T = fR 1 (fTk b n T) := by
      unfold rdT
      by_cases k : tK b n T.2.2.2 = 1
      · rw [if_pos ⟨hc, k⟩] at hz
        rw [if_pos k, if_neg (by omega), if_neg (by omega), if_neg (by omega), if_neg (by omega), if_neg (by omega), if_neg (by omega), if_neg (by omega)]
      · rw [if_neg k]
    exact ⟨rfl, by rw [eT]; exact c2, o2.pq, fun x => by rw [eT] at x; exact absurd x (fR_k (by decide))⟩
  · have kk := K z1 hz (by omega)
    refine ⟨_, m_readTrain hb hn ht hp hd, ?_⟩
    rintro z9 ρ10 μ11 ⟨hq5_1, c2, q2, m2⟩
    obtain rfl := hq5_1.symm
    have eT : rdT b n D T = tr6 b n D (fTk b n T) := by unfold rdT; rw [if_pos kk.1, if_pos (by omega)]
    have eS : rdS b n D T = trS b n D (fTk b n T) := by unfold rdS; rw [if_pos kk.1, if_pos (by omega)]
    rw [eT, eS]; exact ⟨rfl, c2, q2, m2⟩
  · have kk := K z1 hz (by omega)
    refine ⟨_, m_readCar hb hn ht hp hd hv, ?_⟩
    rintro z13 ρ14 μ15 ⟨hq7_1, c2, q2, m2⟩
    obtain rfl := hq7_1.symm
    have eT : rdT b n D T = ca6 b n D (fTk b n T) := by unfold rdT; rw [if_pos kk.1, if_neg (by omega), if_pos (by omega)]
    have eS : rdS b n D T = caS b n D (fTk b n T) := by unfold rdS; rw [if_pos kk.1, if_neg (by omega), if_pos (by omega)]
    rw [eT, eS]; exact ⟨rfl, c2, q2, m2⟩
  · have kk := K z1 hz (by omega)
    refine ⟨_, m_readMeal hb hn ht hp hd hv, ?_⟩
    rintro z17 ρ18 μ19 ⟨hq9_1, c2, q2, m2⟩
    obtain rfl := hq9_1.symm
    have eT : rdT b n D T = me5 b n D (fTk b n T) := by unfold rdT; rw [if_pos kk.1, if_neg (by omega), if_neg (by omega), if_pos (by omega)]
    have eS : rdS b n D T = meS b n D (fTk b n T) := by unfold rdS; rw [if_pos kk.1, if_neg (by omega), if_neg (by omega), if_pos (by omega)]
    rw [eT, eS]; exact ⟨rfl, c2, q2, m2⟩
  · have kk := K z1 hz (by omega)
    refine ⟨_, m_readKitchen hb hn ht hp hd hv, ?_⟩
    rintro z21 ρ22 μ23 ⟨hq11_1, c2, q2, m2⟩
    obtain rfl := hq11_1.symm
    have eT : rdT b n D T = ki2 b n D (fTk b n T) := by unfold rdT; rw [if_pos kk.1, if_neg (by omega), if_neg (by omega), if_neg (by omega), if_pos (by omega)]
    have eS : rdS b n D T = kiS b n D (fTk b n T) := by unfold rdS; rw [if_pos kk.1, if_neg (by omega), if_neg (by omega), if_neg (by omega), if_pos (by omega)]
    rw [eT, eS]; exact ⟨rfl, c2, q2, m2⟩
  · have kk := K z1 hz (by omega)
    refine ⟨_, m_readStock hb hn ht hp hd hv, ?_⟩
    rintro z25 ρ26 μ27 ⟨hq13_1, c2, q2, m2⟩
    obtain rfl := hq13_1.symm
    have eT : rdT b n D T = st4 b n D (fTk b n T) := by unfold rdT; rw [if_pos kk.1, if_neg (by omega), if_neg (by omega), if_neg (by omega), if_neg (by omega), if_pos (by omega)]
    have eS : rdS b n D T = stS b n D (fTk b n T) := by unfold rdS; rw [if_pos kk.1, if_neg (by omega), if_neg (by omega), if_neg (by omega), if_neg (by omega), if_pos (by omega)]
    rw [eT, eS]; exact ⟨rfl, c2, q2, m2⟩
  · have kk := K z1 hz (by omega)
    refine ⟨_, m_readTrolley hb hn ht hp hd hv, ?_⟩
    rintro z29 ρ30 μ31 ⟨hq15_1, c2, q2, m2⟩
    obtain rfl := hq15_1.symm
    have eT : rdT b n D T = ty6 b n D (fTk b n T) := by unfold rdT; rw [if_pos kk.1, if_neg (by omega), if_neg (by omega), if_neg (by omega), if_neg (by omega), if_neg (by omega), if_pos (by omega)]
    have eS : rdS b n D T = tyS b n D (fTk b n T) := by unfold rdS; rw [if_pos kk.1, if_neg (by omega), if_neg (by omega), if_neg (by omega), if_neg (by omega), if_neg (by omega), if_pos (by omega)]
    rw [eT, eS]; exact ⟨rfl, c2, q2, m2⟩
  · have kk := K z1 hz (by omega)
    refine ⟨_, m_readJob hb hn ht hp hd hv, ?_⟩
    rintro z33 ρ34 μ35 ⟨hq17_1, c2, q2, m2⟩
    obtain rfl := hq17_1.symm
    have eT : rdT b n D T = jo7 b n D (fTk b n T) := by unfold rdT; rw [if_pos kk.1, if_neg (by omega), if_neg (by omega), if_neg (by omega), if_neg (by omega), if_neg (by omega), if_neg (by omega), if_pos (by omega)]
    have eS : rdS b n D T = joS b n D (fTk b n T) := by unfold rdS; rw [if_pos kk.1, if_neg (by omega), if_neg (by omega), if_neg (by omega), if_neg (by omega), if_neg (by omega), if_neg (by omega), if_pos (by omega)]
    rw [eT, eS]; exact ⟨rfl, c2, q2, m2⟩
end MJO
