/-! ===== the class's lines: job; a line ===== -/
section CJO
variable {ρ : Rf} {μ : Mem} {b : Int → Int} {n : Int} {T : Tk} {f s : Nat} {D : Sg}
theorem jo1_0 (h : (jo1 D T).1 = 0) : D 1 87 < 20 ∧ jo1 D T = T := by
  unfold jo1 at h ⊢
  by_cases c : D 1 87 < 20
  · rw [if_pos c]; exact ⟨c, rfl⟩
  · rw [if_neg c] at h; exact absurd h (fR_k (by decide))
theorem jo3_0 (h : (jo3 b n D T).1 = 0) : cnt (D 1) (joI b n D T) < 8 ∧ jo3 b n D T = jo2 b n D T := by
  unfold jo3 at h ⊢
  by_cases c : cnt (D 1) (joI b n D T) < 8
  · rw [if_pos c]; exact ⟨c, rfl⟩
  · rw [if_neg c] at h; exact absurd h (fR_k (by decide))
theorem k_readJob (hb : BY b) (hn : n ≤ 900) (h : CT μ b n T) (hd : CD ρ μ f s D) (hv : DV b D) : qE mX2_readJob GG GG [qP 1] ρ μ (fun _ ρ' μ' => ρ' = ρ ∧ CT μ' b n (jo7 b n D T) ∧ CD ρ μ' f s (joS b n D T) ∧ PF f s μ μ') := by
  have fs := hd.1
  have cb := hv.2.2.2.2.2.2.2.1
  have F50 : ∀ μ1 : Mem, CT μ1 b n (jo3 b n D T) → OB μ μ1 → qX mX2_readJob GG (fun _ ρ' μ' => ρ' = ρ ∧ CT μ' b n (jo7 b n D T) ∧ CD ρ μ' f s (joS b n D T) ∧ PF f s μ μ') GG (0, 0) 50 [some (qP 1), some (qI (joI b n D T)), none, none, none, none] [] ρ μ1 := by
    intro μ1 c1 o1
    have vt := vNu_r (b := b) (n := n) (lo := 0) (hi := 1) (T := jo3 b n D T) (by decide)
    have et : vNu b n 0 1 (jo3 b n D T) = joT b n D T := rfl
    rw [et] at vt
    have vc := vNu_m (b := b) (n := n) (lo := 0) (hi := D 1 (4 + joT b n D T) - 1) (T := jo4 b n D T)
    have ec : vNu b n 0 (D 1 (4 + joT b n D T) - 1) (jo4 b n D T) = joC b n D T := rfl
    rw [ec] at vc
    have ct := hv.1 _ vt.1 (by omega)
    refine w_X2_readJob_50 ?_
    refine ⟨_, k_takeNumber hb hn c1, ?_⟩
    rintro z1 ρ2 μ3 ⟨hq1_1, hq1_2, c2, o2⟩
    obtain rfl := hq1_1.symm
    obtain rfl := hq1_2.symm
    have d2 := hd.ob (o1.trans o2)
    rw [et]
    refine ⟨_, k_refuseUnknown c2 d2 ⟨vt.1, by omega⟩, ?_⟩
    rintro z5 ρ6 μ7 ⟨hq2_1, c3, o3⟩
    obtain rfl := hq2_1.symm
    have d3 := d2.ob o3
    rw [hd.2.1, (d3.2.2.2.1.1 _ vt.1 (by omega)).2.1]
    have c3 : CT μ7 b n (jo4 b n D T) := c3
    refine ⟨(by exact hd.i0), ?_⟩
    refine ⟨(by omega), ?_⟩
    refine ⟨(by unfold i32; omega), ?_⟩
    refine ⟨_, k_takeNumber hb hn c3, ?_⟩
    rintro z10 ρ11 μ12 ⟨hq6_1, hq6_2, c4, o4⟩
    obtain rfl := hq6_1.symm
    obtain rfl := hq6_2.symm
    refine ⟨_, k_takeName hb hn c4, ?_⟩
    rintro z14 ρ15 μ16 ⟨hq7_1, c5, o5, w5⟩
    obtain rfl := hq7_1.symm
    have d5 := (d3.ob o4).ob o5
    refine ⟨_, k_namedMeal c5 w5 d5 hv, ?_⟩
    rintro z18 ρ19 μ20 ⟨zr, zm, hq8_1, c6, o6⟩
    obtain rfl := hq8_1.symm
    refine ⟨_, k_takeNumber hb hn c6, ?_⟩
    rintro z22 ρ23 μ24 ⟨hq9_1, hq9_2, c7, o7⟩
    obtain rfl := hq9_1.symm
    obtain rfl := hq9_2.symm
    have oo := (((((o1.trans o2).trans o3).trans o4).trans o5).trans o6).trans o7
    have dd := hd.ob oo
    rw [c7.2.1]
    refine ⟨fun hc10 => ?_, fun hc10 => ?_⟩
    · exact ⟨rfl, c7, by unfold joS; rw [if_neg (show ¬ (jo7 b n D T).1 = 0 by show ¬ (fNu b n 1 99 (fMl b n D (fNu b n 0 (D 1 (4 + joT b n D T) - 1) (jo4 b n D T)))).1 = 0; omega)]; exact dd, oo.pf⟩
    · have c0 : (fNu b n 1 99 (fMl b n D (fNu b n 0 (D 1 (4 + joT b n D T) - 1) (jo4 b n D T)))).1 = 0 := by omega
      have q6 := (fNu_0 c0).1
      have q5 := (fMl_0 q6).1
      have q4 := (fNu_0 q5).1
      have q3 := (fNu_0 (fUt_0 (show (fUt D (joT b n D T) (fNu b n 0 1 (jo3 b n D T))).1 = 0 from q4)).1).1
      have q2 := (jo3_0 q3)
      have q1 := jo1_0 (fNu_0 (show (fNu b n 0 (D 1 61 - 1) (jo1 D T)).1 = 0 by rw [q2.2] at q3; exact q3)).1
      have zm := zm q6
      subst zm
      rw [ec]
      refine ⟨_, k_doorIndex (by omega) (by omega), ?_⟩
      rintro z26 ρ27 μ28 ⟨hq12_1, hq12_2, hq12_3⟩
      obtain rfl := hq12_1.symm
      obtain rfl := hq12_2.symm
      obtain rfl := hq12_3.symm
      rw [hd.2.2.1]
      refine ⟨(by exact hd.i6), ?_⟩
      refine ⟨_, k_addLast (t := joT b n D T) (c := joC b n D T) hd.i6 dd.2.2.2.2.1.sp (by rw [dS_o (by omega)]; omega) rfl, ?_⟩
      rintro z31 ρ32 μ33 ⟨hq14_1, f1, s1⟩
      obtain rfl := hq14_1.symm
      have c0' : (jo7 b n D T).1 = 0 := c0
      refine ⟨rfl, c7.c (f1 1 (by omega)) (f1 2 (by omega)), ?_, oo.pf.trans ⟨fun a x y z w => f1 a (by omega), fun k _ => by rw [f1 1 (by omega)]⟩⟩
      unfold joS
      rw [if_pos c0']
      refine ⟨hd.1, hd.2.1, hd.2.2.1, FD_eq hv dd.2.2.2.1 (fun a a0 a1 => f1 a (by omega)) rfl rfl (fun x hx => ?_), SD_jo cb.2.2.2.2.2.2.1 dd.2.2.2.2.1 f1 s1, fun k k0 k1 => by rw [f1 3 (by omega)]; exact dd.2.2.2.2.2 k k0 k1⟩
      exact pAdd_o (by omega) (by omega)
  have F17 : ∀ μ1 : Mem, CT μ1 b n (jo1 D T) → OB μ μ1 → qX mX2_readJob GG (fun _ ρ' μ' => ρ' = ρ ∧ CT μ' b n (jo7 b n D T) ∧ CD ρ μ' f s (joS b n D T) ∧ PF f s μ μ') GG (0, 0) 17 [some (qP 1), none, none, none, none, none] [] ρ μ1 := by
    intro μ1 c1 o1
    have d1 := hd.ob o1
    refine w_X2_readJob_17 ?_
    rw [hd.2.1, d1.2.2.2.1.2.2.2.2.2.2.2]
    refine ⟨(by exact hd.i0), ?_⟩
    refine ⟨(by unfold i32; omega), ?_⟩
    refine ⟨_, k_takeNumber hb hn c1, ?_⟩
    rintro z2 ρ3 μ4 ⟨hq3_1, hq3_2, c2, o2⟩
    obtain rfl := hq3_1.symm
    obtain rfl := hq3_2.symm
    have d2 := d1.ob o2
    rw [hd.2.2.1]
    refine ⟨(by exact hd.i6), ?_⟩
    refine ⟨_, k_jobsOf hd.i6 d2.2.2.2.2.1.sp (by rw [dS_o (by omega)]; omega), ?_⟩
    rintro z7 ρ8 μ9 ⟨hq5_1, hq5_2, hq5_3⟩
    obtain rfl := hq5_1.symm
    obtain rfl := hq5_2.symm
    obtain rfl := hq5_3.symm
    rw [dS_cnt (by omega)]
    refine ⟨fun hc6 => ?_, fun hc6 => ?_⟩
    · exact F50 _ (by unfold jo3; rw [if_pos (show cnt (D 1) (joI b n D T) < 8 by unfold joI; omega)]; exact c2) (o1.trans o2)
    · refine ⟨_, k_refuse (x := 4) (by decide) c2, ?_⟩
      rintro z11 ρ12 μ13 ⟨hq8_1, c3, o3⟩
      obtain rfl := hq8_1.symm
      exact F50 _ (by unfold jo3; rw [if_neg (show ¬ cnt (D 1) (joI b n D T) < 8 by unfold joI; omega)]; exact c3) ((o1.trans o2).trans o3)
  refine e_X2_readJob ?_
  rw [hd.2.2.1]
  refine ⟨(by exact hd.i6), ?_⟩
  rw [hd.2.2.2.2.1.2.2.2]
  refine ⟨fun hc2 => ?_, fun hc2 => ?_⟩
  · exact F17 _ (by unfold jo1; rw [if_pos (by omega)]; exact h) OB.refl
  · refine ⟨_, k_refuse (x := 4) (by decide) h, ?_⟩
    rintro z2 ρ3 μ4 ⟨hq4_1, c1, o1⟩
    obtain rfl := hq4_1.symm
    exact F17 _ (by unfold jo1; rw [if_neg (by omega)]; exact c1) o1
theorem kw_v {x : Int} : (x = 500135192942 ↔ kwI x = 0) ∧ (x = 6513010 ↔ kwI x = 1) ∧ (x = 1835360620 ↔ kwI x = 2) ∧ (x = 30233771112949102 ↔ kwI x = 3) ∧ (x = 495874696043 ↔ kwI x = 4) ∧ (x = 32776920184415609 ↔ kwI x = 5) ∧ (x = 6975330 ↔ kwI x = 6) := by
  rw [kwI_e]
  refine ⟨⟨fun h => by subst h; decide, fun h => ?_⟩, ⟨fun h => by subst h; decide, fun h => ?_⟩, ⟨fun h => by subst h; decide, fun h => ?_⟩, ⟨fun h => by subst h; decide, fun h => ?_⟩, ⟨fun h => by subst h; decide, fun h => ?_⟩, ⟨fun h => by subst h; decide, fun h => ?_⟩, ⟨fun h => by subst h; decide, fun h => ?_⟩⟩
  all_goals (repeat' split at h)
  all_goals omega
theorem k_readLine (hb : BY b) (hn : n ≤ 900) (h : CT μ b n T) (hc : T.1 = 0) (hd : CD ρ μ f s D) (hv : DV b D) : qE mX2_readLine GG GG [qP 1] ρ μ (fun _ ρ' μ' => ρ' = ρ ∧ CT μ' b n (rdT b n D T) ∧ CD ρ μ' f s (rdS b n D T) ∧ PF f s μ μ') := by
  have kv := kw_v (x := tW b n T.2.2.2)
  refine e_X2_readLine ?_
  refine ⟨_, k_adv hb hn h, ?_⟩
  rintro z1 ρ2 μ3 ⟨hq1_1, c1, o1, v1⟩
  obtain rfl := hq1_1.symm
  obtain ⟨v10, v12, v11⟩ := v1 hc
  have d1 := hd.ob o1
  rw [v10]
  refine ⟨fun hc2 => ?_, fun hc2 => ?_⟩
  · rw [v12 (by omega)]
    refine ⟨fun hc3 => ?_, fun hc3 => ?_⟩
    · refine ⟨fun hc4 => ?_, fun hc4 => ?_⟩
      · refine ⟨fun hc5 => ?_, fun hc5 => ?_⟩
        · refine ⟨fun hc6 => ?_, fun hc6 => ?_⟩
          · refine ⟨fun hc7 => ?_, fun hc7 => ?_⟩
            · refine ⟨fun hc8 => ?_, fun hc8 => ?_⟩
              · refine ⟨fun hc9 => ?_, fun hc9 => ?_⟩
                · refine ⟨_, k_refuse (x := 1) (by decide) c1, ?_⟩
                  rintro z5 ρ6 μ7 ⟨hq10_1, c2, o2⟩
                  obtain rfl := hq10_1.symm
                  refine ⟨rfl, ?_, ?_, (o1.trans o2).pf⟩
                  · unfold rdT; rw [if_pos (by omega), if_neg (by omega), if_neg (by omega), if_neg (by omega), if_neg (by omega), if_neg (by omega), if_neg (by omega), if_neg (by omega)]; exact c2
                  · unfold rdS; rw [if_pos (by omega), if_neg (by omega), if_neg (by omega), if_neg (by omega), if_neg (by omega), if_neg (by omega), if_neg (by omega), if_neg (by omega)]; exact d1.ob o2
                · refine ⟨_, k_readJob hb hn c1 d1 hv, ?_⟩
                  rintro z9 ρ10 μ11 ⟨hq12_1, c2, d2, p2⟩
                  obtain rfl := hq12_1.symm
                  refine ⟨rfl, ?_, ?_, o1.pf.trans p2⟩
                  · unfold rdT; rw [if_pos (by omega), if_neg (by omega), if_neg (by omega), if_neg (by omega), if_neg (by omega), if_neg (by omega), if_neg (by omega), if_pos (by omega)]; exact c2
                  · unfold rdS; rw [if_pos (by omega), if_neg (by omega), if_neg (by omega), if_neg (by omega), if_neg (by omega), if_neg (by omega), if_neg (by omega), if_pos (by omega)]; exact d2
              · refine ⟨_, k_readTrolley hb hn c1 d1 hv, ?_⟩
                rintro z13 ρ14 μ15 ⟨hq14_1, c2, d2, p2⟩
                obtain rfl := hq14_1.symm
                refine ⟨rfl, ?_, ?_, o1.pf.trans p2⟩
                · unfold rdT; rw [if_pos (by omega), if_neg (by omega), if_neg (by omega), if_neg (by omega), if_neg (by omega), if_neg (by omega), if_pos (by omega)]; exact c2
                · unfold rdS; rw [if_pos (by omega), if_neg (by omega), if_neg (by omega), if_neg (by omega), if_neg (by omega), if_neg (by omega), if_pos (by omega)]; exact d2
            · refine ⟨_, k_readStock hb hn c1 d1 hv, ?_⟩
              rintro z17 ρ18 μ19 ⟨hq16_1, c2, d2, p2⟩
              obtain rfl := hq16_1.symm
              refine ⟨rfl, ?_, ?_, o1.pf.trans p2⟩
              · unfold rdT; rw [if_pos (by omega), if_neg (by omega), if_neg (by omega), if_neg (by omega), if_neg (by omega), if_pos (by omega)]; exact c2
              · unfold rdS; rw [if_pos (by omega), if_neg (by omega), if_neg (by omega), if_neg (by omega), if_neg (by omega), if_pos (by omega)]; exact d2
          · refine ⟨_, k_readKitchen hb hn c1 d1 hv, ?_⟩
            rintro z21 ρ22 μ23 ⟨hq18_1, c2, d2, p2⟩
            obtain rfl := hq18_1.symm
            refine ⟨rfl, ?_, ?_, o1.pf.trans p2⟩
            · unfold rdT; rw [if_pos (by omega), if_neg (by omega), if_neg (by omega), if_neg (by omega), if_pos (by omega)]; exact c2
            · unfold rdS; rw [if_pos (by omega), if_neg (by omega), if_neg (by omega), if_neg (by omega), if_pos (by omega)]; exact d2
        · refine ⟨_, k_readMeal hb hn c1 d1 hv, ?_⟩
          rintro z25 ρ26 μ27 ⟨hq20_1, c2, d2, p2⟩
          obtain rfl := hq20_1.symm
          refine ⟨rfl, ?_, ?_, o1.pf.trans p2⟩
          · unfold rdT; rw [if_pos (by omega), if_neg (by omega), if_neg (by omega), if_pos (by omega)]; exact c2
          · unfold rdS; rw [if_pos (by omega), if_neg (by omega), if_neg (by omega), if_pos (by omega)]
            have e : (fTk b n T).2.2.2 = (fTk b n T).2.2.2 := rfl
            exact d2
      · refine ⟨_, k_readCar hb hn c1 d1 hv, ?_⟩
        rintro z29 ρ30 μ31 ⟨hq22_1, c2, d2, p2⟩
        obtain rfl := hq22_1.symm
        refine ⟨rfl, ?_, ?_, o1.pf.trans p2⟩
        · unfold rdT; rw [if_pos (by omega), if_neg (by omega), if_pos (by omega)]; exact c2
        · unfold rdS; rw [if_pos (by omega), if_neg (by omega), if_pos (by omega)]; exact d2
    · refine ⟨_, k_readTrain hb hn c1 d1, ?_⟩
      rintro z33 ρ34 μ35 ⟨hq24_1, c2, d2, p2⟩
      obtain rfl := hq24_1.symm
      refine ⟨rfl, ?_, ?_, o1.pf.trans p2⟩
      · unfold rdT; rw [if_pos (by omega), if_pos (by omega)]; exact c2
      · unfold rdS; rw [if_pos (by omega), if_pos (by omega)]; exact d2
  · refine ⟨_, k_refuse (x := 1) (by decide) c1, ?_⟩
    rintro z37 ρ38 μ39 ⟨hq26_1, c2, o2⟩
    obtain rfl := hq26_1.symm
    refine ⟨rfl, ?_, ?_, (o1.trans o2).pf⟩
    · unfold rdT; rw [if_neg (by omega)]; exact c2
    · unfold rdS; rw [if_neg (by omega)]; exact d1.ob o2
end CJO
