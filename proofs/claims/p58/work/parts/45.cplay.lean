/-! ===== the class's play ===== -/
section CP
variable {p : Pl} {o : Nat} {μ : Mem}
/-- the memory as the trolleys below x await their start -/
def IX (p : Pl) (o : Nat) (μ : Mem) (x : Int) : Prop := (∀ i, 0 ≤ i → i < x → μ (o + 12) i = jf p i 0 ∧ μ (o + 11) i = 0 ∧ μ (o + 10) i = if jf p i 0 < 0 then 0 else 1) ∧ (∀ k, 0 ≤ k → k < 12 → μ (o + 9) k = p (49 + k)) ∧ (∀ d, 0 ≤ d → d < 10 → μ (o + 13) d = 0) ∧ μ o 9 = 0
theorem cc_all (hv : PV p) : s_I (fun i => cc p i 0) (p 61) = p 87 := by
  have n := hv.n
  unfold cc
  have e : ∀ m : Int, 0 ≤ m → m ≤ p 87 → s_I (fun i => s_I (fun j => if 0 ≤ j ∧ p (88 + 5 * j + 0) = i then 1 else 0) m) (p 61) = m := fun m hm => by
    refine i_ind (P := fun m => m ≤ p 87 → s_I (fun i => s_I (fun j => if 0 ≤ j ∧ p (88 + 5 * j + 0) = i then 1 else 0) m) (p 61) = m) ?_ ?_ m hm
    · intro _
      exact s_Iz (by omega) (fun _ _ _ => rfl)
    · intro m hm ih hle
      have e1 : s_I (fun i => s_I (fun j => if 0 ≤ j ∧ p (88 + 5 * j + 0) = i then 1 else 0) (m + 1)) (p 61) = s_I (fun i => s_I (fun j => if 0 ≤ j ∧ p (88 + 5 * j + 0) = i then 1 else 0) m + (if 0 ≤ m ∧ p (88 + 5 * m + 0) = i then 1 else 0)) (p 61) := s_Ic (by omega) (fun i _ _ => s_Is hm)
      rw [e1, s_Id (by omega), ih (by omega)]
      have b := hv.j hm (by omega)
      have e2 := s_Ik (f := fun _ => 0) (g := fun i => if 0 ≤ m ∧ p (88 + 5 * m + 0) = i then 1 else 0) (n := p 61) (i := p (88 + 5 * m + 0)) (by omega) ⟨b.1, b.2.1⟩ (fun i i0 i1 hi => if_neg (fun h => hi h.2.symm))
      rw [e2, s_Iz (by omega) (fun _ _ _ => rfl), if_pos ⟨hm, rfl⟩]
      omega
  exact e (p 87) (by omega) (Int.le_refl _)
theorem c_ini (hv : PV p) (h : IX p o μ (p 61)) : CI0 p o μ ∧ CAll p o μ ∧ cm p o μ ≤ 60 := by
  have n := hv.n
  obtain ⟨h1, h2, h3, h4⟩ := h
  refine ⟨⟨fun i i0 i1 => ?_, fun k k0 k1 => ?_⟩, fun J => ?_, ?_⟩
  · rw [(h1 i i0 i1).2.1]; omega
  · rw [h2 k k0 k1]; exact (hv.s k0 k1).1
  · have z191 : ∀ i, 0 ≤ i → i < 5 → sIni p (-1) (-1) J 191 i = 0 := fun i i0 i1 => ini_0 (Or.inr (Or.inl rfl)) ⟨i0, i1⟩
    have z192 : ∀ i, 0 ≤ i → i < 5 → sIni p (-1) (-1) J 192 i = 0 := fun i i0 i1 => ini_0 (Or.inr (Or.inr rfl)) ⟨i0, i1⟩
    have z188 : ∀ i, 0 ≤ i → i < 5 → sIni p (-1) (-1) J 188 i = 0 := fun i i0 i1 => ini_0 (Or.inl rfl) ⟨i0, i1⟩
    have z187 : ∀ i, 0 ≤ i → i < p 61 → sIni p (-1) (-1) J 187 i = nx p i (-1) 0 := fun i i0 i1 => by rw [ini_187 ⟨i0, by omega⟩, if_pos ⟨i1, by omega⟩]
    refine ⟨sIni p (-1) (-1) J, 0, 300, PI_ini hv, ⟨fun i i0 i1 => ?_, fun k k0 k1 => ?_, fun d d0 d1 => ?_, ?_, fun j j0 j1 hj => ?_⟩, (SV_ini hv).2, rfl⟩
    · obtain ⟨a, b, c⟩ := h1 i i0 i1
      unfold TRel
      rw [a, b, c, z187 i i0 i1, z188 i i0 (by omega), z192 i i0 (by omega)]
      rcases jf_b (p := p) (i := i) (x := 0) (by omega) (by omega) with ⟨d, e⟩ | ⟨d, e, f, _⟩
      · left
        rw [if_pos (by omega)]
        exact ⟨rfl, e, rfl, Or.inl (z191 i i0 (by omega))⟩
      · right; left
        rw [if_neg (by omega)]
        exact ⟨rfl, f.symm, e, rfl, rfl, by omega, Or.inl (z191 i i0 (by omega))⟩
    · have e1 : s_I (pend p o μ k) (p 61) = 0 := s_Iz (by omega) (fun i i0 i1 => by
        unfold pend
        rw [if_neg (fun h => ?_)]
        have := h.1
        rw [(h1 i i0 i1).2.2] at this
        split at this <;> omega)
      have e2 : s_I (sbk (sIni p (-1) (-1) J) k) 5 = 0 := s_Iz (by omega) (fun i i0 i1 => by
        unfold sbk
        rw [z191 i i0 i1]
        split <;> rfl)
      rw [e1, e2, h2 k k0 k1, ini_s ⟨k0, k1⟩]
    · rw [h3 d d0 d1, ini_d ⟨d0, d1⟩]
    · rw [h4, s_Iz (by omega) (fun j j0 j1 => ini_j (Or.inr rfl) ⟨j0, by omega⟩)]
    · exfalso
      have b := hv.j j0 j1
      rw [z187 _ b.1 b.2.1] at hj
      have nb := nx_s (p := p) (i := p (88 + 5 * j + 0)) (out := -1) (x := 0) (by omega)
      exact nb.2.2.2 j j0 hj ⟨rfl, by omega⟩
  · have a := cc_all hv
    have b : cm p o μ ≤ s_I (fun i => 3 * cc p i 0) (p 61) := s_Im (by omega) (fun i i0 i1 => by
      obtain ⟨a, b, c⟩ := h1 i i0 i1
      have c0 := cc_0 (p := p) (i := i) (by omega) (x := 0)
      unfold cw
      rw [a, c]
      by_cases hj : jf p i 0 < 0
      · rw [if_pos hj, if_pos rfl]; omega
      · rw [if_neg hj, if_neg (by omega)]
        have := cc_m (p := p) (i := i) (by omega) (show 0 ≤ jf p i 0 by omega)
        omega)
    have e : s_I (fun i => 3 * cc p i 0) (p 61) = 3 * s_I (fun i => cc p i 0) (p 61) := by
      have e3 : s_I (fun i => 3 * cc p i 0) (p 61) = s_I (fun i => (cc p i 0 + cc p i 0) + cc p i 0) (p 61) := s_Ic (by omega) (fun i _ _ => by omega)
      rw [e3, s_Id (by omega), s_Id (by omega)]
      omega
    omega
/-- all are through -/
theorem c_end (hv : PV p) (hA : CAll p o μ) (h : noFi μ o (p 61)) : RP p o μ := by
  have n := hv.n
  intro J
  obtain ⟨S, N, k, hP, hR, hm, hr⟩ := hA J
  have h7 : ∀ i, 0 ≤ i → i < 5 → S 187 i = p 87 := fun i i0 i1 => by
    have a := hP.1.1 i i0 i1
    by_cases hi : i < p 61
    · rcases hR.1 i i0 hi with ⟨e, t, _⟩ | ⟨e, _⟩ | ⟨e, _⟩ | ⟨e, _⟩
      · exact t
      · have := h i i0 hi; omega
      · have := h i i0 hi; omega
      · have := h i i0 hi; omega
    · by_cases h2 : S 187 i < p 87
      · exact absurd (a.2.2.2.2.2.2.2.2.2.1 h2).1 hi
      · omega
  have hf : fst_ p S < 0 := by
    rcases fst_s (p := p) (S := S) with ⟨a, _⟩ | ⟨a, b, c, _⟩
    · omega
    · have := h7 _ a b; omega
  have e : ∀ m, sRun p (-1) m S = S := fun m => by
    cases m with
    | zero => rfl
    | succ m => show (if _ then _ else _) = _; rw [if_pos hf]
  have eG : sGo p (-1) (-1) J = bb 1000000 S := by
    unfold sGo
    rw [← hr, e]
  have hP2 := PI_bb (u := 1000000) hP
  rw [eG]
  have e195 : bb 1000000 S 195 = S 195 := bb_c (by decide) (by decide)
  have e196 : bb 1000000 S 196 = S 196 := bb_c (by decide) (by decide)
  have e197 : bb 1000000 S 197 = S 197 := bb_c (by decide) (by decide)
  have e198 : bb 1000000 S 198 = S 198 := bb_c (by decide) (by decide)
  have e199 : bb 1000000 S 199 = S 199 := bb_c (by decide) (by decide)
  have e200 : bb 1000000 S 200 = S 200 := bb_c (by decide) (by decide)
  have e187 : bb 1000000 S 187 = S 187 := bb_c (by decide) (by decide)
  refine ⟨fun j j0 j1 => ?_, fun k k0 k1 => ?_, ?_⟩
  · have b := hv.j j0 j1
    have hj : j < S 187 (p (88 + 5 * j + 0)) := by rw [h7 _ b.1 (by omega)]; exact j1
    refine ⟨?_, hP2.2.2.2.1 j j0 j1 (by rw [e187]; exact hj), ?_⟩
    · unfold CJ
      rw [e195, e196, e197, e198, e199, e200]
      exact hR.2.2.2.2 j j0 j1 hj
    · have := hP2.2.2.2.2.2.2 j j0 j1 (Or.inl (by rw [e187]; exact hj))
      exact this
  · have a := hR.2.1 k k0 k1
    have e1 : s_I (pend p o μ k) (p 61) = 0 := s_Iz (by omega) (fun i i0 i1 => by
      unfold pend
      rw [if_neg (fun q => ?_)]
      have := h i i0 i1
      have := q.1
      omega)
    have e2 : s_I (bkd S 1000000 k) 5 = s_I (sbk S k) 5 := s_Ic (by omega) (fun i i0 i1 => by
      have c := hP.1.1 i i0 i1
      unfold bkd sbk
      by_cases hz : S 191 i = 0
      · rw [hz]; split <;> split <;> rfl
      · have := (hP.2.1 i i0 i1 hz).1
        by_cases hk : S 190 i = k
        · rw [if_pos hk, if_pos ⟨hk, by omega⟩]
        · rw [if_neg hk, if_neg (fun q => hk q.1)])
    rw [bb_3, e2]
    omega
  · rw [e199]; exact hR.2.2.2.1
theorem cw_0 (hv : PV p) (hA : CAll p o μ) {i : Int} (i0 : 0 ≤ i) (i1 : i < p 61) : 0 ≤ cw p o μ i ∧ (μ (o + 10) i ≠ 0 → 0 < cw p o μ i) ∧ 0 ≤ μ (o + 10) i ∧ μ (o + 10) i ≤ 3 := by
  have n := hv.n
  obtain ⟨S, N, k, hP, hR, _, _⟩ := hA (fun _ _ => 0)
  have a := hP.1.1 i i0 (by omega)
  have c : ∀ x, 0 ≤ x → x < p 87 → p (88 + 5 * x + 0) = i → 1 ≤ cc p i x := fun x x0 x1 hx => by
    have c0 := cc_0 (p := p) (i := i) (by omega) (x := x + 1)
    rw [cc_s (by omega) x0 x1 hx]; omega
  unfold cw
  rcases hR.1 i i0 i1 with ⟨e, _⟩ | ⟨e, t1, t2, _⟩ | ⟨e, t1, t2, _⟩ | ⟨e, t1, t2, t3, _⟩
  · rw [e, if_pos rfl]; omega
  · have q := c (μ (o + 12) i) (by omega) t2 (by rw [← t1]; exact (a.2.2.2.2.2.2.2.2.2.1 (by omega)).2)
    rw [e, if_neg (by omega)]; omega
  · have q := c (μ (o + 12) i) (by omega) t2 (by rw [← t1]; exact (a.2.2.2.2.2.2.2.2.2.1 (by omega)).2)
    rw [e, if_neg (by omega)]; omega
  · have q := c (μ (o + 12) i) t1 t2 t3
    rw [e, if_neg (by omega)]; omega
theorem cm_no (hv : PV p) (hA : CAll p o μ) (h : cm p o μ ≤ 0) : noFi μ o (p 61) := by
  have n := hv.n
  intro i i0 i1
  have c := cw_0 hv hA i0 i1
  by_cases hz : μ (o + 10) i = 0
  · exact hz
  · exfalso
    have q := c.2.1 hz
    have e := s_Ik (f := u1 (cw p o μ) i 0) (g := cw p o μ) (n := p 61) (by omega) ⟨i0, i1⟩ (fun j _ _ hj => (u1_n hj).symm)
    rw [u1_s] at e
    have m := s_Im (f := fun _ => 0) (g := u1 (cw p o μ) i 0) (n := p 61) (by omega) (fun j j0 j1 => by
      unfold u1
      split
      · exact Int.le_refl _
      · exact (cw_0 hv hA j0 j1).1)
    rw [s_Iz (by omega) (fun _ _ _ => rfl)] at m
    unfold cm at h
    omega
end CP
theorem cStart_fr {p : Pl} {o : Nat} {i : Int} {μ : Mem} : FR o (o + 13) μ (cStart p o i μ) := by
  unfold cStart
  split
  · exact cAwait_fr (FR.up (cNoU_fr cSt0_fr) (by omega))
  · exact FR.up (FR.up cSt0_fr (by omega)) (by omega)
theorem cReach_fr {p : Pl} {o : Nat} {i : Int} {μ : Mem} : FR o (o + 13) μ (cReach p o i μ) := FR.up (FR.up (FR.up cUn_fr (by omega)) (by omega)) (by omega)
theorem cBack_fr {p : Pl} {o : Nat} {i : Int} {μ : Mem} : FR o (o + 13) μ (cBack p o i μ) := cAwait_fr (FR.up FR.refl (by omega))
theorem k_play {ρ : Rf} {μ : Mem} {o f s : Nat} {p : Pl} (ho : isO 3 o) (hf0 : isO 0 f) (hs6 : isO 6 s) (hf : FP μ f p) (hs : SP μ s p) (hv : PV p) (d1 : o + 13 < f ∨ f + 15 < o) (d2 : o + 13 < s ∨ s + 6 < o) : qE mX3_play GG GG [qP o, qP f, qP s] ρ μ (fun (_ : Int) (ρ' : Rf) (μ' : Mem) => ρ' = ρ ∧ FR o (o + 13) μ μ' ∧ RP p o μ') := by
  have n := hv.n
  have L54 : ∀ (k : Nat) (x : Int) (μ1 : Mem), (60 - x).toNat < k → 0 ≤ x → x ≤ 60 → FR o (o + 13) μ μ1 → CI0 p o μ1 → CAll p o μ1 → cm p o μ1 + x ≤ 60 → qX mX3_play GG (fun (_ : Int) (ρ' : Rf) (μ' : Mem) => ρ' = ρ ∧ FR o (o + 13) μ μ' ∧ RP p o μ') GG (0, 0) 54 [some (qP o), some (qP f), some (qP s), some (qI x), none] [] ρ μ1 := by
    intro k
    induction k with
    | zero => intro x μ1 h; omega
    | succ k ih =>
      intro x μ1 hk h0 h1 hfr hC hA hm
      have hf1 : FP μ1 f p := hf.ag (hfr.ag (by omega))
      have hs1 : SP μ1 s p := hs.ag (hfr.ag (by omega))
      have hf17 := hf1.n.2.2
      have L128 : ∀ μ2, x < 60 → FR o (o + 13) μ μ2 → CI0 p o μ2 → CAll p o μ2 → cm p o μ2 < cm p o μ1 → qX mX3_play GG (fun (_ : Int) (ρ' : Rf) (μ' : Mem) => ρ' = ρ ∧ FR o (o + 13) μ μ' ∧ RP p o μ') GG (0, 0) 128 [some (qP o), some (qP f), some (qP s), some (qI x), none] [] ρ μ2 := by
        intro μ2 hx a b c d
        refine w_X3_play_128 ho hf0 hs6 ?_
        refine ⟨(by unfold i32; omega), ?_⟩
        exact ih _ _ (by omega) (by omega) (by omega) a b c (by omega)
      refine w_X3_play_54 ho hf0 hs6 ?_
      refine ⟨fun hc1 => ?_, fun hc1 => ?_⟩
      · exact ⟨rfl, hfr, c_end hv hA (cm_no hv hA (by omega))⟩
      · rw [hf17]
        refine ⟨_, k_nextTrolley ho (by omega) (fun i i0 i1 => by have := hC.1 i i0 i1; omega), ?_⟩
        rintro z1 ρ2 μ3 ⟨hz, hq3_1, hq3_2⟩
        obtain rfl := hq3_1.symm
        obtain rfl := hq3_2.symm
        refine ⟨fun hc4 => ?_, fun hc4 => ?_⟩
        · have hz2 : isFi μ1 o (p 61) z1 := by
            rcases hz with ⟨h, _⟩ | h
            · omega
            · exact h
          have hz3 := hz2
          obtain ⟨i0, i1, i2, i3⟩ := hz3
          have hw := cw_0 hv hA i0 i1
          refine ⟨(by omega), ?_⟩
          refine ⟨fun hc6 => ?_, fun hc6 => ?_⟩
          · refine ⟨(by omega), ?_⟩
            refine ⟨fun hc8 => ?_, fun hc8 => ?_⟩
            · have E := c_ev3 hv hC hA hz2 (by omega)
              refine ⟨_, k_bringBack ho hf0 hs6 hf1 hs1 hv d1 d2 ⟨i0, i1⟩ E.1 E.2.1 E.2.2.1, ?_⟩
              rintro z5 ρ6 μ7 ⟨hq9_1, hq9_2⟩
              obtain rfl := hq9_1.symm
              obtain rfl := hq9_2.symm
              exact L128 _ hc1 (hfr.trans cBack_fr) E.2.2.2.1 E.2.2.2.2.1 E.2.2.2.2.2
            · have E := c_ev2 hv hC hA hz2 hc8
              refine ⟨_, k_reachDoor ho hf0 hs6 hf1 hs1 hv d1 d2 ⟨i0, i1⟩ E.1, ?_⟩
              rintro z9 ρ10 μ11 ⟨hq11_1, hq11_2⟩
              obtain rfl := hq11_1.symm
              obtain rfl := hq11_2.symm
              exact L128 _ hc1 (hfr.trans cReach_fr) E.2.1 E.2.2.1 E.2.2.2
          · have E := c_ev1 hv hC hA hz2 hc6
            refine ⟨_, k_startJob ho hf0 hs6 hf1 hs1 hv d1 d2 ⟨i0, i1⟩ E.1 (hC.1 _ i0 i1) E.2.1, ?_⟩
            rintro z13 ρ14 μ15 ⟨hq13_1, hq13_2⟩
            obtain rfl := hq13_1.symm
            obtain rfl := hq13_2.symm
            exact L128 _ hc1 (hfr.trans cStart_fr) E.2.2.1 E.2.2.2.1 E.2.2.2.2
        · refine ⟨rfl, hfr, c_end hv hA ?_⟩
          rcases hz with ⟨_, h⟩ | ⟨h, _⟩
          · exact h
          · omega
  have L30 : ∀ (k : Nat) (x : Int) (μ1 : Mem), (p 61 - x).toNat < k → 0 ≤ x → x ≤ p 61 → FR o (o + 13) μ μ1 → IX p o μ1 x → qX mX3_play GG (fun (_ : Int) (ρ' : Rf) (μ' : Mem) => ρ' = ρ ∧ FR o (o + 13) μ μ' ∧ RP p o μ') GG (0, 0) 30 [some (qP o), some (qP f), some (qP s), some (qI x), none] [] ρ μ1 := by
    intro k
    induction k with
    | zero => intro x μ1 h; omega
    | succ k ih =>
      intro x μ1 hk h0 h1 hfr hI
      have hf1 : FP μ1 f p := hf.ag (hfr.ag (by omega))
      have hs1 : SP μ1 s p := hs.ag (hfr.ag (by omega))
      have hf17 := hf1.n.2.2
      refine w_X3_play_30 ho hf0 hs6 ?_
      refine ⟨fun hc1 => ?_, fun hc1 => ?_⟩
      · have e : x = p 61 := by omega
        subst e
        obtain ⟨a, b, c⟩ := c_ini hv hI
        exact L54 _ 0 _ (Nat.lt_succ_self _) (by omega) (by omega) hfr a b (by omega)
      · refine ⟨_, k_awaitStart ho hs6 hs1 (by omega) (by omega) (by omega), ?_⟩
        rintro z1 ρ2 μ3 ⟨hq3_1, hq3_2⟩
        obtain rfl := hq3_1.symm
        obtain rfl := hq3_2.symm
        refine ⟨(by unfold i32; omega), ?_⟩
        refine ih _ _ (by omega) (by omega) (by omega) (cAwait_fr hfr) ⟨fun i i0 i1 => ?_, fun k k0 k1 => ?_, fun d d0 d1 => ?_, ?_⟩
        · unfold cAwait
          by_cases hi : i = x
          · subst hi
            refine ⟨?_, ?_, ?_⟩
            · rw [up2_c (by omega), up2_c (by omega), up2_s]
            · rw [up2_c (by omega), up2_s]
            · rw [up2_s]
          · have q := hI.1 i i0 (by omega)
            refine ⟨?_, ?_, ?_⟩
            · rw [up2_c (by omega), up2_c (by omega), up2_k hi]; exact q.1
            · rw [up2_c (by omega), up2_k hi, up2_c (by omega)]; exact q.2.1
            · rw [up2_k hi, up2_c (by omega), up2_c (by omega)]; exact q.2.2
        · unfold cAwait
          rw [up2_c (by omega), up2_c (by omega), up2_c (by omega)]
          exact hI.2.1 k k0 k1
        · unfold cAwait
          rw [up2_c (by omega), up2_c (by omega), up2_c (by omega)]
          exact hI.2.2.1 d d0 d1
        · unfold cAwait
          rw [up2_c (by omega), up2_c (by omega), up2_c (by omega)]
          exact hI.2.2.2
  refine e_X3_play ho hf0 hs6 ?_
  intro μ1 eμ1; subst eμ1
  refine ⟨_, k_fill (ar3_13 ho) (by omega), ?_⟩
  rintro z2 ρ3 μ4 ⟨hq2_1, hq2_2⟩
  obtain rfl := hq2_1.symm
  obtain rfl := hq2_2.symm
  intro μ6 eμ6; subst eμ6
  refine L30 _ 0 _ (Nat.lt_succ_self _) (by omega) (by omega) (FR.up (FR.fil (FR.cpy FR.refl (by omega)) (by omega)) (by omega)) ⟨fun i i0 i1 => by omega, fun k k0 k1 => ?_, fun d d0 d1 => ?_, up2_s⟩
  · rw [up2_c (by omega), filM_c (by omega), cpyM_s ⟨k0, k1⟩]
    exact hs.k k0 k1
  · rw [up2_c (by omega), filM_s ⟨d0, by omega⟩]
