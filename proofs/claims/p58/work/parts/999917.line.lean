/-! ===== the lines of the law's text, read ===== -/
theorem nT_ok {v : Int} (h : 0 ≤ v ∧ v ≤ 999) : okT (nT v) ∧ vlT (nT v) = v := by
  have e : ∀ (l : List Int), vlT (true, 2, l) = wd 10 48 (lf l) 0 l.length := fun l => by unfold vlT; rw [if_neg (show ¬ (2 : Nat) = 1 by decide)]
  show okT (true, 2, digs v) ∧ vlT (true, 2, digs v) = v
  rw [e]
  unfold digs
  by_cases c1 : v < 10
  · rw [if_pos c1]
    refine ⟨Or.inr (Or.inl ⟨rfl, Nat.le_of_ble_eq_true rfl, Nat.le_of_ble_eq_true rfl, fun c hc => ?_⟩), ?_⟩
    · have := List.mem_singleton.mp hc
      omega
    · show (10 : Int) * 0 + (48 + v - 48) = v
      omega
  · by_cases c2 : v < 100
    · rw [if_neg c1, if_pos c2]
      refine ⟨Or.inr (Or.inl ⟨rfl, Nat.le_of_ble_eq_true rfl, Nat.le_of_ble_eq_true rfl, fun c hc => ?_⟩), ?_⟩
      · have hc : c ∈ [48 + v / 10, 48 + v % 10] := hc
        simp only [List.mem_cons, List.not_mem_nil, or_false] at hc
        rcases hc with rfl | rfl <;> omega
      · show (10 : Int) * (10 * 0 + (48 + v / 10 - 48)) + (48 + v % 10 - 48) = v
        omega
    · rw [if_neg c1, if_neg c2]
      refine ⟨Or.inr (Or.inl ⟨rfl, Nat.le_of_ble_eq_true rfl, Nat.le_of_ble_eq_true rfl, fun c hc => ?_⟩), ?_⟩
      · have hc : c ∈ [48 + v / 100, 48 + v / 10 % 10, 48 + v % 10] := hc
        simp only [List.mem_cons, List.not_mem_nil, or_false] at hc
        rcases hc with rfl | rfl | rfl <;> omega
      · show (10 : Int) * (10 * (10 * 0 + (48 + v / 100 - 48)) + (48 + v / 10 % 10 - 48)) + (48 + v % 10 - 48) = v
        omega
def teaV : Int := wd 256 0 (lf teaW) 0 3
def riceV : Int := wd 256 0 (lf riceW) 0 4
theorem tea_kw : kwI teaV = -1 ∧ kwI riceV = -1 ∧ teaV ≠ riceV ∧ teaV ≠ 0 ∧ riceV ≠ 0 := by decide +kernel
def mV (v : Int) : Int := if v = 0 then teaV else riceV
theorem mV_kw (v : Int) : kwI (mV v) = -1 := by
  unfold mV
  split
  · exact tea_kw.1
  · exact tea_kw.2.1
theorem wdok : ∀ l : List Int, l ∈ [trainW, fromW, toW, carW, mealW, kitW, stoW, troW, jobW, teaW, riceW] → 1 ≤ l.length ∧ l.length ≤ 8 ∧ ∀ c ∈ l, 97 ≤ c ∧ c ≤ 122 := by decide +kernel
theorem w_ok {bl : Bool} {l : List Int} (h : l ∈ [trainW, fromW, toW, carW, mealW, kitW, stoW, troW, jobW, teaW, riceW]) : okT (bl, 1, l) := Or.inl ⟨rfl, wdok l h⟩
theorem mT_ok (v : Int) : okT (mT v) ∧ vlT (mT v) = mV v ∧ (mT v).2.1 = 1 := by
  unfold mT mV
  split
  · exact ⟨w_ok (by decide), rfl, rfl⟩
  · exact ⟨w_ok (by decide), rfl, rfl⟩
theorem kwv : kwI (vlT (kT trainW)) = 0 ∧ kwI (vlT (kT carW)) = 1 ∧ kwI (vlT (kT mealW)) = 2 ∧ kwI (vlT (kT kitW)) = 3 ∧ kwI (vlT (kT stoW)) = 4 ∧ kwI (vlT (kT troW)) = 5 ∧ kwI (vlT (kT jobW)) = 6 ∧ kwI (vlT (bT fromW)) = 7 ∧ kwI (vlT (bT toW)) = 8 := by decide +kernel
theorem cT_ok : okT cT := Or.inr (Or.inr rfl)
def S0 (T : Tk) (p : Int) : Prop := T.1 = 0 ∧ T.2.2.2 = p
section LINE
variable {b : Int → Int} {n p : Int} {T : Tk} {D : Sg} {r : List Tkn} {v w k lo hi : Int} {bl : Bool} {l : List Int}
theorem S_tk {t : Tkn} (h : S0 T p) (ht : Toks b n p (t :: r)) : ∃ q, Toks b n q r ∧ S0 (fTk b n T) q ∧ tK b n T.2.2.2 = t.2.1 ∧ (t.2.1 = 1 → tW b n T.2.2.2 = vlT t) ∧ (t.2.1 = 2 → tV b n T.2.2.2 = vlT t) := by
  obtain ⟨q, ⟨h1, h2, h3, h4⟩, h5⟩ := ht
  refine ⟨q, h5, ?_, ?_, ?_, ?_⟩
  · rw [fTk_o h.1]
    exact ⟨rfl, by show tN b n T.2.2.2 = q; rw [h.2]; exact h2⟩
  · rw [h.2]; exact h1
  · rw [h.2]; exact h3
  · rw [h.2]; exact h4
theorem S_nu (h : S0 T p) (ht : Toks b n p (nT v :: r)) (hv : 0 ≤ v ∧ v ≤ 999) (h1 : lo ≤ v ∧ v ≤ hi) : ∃ q, Toks b n q r ∧ S0 (fNu b n lo hi T) q ∧ vNu b n lo hi T = v := by
  obtain ⟨q, h5, h6, h7, -, h9⟩ := S_tk h ht
  have e : tV b n T.2.2.2 = v := (h9 rfl).trans (nT_ok hv).2
  have h7 : tK b n T.2.2.2 = 2 := h7
  have e2 : fNu b n lo hi T = fTk b n T := by
    unfold fNu
    rw [if_pos h.1, if_pos h7, e, if_pos h1]
  refine ⟨q, h5, by rw [e2]; exact h6, ?_⟩
  unfold vNu
  rw [e2, if_pos h6.1, e]
theorem S_kw {bl : Bool} {l : List Int} (h : S0 T p) (ht : Toks b n p ((bl, 1, l) :: r)) (hk : kwI (vlT (bl, 1, l)) = k) : ∃ q, Toks b n q r ∧ S0 (fKw b n k T) q := by
  obtain ⟨q, h5, h6, h7, h8, -⟩ := S_tk h ht
  have e2 : fKw b n k T = fTk b n T := by
    unfold fKw
    rw [if_pos h.1, if_pos ⟨h7, by rw [h8 rfl]; exact hk⟩]
  exact ⟨q, h5, by rw [e2]; exact h6⟩
theorem S_kwm (h : S0 T p) (ht : Toks b n p (mT v :: r)) : ∃ q, Toks b n q r ∧ S0 (fKw b n (-1) T) q ∧ tW b n T.2.2.2 = mV v := by
  obtain ⟨q, h5, h6, h7, h8, -⟩ := S_tk h ht
  have m := mT_ok v
  have e : tW b n T.2.2.2 = mV v := (h8 m.2.2).trans m.2.1
  have e2 : fKw b n (-1) T = fTk b n T := by
    unfold fKw
    rw [if_pos h.1, if_pos ⟨by rw [h7, m.2.2]; rfl, by rw [e]; exact mV_kw v⟩]
  exact ⟨q, h5, by rw [e2]; exact h6, e⟩
theorem S_ml (h : S0 T p) (ht : Toks b n p (mT v :: r)) (hf : 0 ≤ fnd (D 2) (D 1 36) (mV v)) : ∃ q, Toks b n q r ∧ S0 (fMl b n D T) q ∧ vMl b n D T = fnd (D 2) (D 1 36) (mV v) := by
  obtain ⟨q, h5, h6, h7⟩ := S_kwm h ht
  refine ⟨q, h5, ?_, ?_⟩
  · unfold fMl
    rw [h7, if_neg (by omega)]
    exact h6
  · unfold vMl
    rw [h7]
    omega
/-- a line is read -/
def LNx (b : Int → Int) (n p : Int) (D : Sg) (ts : List Tkn) (D' : Sg) : Prop := ∀ (r : List Tkn) (T : Tk), S0 T p → Toks b n p (ts ++ r) → ∃ q, Toks b n q r ∧ S0 (rdT b n D T) q ∧ rdS b n D T = D'
theorem ln_tra {t a d : Int} (ht : 0 ≤ t ∧ t ≤ 1) (h4 : D 4 t = 0) (ha : 0 ≤ a ∧ a ≤ 900) (hd : a ≤ d ∧ d ≤ 999) : LNx b n p D [kT trainW, nT t, bT fromW, nT a, bT toW, nT d] (trX D t a d) := by
  intro r T h ht'
  obtain ⟨q1, t1, s1, k1, w1, -⟩ := S_tk h ht'
  have kw : kwI (tW b n T.2.2.2) = 0 := by rw [w1 rfl]; exact kwv.1
  have eT : rdT b n D T = tr6 b n D (fTk b n T) := by unfold rdT; rw [if_pos (by rw [k1]; rfl), if_pos kw]
  have eS : rdS b n D T = trS b n D (fTk b n T) := by unfold rdS; rw [if_pos (by rw [k1]; rfl), if_pos kw]
  rw [eT, eS]
  revert s1
  generalize fTk b n T = U
  intro s1
  obtain ⟨q2, t2, s2, v2⟩ := S_nu (lo := 0) (hi := 1) s1 t1 (by omega) ht
  have e2 : tr2 b n D U = fNu b n 0 1 U := by unfold tr2; rw [v2, if_pos h4]
  obtain ⟨q3, t3, s3⟩ := S_kw s2 t2 kwv.2.2.2.2.2.2.2.1
  rw [← e2] at s3
  obtain ⟨q4, t4, s4, v4⟩ := S_nu (lo := 0) (hi := 900) s3 t3 (by omega) ha
  obtain ⟨q5, t5, s5⟩ := S_kw s4 t4 kwv.2.2.2.2.2.2.2.2
  obtain ⟨q6, t6, s6, v6⟩ := S_nu (lo := a) (hi := 999) s5 t5 (by omega) hd
  have eA : trA b n D U = a := v4
  have e6 : tr6 b n D U = fNu b n a 999 (fKw b n 8 (tr4 b n D U)) := by unfold tr6; rw [eA]
  have s6' : S0 (tr6 b n D U) q6 := by rw [e6]; exact s6
  have eD : trD b n D U = d := by unfold trD; rw [eA]; exact v6
  refine ⟨q6, t6, s6', ?_⟩
  unfold trS
  rw [if_pos s6'.1, v2, eA, eD]
theorem ln_car {t p1 p2 p3 : Int} (ht : 0 ≤ t ∧ t ≤ 1) (h4 : D 4 t ≠ 0) (hc : D 1 (4 + t) < 5) (h1 : 0 ≤ p1 ∧ p1 ≤ 99) (h2 : 0 ≤ p2 ∧ p2 ≤ 99) (h3 : 0 ≤ p3 ∧ p3 ≤ 99) : LNx b n p D [kT carW, nT t, nT p1, nT p2, nT p3] (caX D t p1 p2 p3) := by
  intro r T h ht'
  obtain ⟨q1, t1, s1, k1, w1, -⟩ := S_tk h ht'
  have kw : kwI (tW b n T.2.2.2) = 1 := by rw [w1 rfl]; exact kwv.2.1
  have eT : rdT b n D T = ca6 b n D (fTk b n T) := by unfold rdT; rw [if_pos (by rw [k1]; rfl), if_neg (by omega), if_pos kw]
  have eS : rdS b n D T = caS b n D (fTk b n T) := by unfold rdS; rw [if_pos (by rw [k1]; rfl), if_neg (by omega), if_pos kw]
  rw [eT, eS]
  revert s1
  generalize fTk b n T = U
  intro s1
  obtain ⟨q2, t2, s2, v2⟩ := S_nu (lo := 0) (hi := 1) s1 t1 (by omega) ht
  have e2 : ca2 b n D U = fNu b n 0 1 U := by unfold ca2 fUt; rw [v2, if_neg h4]
  have e3 : ca3 b n D U = fNu b n 0 1 U := by unfold ca3; rw [v2, if_pos hc, e2]
  rw [← e3] at s2
  obtain ⟨q4, t4, s4, v4⟩ := S_nu (lo := 0) (hi := 99) s2 t2 (by omega) h1
  obtain ⟨q5, t5, s5, v5⟩ := S_nu (lo := 0) (hi := 99) s4 t4 (by omega) h2
  obtain ⟨q6, t6, s6, v6⟩ := S_nu (lo := 0) (hi := 99) s5 t5 (by omega) h3
  have s6 : S0 (ca6 b n D U) q6 := s6
  refine ⟨q6, t6, s6, ?_⟩
  unfold caS
  rw [if_pos s6.1, v2, v4]
  show caX D t p1 (vNu b n 0 99 (ca4 b n D U)) (vNu b n 0 99 (ca5 b n D U)) = _
  rw [show vNu b n 0 99 (ca4 b n D U) = p2 from v5, show vNu b n 0 99 (ca5 b n D U) = p3 from v6]
theorem ln_meaE {p1 p2 : Int} (hm : D 1 36 < 4) (hf : fnd (D 2) (D 1 36) (mV v) < 0) (h1 : 0 ≤ p1 ∧ p1 ≤ 20) (h2 : 0 ≤ p2 ∧ p2 ≤ 20) {r : List Tkn} {T : Tk} (h : S0 T p) (ht' : Toks b n p ([kT mealW, mT v, nT p1, nT p2] ++ r)) : ∃ q x, Toks b n q r ∧ S0 (rdT b n D T) q ∧ rdS b n D T = meX D (mV v) x p1 p2 := by
  obtain ⟨q1, t1, s1, k1, w1, -⟩ := S_tk h ht'
  have kw : kwI (tW b n T.2.2.2) = 2 := by rw [w1 rfl]; exact kwv.2.2.1
  have eT : rdT b n D T = me5 b n D (fTk b n T) := by unfold rdT; rw [if_pos (by rw [k1]; rfl), if_neg (by omega), if_neg (by omega), if_pos kw]
  have eS : rdS b n D T = meS b n D (fTk b n T) := by unfold rdS; rw [if_pos (by rw [k1]; rfl), if_neg (by omega), if_neg (by omega), if_pos kw]
  rw [eT, eS]
  revert s1
  generalize fTk b n T = U
  intro s1
  have e1 : me1 D U = U := by unfold me1; rw [if_pos hm]
  obtain ⟨q2, t2, s2, v2⟩ := S_kwm s1 t1
  have e3 : me3 b n D U = fKw b n (-1) U := by unfold me3 me2; rw [v2, if_pos hf, e1]
  rw [← e3] at s2
  obtain ⟨q4, t4, s4, v4⟩ := S_nu (lo := 0) (hi := 20) s2 t2 (by omega) h1
  obtain ⟨q5, t5, s5, v5⟩ := S_nu (lo := 0) (hi := 20) s4 t4 (by omega) h2
  have s5 : S0 (me5 b n D U) q5 := s5
  refine ⟨q5, tX b n U.2.2.2, t5, s5, ?_⟩
  unfold meS
  rw [if_pos s5.1, v2, v4]
  show meX D (mV v) (tX b n U.2.2.2) p1 (vNu b n 0 20 (me4 b n D U)) = _
  rw [show vNu b n 0 20 (me4 b n D U) = p2 from v5]
theorem ln_kit {p1 : Int} (hm : D 1 45 < 3) (h1 : 0 ≤ p1 ∧ p1 ≤ 99) : LNx b n p D [kT kitW, nT p1] (kiX D p1) := by
  intro r T h ht'
  obtain ⟨q1, t1, s1, k1, w1, -⟩ := S_tk h ht'
  have kw : kwI (tW b n T.2.2.2) = 3 := by rw [w1 rfl]; exact kwv.2.2.2.1
  have eT : rdT b n D T = ki2 b n D (fTk b n T) := by unfold rdT; rw [if_pos (by rw [k1]; rfl), if_neg (by omega), if_neg (by omega), if_neg (by omega), if_pos kw]
  have eS : rdS b n D T = kiS b n D (fTk b n T) := by unfold rdS; rw [if_pos (by rw [k1]; rfl), if_neg (by omega), if_neg (by omega), if_neg (by omega), if_pos kw]
  rw [eT, eS]
  revert s1
  generalize fTk b n T = U
  intro s1
  have e1 : ki1 D U = U := by unfold ki1; rw [if_pos hm]
  obtain ⟨q2, t2, s2, v2⟩ := S_nu (lo := 0) (hi := 99) s1 t1 (by omega) h1
  have s2' : S0 (ki2 b n D U) q2 := by unfold ki2; rw [e1]; exact s2
  refine ⟨q2, t2, s2', ?_⟩
  unfold kiS
  rw [if_pos s2'.1, e1, v2]
theorem ln_sto {c i p1 : Int} (hc : 0 ≤ c ∧ c ≤ D 1 45 - 1 ∧ c ≤ 9) (hf : fnd (D 2) (D 1 36) (mV v) = i) (hi : 0 ≤ i) (h5 : D 5 (4 * c + i) = 0) (h1 : 0 ≤ p1 ∧ p1 ≤ 999) : LNx b n p D [kT stoW, nT c, mT v, nT p1] (stX D (4 * c + i) p1) := by
  intro r T h ht'
  obtain ⟨q1, t1, s1, k1, w1, -⟩ := S_tk h ht'
  have kw : kwI (tW b n T.2.2.2) = 4 := by rw [w1 rfl]; exact kwv.2.2.2.2.1
  have eT : rdT b n D T = st4 b n D (fTk b n T) := by unfold rdT; rw [if_pos (by rw [k1]; rfl), if_neg (by omega), if_neg (by omega), if_neg (by omega), if_neg (by omega), if_pos kw]
  have eS : rdS b n D T = stS b n D (fTk b n T) := by unfold rdS; rw [if_pos (by rw [k1]; rfl), if_neg (by omega), if_neg (by omega), if_neg (by omega), if_neg (by omega), if_pos kw]
  rw [eT, eS]
  revert s1
  generalize fTk b n T = U
  intro s1
  obtain ⟨q2, t2, s2, v2⟩ := S_nu (lo := 0) (hi := D 1 45 - 1) s1 t1 (by omega) (by omega)
  have s2 : S0 (st1 b n D U) q2 := s2
  obtain ⟨q3, t3, s3, v3⟩ := S_ml (D := D) s2 t2 (by rw [hf]; exact hi)
  have eI : stI b n D U = 4 * c + i := by unfold stI; rw [v2, v3, hf]
  have e3 : st3 b n D U = st2 b n D U := by unfold st3; rw [eI, if_pos h5]
  have s3 : S0 (st3 b n D U) q3 := by rw [e3]; exact s3
  obtain ⟨q4, t4, s4, v4⟩ := S_nu (lo := 0) (hi := 999) s3 t3 h1 h1
  have s4 : S0 (st4 b n D U) q4 := s4
  refine ⟨q4, t4, s4, ?_⟩
  unfold stS
  rw [if_pos s4.1, eI, v4]
theorem ln_tro {k0 c0 v0 l0 w0 : Int} (hy : D 1 61 < 5) (h1 : 0 ≤ k0 ∧ k0 ≤ D 1 45 - 1 ∧ k0 ≤ 9) (h2 : 1 ≤ c0 ∧ c0 ≤ 99) (h3 : 1 ≤ v0 ∧ v0 ≤ 9) (h4 : 1 ≤ l0 ∧ l0 ≤ 5) (h5 : 1 ≤ w0 ∧ w0 ≤ 5) : LNx b n p D [kT troW, nT k0, nT c0, nT v0, nT l0, nT w0] (tyX D k0 c0 v0 l0 w0) := by
  intro r T h ht'
  obtain ⟨q1, t1, s1, k1, w1, -⟩ := S_tk h ht'
  have kw : kwI (tW b n T.2.2.2) = 5 := by rw [w1 rfl]; exact kwv.2.2.2.2.2.1
  have eT : rdT b n D T = ty6 b n D (fTk b n T) := by unfold rdT; rw [if_pos (by rw [k1]; rfl), if_neg (by omega), if_neg (by omega), if_neg (by omega), if_neg (by omega), if_neg (by omega), if_pos kw]
  have eS : rdS b n D T = tyS b n D (fTk b n T) := by unfold rdS; rw [if_pos (by rw [k1]; rfl), if_neg (by omega), if_neg (by omega), if_neg (by omega), if_neg (by omega), if_neg (by omega), if_pos kw]
  rw [eT, eS]
  revert s1
  generalize fTk b n T = U
  intro s1
  have e1 : ty1 D U = U := by unfold ty1; rw [if_pos hy]
  obtain ⟨q2, t2, s2, v2⟩ := S_nu (lo := 0) (hi := D 1 45 - 1) s1 t1 (by omega) (by omega)
  rw [← e1] at s2 v2
  have s2 : S0 (ty2 b n D U) q2 := s2
  obtain ⟨q3, t3, s3, v3⟩ := S_nu (lo := 1) (hi := 99) s2 t2 (by omega) h2
  have s3 : S0 (ty3 b n D U) q3 := s3
  obtain ⟨q4, t4, s4, v4⟩ := S_nu (lo := 1) (hi := 9) s3 t3 (by omega) h3
  have s4 : S0 (ty4 b n D U) q4 := s4
  obtain ⟨q5, t5, s5, v5⟩ := S_nu (lo := 1) (hi := 5) s4 t4 (by omega) h4
  have s5 : S0 (ty5 b n D U) q5 := s5
  obtain ⟨q6, t6, s6, v6⟩ := S_nu (lo := 1) (hi := 5) s5 t5 (by omega) h5
  have s6 : S0 (ty6 b n D U) q6 := s6
  refine ⟨q6, t6, s6, ?_⟩
  unfold tyS
  rw [if_pos s6.1, v2, v3, v4, v5, v6]
theorem ln_job {i t c m q0 : Int} (hj : D 1 87 < 20) (h1 : 0 ≤ i ∧ i ≤ D 1 61 - 1 ∧ i ≤ 9) (hc : cnt (D 1) i < 8) (h2 : 0 ≤ t ∧ t ≤ 1) (h4 : D 4 t ≠ 0) (h3 : 0 ≤ c ∧ c ≤ D 1 (4 + t) - 1 ∧ c ≤ 9) (hf : fnd (D 2) (D 1 36) (mV v) = m) (hm : 0 ≤ m) (h5 : 1 ≤ q0 ∧ q0 ≤ 99) : LNx b n p D [kT jobW, nT i, nT t, nT c, mT v, nT q0] (joX D i t c m q0) := by
  intro r T h ht'
  obtain ⟨q1, t1, s1, k1, w1, -⟩ := S_tk h ht'
  have kw : kwI (tW b n T.2.2.2) = 6 := by rw [w1 rfl]; exact kwv.2.2.2.2.2.2.1
  have eT : rdT b n D T = jo7 b n D (fTk b n T) := by unfold rdT; rw [if_pos (by rw [k1]; rfl), if_neg (by omega), if_neg (by omega), if_neg (by omega), if_neg (by omega), if_neg (by omega), if_neg (by omega), if_pos kw]
  have eS : rdS b n D T = joS b n D (fTk b n T) := by unfold rdS; rw [if_pos (by rw [k1]; rfl), if_neg (by omega), if_neg (by omega), if_neg (by omega), if_neg (by omega), if_neg (by omega), if_neg (by omega), if_pos kw]
  rw [eT, eS]
  revert s1
  generalize fTk b n T = U
  intro s1
  have e1 : jo1 D U = U := by unfold jo1; rw [if_pos hj]
  obtain ⟨q2, t2, s2, v2⟩ := S_nu (lo := 0) (hi := D 1 61 - 1) s1 t1 (by omega) (by omega)
  rw [← e1] at s2 v2
  have v2 : joI b n D U = i := v2
  have e3 : jo3 b n D U = jo2 b n D U := by unfold jo3; rw [v2, if_pos hc]
  have s2 : S0 (jo3 b n D U) q2 := by rw [e3]; exact s2
  obtain ⟨q3, t3, s3, v3⟩ := S_nu (lo := 0) (hi := 1) s2 t2 (by omega) h2
  have v3 : joT b n D U = t := v3
  have e4 : jo4 b n D U = fNu b n 0 1 (jo3 b n D U) := by unfold jo4 fUt; rw [v3, if_neg h4]
  rw [← e4] at s3
  obtain ⟨q4, t4, s4, v4⟩ := S_nu (lo := 0) (hi := D 1 (4 + t) - 1) s3 t3 (by omega) (by omega)
  have e5 : jo5 b n D U = fNu b n 0 (D 1 (4 + t) - 1) (jo4 b n D U) := by unfold jo5; rw [v3]
  have v4 : joC b n D U = c := by unfold joC; rw [v3]; exact v4
  rw [← e5] at s4
  obtain ⟨q5, t5, s5, v5⟩ := S_ml (D := D) s4 t4 (by rw [hf]; exact hm)
  have s5 : S0 (jo6 b n D U) q5 := s5
  have v5 : joM b n D U = m := by unfold joM; rw [v5, hf]
  obtain ⟨q6, t6, s6, v6⟩ := S_nu (lo := 1) (hi := 99) s5 t5 (by omega) h5
  have s6 : S0 (jo7 b n D U) q6 := s6
  refine ⟨q6, t6, s6, ?_⟩
  unfold joS
  rw [if_pos s6.1, v2, v3, v4, v5, v6]
end LINE
