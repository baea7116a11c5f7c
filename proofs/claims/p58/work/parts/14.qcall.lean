/-! ===== arrays ===== -/
section QARR
variable {M : MI} {G : Gx} {Fi : Gx → Int → Rf → Mem → Prop} {kc : Nat × Nat} {pc : Nat} {lv : List (Option AV)} {st : List AV} {ρ : Rf} {μ : Mem}
theorem ld_i32 {a n kd : Nat} {i : Int} (hM : MOk G ρ μ) (ha : G.2[a]? = some (kd, n)) (hk : tyOf (kd, n) i.toNat = 0) (hi : 0 ≤ i) : i32 (μ a i) := by
  have h := (hM.2.1 a _ ha i.toNat).1 hk
  rwa [show ((i.toNat : Nat) : Int) = i by omega] at h
theorem qX_iald {a n : Nat} {i : Int} (hd : decode M.2.1 pc = .ok (.iaload, 1)) (ha : G.2[a]? = some (10, n)) (hi : 0 ≤ i ∧ i < (n : Int)) (h : qXF M Fi G kc (pc + 1) lv (qI (μ a i) :: st) ρ μ) : qXF M Fi G kc pc lv (qI i :: qP a :: st) ρ μ := by
  intro p l e s m args below meth c D cA ad A n0 φ0 Q C φ H locs ls hφ hn hM hl hkl hks hP hD hS
  have hi1 : i32 i := okS_h hks
  have h2 := h p l e s m args below meth c D cA ad A n0 φ0 Q C φ H locs ls hφ hn hM hl hkl (okS_c (ld_i32 hM ha rfl hi.1) (okS_t (okS_t hks))) hP hD hS
  show W _ _ _ _ _ _ _ _ _ _ _ _ _ _ _ (F0 m pc ls (.int (Int32.ofInt i) :: vlf φ (qP a) :: st.map (vlf φ)))
  rw [vlf_P hM ha]
  refine va_iald C.1 C.2.1 C.2.2.2.2.2.2.1 hP a 0 (wsOf_get ha) rfl (q_in hi1 hi) hd ?_
  show W _ _ _ _ _ _ _ _ _ _ _ _ _ _ _ (F0 m (pc + 1) ls (.int (Int32.ofInt (μ a ((Int32.ofInt i).toNatClampNeg : Nat))) :: st.map (vlf φ)))
  rw [q_cl hi1 hi.1]
  exact h2
theorem qX_bald {a n : Nat} {i : Int} (hd : decode M.2.1 pc = .ok (.baload, 1)) (ha : G.2[a]? = some (12, n)) (hi : 0 ≤ i ∧ i < (n : Int)) (h : qXF M Fi G kc (pc + 1) lv (qI (μ a i) :: st) ρ μ) : qXF M Fi G kc pc lv (qI i :: qP a :: st) ρ μ := by
  intro p l e s m args below meth c D cA ad A n0 φ0 Q C φ H locs ls hφ hn hM hl hkl hks hP hD hS
  have hi1 : i32 i := okS_h hks
  have h2 := h p l e s m args below meth c D cA ad A n0 φ0 Q C φ H locs ls hφ hn hM hl hkl (okS_c (ld_i32 hM ha rfl hi.1) (okS_t (okS_t hks))) hP hD hS
  show W _ _ _ _ _ _ _ _ _ _ _ _ _ _ _ (F0 m pc ls (.int (Int32.ofInt i) :: vlf φ (qP a) :: st.map (vlf φ)))
  rw [vlf_P hM ha]
  refine va_bald C.1 C.2.1 C.2.2.2.2.2.2.1 hP a 2 (wsOf_get ha) rfl (q_in hi1 hi) hd ?_
  show W _ _ _ _ _ _ _ _ _ _ _ _ _ _ _ (F0 m (pc + 1) ls (.int (Int32.ofInt (μ a ((Int32.ofInt i).toNatClampNeg : Nat))) :: st.map (vlf φ)))
  rw [q_cl hi1 hi.1]
  exact h2
theorem qX_zald {a n : Nat} {i : Int} (hd : decode M.2.1 pc = .ok (.baload, 1)) (ha : G.2[a]? = some (13, n)) (hi : 0 ≤ i ∧ i < (n : Int)) (h : qXF M Fi G kc (pc + 1) lv (qI (μ a i) :: st) ρ μ) : qXF M Fi G kc pc lv (qI i :: qP a :: st) ρ μ := by
  intro p l e s m args below meth c D cA ad A n0 φ0 Q C φ H locs ls hφ hn hM hl hkl hks hP hD hS
  have hi1 : i32 i := okS_h hks
  have h2 := h p l e s m args below meth c D cA ad A n0 φ0 Q C φ H locs ls hφ hn hM hl hkl (okS_c (ld_i32 hM ha rfl hi.1) (okS_t (okS_t hks))) hP hD hS
  show W _ _ _ _ _ _ _ _ _ _ _ _ _ _ _ (F0 m pc ls (.int (Int32.ofInt i) :: vlf φ (qP a) :: st.map (vlf φ)))
  rw [vlf_P hM ha]
  refine va_zald C.1 C.2.1 C.2.2.2.2.2.2.1 hP a 3 (wsOf_get ha) rfl (q_in hi1 hi) hd ?_
  show W _ _ _ _ _ _ _ _ _ _ _ _ _ _ _ (F0 m (pc + 1) ls (.int (Int32.ofInt (μ a ((Int32.ofInt i).toNatClampNeg : Nat))) :: st.map (vlf φ)))
  rw [q_cl hi1 hi.1]
  exact h2
theorem qX_lald {a n : Nat} {i : Int} (hd : decode M.2.1 pc = .ok (.laload, 1)) (ha : G.2[a]? = some (11, n)) (hi : 0 ≤ i ∧ i < (n : Int)) (h : qXF M Fi G kc (pc + 1) lv (qJ (μ a i) :: st) ρ μ) : qXF M Fi G kc pc lv (qI i :: qP a :: st) ρ μ := by
  intro p l e s m args below meth c D cA ad A n0 φ0 Q C φ H locs ls hφ hn hM hl hkl hks hP hD hS
  have hi1 : i32 i := okS_h hks
  have hv : i64 (μ a i) := by
    have h := (hM.2.1 a _ ha i.toNat).2.1 rfl
    rwa [show ((i.toNat : Nat) : Int) = i by omega] at h
  have h2 := h p l e s m args below meth c D cA ad A n0 φ0 Q C φ H locs ls hφ hn hM hl hkl (okS_c hv (okS_t (okS_t hks))) hP hD hS
  show W _ _ _ _ _ _ _ _ _ _ _ _ _ _ _ (F0 m pc ls (.int (Int32.ofInt i) :: vlf φ (qP a) :: st.map (vlf φ)))
  rw [vlf_P hM ha]
  refine va_lald C.1 C.2.1 C.2.2.2.2.2.2.1 hP a 1 (wsOf_get ha) rfl (q_in hi1 hi) hd ?_
  show W _ _ _ _ _ _ _ _ _ _ _ _ _ _ _ (F0 m (pc + 1) ls (.long (Int64.ofInt (μ a ((Int32.ofInt i).toNatClampNeg : Nat))) :: st.map (vlf φ)))
  rw [q_cl hi1 hi.1]
  exact h2
theorem qX_aald {a n : Nat} {i : Int} (hd : decode M.2.1 pc = .ok (.aaload, 1)) (ha : G.2[a]? = some (14, n)) (hi : 0 ≤ i ∧ i < (n : Int)) (h : qXF M Fi G kc (pc + 1) lv (qP (ρ a i) :: st) ρ μ) : qXF M Fi G kc pc lv (qI i :: qP a :: st) ρ μ := by
  intro p l e s m args below meth c D cA ad A n0 φ0 Q C φ H locs ls hφ hn hM hl hkl hks hP hD hS
  have hi1 : i32 i := okS_h hks
  have hv : ρ a i < G.2.length ∨ ρ a i = nid := by
    have h := (hM.2.1 a _ ha i.toNat).2.2 rfl
    rwa [show ((i.toNat : Nat) : Int) = i by omega] at h
  have h2 := h p l e s m args below meth c D cA ad A n0 φ0 Q C φ H locs ls hφ hn hM hl hkl (okS_c (av_r hv) (okS_t (okS_t hks))) hP hD hS
  show W _ _ _ _ _ _ _ _ _ _ _ _ _ _ _ (F0 m pc ls (.int (Int32.ofInt i) :: vlf φ (qP a) :: st.map (vlf φ)))
  rw [vlf_P hM ha]
  refine va_aldq C.1 C.2.1 C.2.2.2.2.2.2.1 hP a 4 (wsOf_get ha) rfl (q_in hi1 hi) hd ?_
  show W _ _ _ _ _ _ _ _ _ _ _ _ _ _ _ (F0 m (pc + 1) ls (va_rf (rlf φ (ρ a ((Int32.ofInt i).toNatClampNeg : Nat))) :: st.map (vlf φ)))
  rw [q_cl hi1 hi.1]
  exact h2
theorem cst_int {φ : Nat → Nat} {cA : Nat → ClassId} {kd n a : Nat} {i z : Int} {x : Int32} {cl : ClassId} (hi1 : i32 i) (hi : 0 ≤ i) (hx : x = Int32.ofInt z) (hc : ∀ (r : Int → Nat) (f : Int → Int), cellE φ cA (kd, n) r f = .inl (cl, n, .inl fun j => Int32.ofInt (f j))) : (.inl (cl, n, .inl (upd (fun j : Nat => Int32.ofInt (μ a j)) (Int32.ofInt i).toNatClampNeg x)) : va_E) = cellE φ cA (kd, n) (ρ a) (up2 μ a i z a) := by
  rw [hc]
  congr 4
  funext j
  unfold upd
  have hcl := q_cl hi1 hi
  by_cases hj : (j : Int) = i
  · have e1 : j = (Int32.ofInt i).toNatClampNeg := by omega
    rw [if_pos e1, hj, up2_s, hx]
  · have e1 : ¬ j = (Int32.ofInt i).toNatClampNeg := by omega
    rw [if_neg e1, up2_k hj]
theorem MOk_ast {a n kd : Nat} {i z : Int} (hM : MOk G ρ μ) (ha : G.2[a]? = some (kd, n)) (hz : i32 z) (ht : ∀ j, tyOf (kd, n) j = 0) : MOk G ρ (up2 μ a i z) := MOk_putN hM ha (fun j _ => ⟨fun _ => hz, fun e => by rw [ht j] at e; cases e⟩)
theorem qX_iast {a n : Nat} {i z : Int} (hd : decode M.2.1 pc = .ok (.iastore, 1)) (ha : G.2[a]? = some (10, n)) (hi : 0 ≤ i ∧ i < (n : Int)) (h : qXF M Fi G kc (pc + 1) lv st ρ (up2 μ a i z)) : qXF M Fi G kc pc lv (qI z :: qI i :: qP a :: st) ρ μ := by
  intro p l e s m args below meth c D cA ad A n0 φ0 Q C φ H locs ls hφ hn hM hl hkl hks hP hD hS
  have hz1 : i32 z := okS_h hks
  have hi1 : i32 i := okS_h (okS_t hks)
  show W _ _ _ _ _ _ _ _ _ _ _ _ _ _ _ (F0 m pc ls (.int (Int32.ofInt z) :: .int (Int32.ofInt i) :: vlf φ (qP a) :: st.map (vlf φ)))
  rw [vlf_P hM ha]
  refine va_iast C.1 C.2.1 C.2.2.2.2.2.2.1 hP hD hS a 0 (wsOf_get ha) rfl (q_in hi1 hi) hd (fun H1 locs1 hP1 hD1 hS1 => ?_)
  rw [wsOf_set (ρ' := ρ) (μ' := up2 μ a i z) ha rfl (cst_int hi1 hi.1 rfl (fun _ _ => rfl)) (fun _ _ => rfl) (fun x hx => up2_o hx)] at hP1 hD1
  exact h p l e s m args below meth c D cA ad A n0 φ0 Q C φ H1 locs1 ls hφ hn (MOk_ast hM ha hz1 (fun _ => rfl)) hl hkl (okS_t (okS_t (okS_t hks))) hP1 hD1 hS1
theorem qX_bast {a n : Nat} {i z : Int} (hd : decode M.2.1 pc = .ok (.bastore, 1)) (ha : G.2[a]? = some (12, n)) (hi : 0 ≤ i ∧ i < (n : Int)) (h : qXF M Fi G kc (pc + 1) lv st ρ (up2 μ a i (i2b32 z))) : qXF M Fi G kc pc lv (qI z :: qI i :: qP a :: st) ρ μ := by
  intro p l e s m args below meth c D cA ad A n0 φ0 Q C φ H locs ls hφ hn hM hl hkl hks hP hD hS
  have hi1 : i32 i := okS_h (okS_t hks)
  show W _ _ _ _ _ _ _ _ _ _ _ _ _ _ _ (F0 m pc ls (.int (Int32.ofInt z) :: .int (Int32.ofInt i) :: vlf φ (qP a) :: st.map (vlf φ)))
  rw [vlf_P hM ha]
  refine va_bast C.1 C.2.1 C.2.2.2.2.2.2.1 hP hD hS a 2 (wsOf_get ha) rfl (q_in hi1 hi) hd (fun H1 locs1 hP1 hD1 hS1 => ?_)
  rw [wsOf_set (ρ' := ρ) (μ' := up2 μ a i (i2b32 z)) ha rfl (cst_int hi1 hi.1 (by rw [vp_nar_byte]; exact (oi32 _).symm) (fun _ _ => rfl)) (fun _ _ => rfl) (fun x hx => up2_o hx)] at hP1 hD1
  exact h p l e s m args below meth c D cA ad A n0 φ0 Q C φ H1 locs1 ls hφ hn (MOk_ast hM ha (i32_toInt _) (fun _ => rfl)) hl hkl (okS_t (okS_t (okS_t hks))) hP1 hD1 hS1
theorem qX_zast {a n : Nat} {i z : Int} (hd : decode M.2.1 pc = .ok (.bastore, 1)) (ha : G.2[a]? = some (13, n)) (hi : 0 ≤ i ∧ i < (n : Int)) (hz01 : z = 0 ∨ z = 1) (h : qXF M Fi G kc (pc + 1) lv st ρ (up2 μ a i z)) : qXF M Fi G kc pc lv (qI z :: qI i :: qP a :: st) ρ μ := by
  intro p l e s m args below meth c D cA ad A n0 φ0 Q C φ H locs ls hφ hn hM hl hkl hks hP hD hS
  have hz1 : i32 z := okS_h hks
  have hi1 : i32 i := okS_h (okS_t hks)
  show W _ _ _ _ _ _ _ _ _ _ _ _ _ _ _ (F0 m pc ls (.int (Int32.ofInt z) :: .int (Int32.ofInt i) :: vlf φ (qP a) :: st.map (vlf φ)))
  rw [vlf_P hM ha]
  refine va_zast C.1 C.2.1 C.2.2.2.2.2.2.1 hP hD hS a 3 (wsOf_get ha) rfl (q_in hi1 hi) hd (fun H1 locs1 hP1 hD1 hS1 => ?_)
  rw [wsOf_set (ρ' := ρ) (μ' := up2 μ a i z) ha rfl (cst_int hi1 hi.1 (by rcases hz01 with rfl | rfl <;> rfl) (fun _ _ => rfl)) (fun _ _ => rfl) (fun x hx => up2_o hx)] at hP1 hD1
  exact h p l e s m args below meth c D cA ad A n0 φ0 Q C φ H1 locs1 ls hφ hn (MOk_ast hM ha hz1 (fun _ => rfl)) hl hkl (okS_t (okS_t (okS_t hks))) hP1 hD1 hS1
theorem cst_long {φ : Nat → Nat} {cA : Nat → ClassId} {n a : Nat} {i z : Int} (hi1 : i32 i) (hi : 0 ≤ i) : (.inl (cA 1, n, .inr (.inl (vp_updL (fun j : Nat => Int64.ofInt (μ a j)) (Int32.ofInt i).toNatClampNeg (Int64.ofInt z)))) : va_E) = cellE φ cA (11, n) (ρ a) (up2 μ a i z a) := by
  show _ = (.inl (cA 1, n, .inr (.inl fun j => Int64.ofInt (up2 μ a i z a j))) : va_E)
  congr 5
  funext j
  unfold vp_updL
  have hcl := q_cl hi1 hi
  by_cases hj : (j : Int) = i
  · have e1 : j = (Int32.ofInt i).toNatClampNeg := by omega
    rw [if_pos e1, hj, up2_s]
  · have e1 : ¬ j = (Int32.ofInt i).toNatClampNeg := by omega
    rw [if_neg e1, up2_k hj]
theorem qX_last {a n : Nat} {i z : Int} (hd : decode M.2.1 pc = .ok (.lastore, 1)) (ha : G.2[a]? = some (11, n)) (hi : 0 ≤ i ∧ i < (n : Int)) (h : qXF M Fi G kc (pc + 1) lv st ρ (up2 μ a i z)) : qXF M Fi G kc pc lv (qJ z :: qI i :: qP a :: st) ρ μ := by
  intro p l e s m args below meth c D cA ad A n0 φ0 Q C φ H locs ls hφ hn hM hl hkl hks hP hD hS
  have hz1 : i64 z := okS_h hks
  have hi1 : i32 i := okS_h (okS_t hks)
  show W _ _ _ _ _ _ _ _ _ _ _ _ _ _ _ (F0 m pc ls (.long (Int64.ofInt z) :: .int (Int32.ofInt i) :: vlf φ (qP a) :: st.map (vlf φ)))
  rw [vlf_P hM ha]
  refine va_last C.1 C.2.1 C.2.2.2.2.2.2.1 hP hD hS a 1 (wsOf_get ha) rfl (q_in hi1 hi) hd (fun H1 locs1 hP1 hD1 hS1 => ?_)
  rw [wsOf_set (ρ' := ρ) (μ' := up2 μ a i z) ha rfl (cst_long hi1 hi.1) (fun _ _ => rfl) (fun x hx => up2_o hx)] at hP1 hD1
  exact h p l e s m args below meth c D cA ad A n0 φ0 Q C φ H1 locs1 ls hφ hn (MOk_putN hM ha (fun j _ => ⟨(fun e => by cases e), fun _ => hz1⟩)) hl hkl (okS_t (okS_t (okS_t hks))) hP1 hD1 hS1
theorem qX_aast {a n v nv : Nat} {i : Int} (hd : decode M.2.1 pc = .ok (.aastore, 1)) (ha : G.2[a]? = some (14, n)) (hi : 0 ≤ i ∧ i < (n : Int)) (hv : G.2[v]? = some (6, nv)) (h : qXF M Fi G kc (pc + 1) lv st (up2 ρ a i v) μ) : qXF M Fi G kc pc lv (qP v :: qI i :: qP a :: st) ρ μ := by
  intro p l e s m args below meth c D cA ad A n0 φ0 Q C φ H locs ls hφ hn hM hl hkl hks hP hD hS
  have hi1 : i32 i := okS_h (okS_t hks)
  have hvl := MOk_lt hM hv
  show W _ _ _ _ _ _ _ _ _ _ _ _ _ _ _ (F0 m pc ls (vlf φ (qP v) :: .int (Int32.ofInt i) :: vlf φ (qP a) :: st.map (vlf φ)))
  rw [vlf_P hM ha, vlf_P hM hv]
  have hev := wsOf_get (φ := φ) (cA := cA) (ρ := ρ) (μ := μ) hv
  rw [cellE_obj (by decide)] at hev
  refine va_astq (r := (RX6, TX6, 7)) C.1 C.2.1 C.2.2.2.2.2.2.1 hP hD hS a 4 v 6 (wsOf_get ha) rfl hev rfl (q_in hi1 hi) hd (fun H1 locs1 hP1 hD1 hS1 => ?_)
  have e1 : (.inl (cA 4, n, .inr (.inr (.inr (.inr (va_up (fun j : Nat => rlf φ (ρ a j)) (Int32.ofInt i).toNatClampNeg (some (φ v))))))) : va_E) = cellE φ cA (14, n) (up2 ρ a i v a) (μ a) := by
    show _ = (.inl (cA 4, n, .inr (.inr (.inr (.inr fun j => rlf φ (up2 ρ a i v a j))))) : va_E)
    congr 7
    funext j
    unfold va_up
    have hcl := q_cl hi1 hi.1
    by_cases hj : (j : Int) = i
    · have e1 : j = (Int32.ofInt i).toNatClampNeg := by omega
      rw [if_pos e1, hj, up2_s, rlf_lt hvl.1 hM.1]
    · have e1 : ¬ j = (Int32.ofInt i).toNatClampNeg := by omega
      rw [if_neg e1, up2_k hj]
  rw [wsOf_set (ρ' := up2 ρ a i v) (μ' := μ) ha rfl e1 (fun x hx => up2_o hx) (fun _ _ => rfl)] at hP1 hD1
  exact h p l e s m args below meth c D cA ad A n0 φ0 Q C φ H1 locs1 ls hφ hn (MOk_putR hM ha (Or.inl hvl.1) (fun _ j _ => rfl)) hl hkl (okS_t (okS_t (okS_t hks))) hP1 hD1 hS1
theorem qX_alen {a n : Nat} (hd : decode M.2.1 pc = .ok (.arraylength, 1)) (ha : G.2[a]? = some (10, n)) (hn31 : (n : Int) ≤ 2147483647) (h : qXF M Fi G kc (pc + 1) lv (qI n :: st) ρ μ) : qXF M Fi G kc pc lv (qP a :: st) ρ μ := by
  intro p l e s m args below meth c D cA ad A n0 φ0 Q C φ H locs ls hφ hn hM hl hkl hks hP hD hS
  have h2 := h p l e s m args below meth c D cA ad A n0 φ0 Q C φ H locs ls hφ hn hM hl hkl (okS_c (by show i32 n; unfold i32; omega) (okS_t hks)) hP hD hS
  show W _ _ _ _ _ _ _ _ _ _ _ _ _ _ _ (F0 m pc ls (vlf φ (qP a) :: st.map (vlf φ)))
  rw [vlf_P hM ha]
  exact va_alen C.1 C.2.1 C.2.2.2.2.2.2.1 hP a 0 (wsOf_get ha) rfl (v := Int32.ofInt n) (by rfl) hd h2
end QARR
