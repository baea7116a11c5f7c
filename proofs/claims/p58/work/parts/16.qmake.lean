/-! ===== making, the library's own members ===== -/
theorem mm_max : Cond.code Lib.Math.max.name Lib.Math.max.code 2 (some .int) ∈ Wd := kmem (i := 528) (by decide +kernel) (by decide +kernel)
theorem mm_min : Cond.code Lib.Math.min.name Lib.Math.min.code 2 (some .int) ∈ Wd := kmem (i := 498) (by decide +kernel) (by decide +kernel)
theorem mm_abs : Cond.code Lib.Math.abs.name Lib.Math.abs.code 1 (some .int) ∈ Wd := kmem (i := 505) (by decide +kernel) (by decide +kernel)
theorem mm_maxT : Cond.static Lib.Math.max.name ∈ Wd := kT_J9_max_7cf53
theorem mm_minT : Cond.static Lib.Math.min.name ∈ Wd := kT_J9_min_7cf53
theorem mm_absT : Cond.static Lib.Math.abs.name ∈ Wd := kT_J9_abs_0f7a4
theorem mm_obj : Cond.code Lib.objectInit ⟨#[0xb1]⟩ 1 none ∈ Wd := kmem (i := 81) (by decide +kernel) (by decide +kernel)
theorem mm_objI : Cond.instanceMethod Lib.objectInit ∈ Wd := kI_java_lang_Object__init_
def abs32 (a : Int) : Int := if 0 ≤ a then a else w32 (0 - a)
def cpyM (μ : Mem) (a0 a1 : Nat) (n : Int) : Mem := fun a b => if a = a1 ∧ 0 ≤ b ∧ b < n then μ a0 b else μ a b
theorem vlf_cat_len {φ : Nat → Nat} {st : List AV} {n : Nat} (h : st.length ≤ n) : ((st.map (vlf φ)).map fun v => v.category).sum ≤ 2 * n := Nat.le_trans vlf_sum (by omega)
section QMAKE
variable {M : MI} {G : Gx} {Fi : Gx → Int → Rf → Mem → Prop} {kc : Nat × Nat} {pc : Nat} {lv : List (Option AV)} {st : List AV} {ρ : Rf} {μ : Mem}
theorem qX_max {a b : Int} {ix : Nat} (hd : decode M.2.1 pc = .ok (.invokestatic ix, 3)) (hw : Cond.methodLink M.1.cls ix Lib.Math.max.name ∈ Wd) (hR : 1 ≤ M.2.2.2.2.frames ∧ 21 ≤ M.2.2.2.2.locals) (hst : st.length ≤ 4) (hcap : kc.1 ≤ M.2.2.2.2.cells ∧ kc.2 ≤ M.2.2.2.2.slots) (h : qXF M Fi G kc (pc + 3) lv (qI (max a b) :: st) ρ μ) : qXF M Fi G kc pc lv (qI b :: qI a :: st) ρ μ := by
  intro p l e s m args below meth c D cA ad A n0 φ0 Q C φ H locs ls hφ hn hM hl hkl hks hP hD hS
  have hb1 : i32 b := okS_h hks
  have ha1 : i32 a := okS_h (okS_t hks)
  have hts := C.2.2.2.2.1
  have hmx : i32 (max a b) := by unfold i32 at *; omega
  have h2 := h p l e s m args below meth c D cA ad A n0 φ0 Q C φ H locs ls hφ hn hM hl hkl (okS_c hmx (okS_t (okS_t hks))) hP hD hS
  have hcl : ((st.map (vlf φ)).map fun v => v.category).sum ≤ 8 := vlf_cat_len (n := 4) hst
  refine va_mmax C.1 C.2.1 (C.2.2.1.trans hl.1.symm) C.2.2.2.1 (hts _ hw) (hts _ mm_maxT) (hts _ kZ_J9) (hts _ mm_max) hR.1 (by have := hR.2; omega) hcap.1 hcap.2 hd ?_
  have e1 : (if Int32.ofInt a < Int32.ofInt b then Int32.ofInt b else Int32.ofInt a) = Int32.ofInt (max a b) := by
    by_cases hab : a < b
    · rw [if_pos ((q_lt ha1 hb1).mpr hab), show max a b = b by omega]
    · rw [if_neg (fun z => hab ((q_lt ha1 hb1).mp z)), show max a b = a by omega]
  rw [e1]
  exact h2
theorem qX_min {a b : Int} {ix : Nat} (hd : decode M.2.1 pc = .ok (.invokestatic ix, 3)) (hw : Cond.methodLink M.1.cls ix Lib.Math.min.name ∈ Wd) (hR : 1 ≤ M.2.2.2.2.frames ∧ 21 ≤ M.2.2.2.2.locals) (hst : st.length ≤ 4) (hcap : kc.1 ≤ M.2.2.2.2.cells ∧ kc.2 ≤ M.2.2.2.2.slots) (h : qXF M Fi G kc (pc + 3) lv (qI (min a b) :: st) ρ μ) : qXF M Fi G kc pc lv (qI b :: qI a :: st) ρ μ := by
  intro p l e s m args below meth c D cA ad A n0 φ0 Q C φ H locs ls hφ hn hM hl hkl hks hP hD hS
  have hb1 : i32 b := okS_h hks
  have ha1 : i32 a := okS_h (okS_t hks)
  have hts := C.2.2.2.2.1
  have hmx : i32 (min a b) := by unfold i32 at *; omega
  have h2 := h p l e s m args below meth c D cA ad A n0 φ0 Q C φ H locs ls hφ hn hM hl hkl (okS_c hmx (okS_t (okS_t hks))) hP hD hS
  have hcl : ((st.map (vlf φ)).map fun v => v.category).sum ≤ 8 := vlf_cat_len (n := 4) hst
  refine va_mmin C.1 C.2.1 (C.2.2.1.trans hl.1.symm) C.2.2.2.1 (hts _ hw) (hts _ mm_minT) (hts _ kZ_J9) (hts _ mm_min) hR.1 (by have := hR.2; omega) hcap.1 hcap.2 hd ?_
  have e1 : (if Int32.ofInt b < Int32.ofInt a then Int32.ofInt b else Int32.ofInt a) = Int32.ofInt (min a b) := by
    by_cases hab : b < a
    · rw [if_pos ((q_lt hb1 ha1).mpr hab), show min a b = b by omega]
    · rw [if_neg (fun z => hab ((q_lt hb1 ha1).mp z)), show min a b = a by omega]
  rw [e1]
  exact h2
theorem qX_abs {a : Int} {ix : Nat} (hd : decode M.2.1 pc = .ok (.invokestatic ix, 3)) (hw : Cond.methodLink M.1.cls ix Lib.Math.abs.name ∈ Wd) (hR : 1 ≤ M.2.2.2.2.frames ∧ 21 ≤ M.2.2.2.2.locals) (hst : st.length ≤ 4) (hcap : kc.1 ≤ M.2.2.2.2.cells ∧ kc.2 ≤ M.2.2.2.2.slots) (h : qXF M Fi G kc (pc + 3) lv (qI (abs32 a) :: st) ρ μ) : qXF M Fi G kc pc lv (qI a :: st) ρ μ := by
  intro p l e s m args below meth c D cA ad A n0 φ0 Q C φ H locs ls hφ hn hM hl hkl hks hP hD hS
  have ha1 : i32 a := okS_h hks
  have hts := C.2.2.2.2.1
  have hmx : i32 (abs32 a) := by unfold abs32; split; exact ha1; exact i32_w32 _
  have h2 := h p l e s m args below meth c D cA ad A n0 φ0 Q C φ H locs ls hφ hn hM hl hkl (okS_c hmx (okS_t hks)) hP hD hS
  have hcl : ((st.map (vlf φ)).map fun v => v.category).sum ≤ 8 := vlf_cat_len (n := 4) hst
  refine va_mabs C.1 C.2.1 (C.2.2.1.trans hl.1.symm) C.2.2.2.1 (hts _ hw) (hts _ mm_absT) (hts _ kZ_J9) (hts _ mm_abs) hR.1 (by have := hR.2; omega) hcap.1 hcap.2 hd ?_
  have e1 : (if Int32.ofInt 0 ≤ Int32.ofInt a then Int32.ofInt a else Int32.ofInt 0 - Int32.ofInt a) = Int32.ofInt (abs32 a) := by
    unfold abs32
    by_cases hab : 0 ≤ a
    · rw [if_pos ((q_le i32_0 ha1).mpr hab), if_pos hab]
    · rw [if_neg (fun z => hab ((q_le i32_0 ha1).mp z)), if_neg hab, ← q_sub]
  show W _ _ _ _ _ _ _ _ _ _ _ _ _ _ _ (F0 m (pc + 3) ls (.int (if Int32.ofInt 0 ≤ Int32.ofInt a then Int32.ofInt a else Int32.ofInt 0 - Int32.ofInt a) :: st.map (vlf φ)))
  rw [e1]
  exact h2
theorem cpyM_o {a0 a1 : Nat} {n : Int} {x : Nat} (h : x ≠ a1) : cpyM μ a0 a1 n x = μ x := by
  funext b
  simp only [cpyM]
  rw [if_neg (fun z => h z.1)]
/-- System.arraycopy of ints, from place 0 to place 0 -/
theorem qX_copy {a0 a1 n0' n1 ix : Nat} {n : Int} (hd : decode M.2.1 pc = .ok (.invokestatic ix, 3)) (hw : Cond.methodLink M.1.cls ix arraycopyName ∈ Wd) (ha0 : G.2[a0]? = some (10, n0')) (ha1 : G.2[a1]? = some (10, n1)) (hn0 : 0 ≤ n ∧ n ≤ (n0' : Int) ∧ n ≤ (n1 : Int)) (hR : 1 ≤ M.2.2.2.2.frames ∧ 26 ≤ M.2.2.2.2.locals) (hst : st.length ≤ 4) (h : qXF M Fi G kc (pc + 3) lv st ρ (cpyM μ a0 a1 n)) : qXF M Fi G kc pc lv (qI n :: qI 0 :: qP a1 :: qI 0 :: qP a0 :: st) ρ μ := by
  intro p l e s m args below meth c D cA ad A n0 φ0 Q C φ H locs ls hφ hn hM hl hkl hks hP hD hS
  have hts := C.2.2.2.2.1
  have hni : i32 n := okS_h hks
  have hcl : ((st.map (vlf φ)).map fun v => v.category).sum ≤ 8 := vlf_cat_len (n := 4) hst
  have hcn := q_cl hni hn0.1
  have hc0 : (Int32.ofInt 0).toNatClampNeg = 0 := rfl
  show W _ _ _ _ _ _ _ _ _ _ _ _ _ _ _ (F0 m pc ls (.int (Int32.ofInt n) :: .int (Int32.ofInt 0) :: vlf φ (qP a1) :: .int (Int32.ofInt 0) :: vlf φ (qP a0) :: st.map (vlf φ)))
  rw [vlf_P hM ha1, vlf_P hM ha0]
  have hloc : ((st.map (vlf φ)).map fun v => v.category).sum + (nativeFrameWords "java/lang/System" "arraycopy" 5 + 11) ≤ M.2.2.2.2.locals := by
    have h9 := hR.2
    have e : nativeFrameWords "java/lang/System" "arraycopy" 5 = 7 := by decide +kernel
    omega
  have hs0 : ¬ Int32.ofInt 0 < 0 := by decide
  refine va_copyi (ty := .int) (sp := Int32.ofInt 0) (dp := Int32.ofInt 0) C.1 C.2.1 (C.2.2.1.trans hl.1.symm) C.2.2.2.1 (hts _ hw) (hts _ kV_arraycopy) (hts _ kT_java_lang_System_arraycopy) (hts _ kZ_J10) C.2.2.2.2.2.2.1 hP hD hS a0 a1 0 0 (wsOf_get ha0) (wsOf_get ha1) rfl rfl rfl hs0 hs0 (fun z => by have := (q_lt hni i32_0).mp z; omega) (by rw [hc0]; omega) (by rw [hc0]; omega) (fun i hi => rfl) hR.1 hloc hd (fun H1 locs1 hP1 hD1 hS1 => ?_)
  have e1 : (.inl (cA 0, n1, .inl (va_cpy (fun j : Nat => Int32.ofInt (μ a0 j)) (fun j : Nat => Int32.ofInt (μ a1 j)) (Int32.ofInt 0).toNatClampNeg (Int32.ofInt 0).toNatClampNeg (Int32.ofInt n).toNatClampNeg)) : va_E) = cellE φ cA (10, n1) (ρ a1) (cpyM μ a0 a1 n a1) := by
    show _ = (.inl (cA 0, n1, .inl fun j => Int32.ofInt (cpyM μ a0 a1 n a1 j)) : va_E)
    congr 4
    funext j
    unfold va_cpy cpyM
    rw [hc0]
    by_cases hj : (j : Int) < n
    · rw [if_pos ⟨Nat.zero_le _, by omega⟩, if_pos ⟨rfl, by omega, hj⟩]
      simp
    · rw [if_neg (fun z => hj (by omega)), if_neg (fun z => hj z.2.2)]
  rw [wsOf_set (ρ' := ρ) (μ' := cpyM μ a0 a1 n) ha1 rfl e1 (fun _ _ => rfl) (fun x hx => cpyM_o hx)] at hP1 hD1
  have hM2 : MOk G ρ (cpyM μ a0 a1 n) := by
    refine ⟨hM.1, fun x shx hx j => ?_, hM.2.2.1, fun x hx b => ?_⟩
    · by_cases hxa : x = a1
      · subst hxa
        cases hx.symm.trans ha1
        have h0 := hM.2.1 x _ ha1 j
        have h1 := hM.2.1 a0 _ ha0 j
        refine ⟨fun _ => ?_, (fun e => by cases e), h0.2.2⟩
        unfold cpyM
        split
        · exact h1.1 rfl
        · exact h0.1 rfl
      · rw [cpyM_o hxa]
        exact hM.2.1 x shx hx j
    · have := (MOk_lt hM ha1).1
      rw [cpyM_o (by omega)]
      exact hM.2.2.2 x hx b
  exact h p l e s m args below meth c D cA ad A n0 φ0 Q C φ H1 locs1 ls hφ hn hM2 hl hkl (okS_t (okS_t (okS_t (okS_t (okS_t hks))))) hP1 hD1 hS1
theorem qX_objInit {o ix : Nat} {sh : Sh} (hd : decode M.2.1 pc = .ok (.invokespecial ix, 3)) (hw : Cond.methodLink M.1.cls ix Lib.objectInit ∈ Wd) (ho : G.2[o]? = some sh) (hR : 1 ≤ M.2.2.2.2.frames ∧ 20 ≤ M.2.2.2.2.locals) (hst : st.length ≤ 4) (h : qXF M Fi G kc (pc + 3) lv st ρ μ) : qXF M Fi G kc pc lv (qP o :: st) ρ μ := by
  intro p l e s m args below meth c D cA ad A n0 φ0 Q C φ H locs ls hφ hn hM hl hkl hks hP hD hS
  have hts := C.2.2.2.2.1
  have h2 := h p l e s m args below meth c D cA ad A n0 φ0 Q C φ H locs ls hφ hn hM hl hkl (okS_t hks) hP hD hS
  have hcl : ((st.map (vlf φ)).map fun v => v.category).sum ≤ 8 := vlf_cat_len (n := 4) hst
  show W _ _ _ _ _ _ _ _ _ _ _ _ _ _ _ (F0 m pc ls (vlf φ (qP o) :: st.map (vlf φ)))
  rw [vlf_P hM ho]
  exact W.objInit C.1 C.2.1 C.2.2.2.1 (hts _ hw) (hts _ mm_objI) (hts _ mm_obj) rfl (hl.1.trans C.2.2.1.symm) rfl hd hR.1 (by have := hR.2; show 2 * 0 + _ + 12 ≤ _; omega) h2
/-! ### new cells -/
theorem fldV_ext {φ φ' : Nat → Nat} {n t r : Nat} {z : Int} (h : t = 2 → r < n ∨ r = nid) (hφ : ∀ i, i < n → φ' i = φ i) : fldV φ' t r z = fldV φ t r z := by
  match t, h with
  | 0, _ => rfl
  | 1, _ => rfl
  | 2, h => exact congrArg va_rf (rlf_ext (h rfl) hφ)
  | t + 3, _ => rfl
theorem tyOf_ne {c N j : Nat} (h0 : ¬ c = 10) (h1 : ¬ c = 11) (h2 : ¬ c = 12) (h3 : ¬ c = 13) (h4 : ¬ c = 14) : tyOf (c, N) j = (fks c).getD j 0 := by
  unfold tyOf
  split <;> first | rfl | (rename_i h; simp only at h; contradiction)
theorem cellE_ext {φ φ' : Nat → Nat} {cA : Nat → ClassId} {sh : Sh} {r : Int → Nat} {f : Int → Int} {n : Nat} (hok : slOk n sh r f) (hφ : ∀ i, i < n → φ' i = φ i) : cellE φ' cA sh r f = cellE φ cA sh r f := by
  obtain ⟨c, N⟩ := sh
  unfold cellE
  split <;> rename_i heq
  · rfl
  · rfl
  · rfl
  · rfl
  · simp only at heq
    subst heq
    congr 7
    funext j
    exact rlf_ext ((hok j).2.2 rfl) hφ
  · rename_i x h2 h3 h4 h5
    simp only at h2 h3 h4 h5 heq
    congr 2
    apply List.map_congr_left
    intro j _
    have hj := (hok j).2.2
    rw [tyOf_ne h2 h3 h4 h5 heq] at hj
    exact fldV_ext hj hφ
def phN (φ : Nat → Nat) (n q : Nat) : Nat → Nat := fun i => if i = n then q else φ i
theorem phN_lt {φ : Nat → Nat} {n q i : Nat} (h : i < n) : phN φ n q i = φ i := by
  unfold phN
  rw [if_neg (by omega)]
theorem phN_ne {φ : Nat → Nat} {n q i : Nat} (h : i ≠ n) : phN φ n q i = φ i := by
  unfold phN
  rw [if_neg h]
theorem phN_n {φ : Nat → Nat} {n q : Nat} : phN φ n q n = q := by
  unfold phN
  rw [if_pos rfl]
theorem wsOf_push {φ : Nat → Nat} {cA : Nat → ClassId} {sh : Sh} {q : Nat} {e : va_E} (hM : MOk G ρ μ) (he : e = cellE (phN φ G.2.length q) cA sh (ρ G.2.length) (μ G.2.length)) : wsOf φ cA G.2 ρ μ ++ [(q, e)] = wsOf (phN φ G.2.length q) cA (G.2 ++ [sh]) ρ μ := by
  apply List.ext_getElem?
  intro k
  by_cases hk : k < G.2.length
  · have h1 : G.2[k]? = some G.2[k] := List.getElem?_eq_getElem hk
    have h2 : (G.2 ++ [sh])[k]? = some G.2[k] := by rw [List.getElem?_append_left hk]; exact h1
    rw [List.getElem?_append_left (by rw [wsOf_len]; exact hk), wsOf_get h1, wsOf_get h2, phN_lt hk, cellE_ext (hM.2.1 k _ h1) (fun i hi => phN_lt hi)]
  · by_cases hk2 : k = G.2.length
    · subst hk2
      have h2 : (G.2 ++ [sh])[G.2.length]? = some sh := by rw [List.getElem?_append_right (Nat.le_refl _)]; simp
      rw [wsOf_get h2, List.getElem?_append_right (by rw [wsOf_len]; exact Nat.le_refl _), wsOf_len, Nat.sub_self, phN_n, he]
      rfl
    · rw [List.getElem?_eq_none (by rw [List.length_append, wsOf_len]; simp; omega), List.getElem?_eq_none (by rw [wsOf_len]; simp; omega)]
theorem MOk_push {sh : Sh} (hM : MOk G ρ μ) (hz : G.1 = false) (hlen : G.2.length + 1 < nid) : MOk (G.1, G.2 ++ [sh]) ρ μ := by
  have hl : (G.2 ++ [sh]).length = G.2.length + 1 := by simp
  refine ⟨by show (G.2 ++ [sh]).length < nid; omega, fun o sh' ho k => ?_, (fun e => by rw [show (G.1, G.2 ++ [sh]).1 = G.1 from rfl, hz] at e; cases e), fun o ho b => hM.2.2.2 o (by have h9 : (G.2 ++ [sh]).length ≤ o := ho; omega) b⟩
  show _ ∧ _ ∧ (_ → _ < (G.2 ++ [sh]).length ∨ _)
  rw [hl]
  by_cases hk : o < G.2.length
  · have h1 : G.2[o]? = some sh' := by rw [← ho]; exact (List.getElem?_append_left hk).symm
    have h2 := hM.2.1 o sh' h1 k
    exact ⟨h2.1, h2.2.1, fun e => by have := h2.2.2 e; omega⟩
  · obtain ⟨h1, h2⟩ := hM.2.2.2 o (by omega) k
    rw [h1, h2]
    exact ⟨fun _ => i32_0, fun _ => by unfold i64; omega, fun _ => Or.inr rfl⟩
theorem MOk_push2 {sh : Sh} (hM : MOk G ρ μ) (hz : G.1 = false ∨ ∀ k, sto sh.1 k = none) (hlen : G.2.length + 1 < nid) : MOk (G.1, G.2 ++ [sh]) ρ μ := by
  rcases hz with hz | hz
  · exact MOk_push hM hz hlen
  have hl : (G.2 ++ [sh]).length = G.2.length + 1 := by simp
  refine ⟨by show (G.2 ++ [sh]).length < nid; omega, fun o sh' ho k => ?_, fun e o sh' ho k off hk => ?_, fun o ho b => hM.2.2.2 o (by have h9 : (G.2 ++ [sh]).length ≤ o := ho; omega) b⟩
  · show _ ∧ _ ∧ (_ → _ < (G.2 ++ [sh]).length ∨ _)
    rw [hl]
    by_cases hk : o < G.2.length
    · have h1 : G.2[o]? = some sh' := by rw [← ho]; exact (List.getElem?_append_left hk).symm
      have h2 := hM.2.1 o sh' h1 k
      exact ⟨h2.1, h2.2.1, fun e => by have := h2.2.2 e; omega⟩
    · obtain ⟨h1, h2⟩ := hM.2.2.2 o (by omega) k
      rw [h1, h2]
      exact ⟨fun _ => i32_0, fun _ => by unfold i64; omega, fun _ => Or.inr rfl⟩
  · by_cases hk2 : o < G.2.length
    · have h1 : G.2[o]? = some sh' := by rw [← ho]; exact (List.getElem?_append_left hk2).symm
      exact hM.2.2.1 e o sh' h1 k off hk
    · have ho : (G.2 ++ [sh])[o]? = some sh' := ho
      rw [List.getElem?_append_right (by omega)] at ho
      have e1 : sh' = sh := List.mem_singleton.mp (List.mem_of_getElem? ho)
      rw [e1, hz k] at hk
      cases hk
theorem new_ok : ∀ (ci : Nat) (q : vw_C), vwCl[ci]? = some q → ∃ ty : Nat → FieldType, (∀ k, k < q.2.2 → parseFieldDescriptor (q.2.1 k).2.2.1 = some (ty k)) ∧ (∀ j, j < q.2.2 → defaultValue (ty j) = fldV (fun x => x) ((fks ci).getD j 0) nid 0) ∧ (fks ci).length = q.2.2 := by
  intro ci q h
  match ci, h with
  | 0, h => cases h; exact ⟨tyX0, tyX0_ok, by decide +kernel, rfl⟩
  | 1, h => cases h; exact ⟨tyX1, tyX1_ok, by decide +kernel, rfl⟩
  | 2, h => cases h; exact ⟨tyX2, tyX2_ok, by decide +kernel, rfl⟩
  | 3, h => cases h; exact ⟨tyX3, tyX3_ok, by decide +kernel, rfl⟩
  | 4, h => cases h; exact ⟨tyX4, tyX4_ok, by decide +kernel, rfl⟩
  | 5, h => cases h; exact ⟨tyX5, tyX5_ok, by decide +kernel, rfl⟩
  | 6, h => cases h; exact ⟨tyX6, tyX6_ok, by decide +kernel, rfl⟩
  | 7, h => cases h; exact ⟨tyX7, tyX7_ok, by decide +kernel, rfl⟩
  | k + 8, h => simp [vwCl] at h
theorem qX_new (ci : Nat) {ix : Nat} {q : vw_C} (hd : decode M.2.1 pc = .ok (.new ix, 3)) (hc : vwCl[ci]? = some q) (hw : Cond.classLink M.1.cls ix q.1 ∈ Wd) (hw2 : Cond.instantiable q.1 q.2.2 ∈ Wd) (hw3 : Cond.initialized q.1 ∈ Wd) (hz : G.1 = false) (hlen : G.2.length + 1 < nid) (hcap : kc.1 + 1 ≤ M.2.2.2.2.cells ∧ kc.2 + q.2.2 ≤ M.2.2.2.2.slots) (h : qXF M Fi (G.1, G.2 ++ [(ci, 0)]) (kc.1 + 1, kc.2 + q.2.2) (pc + 3) lv (qP G.2.length :: st) ρ μ) : qXF M Fi G kc pc lv st ρ μ := by
  intro p l e s m args below meth c D cA ad A n0 φ0 Q C φ H locs ls hφ hn hM hl hkl hks hP hD hS
  have hts := C.2.2.2.2.1
  obtain ⟨ty, hty, hdf, hfl⟩ := new_ok ci q hc
  have hmono : G.2.length ≤ (G.2 ++ [((ci, 0) : Sh)]).length := by simp
  refine va_new (C := q.1) (T := q.2.1) (N := q.2.2) (ci := ci) (fs := objF φ ci (ρ G.2.length) (μ G.2.length)) C.1 C.2.1 hts (lay_in ci q hc) ty hty C.2.2.2.1 (hts _ hw) (hts _ hw2) (hts _ hw3) C.2.2.2.2.2.2.1 hP hD hS C.2.2.2.2.2.2.2.1 hc (fun j hj => ?_) hcap.1 hcap.2 hd (fun a H1 hP1 hD1 hS1 => ?_)
  · have hjl : j < (fks ci).length := by omega
    have ht : (fks ci)[j]? = some ((fks ci).getD j 0) := by rw [List.getD_eq_getElem?_getD, List.getElem?_eq_getElem hjl]; rfl
    have h1 := objF_get (φ := φ) (r := ρ G.2.length) (f := μ G.2.length) ht
    rw [hdf j hj]
    have h3 : vp_V (objF φ ci (ρ G.2.length) (μ G.2.length)) j = fldV φ ((fks ci).getD j 0) (ρ G.2.length j) (μ G.2.length j) := by
      unfold vp_V
      rw [List.getD_eq_getElem?_getD, h1]
      rfl
    rw [h3, (hM.2.2.2 _ (Nat.le_refl _) (j : Int)).1, (hM.2.2.2 _ (Nat.le_refl _) (j : Int)).2]
    exact fldV_ext (n := 0) (fun _ => Or.inr rfl) (fun i hi => by omega)
  · have e0 : (.inr (ci, objF φ ci (ρ G.2.length) (μ G.2.length)) : va_E) = cellE (phN φ G.2.length a) cA (ci, 0) (ρ G.2.length) (μ G.2.length) := by
      rw [cellE_ext (n := G.2.length) (fun k => ?_) (fun i hi => phN_lt hi), cellE_obj (vwCl_lt hc)]
      obtain ⟨h1, h2⟩ := hM.2.2.2 G.2.length (Nat.le_refl _) (k : Int)
      rw [h1, h2]
      exact ⟨fun _ => i32_0, fun _ => by unfold i64; omega, fun _ => Or.inr rfl⟩
    rw [wsOf_push (sh := (ci, 0)) hM e0] at hP1 hD1
    have hnl : G.2.length ≠ nid := by omega
    have h2 := h p l e s m args below meth c D cA ad A n0 φ0 Q C (phN φ G.2.length a) H1 locs ls (fun i hi => (phN_ne (by have := hM.1; omega)).trans (hφ i hi)) (Nat.le_trans hn hmono) (MOk_push hM hz hlen) (qlv_ext hl hkl (fun i hi => phN_ne (by have := hM.1; omega))) (fun v hv => avOk_mono (hkl v hv) hmono) (okS_c (Or.inl (by show _ < (G.2 ++ [((ci, 0) : Sh)]).length; simp)) (fun v hv => avOk_mono (hks v hv) hmono)) hP1 hD1 hS1
    have e1 : (qP G.2.length :: st).map (vlf (phN φ G.2.length a)) = .ref a :: st.map (vlf φ) := by
      rw [List.map_cons, st_ext hks (fun i hi => phN_ne (by have := hM.1; omega))]
      congr 1
      show va_rf (rlf _ _) = _
      unfold rlf
      rw [if_neg hnl, phN_n]
      rfl
    rw [e1] at h2
    exact h2
theorem raC {cA cA' : ClassId} {ty : FieldType} {s : State} (h1 : va_RA s cA ty) (h2 : va_RA s cA' ty) : cA' = cA := by
  cases ty with
  | object C =>
    obtain ⟨k1, c1, -, -, -, h1⟩ := h1
    obtain ⟨k2, c2, -, -, -, h2⟩ := h2
    rw [h1] at h2
    exact (Option.some.inj h2).symm
  | _ => exact Option.some.inj (h2.symm.trans h1)
/-- a row of numbers is made; i: its place in tysOf -/
theorem qX_newarr (kd i : Nat) {N : Nat} {at' : ArrayType} {ty : FieldType} {z : Int} {a0 : vp_A} (hd : decode M.2.1 pc = .ok (.newarray at', 2)) (hty : newarray.typeOf at' = ty) (hw : Cond.arrayClass ty ∈ Wd) (ha : ∀ cA : ClassId, vp_cell cA a0 = arrV cA N (fun _ => defaultValue ty)) (hi : ∀ cA : Nat → ClassId, (tysOf cA)[i]? = some (cA i, ty)) (hce : ∀ (φ : Nat → Nat) (cA : Nat → ClassId) (r : Int → Nat) (f : Int → Int), (∀ k : Nat, r k = nid ∧ f k = 0) → (.inl (cA i, a0) : va_E) = cellE φ cA (kd, N) r f) (hzN : z = (N : Int)) (hbytes : N * componentBytes ty ≤ 536870912) (hz : G.1 = false ∨ ∀ k, sto kd k = none) (hlen : G.2.length + 1 < nid) (hcap : kc.1 + 1 ≤ M.2.2.2.2.cells ∧ kc.2 + N ≤ M.2.2.2.2.slots) (h : qXF M Fi (G.1, G.2 ++ [(kd, N)]) (kc.1 + 1, kc.2 + N) (pc + 2) lv (qP G.2.length :: st) ρ μ) : qXF M Fi G kc pc lv (qI z :: st) ρ μ := by
  intro p l e s m args below meth c D cA ad A n0 φ0 Q C φ H locs ls hφ hn hM hl hkl hks hP hD hS
  have hts := C.2.2.2.2.1
  have hz1 : i32 z := okS_h hks
  have hmono : G.2.length ≤ (G.2 ++ [((kd, N) : Sh)]).length := by simp
  have hcl := q_cl hz1 (by omega)
  refine va_newa (ty := ty) (N' := N) (a0 := a0) C.1 C.2.1 (by rw [hty]; exact hts _ hw) hty C.2.2.2.2.2.2.1 hP hD hS C.2.2.2.2.2.2.2.1 ha (fun w => by have := (q_lt hz1 i32_0).mp w; omega) (by omega) hbytes hcap.1 hcap.2 hd (fun a cN H1 hK1 hP1 hD1 hS1 => ?_)
  have hcA : cN = cA i := by
    have h1 := (C.2.2.2.2.2.2.1.2 i _ (hi cA)).2
    have h2 := (hK1.2 (tysOf cA).length (cN, ty) (by rw [List.getElem?_append_right (Nat.le_refl _), Nat.sub_self]; rfl)).2
    exact raC h1 h2
  rw [hcA] at hP1 hD1
  have e0 := hce (phN φ G.2.length a) cA (ρ G.2.length) (μ G.2.length) (fun k => hM.2.2.2 _ (Nat.le_refl _) _)
  rw [wsOf_push (sh := (kd, N)) hM e0] at hP1 hD1
  have hnl : G.2.length ≠ nid := by omega
  have h2 := h p l e s m args below meth c D cA ad A n0 φ0 Q C (phN φ G.2.length a) H1 locs ls (fun i hi => (phN_ne (by have := hM.1; omega)).trans (hφ i hi)) (Nat.le_trans hn hmono) (MOk_push2 hM hz hlen) (qlv_ext hl hkl (fun i hi => phN_ne (by have := hM.1; omega))) (fun v hv => avOk_mono (hkl v hv) hmono) (okS_c (Or.inl (by show _ < (G.2 ++ [((kd, N) : Sh)]).length; simp)) (fun v hv => avOk_mono (okS_t hks v hv) hmono)) hP1 hD1 hS1
  have e1 : (qP G.2.length :: st).map (vlf (phN φ G.2.length a)) = .ref a :: st.map (vlf φ) := by
    rw [List.map_cons, st_ext (okS_t hks) (fun i hi => phN_ne (by have := hM.1; omega))]
    congr 1
    show va_rf (rlf _ _) = _
    unfold rlf
    rw [if_neg hnl, phN_n]
    rfl
  rw [e1] at h2
  exact h2
theorem qX_newI (N : Nat) {z : Int} (hd : decode M.2.1 pc = .ok (.newarray .int, 2)) (hzN : z = (N : Int)) (hN : N ≤ 100000) (hz : G.1 = false) (hlen : G.2.length + 1 < nid) (hcap : kc.1 + 1 ≤ M.2.2.2.2.cells ∧ kc.2 + N ≤ M.2.2.2.2.slots) (h : qXF M Fi (G.1, G.2 ++ [(10, N)]) (kc.1 + 1, kc.2 + N) (pc + 2) lv (qP G.2.length :: st) ρ μ) : qXF M Fi G kc pc lv (qI z :: st) ρ μ :=
  qX_newarr 10 0 (ty := .int) (a0 := (N, .inl fun _ => 0)) hd rfl kA_int (fun _ => rfl) (fun _ => rfl) (fun φ cA r f hrf => by
    show _ = (.inl (cA 0, N, .inl fun j => Int32.ofInt (f j)) : va_E)
    congr 4; funext j; rw [(hrf j).2]; rfl) hzN (by show N * 4 ≤ _; omega) (Or.inl hz) hlen hcap h
theorem qX_newJ (N : Nat) {z : Int} (hd : decode M.2.1 pc = .ok (.newarray .long, 2)) (hzN : z = (N : Int)) (hN : N ≤ 100000) (hz : G.1 = false) (hlen : G.2.length + 1 < nid) (hcap : kc.1 + 1 ≤ M.2.2.2.2.cells ∧ kc.2 + N ≤ M.2.2.2.2.slots) (h : qXF M Fi (G.1, G.2 ++ [(11, N)]) (kc.1 + 1, kc.2 + N) (pc + 2) lv (qP G.2.length :: st) ρ μ) : qXF M Fi G kc pc lv (qI z :: st) ρ μ :=
  qX_newarr 11 1 (ty := .long) (a0 := (N, .inr (.inl fun _ => 0))) hd rfl kA_long (fun _ => rfl) (fun _ => rfl) (fun φ cA r f hrf => by
    show _ = (.inl (cA 1, N, .inr (.inl fun j => Int64.ofInt (f j))) : va_E)
    congr 5; funext j; rw [(hrf j).2]; rfl) hzN (by show N * 8 ≤ _; omega) (Or.inl hz) hlen hcap h
theorem qX_newB (N : Nat) {z : Int} (hd : decode M.2.1 pc = .ok (.newarray .byte, 2)) (hzN : z = (N : Int)) (hN : N ≤ 100000) (hz : G.1 = false) (hlen : G.2.length + 1 < nid) (hcap : kc.1 + 1 ≤ M.2.2.2.2.cells ∧ kc.2 + N ≤ M.2.2.2.2.slots) (h : qXF M Fi (G.1, G.2 ++ [(12, N)]) (kc.1 + 1, kc.2 + N) (pc + 2) lv (qP G.2.length :: st) ρ μ) : qXF M Fi G kc pc lv (qI z :: st) ρ μ :=
  qX_newarr 12 2 (ty := .byte) (a0 := (N, .inl fun _ => 0)) hd rfl kA_byte (fun _ => rfl) (fun _ => rfl) (fun φ cA r f hrf => by
    show _ = (.inl (cA 2, N, .inl fun j => Int32.ofInt (f j)) : va_E)
    congr 4; funext j; rw [(hrf j).2]; rfl) hzN (by show N * 1 ≤ _; omega) (Or.inl hz) hlen hcap h
theorem qX_newZ (N : Nat) {z : Int} (hd : decode M.2.1 pc = .ok (.newarray .boolean, 2)) (hzN : z = (N : Int)) (hN : N ≤ 100000) (hz : G.1 = false) (hlen : G.2.length + 1 < nid) (hcap : kc.1 + 1 ≤ M.2.2.2.2.cells ∧ kc.2 + N ≤ M.2.2.2.2.slots) (h : qXF M Fi (G.1, G.2 ++ [(13, N)]) (kc.1 + 1, kc.2 + N) (pc + 2) lv (qP G.2.length :: st) ρ μ) : qXF M Fi G kc pc lv (qI z :: st) ρ μ :=
  qX_newarr 13 3 (ty := .boolean) (a0 := (N, .inl fun _ => 0)) hd rfl kA_boolean (fun _ => rfl) (fun _ => rfl) (fun φ cA r f hrf => by
    show _ = (.inl (cA 3, N, .inl fun j => Int32.ofInt (f j)) : va_E)
    congr 4; funext j; rw [(hrf j).2]; rfl) hzN (by show N * 1 ≤ _; omega) (Or.inl hz) hlen hcap h
theorem qX_newQ (N : Nat) {z : Int} {ix : Nat} (hd : decode M.2.1 pc = .ok (.anewarray ix, 3)) (hw : Cond.classLink M.1.cls ix RX6 ∈ Wd) (hzN : z = (N : Int)) (hN : N ≤ 100000) (hz : G.1 = false) (hlen : G.2.length + 1 < nid) (hcap : kc.1 + 1 ≤ M.2.2.2.2.cells ∧ kc.2 + N ≤ M.2.2.2.2.slots) (h : qXF M Fi (G.1, G.2 ++ [(14, N)]) (kc.1 + 1, kc.2 + N) (pc + 3) lv (qP G.2.length :: st) ρ μ) : qXF M Fi G kc pc lv (qI z :: st) ρ μ := by
  intro p l e s m args below meth c D cA ad A n0 φ0 Q C φ H locs ls hφ hn hM hl hkl hks hP hD hS
  have hts := C.2.2.2.2.1
  have hz1 : i32 z := okS_h hks
  have hmono : G.2.length ≤ (G.2 ++ [((14, N) : Sh)]).length := by simp
  have hcl := q_cl hz1 (by omega)
  refine va_newq (C := RX6) (N' := N) C.1 C.2.1 C.2.2.2.1 (hts _ hw) C.2.2.2.2.2.1.1.2.1 C.2.2.2.2.2.2.1 hP hD hS C.2.2.2.2.2.2.2.1 (fun w => by have := (q_lt hz1 i32_0).mp w; omega) (by omega) (by omega) hcap.1 hcap.2 hd (fun a cN H1 hK1 hP1 hD1 hS1 => ?_)
  have hcA : cN = cA 4 := by
    have h1 := (C.2.2.2.2.2.2.1.2 4 _ (rfl : (tysOf cA)[4]? = some (cA 4, .object RX6))).2
    have h2 := (hK1.2 (tysOf cA).length (cN, .object RX6) (by rw [List.getElem?_append_right (Nat.le_refl _), Nat.sub_self]; rfl)).2
    exact raC h1 h2
  rw [hcA] at hP1 hD1
  have e0 : (.inl (cA 4, N, .inr (.inr (.inr (.inr fun _ => none)))) : va_E) = cellE (phN φ G.2.length a) cA (14, N) (ρ G.2.length) (μ G.2.length) := by
    show _ = (.inl (cA 4, N, .inr (.inr (.inr (.inr fun j : Nat => rlf (phN φ G.2.length a) (ρ G.2.length j))))) : va_E)
    congr 7
    funext j
    rw [(hM.2.2.2 _ (Nat.le_refl _) (j : Int)).1]
    rfl
  rw [wsOf_push (sh := (14, N)) hM e0] at hP1 hD1
  have hnl : G.2.length ≠ nid := by omega
  have h2 := h p l e s m args below meth c D cA ad A n0 φ0 Q C (phN φ G.2.length a) H1 locs ls (fun i hi => (phN_ne (by have := hM.1; omega)).trans (hφ i hi)) (Nat.le_trans hn hmono) (MOk_push hM hz hlen) (qlv_ext hl hkl (fun i hi => phN_ne (by have := hM.1; omega))) (fun v hv => avOk_mono (hkl v hv) hmono) (okS_c (Or.inl (by show _ < (G.2 ++ [((14, N) : Sh)]).length; simp)) (fun v hv => avOk_mono (okS_t hks v hv) hmono)) hP1 hD1 hS1
  have e1 : (qP G.2.length :: st).map (vlf (phN φ G.2.length a)) = .ref a :: st.map (vlf φ) := by
    rw [List.map_cons, st_ext (okS_t hks) (fun i hi => phN_ne (by have := hM.1; omega))]
    congr 1
    show va_rf (rlf _ _) = _
    unfold rlf
    rw [if_neg hnl, phN_n]
    rfl
  rw [e1] at h2
  exact h2
end QMAKE
