/-! ===== Arrays.equals of two rows that hold the same: the walks ===== -/
section VMW
variable {M : MI} {G : Gx} {Fi : Gx → Int → Rf → Mem → Prop} {kc : Nat × Nat} {pc : Nat} {lv : List (Option AV)} {st : List AV} {ρ : Rf} {μ : Mem}
set_option maxHeartbeats 4000000 in
theorem qX_callU {a : Nat} {off : Int} {ix : Nat} {Post' : Int → Rf → Mem → Prop} (hd : decode M.2.1 pc = .ok (.invokevirtual ix, 3)) (hw : Cond.methodLink M.1.cls ix mGLU.1 ∈ Wd) (hR : CR M mGLU) (hcap : kc.1 + mGLU.2.2.2.2.cells ≤ M.2.2.2.2.cells ∧ kc.2 + mGLU.2.2.2.2.slots ≤ M.2.2.2.2.slots) (hE : qE mGLU G G [qP uid, qP a, qJ off] ρ μ Post')
    (kk : ∀ (z : Int) (ρ' : Rf) (μ' : Mem), Post' z ρ' μ' → qXF M Fi G (kc.1 + mGLU.2.2.2.2.cells, kc.2 + mGLU.2.2.2.2.slots) (pc + 3) lv (retA mGLU.2.2.2.1 z ++ []) ρ' μ') : qXF M Fi G kc pc lv [qJ off, qP a, qP uid] ρ μ := by
  intro p l e s m args below meth c D cA ad A n0 φ0 Q C φ H locs ls hφ hn hM hl hkl hks hP hD hS
  have hts := C.2.2.2.2.1
  have hks2 : okS G.2.length [qP uid, qP a, qJ off] := okS_c (Or.inr (by decide)) (okS_c (okS_h (okS_t hks)) (okS_c (okS_h hks) okS_0))
  have hMet := hE hM hks2 l D cA ad φ H.size
  have e1 : vlf φ (qP uid) = .ref (φ uid) := vlf_nn (by decide)
  have hu : φ uid = ad.1 := (hφ uid (Or.inr (by decide))).trans C.2.2.2.2.2.1.2.2
  have hrecv : ∃ cell : Cell, H[φ uid]? = some cell ∧ cell.vm.isStatics = false ∧ s.vm.findClass RJx9a822 = some cell.cls := by
    obtain ⟨cu, u1, u2, u3, u4⟩ : va_O UNS ad.1 A s s.heap := C.2.2.2.2.2.1.1.2.2.2.2.2.2.2.2
    have hul : ad.1 < s.heap.size := (Array.getElem?_eq_some_iff.mp u1).1
    rw [hu]
    exact ⟨cu, by rw [hS.2.1 _ hul u4]; exact u1, u2, u3⟩
  have hpre : PreV s H RJx9a822 (φ uid) (PcX [qP uid, qP a, qJ off] G ρ μ D cA ad φ H.size) ([qP a, qJ off].map (vlf φ)) := ⟨PcX_blind, hrecv, fun U hU hW => by
    have h1 := CR_pre (as := [qP uid, qP a, qJ off]) C hφ hP hD hS U hU hW
    rw [List.map_cons, e1] at h1
    exact h1⟩
  have hrev : [qJ off, qP a, qP uid].map (vlf φ) = ([qP a, qJ off].map (vlf φ)).reverse ++ .ref (φ uid) :: [] := by rw [← e1]; rfl
  rw [hrev]
  refine q_after (Mc := mGLU) (st := []) (Nat.le_refl _) kk C hφ hn hl hkl okS_0 hD hS (va_runV (As := [qP a, qJ off].map (vlf φ)) (own := M.1.cls) (C := RJx9a822) (n := 2) ⟨C.1, C.2.1, C.2.2.1, C.2.2.2.1, hts⟩ hMet ⟨⟨rfl, rfl, hR.1, hR.2, pay_in hts (good_ws kC_Jx9a822_getLongUnaligned_f02c6), List.mem_cons_self, hts _ kC_Jx9a822_getLongUnaligned_f02c6, hts _ kZ_Jx9a822, ⟨by decide +kernel, by decide +kernel⟩, na_of (by decide +kernel), hts _ hw⟩, hts _ kI_Jx9a822_getLongUnaligned_f02c6, hts _ kS_Jx9a822_getLongUnaligned_f02c6⟩ hpre rfl rfl hl.1 rfl (lv_room (Nat.le_trans (vlf_csz []) (by decide))) hd hcap)
theorem sh_t : ∀ w, w < 60 → shl64 (w : Nat) 3 = 8 * (w : Nat) := by decide +kernel
theorem en16 {ad : AdT} {A : Nat → Prop} {U : State} {H : Heap} (h : EN ad A U H) : va_Z UNS "ARRAY_INT_BASE_OFFSET" "I" (.int (Int32.ofInt 16)) A U H := h.2.2.2.2.1
theorem en2 {ad : AdT} {A : Nat → Prop} {U : State} {H : Heap} (h : EN ad A U H) : va_Z ASU "LOG2_ARRAY_INT_INDEX_SCALE" "I" (.int (Int32.ofInt 2)) A U H := h.2.2.2.2.2.1
theorem en3 {ad : AdT} {A : Nat → Prop} {U : State} {H : Heap} (h : EN ad A U H) : va_Z ASU "LOG2_ARRAY_LONG_INDEX_SCALE" "I" (.int (Int32.ofInt 3)) A U H := h.2.2.2.2.2.2.1
theorem vm_loop {X : List Sh} {a b : Nat} (ha : (GX X).2[a]? = some (10, 120)) (hb : (GX X).2[b]? = some (10, 120)) (he : ∀ k : Int, 0 ≤ k → k < 120 → μ a k = μ b k) : ∀ (m w : Nat), 60 - w < m → w ≤ 60 → qX mJ8_vectorizedMismatch_456ae (GX X) (fun z ρ' μ' => z = -1 ∧ ρ' = ρ ∧ μ' = μ) (GX X) (0, 0) 11 [some (qP a), some (qJ 16), none, some (qP b), some (qJ 16), none, some (qI 120), some (qI 2), some (qI 1), some (qI (w : Int)), none, none, none, none, none, none, none, none, none] [] ρ μ := by
  intro m
  induction m with
  | zero => intro w h; omega
  | succ m ih =>
    intro w hm hw
    refine qX_iload (i := 9) dJ8_vectorizedMismatch_456ae_11 rfl ?_
    refine qX_iload (i := 6) dJ8_vectorizedMismatch_456ae_13 rfl ?_
    refine qX_iload (i := 8) dJ8_vectorizedMismatch_456ae_15 rfl ?_
    refine qX_ishr dJ8_vectorizedMismatch_456ae_17 ?_
    rw [show shr32 120 1 = 60 by decide +kernel]
    refine qX_icmp_ge 122 dJ8_vectorizedMismatch_456ae_18 rfl (fun hc => ?_) (fun hc => ?_)
    · obtain rfl : w = 60 := by omega
      refine qX_iload (i := 6) dJ8_vectorizedMismatch_456ae_122 rfl ?_
      refine qX_iload (i := 9) dJ8_vectorizedMismatch_456ae_124 rfl ?_
      refine qX_iload (i := 8) dJ8_vectorizedMismatch_456ae_126 rfl ?_
      refine qX_ishl dJ8_vectorizedMismatch_456ae_128 ?_
      rw [show shl32 ((60 : Nat) : Int) 1 = 120 by decide +kernel]
      refine qR_isub dJ8_vectorizedMismatch_456ae_129 (i32_of rfl) ?_
      refine qX_istore (i := 10) dJ8_vectorizedMismatch_456ae_130 (by decide) rfl ?_
      refine qX_iload (i := 7) dJ8_vectorizedMismatch_456ae_132 rfl ?_
      refine qX_getsI 2 dJ8_vectorizedMismatch_456ae_134 kF_J8_51 en2 (i32_of rfl) ?_
      refine qX_icmp_ge 263 dJ8_vectorizedMismatch_456ae_137 rfl (fun _ => ?_) (fun hc => absurd hc (by decide))
      refine qX_iload (i := 10) dJ8_vectorizedMismatch_456ae_263 rfl ?_
      refine qX_iconst dJ8_vectorizedMismatch_456ae_265 (i32_of rfl) ?_
      refine qX_ixor dJ8_vectorizedMismatch_456ae_266 ?_
      rw [show xor32 (120 - 120) (-1) = -1 by decide +kernel]
      exact qX_ireturn rfl dJ8_vectorizedMismatch_456ae_267 rfl ⟨Nat.le_refl _, Nat.le_refl _⟩ ⟨rfl, rfl, rfl⟩
    · have hw60 : w < 60 := by omega
      refine qX_iload (i := 9) dJ8_vectorizedMismatch_456ae_21 rfl ?_
      refine qX_i2l dJ8_vectorizedMismatch_456ae_23 ?_
      refine qX_getsI 3 dJ8_vectorizedMismatch_456ae_24 kF_J8_20 en3 (i32_of rfl) ?_
      refine qX_lshl dJ8_vectorizedMismatch_456ae_27 ?_
      rw [sh_t w hw60]
      refine qX_lstore (i := 10) dJ8_vectorizedMismatch_456ae_28 (by decide) rfl ?_
      refine qX_getsU dJ8_vectorizedMismatch_456ae_30 kF_J8_26 ?_
      refine qM_aload_n 0 dJ8_vectorizedMismatch_456ae_33 rfl rfl ha ?_
      refine qX_lload_n 1 dJ8_vectorizedMismatch_456ae_34 rfl rfl ?_
      refine qX_lload (i := 10) dJ8_vectorizedMismatch_456ae_35 rfl ?_
      refine qR_ladd dJ8_vectorizedMismatch_456ae_37 (by unfold i64; omega) ?_
      refine qX_callU dJ8_vectorizedMismatch_456ae_38 kM_J8_30 ⟨by decide, by decide⟩ ⟨by decide, by decide⟩ (h_getLU ha hw60 (by omega)) (fun z1 ρ1 μ1 h1 => ?_)
      obtain ⟨hz1, rfl, rfl⟩ := h1
      refine qX_lstore (i := 12) dJ8_vectorizedMismatch_456ae_41 (by decide) rfl ?_
      refine qX_getsU dJ8_vectorizedMismatch_456ae_43 kF_J8_26 ?_
      refine qM_aload_n 3 dJ8_vectorizedMismatch_456ae_46 rfl rfl hb ?_
      refine qX_lload (i := 4) dJ8_vectorizedMismatch_456ae_47 rfl ?_
      refine qX_lload (i := 10) dJ8_vectorizedMismatch_456ae_49 rfl ?_
      refine qR_ladd dJ8_vectorizedMismatch_456ae_51 (by unfold i64; omega) ?_
      refine qX_callU dJ8_vectorizedMismatch_456ae_52 kM_J8_30 ⟨by decide, by decide⟩ ⟨by decide, by decide⟩ (h_getLU hb hw60 (by omega)) (fun z2 ρ1 μ1 h1 => ?_)
      obtain ⟨hz2, rfl, rfl⟩ := h1
      have ez : z1 = z2 := by rw [hz1, hz2, he _ (by omega) (by omega), he _ (by omega) (by omega)]
      subst ez
      refine qX_lstore (i := 14) dJ8_vectorizedMismatch_456ae_55 (by decide) rfl ?_
      refine qX_lload (i := 12) dJ8_vectorizedMismatch_456ae_57 rfl ?_
      refine qX_lload (i := 14) dJ8_vectorizedMismatch_456ae_59 rfl ?_
      refine qX_lcmp dJ8_vectorizedMismatch_456ae_61 ?_
      rw [show cmpL z1 z1 = 0 by unfold cmpL; rw [if_neg (Int.lt_irrefl _), if_pos rfl]]
      refine qX_if_eq 116 dJ8_vectorizedMismatch_456ae_62 rfl (fun _ => ?_) (fun hc => absurd rfl hc)
      refine qR_iinc (i := 9) dJ8_vectorizedMismatch_456ae_116 rfl (by decide) rfl (by unfold i32; omega) ?_
      refine qX_goto 11 dJ8_vectorizedMismatch_456ae_119 rfl ?_
      refine qX_mask [true, true, true, true, true, true, true, true, true, true, false, false, false, false, false, false, false, false, false] ?_
      rw [show ((w : Int) + 1) = ((w + 1 : Nat) : Int) by omega]
      exact ih (w + 1) (by omega) (by omega)
theorem h_vm {X : List Sh} {a b : Nat} (ha : (GX X).2[a]? = some (10, 120)) (hb : (GX X).2[b]? = some (10, 120)) (he : ∀ k : Int, 0 ≤ k → k < 120 → μ a k = μ b k) : qE mJ8_vectorizedMismatch_456ae (GX X) (GX X) [qP a, qJ 16, qP b, qJ 16, qI 120, qI 2] ρ μ (fun z ρ' μ' => z = -1 ∧ ρ' = ρ ∧ μ' = μ) := by
  refine qE_intro pl_J8_vectorizedMismatch_456ae (Nat.le_of_ble_eq_true rfl) (Nat.le_refl _) ?_
  refine qX_getsI 3 dJ8_vectorizedMismatch_456ae_0 kF_J8_20 en3 (i32_of rfl) ?_
  refine qX_iload (i := 7) dJ8_vectorizedMismatch_456ae_3 rfl ?_
  refine qR_isub dJ8_vectorizedMismatch_456ae_5 (i32_of rfl) ?_
  refine qX_istore (i := 8) dJ8_vectorizedMismatch_456ae_6 (by decide) rfl ?_
  refine qX_iconst dJ8_vectorizedMismatch_456ae_8 (i32_of rfl) ?_
  refine qX_istore (i := 9) dJ8_vectorizedMismatch_456ae_9 (by decide) rfl ?_
  exact vm_loop ha hb he _ 0 (Nat.lt_succ_self _) (Nat.zero_le _)
theorem h_mm {X : List Sh} {a b : Nat} (ha : (GX X).2[a]? = some (10, 120)) (hb : (GX X).2[b]? = some (10, 120)) (he : ∀ k : Int, 0 ≤ k → k < 120 → μ a k = μ b k) : qE mJ8_mismatch_05dfe (GX X) (GX X) [qP a, qP b, qI 120] ρ μ (fun z ρ' μ' => z = -1 ∧ ρ' = ρ ∧ μ' = μ) := by
  refine qE_intro pl_J8_mismatch_05dfe (Nat.le_of_ble_eq_true rfl) (Nat.le_refl _) ?_
  refine qX_iconst dJ8_mismatch_05dfe_0 (i32_of rfl) ?_
  refine qX_istore_n 3 dJ8_mismatch_05dfe_1 rfl (by decide) rfl ?_
  refine qX_iload_n 2 dJ8_mismatch_05dfe_2 rfl rfl ?_
  refine qX_iconst dJ8_mismatch_05dfe_3 (i32_of rfl) ?_
  refine qX_icmp_le 48 dJ8_mismatch_05dfe_4 rfl (fun hc => absurd hc (by decide)) (fun _ => ?_)
  refine qM_aload_n 0 dJ8_mismatch_05dfe_7 rfl rfl ha ?_
  refine qX_iconst dJ8_mismatch_05dfe_8 (i32_of rfl) ?_
  refine qX_iald dJ8_mismatch_05dfe_9 ha (by decide) ?_
  refine qM_aload_n 1 dJ8_mismatch_05dfe_10 rfl rfl hb ?_
  refine qX_iconst dJ8_mismatch_05dfe_11 (i32_of rfl) ?_
  refine qX_iald dJ8_mismatch_05dfe_12 hb (by decide) ?_
  refine qX_icmp_eq 18 dJ8_mismatch_05dfe_13 rfl (fun _ => ?_) (fun hc => absurd (he 0 (by decide) (by decide)) hc)
  refine qM_aload_n 0 dJ8_mismatch_05dfe_18 rfl rfl ha ?_
  refine qX_getsI 16 dJ8_mismatch_05dfe_19 kF_J8_144 en16 (i32_of rfl) ?_
  refine qX_i2l dJ8_mismatch_05dfe_22 ?_
  refine qM_aload_n 1 dJ8_mismatch_05dfe_23 rfl rfl hb ?_
  refine qX_getsI 16 dJ8_mismatch_05dfe_24 kF_J8_144 en16 (i32_of rfl) ?_
  refine qX_i2l dJ8_mismatch_05dfe_27 ?_
  refine qX_iload_n 2 dJ8_mismatch_05dfe_28 rfl rfl ?_
  refine qX_getsI 2 dJ8_mismatch_05dfe_29 kF_J8_51 en2 (i32_of rfl) ?_
  refine qM_callS mJ8_vectorizedMismatch_456ae [qP a, qJ 16, qP b, qJ 16, qI 120, qI 2] [] dJ8_mismatch_05dfe_32 (⟨kM_J8_122, kT_J8_vectorizedMismatch_456ae, kZ_J8, kC_J8_vectorizedMismatch_456ae, ⟨by decide +kernel, by decide +kernel⟩, by decide +kernel⟩ : CSt RJ8 122 6 mJ8_vectorizedMismatch_456ae) ⟨by decide, by decide⟩ rfl rfl (by decide) ⟨rfl, rfl⟩ ⟨by decide, by decide⟩ (h_vm ha hb he) (fun z ρ1 μ1 hz => ?_)
  obtain ⟨rfl, rfl, rfl⟩ := hz
  refine qX_istore_n 3 dJ8_mismatch_05dfe_35 rfl (by decide) rfl ?_
  refine qX_iload_n 3 dJ8_mismatch_05dfe_36 rfl rfl ?_
  refine qX_if_lt 42 dJ8_mismatch_05dfe_37 rfl (fun _ => ?_) (fun hc => absurd hc (by decide))
  refine qX_iload_n 2 dJ8_mismatch_05dfe_42 rfl rfl ?_
  refine qX_iload_n 3 dJ8_mismatch_05dfe_43 rfl rfl ?_
  refine qX_iconst dJ8_mismatch_05dfe_44 (i32_of rfl) ?_
  refine qX_ixor dJ8_mismatch_05dfe_45 ?_
  rw [show xor32 (-1) (-1) = 0 by decide +kernel]
  refine qR_isub dJ8_mismatch_05dfe_46 (i32_of rfl) ?_
  refine qX_istore_n 3 dJ8_mismatch_05dfe_47 rfl (by decide) rfl ?_
  refine qX_iload_n 3 dJ8_mismatch_05dfe_48 rfl rfl ?_
  refine qX_iload_n 2 dJ8_mismatch_05dfe_49 rfl rfl ?_
  refine qX_icmp_ge 70 dJ8_mismatch_05dfe_50 rfl (fun _ => ?_) (fun hc => absurd hc (by decide))
  refine qX_iconst dJ8_mismatch_05dfe_70 (i32_of rfl) ?_
  exact qX_ireturn rfl dJ8_mismatch_05dfe_71 rfl ⟨Nat.le_refl _, Nat.le_refl _⟩ ⟨rfl, rfl, rfl⟩
theorem qX_acmp_ne {a b : Nat} {off : Int} {sa sb : Sh} (tgt : Nat) (hd : decode M.2.1 pc = .ok (.if_acmp .ne off, 3)) (ht : (pc : Int) + off = (tgt : Int)) (ha : G.2[a]? = some sa) (hb : G.2[b]? = some sb) (hab : a ≠ b) (kt : qXF M Fi G kc tgt lv st ρ μ) : qXF M Fi G kc pc lv (qP b :: qP a :: st) ρ μ := by
  intro p l e s m args below meth c D cA ad A n0 φ0 Q C φ H locs ls hφ hn hM hl hkl hks hP hD hS
  have h1 := kt p l e s m args below meth c D cA ad A n0 φ0 Q C φ H locs ls hφ hn hM hl hkl (okS_t (okS_t hks)) hP hD hS
  refine lv_acmp_ne (rx := rlf φ a) (ry := rlf φ b) C.1 C.2.1 hd ht (fun _ => h1) (fun hc => ?_)
  exfalso
  have ea : rlf φ a = some (φ a) := if_neg (MOk_lt hM ha).2
  have eb : rlf φ b = some (φ b) := if_neg (MOk_lt hM hb).2
  rw [ea, eb] at hc
  exact hab (hD.1 a b _ _ (wsOf_get ha) (wsOf_get hb) (Option.some.inj hc))
theorem qX_ifnull {a : Nat} {off : Int} {sa : Sh} (hd : decode M.2.1 pc = .ok (.ifnull off, 3)) (ha : G.2[a]? = some sa) (k : qXF M Fi G kc (pc + 3) lv st ρ μ) : qXF M Fi G kc pc lv (qP a :: st) ρ μ := by
  intro p l e s m args below meth c D cA ad A n0 φ0 Q C φ H locs ls hφ hn hM hl hkl hks hP hD hS
  have h1 := k p l e s m args below meth c D cA ad A n0 φ0 Q C φ H locs ls hφ hn hM hl hkl (okS_t hks) hP hD hS
  have e2 : (qP a :: st).map (vlf φ) = Value.ref (φ a) :: st.map (vlf φ) := by rw [List.map_cons, vlf_P hM ha]
  rw [e2]
  exact lv_ifnull C.1 C.2.1 hd h1
theorem qX_ifnonnull {a : Nat} {off : Int} {sa : Sh} (tgt : Nat) (hd : decode M.2.1 pc = .ok (.ifnonnull off, 3)) (ht : (pc : Int) + off = (tgt : Int)) (ha : G.2[a]? = some sa) (k : qXF M Fi G kc tgt lv st ρ μ) : qXF M Fi G kc pc lv (qP a :: st) ρ μ := by
  intro p l e s m args below meth c D cA ad A n0 φ0 Q C φ H locs ls hφ hn hM hl hkl hks hP hD hS
  have h1 := k p l e s m args below meth c D cA ad A n0 φ0 Q C φ H locs ls hφ hn hM hl hkl (okS_t hks) hP hD hS
  have e2 : (qP a :: st).map (vlf φ) = Value.ref (φ a) :: st.map (vlf φ) := by rw [List.map_cons, vlf_P hM ha]
  rw [e2]
  exact lv_ifnonnull C.1 C.2.1 hd ht h1
theorem h_equals {X : List Sh} {a b : Nat} (ha : (GX X).2[a]? = some (10, 120)) (hb : (GX X).2[b]? = some (10, 120)) (hab : a ≠ b) (he : ∀ k : Int, 0 ≤ k → k < 120 → μ a k = μ b k) : qE mJ7_equals_bbcde (GX X) (GX X) [qP a, qP b] ρ μ (fun z ρ' μ' => z = 1 ∧ ρ' = ρ ∧ μ' = μ) := by
  refine qE_intro pl_J7_equals_bbcde (Nat.le_of_ble_eq_true rfl) (Nat.le_refl _) ?_
  refine qM_aload_n 0 dJ7_equals_bbcde_0 rfl rfl ha ?_
  refine qM_aload_n 1 dJ7_equals_bbcde_1 rfl rfl hb ?_
  refine qX_acmp_ne 7 dJ7_equals_bbcde_2 rfl ha hb hab ?_
  refine qM_aload_n 0 dJ7_equals_bbcde_7 rfl rfl ha ?_
  refine qX_ifnull dJ7_equals_bbcde_8 ha ?_
  refine qM_aload_n 1 dJ7_equals_bbcde_11 rfl rfl hb ?_
  refine qX_ifnonnull 17 dJ7_equals_bbcde_12 rfl hb ?_
  refine qM_aload_n 0 dJ7_equals_bbcde_17 rfl rfl ha ?_
  refine qX_alen dJ7_equals_bbcde_18 ha (by decide) ?_
  refine qX_istore_n 2 dJ7_equals_bbcde_19 rfl (by decide) rfl ?_
  refine qM_aload_n 1 dJ7_equals_bbcde_20 rfl rfl hb ?_
  refine qX_alen dJ7_equals_bbcde_21 hb (by decide) ?_
  refine qX_iload_n 2 dJ7_equals_bbcde_22 rfl rfl ?_
  refine qX_icmp_eq 28 dJ7_equals_bbcde_23 rfl (fun _ => ?_) (fun hc => absurd rfl hc)
  refine qM_aload_n 0 dJ7_equals_bbcde_28 rfl rfl ha ?_
  refine qM_aload_n 1 dJ7_equals_bbcde_29 rfl rfl hb ?_
  refine qX_iload_n 2 dJ7_equals_bbcde_30 rfl rfl ?_
  refine qM_callS mJ8_mismatch_05dfe [qP a, qP b, qI 120] [] dJ7_equals_bbcde_31 (⟨kM_J7_254, kT_J8_mismatch_05dfe, kZ_J8, kC_J8_mismatch_05dfe, ⟨by decide +kernel, by decide +kernel⟩, by decide +kernel⟩ : CSt RJ7 254 3 mJ8_mismatch_05dfe) ⟨by decide, by decide⟩ rfl rfl (by decide) ⟨rfl, rfl⟩ ⟨by decide, by decide⟩ (h_mm ha hb he) (fun z ρ1 μ1 hz => ?_)
  obtain ⟨rfl, rfl, rfl⟩ := hz
  refine qX_if_ge 41 dJ7_equals_bbcde_34 rfl (fun hc => absurd hc (by decide)) (fun _ => ?_)
  refine qX_iconst dJ7_equals_bbcde_37 (i32_of rfl) ?_
  refine qX_goto 42 dJ7_equals_bbcde_38 rfl ?_
  exact qX_zreturn rfl dJ7_equals_bbcde_42 rfl ⟨Nat.le_refl _, Nat.le_refl _⟩ (Or.inr rfl) ⟨rfl, rfl, rfl⟩
end VMW
