/-! ===== Arrays.equals of two rows that hold the same ===== -/
theorem MetWF {l : Launch} {y : MethodName} {ws ws' : List Cond} {rm : Room} {Pc : Array Value → State → Prop} {Qc : Array Value → State → Outcome → State → Prop} {mc ms : Nat} {free : Addr → Prop} {cc : ByteArray} {maxL : Nat} {ret : Option FieldType}
    (hy : plainFor y = true) (hw : ws = Cond.code y cc maxL ret :: ws')
    (body : ∀ p e s m args below meth c s₁, BodyLoose p l y (headSpec ws rm) cc maxL ret e s m args below meth c s₁ → c.maxLocals = maxL → Pc args s →
      W p l e (headSpec ws rm).room s m args below meth c s.heap [] 0 0 (MQ below Qc args s mc ms free) (entryFrame m args maxL)) : Met l y ws rm Pc Qc mc ms free := by
  refine MetFree.of_bodySF (code := cc) (maxLocals := maxL) (ret := ret) hy (fun args s m h hn => ?_) (fun p e s m args below meth c s₁ B hml hP _ => ?_)
  · obtain ⟨meth, c, h1, h2, h3, h4, h5, h6, -, -⟩ := Cond.code_spec hn (atoms_spec (ws := ws) h _ (by rw [hw]; exact List.mem_cons_self))
    exact ⟨meth, c, h1, h2, h3, h4, h5, h6⟩
  · obtain ⟨t, a1, o, b1, b2, b3⟩ := body p e s m args below meth c s₁ B hml hP s₁ (by rw [B.state]; rfl) (Stand.of_body B)
    exact ⟨t, o, a1, b1, b2, ⟨b3.1, b3.2⟩⟩
set_option maxHeartbeats 4000000 in
theorem qE_introL {y : MethodName} {cc : ByteArray} {n : Nat} {rm : Room} {Gf G : Gx} {as : List AV} {ρ : Rf} {μ : Mem} {Post : Int → Rf → Mem → Prop} (hy : plainFor y = true) (hlen : (entA as).length ≤ n) (hGf : G.2.length ≤ Gf.2.length) (h : qX (y, cc, n, 2, rm) Gf Post G (0, 0) 0 (entL as n) [] ρ μ) : qE (y, cc, n, 2, rm) Gf G as ρ μ Post := by
  intro hM hks l D cA ad φ sz
  refine MetWF (cc := cc) (maxL := n) (ret := some .long) (ws' := Wd) hy rfl ?_
  intro p e s m args below meth c s₁ B hml hv
  obtain ⟨rfl, hsz, hP, hK, hD0, hEN⟩ := hv
  have hx := B.exec
  have hb := B.bytes
  have hr := B.returns
  have hts := atoms_spec (ws := qws (y, cc, n, 2, rm)) B.pre
  have hown : s.vm.findClass y.cls = some m.cls := findClass_of_methodNamed B.named
  have hlocks := B.notSynchronized
  have hin : meth.name = y.name := (name_of_methodNamed B.named B.method).1
  subst hsz
  have hD := hD0.self (sz := s.heap.size)
  have hS : va_S (va_A (wsOf φ cA G.2 ρ μ) s.heap.size) s.heap s.heap [] := va_S.rf
  have hl := lv_entry (as.map (vlf φ)) (n := n) (by rw [entA_len]; exact hlen)
  rw [lg_entry_eq]
  generalize (lg_sl (as.map (vlf φ)) ++ List.replicate (n - (lg_sl (as.map (vlf φ))).length) Slot.unset).toArray = ls at hl ⊢
  have hlv : qlv φ ls n (entL as n) := ⟨hl.1, hl.2.1, fun q hq => by
    obtain ⟨v, h1, h2⟩ := qpr_mem.mp hq
    have h3 := entA_args φ as 0 q.1 v (entL_at h1)
    rw [Nat.zero_add] at h3
    rw [h2]
    exact hl.2.2 _ h3⟩
  have hkl : okL G.2.length (entL as n) := by
    intro v hv
    obtain ⟨i, hi⟩ := List.getElem?_of_mem hv
    exact hks v (entA_mem (List.mem_of_getElem? (entL_at hi)))
  refine h p l e s m _ below meth c D cA ad (va_A (wsOf φ cA G.2 ρ μ) s.heap.size) G.2.length φ _ ⟨hx, hb, hml, hown, fun w hw => hts w (List.mem_cons_of_mem _ hw), hEN, hK, fun q hq => Or.inr hq, fun e => hin.trans e, ?_⟩ φ s.heap [] ls (fun _ _ => rfl) (Nat.le_refl _) hM hlv hkl okS_0 hP hD hS
  rintro G' φ' ρ' μ' H locs pc ls' z hφ hn hM' hP' hD' hS' ⟨hGf', hpost⟩ hz hz4 hd
  subst hGf'
  exact W.lret hx hb hr (fun t ht hW => ⟨⟨Int64.ofInt z, (φ', ρ', μ', z), rfl, ⟨rfl, hφ, hM', hpost, hz, hz4⟩, by rw [ht]; exact hP', hD'⟩, hS'.F ht⟩) hS'.2.2 hd
section EQR
variable {M : MI} {G : Gx} {Fi : Gx → Int → Rf → Mem → Prop} {kc : Nat × Nat} {pc : Nat} {lv : List (Option AV)} {st : List AV} {ρ : Rf} {μ : Mem}
theorem qX_getsI {ix : Nat} {C n : String} (v : Int) (hd : decode M.2.1 pc = .ok (.getstatic ix, 3)) (hw : Cond.fieldLink M.1.cls ix C n "I" ∈ Wd) (hZ : ∀ {ad : AdT} {A : Nat → Prop} {U : State} {H : Heap}, EN ad A U H → va_Z C n "I" (.int (Int32.ofInt v)) A U H) (hv : i32 v) (h : qXF M Fi G kc (pc + 3) lv (qI v :: st) ρ μ) : qXF M Fi G kc pc lv st ρ μ := by
  intro p l e s m args below meth c D cA ad A n0 φ0 Q C φ H locs ls hφ hn hM hl hkl hks hP hD hS
  refine va_gets C.1 C.2.1 (hZ C.2.2.2.2.2.1.1) hS C.2.2.2.1 (C.2.2.2.2.1 _ hw) (fun _ h => h) hd ?_
  exact h p l e s m args below meth c D cA ad A n0 φ0 Q C φ H locs ls hφ hn hM hl hkl (okS_c hv hks) hP hD hS
theorem qX_getsU {ix : Nat} (hd : decode M.2.1 pc = .ok (.getstatic ix, 3)) (hw : Cond.fieldLink M.1.cls ix ASU "U" "Ljdk/internal/misc/Unsafe;" ∈ Wd) (h : qXF M Fi G kc (pc + 3) lv (qP uid :: st) ρ μ) : qXF M Fi G kc pc lv st ρ μ := by
  intro p l e s m args below meth c D cA ad A n0 φ0 Q C φ H locs ls hφ hn hM hl hkl hks hP hD hS
  have hu : φ uid = ad.1 := (hφ uid (Or.inr (by decide))).trans C.2.2.2.2.2.1.2.2
  refine va_gets C.1 C.2.1 C.2.2.2.2.2.1.1.2.2.2.2.2.2.2.1 hS C.2.2.2.1 (C.2.2.2.2.1 _ hw) (fun _ h => h) hd ?_
  have h2 := h p l e s m args below meth c D cA ad A n0 φ0 Q C φ H locs ls hφ hn hM hl hkl (okS_c (Or.inr (by decide)) hks) hP hD hS
  have e1 : vlf φ (qP uid) = .ref ad.1 := by rw [vlf_nn (by decide), hu]
  have e2 : (qP uid :: st).map (vlf φ) = Value.ref ad.1 :: st.map (vlf φ) := by rw [List.map_cons, e1]
  rw [e2] at h2
  exact h2
abbrev mGLU : MI := mJx9a822_getLongUnaligned_f02c6
theorem off_t : ∀ w, w < 60 → and64 (16 + 8 * (w : Nat)) 7 = 0 ∧ ¬ Int64.ofInt (16 + 8 * (w : Nat)) < 0 ∧ (Int64.ofInt (16 + 8 * (w : Nat))).toNatClampNeg = 16 + 8 * w := by decide +kernel
set_option maxHeartbeats 1000000 in
theorem h_getLU {X : List Sh} {a n w : Nat} (ha : (GX X).2[a]? = some (10, n)) (hw : w < 60) (hn : 2 * w + 1 < n) : qE mGLU (GX X) (GX X) [qP uid, qP a, qJ (16 + 8 * (w : Int))] ρ μ (fun z ρ' μ' => z = (lw2 (Int32.ofInt (μ a ((2 * w : Nat) : Int))) (Int32.ofInt (μ a ((2 * w + 1 : Nat) : Int)))).toInt ∧ ρ' = ρ ∧ μ' = μ) := by
  obtain ⟨o1, o2, o3⟩ := off_t w hw
  refine qE_introL (by decide +kernel) (Nat.le_of_ble_eq_true rfl) (Nat.le_refl _) ?_
  refine qX_lload_n 2 dJx9a822_getLongUnaligned_f02c6_0 rfl rfl ?_
  refine qX_ldc2 dJx9a822_getLongUnaligned_f02c6_1 kK_Jx9a822_696 (by unfold i64; omega) ?_
  refine qX_land dJx9a822_getLongUnaligned_f02c6_4 ?_
  rw [o1]
  refine qX_lconst 0 dJx9a822_getLongUnaligned_f02c6_5 rfl (by unfold i64; omega) ?_
  refine qX_lcmp dJx9a822_getLongUnaligned_f02c6_6 ?_
  refine qX_if_ne 17 dJx9a822_getLongUnaligned_f02c6_7 rfl (fun hc => absurd rfl hc) (fun _ => ?_)
  refine qX_aload_n 0 dJx9a822_getLongUnaligned_f02c6_10 rfl rfl (by decide) ?_
  refine qM_aload_n 1 dJx9a822_getLongUnaligned_f02c6_11 rfl rfl ha ?_
  refine qX_lload_n 2 dJx9a822_getLongUnaligned_f02c6_12 rfl rfl ?_
  have h16 : qX mGLU (GX X) (fun z ρ' μ' => z = (lw2 (Int32.ofInt (μ a ((2 * w : Nat) : Int))) (Int32.ofInt (μ a ((2 * w + 1 : Nat) : Int)))).toInt ∧ ρ' = ρ ∧ μ' = μ) (GX X) (0, 0) 16 [some (qP uid), some (qP a), some (qJ (16 + 8 * (w : Int))), none] [qJ (lw2 (Int32.ofInt (μ a ((2 * w : Nat) : Int))) (Int32.ofInt (μ a ((2 * w + 1 : Nat) : Int)))).toInt] ρ μ := qX_lreturn rfl dJx9a822_getLongUnaligned_f02c6_16 rfl ⟨Nat.le_refl _, Nat.le_refl _⟩ ⟨rfl, rfl, rfl⟩
  intro p l e s m args below meth c D cA ad A n0 φ0 Q C φ H locs ls hφ hn1 hM hl hkl hks hP hD hS
  have hu : φ uid = ad.1 := (hφ uid (Or.inr (by decide))).trans C.2.2.2.2.2.1.2.2
  obtain ⟨cu, u1, u2, u3, u4⟩ : va_O UNS ad.1 A s s.heap := C.2.2.2.2.2.1.1.2.2.2.2.2.2.2.2
  have hul : ad.1 < s.heap.size := (Array.getElem?_eq_some_iff.mp u1).1
  have hcell := hP a _ (wsOf_get ha)
  have hcell : H[φ a]? = some (arrV (cA 0) n (fun j => .int (Int32.ofInt (μ a (j : Int))))) := hcell
  obtain ⟨-, k, hk, comp, hkind⟩ := (C.2.2.2.2.2.2.1.2 0 _ rfl).1 n (fun j => .int (Int32.ofInt (μ a (j : Int))))
  have ew : Int64.ofInt (lw2 (Int32.ofInt (μ a ((2 * w : Nat) : Int))) (Int32.ofInt (μ a ((2 * w + 1 : Nat) : Int)))).toInt = lw2 (Int32.ofInt (μ a ((2 * w : Nat) : Int))) (Int32.ofInt (μ a ((2 * w + 1 : Nat) : Int))) := Int64.ofInt_toInt _
  show W p l e _ s m args below meth c H locs 0 0 Q (F0 m 13 ls [.long (Int64.ofInt (16 + 8 * (w : Int))), vlf φ (qP a), vlf φ (qP uid)])
  rw [vlf_P hM ha, vlf_nn (by decide), hu]
  refine w_getL (own := RJx9a822) C.1 C.2.1 C.2.2.2.1 (C.2.2.2.2.1 _ kM_Jx9a822_27) (C.2.2.2.2.1 _ kI_jdk_internal_misc_Unsafe_getLong) (C.2.2.2.2.1 _ kS_GL) (C.2.2.2.2.1 _ kV_getLong) (by rw [hS.2.1 _ hul u4]; exact u1) u2 u3 hcell rfl hk hkind (w := w) o2 o3 (arrV_read _ _ (by omega)) (arrV_read _ _ hn) (hl.1.trans C.2.2.1.symm) dJx9a822_getLongUnaligned_f02c6_13 (by decide) (by decide) ?_
  have h2 := h16 p l e s m args below meth c D cA ad A n0 φ0 Q C φ H locs ls hφ hn1 hM hl hkl (okS_c (i64_toInt _) okS_0) hP hD hS
  have e9 : [qJ (lw2 (Int32.ofInt (μ a ((2 * w : Nat) : Int))) (Int32.ofInt (μ a ((2 * w + 1 : Nat) : Int)))).toInt].map (vlf φ) = [Value.long (lw2 (Int32.ofInt (μ a ((2 * w : Nat) : Int))) (Int32.ofInt (μ a ((2 * w + 1 : Nat) : Int))))] := by
    show [Value.long (Int64.ofInt _)] = _
    rw [ew]
  rw [e9] at h2
  exact h2
end EQR
